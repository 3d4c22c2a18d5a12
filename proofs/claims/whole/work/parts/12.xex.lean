variable {xds xcc xmi xre xpc xpl xtl xsc xou : Int32} {xtk xtv xss xts xho xfu xfa xfo xpn xpe xpf xqk xqv xqo xqp xqs xqh xwo xsi : Nat → Int32}
def pm_F0 : pm_F := fun _ => (0, 0, 0, 0)
def pm_O0 : pm_O := fun _ => (0, 0, 0, 0)
def pm_s0 (Len : Nat → Nat) (s : Nat) : List pm_S := if Len (6+s) = 0 then [] else [(24 * (6+s), 0, 0)]
def pm_ex (K : Nat → Nat) (V : Nat → Int32) (Hn Len : Nat → Nat) (s : Nat) : Option (Nat × Nat × pm_O) := pm_go K V (fun i => tx_a Hn (K i)) 70000 (pm_s0 Len s) 0 pm_F0 0 pm_O0
theorem pm_ex0 {K : Nat → Nat} {V : Nat → Int32} {Hn Len : Nat → Nat} {s : Nat} (h : Len (6+s) = 0) : pm_ex K V Hn Len s = some (0, 0, pm_O0) := by
  unfold pm_ex pm_s0
  rw [if_pos h]
  exact pm_go0 K V _ 69999 0 pm_F0 0 pm_O0
theorem pm_exI {K : Nat → Nat} {V : Nat → Int32} {Hn Len : Nat → Nat} {nc s : Nat} (w : tx_WF K V Hn Len nc) (hs : s < 4) : pm_I K Len nc s (pm_s0 Len s) 0 pm_F0 0 ∧ pm_mu K s pm_F0 (pm_s0 Len s) 0 0 ≤ 60007 := by
  refine ⟨⟨hs, by omega, by omega, rfl, fun f h1 h2 => by omega, ?_⟩, ?_⟩
  · intro x hx
    unfold pm_s0 at hx
    by_cases e : Len (6+s) = 0
    · rw [if_pos e] at hx
      cases hx
    · rw [if_neg e, List.mem_singleton] at hx
      subst hx
      have er : pm_row K s pm_F0 0 = 6 + s := if_pos rfl
      refine ⟨Nat.le_refl _, ?_⟩
      dsimp only
      rw [er]
      exact ⟨Or.inr ⟨by omega, by omega⟩, Nat.le_refl _, by omega⟩
  · unfold pm_mu pm_s0
    by_cases e : Len (6+s) = 0
    · rw [if_pos e, List.map_nil, List.sum_nil]; omega
    · rw [if_neg e, List.map_cons, List.map_nil, List.sum_cons, List.sum_nil]
      have := (pm_we1 K s pm_F0 0).2
      dsimp only
      omega
theorem pm_exG {K : Nat → Nat} {V : Nat → Int32} {Hn Len : Nat → Nat} {nc s nf n : Nat} {O : pm_O} (w : tx_WF K V Hn Len nc) (hs : s < 4) (hl : Len (6+s) ≠ 0) (e : pm_ex K V Hn Len s = some (nf, n, O)) : nf ≤ 2000 ∧ tr_G n O := by
  obtain ⟨I, _⟩ := pm_exI w hs
  have J : pm_J (pm_s0 Len s) 0 pm_O0 := by
    refine ⟨?_, fun m hm => by omega⟩
    unfold pm_s0
    rw [if_neg hl]
    rfl
  obtain ⟨h1, h2, h3⟩ := pm_fin w 70000 _ _ _ _ _ I J e
  exact ⟨h1, h2, h3⟩
theorem xw_166 {post : Int32 → SX → Prop} {n : Nat} {O : pm_O} {Hn : Nat → Nat} (G : 0 < n → tr_G n O) (hH : ∀ c, c < 6 → xho c = nI (Hn c)) (hO : xs_O n O xqk xqv xqo)
    (h : ∀ (qp qs qh : Nat → Int32), (0 < n → xl_R n O qp qs qh) → post (nI n) (xds, xcc, xmi, xre, xpc, nI n, 0, xsc, xou, xtk, xtv, xss, xts, xho, xfu, xfa, xfo, xpn, xpe, xpf, xqk, xqv, xqo, qp, qs, qh, xwo, xsi)) : wX_expand_166 post xds xcc xmi xre xpc (nI n) 0 xsc xou xtk xtv xss xts xho xfu xfa xfo xpn xpe xpf xqk xqv xqo xqp xqs xqh xwo xsi := by
  unfold wX_expand_166
  refine br_t rfl ?_
  rcases Nat.eq_zero_or_pos n with e | e
  · subst e
    exact xw_link0 (fun qp => h qp _ _ (fun z => by omega))
  · exact xw_link (G e) hH (fun m hm => (hO m hm).1) (fun qp qs qh L => h qp qs qh (fun _ => L))
theorem xw_expand {post : Int32 → SX → Prop} {K : Nat → Nat} {V : Nat → Int32} {Hn Len : Nat → Nat} {nc s : Nat} (w : tx_WF K V Hn Len nc) (T : xs_T K V Len nc xtk xtv) (hH : ∀ c, c < 6 → xho c = nI (Hn c))
    (hL : ∀ c, c < 6 → xts c = nI (Len c)) (hS : ∀ c, c < 4 → xss c = nI (Len (6+c))) (hs : s < 4)
    (hN : pm_ex K V Hn Len s = none → ∀ (re pc pl tl : Int32) (fu fa fo pn pe pf qk qv qo : Nat → Int32), post (-2) (xds, xcc, xmi, re, pc, pl, tl, xsc, xou, xtk, xtv, xss, xts, xho, fu, fa, fo, pn, pe, pf, qk, qv, qo, xqp, xqs, xqh, xwo, xsi))
    (hE : ∀ nf n O, pm_ex K V Hn Len s = some (nf, n, O) → ∀ (pc : Int32) (fu fa fo pn pe pf qk qv qo qp qs qh : Nat → Int32), xs_O n O qk qv qo → (0 < n → xl_R n O qp qs qh) → post (nI n) (xds, xcc, xmi, nI nf, pc, nI n, 0, xsc, xou, xtk, xtv, xss, xts, xho, fu, fa, fo, pn, pe, pf, qk, qv, qo, qp, qs, qh, xwo, xsi)) :
    wpX_expand post (xds, xcc, xmi, xre, xpc, xpl, xtl, xsc, xou, xtk, xtv, xss, xts, xho, xfu, xfa, xfo, xpn, xpe, xpf, xqk, xqv, xqo, xqp, xqs, xqh, xwo, xsi) (nI s) := by
  have hr : tx_row nc (6+s) := Or.inr ⟨by omega, by omega⟩
  have hl24 := (w.2 (6+s) hr).1
  obtain ⟨I, mu⟩ := pm_exI w hs
  have eb : xs_b (6+s) = 24 * s := by
    unfold xs_b
    rw [if_neg (by omega)]; omega
  have er : pm_row K s pm_F0 0 = 6 + s := if_pos rfl
  unfold wpX_expand wpX_isSource
  refine br_f (nI_pos (by omega)) (pk_le 4 s (fun z => by omega) (fun _ => br_f (by decide) (nm_r (e' := nI (24 * s)) ?_ ⟨pk_in s 4 hs, ?_⟩)))
  · rw [show (24 : Int32) = nI 24 from rfl, pk_mul, Nat.mul_comm]
  rw [nI_clamp (show s < 2 ^ 31 by omega), hS s hs, nI_add]
  refine xw_openPiece (j := 0) (by omega) ⟨130000, ?_⟩
  refine xw_loop w T hH hL hs (pm_ex K V Hn Len s) ?_ 130000 70000 0 1 (pm_s0 Len s) 0 pm_F0 0 pm_O0 _ _ _ _ _ _ _ _ _ I ?_ (fun f h1 h2 => by omega) (fun m hm => by omega) rfl (by omega) (by omega) (by omega)
  · intro re pc pl tl fu fa fo pn pe pf qk qv qo h1 h2
    cases e : pm_ex K V Hn Len s with
    | none =>
      have := h1 e
      subst this
      unfold wX_expand_166
      exact br_f (by decide) (hN e _ _ _ _ _ _ _ _ _ _ _ _ _)
    | some R =>
      obtain ⟨nf, n, O⟩ := R
      obtain ⟨e1, e2, e3, e4⟩ := h2 nf n O e
      subst e1 e2 e3
      refine xw_166 (O := O) (Hn := Hn) ?_ hH e4 (fun qp qs qh L => hE nf n O e _ _ _ _ _ _ _ _ _ _ _ _ _ e4 L)
      intro hn
      by_cases hl : Len (6+s) = 0
      · rw [pm_ex0 hl] at e
        cases e
        omega
      · exact (pm_exG w hs hl e).2
  · refine ⟨if Len (6+s) = 0 then 0 else 1, 24 * (6+s), 24 * (6+s) + Len (6+s), 0, [], ?_, Nat.le_refl _, ?_, ?_, ?_, ?_, ?_, ?_, rfl⟩
    · unfold pm_s0
      by_cases hl : Len (6+s) = 0
      · rw [if_pos hl, if_pos hl]
        exact ⟨by omega, rfl⟩
      · rw [if_neg hl, if_neg hl]
        exact ⟨Len (6+s), 0, [], (w.2 (6+s) hr).2.2.1 (by omega), rfl, rfl, rfl⟩
    · rw [er]; omega
    · rw [er]; omega
    · show 0 + (pm_F0 0).2.2.2 ≤ 0
      exact Nat.le_refl _
    · rw [pk_us, er, eb]
      exact congrArg nI (by omega)
    · rw [pk_us, er, eb]
      exact congrArg nI (by omega)
    · rw [pk_us]; rfl
theorem xw_expandX {post : Int32 → SX → Prop} {v : Int32} (hv : v < 0 ∨ 4 ≤ v) (h : post (-3) (xds, xcc, xmi, xre, xpc, xpl, xtl, xsc, xou, xtk, xtv, xss, xts, xho, xfu, xfa, xfo, xpn, xpe, xpf, xqk, xqv, xqo, xqp, xqs, xqh, xwo, xsi)) : wpX_expand post (xds, xcc, xmi, xre, xpc, xpl, xtl, xsc, xou, xtk, xtv, xss, xts, xho, xfu, xfa, xfo, xpn, xpe, xpf, xqk, xqv, xqo, xqp, xqs, xqh, xwo, xsi) v := by
  unfold wpX_expand wpX_isSource
  rcases hv with hv | hv
  · exact br_t hv (br_t rfl h)
  · exact br_c (fun _ => br_t rfl h) (fun _ => br_t hv (br_t rfl h))
