variable {xds xcc xmi xre xpc xpl xtl xsc xou : Int32} {xtk xtv xss xts xho xfu xfa xfo xpn xpe xpf xqk xqv xqo xqp xqs xqh xwo xsi : Nat → Int32} {yco ypl ysz yus yof yre ysa : Int32} {ykd ybh yln yhl yvl yks yog yvs ypa ysp ytd ywi yun ysd you yfr ylf yva ysv ywo ysi ywk yph : Nat → Int32}
theorem xs_b6 {s : Nat} : xs_b (6+s) = 24 * s := by
  unfold xs_b
  rw [if_neg (by omega)]; omega
theorem tx_K22 {K : Nat → Nat} {V : Nat → Int32} {Hn Len : Nat → Nat} {nc r i : Nat} (w : tx_WF K V Hn Len nc) (hp : tx_pos Len nc r i) : K i < 22 := by
  have x1 := (tx_tokE w hp).1
  have x2 := w.1
  unfold tx_lim at x1
  split at x1 <;> omega
theorem xw_used9 {post : Int32 → Prop} {J : Int32 → Prop} {K : Nat → Nat} {V : Nat → Int32} {Hn Len : Nat → Nat} {nc s c : Nat} (w : tx_WF K V Hn Len nc) (T : xs_T K V Len nc xtk xtv) (hS : ∀ c, c < 4 → xss c = nI (Len (6+c))) (hs : s < 4) (hc : c < 6)
    (h1 : ∀ i, i < Len (6+s) → K (24 * (6+s) + i) = 16 + c → post 1) (h0 : (∀ i, i < Len (6+s) → K (24 * (6+s) + i) ≠ 16 + c) → J (nI (s+1))) :
    ∀ (m j : Nat), j ≤ Len (6+s) → Len (6+s) < m + j → (∀ i, i < j → K (24 * (6+s) + i) ≠ 16 + c) → wX_isUsedInSources_9 post J (nI c) (nI s) xds xcc xmi xre xpc xpl xtl xsc xou xtk xtv xss xts xho xfu xfa xfo xpn xpe xpf xqk xqv xqo xqp xqs xqh xwo xsi m (nI j) := by
  have hr : tx_row nc (6+s) := Or.inr ⟨by omega, by omega⟩
  have l24 := (w.2 (6+s) hr).1
  intro m
  induction m with
  | zero => intro j a b; omega
  | succ m ih =>
    intro j a b L
    have ex : nI s * 24 + nI j = nI (24 * s + j) := by
      rw [show (24 : Int32) = nI 24 from rfl, pk_mul, nI_add, Nat.mul_comm]
    refine ⟨pk_in s 4 hs, ?_⟩
    rw [nI_clamp (show s < 2 ^ 31 by omega), hS s hs]
    refine pk_le (Len (6+s)) j (fun z => nm_r (nI_1 s) (h0 (fun i hi => L i (by omega)))) (fun z => ?_)
    rw [ex, nI_clamp (show 24 * s + j < 2 ^ 31 by omega)]
    have t1 := (T (6+s) hr j z).1
    rw [xs_b6] at t1
    have k22 := tx_K22 w (r := 6+s) (i := 24 * (6+s) + j) ⟨hr, by omega, by omega⟩
    rw [t1, show (16 : Int32) + nI c = nI (16 + c) from nI_add 16 c]
    refine ⟨vp_in_nI (by omega) (by omega), pk_eq (K (24 * (6+s) + j)) (16 + c) (fun e => h1 j z e) (fun e => nm_r (nI_1 j) (ih (j+1) (by omega) (by omega) ?_))⟩
    intro i hi
    by_cases ei : i = j
    · rw [ei]; exact e
    · exact L i (by omega)
theorem xw_used {post : Int32 → Prop} {K : Nat → Nat} {V : Nat → Int32} {Hn Len : Nat → Nat} {nc c : Nat} (w : tx_WF K V Hn Len nc) (T : xs_T K V Len nc xtk xtv) (hS : ∀ c, c < 4 → xss c = nI (Len (6+c))) (hc : c < 6)
    (h1 : ∀ s, s < 4 → ∀ i, i < Len (6+s) → K (24 * (6+s) + i) = 16 + c → post 1) (h0 : (∀ s, s < 4 → ∀ i, i < Len (6+s) → K (24 * (6+s) + i) ≠ 16 + c) → post 0) : wpX_isUsedInSources post (xds, xcc, xmi, xre, xpc, xpl, xtl, xsc, xou, xtk, xtv, xss, xts, xho, xfu, xfa, xfo, xpn, xpe, xpf, xqk, xqv, xqo, xqp, xqs, xqh, xwo, xsi) (nI c) := by
  have L : ∀ (m s : Nat), s ≤ 4 → 4 < m + s → (∀ s', s' < s → ∀ i, i < Len (6+s') → K (24 * (6+s') + i) ≠ 16 + c) → wX_isUsedInSources_2 post (nI c) xds xcc xmi xre xpc xpl xtl xsc xou xtk xtv xss xts xho xfu xfa xfo xpn xpe xpf xqk xqv xqo xqp xqs xqh xwo xsi m (nI s) := by
    intro m
    induction m with
    | zero => intro s a b; omega
    | succ m ih =>
      intro s a b L
      refine pk_le 4 s (fun z => h0 (fun s' hs' => L s' (by omega))) (fun z => ?_)
      refine ⟨Len (6+s) + 1, xw_used9 w T hS z hc (h1 s z) (fun A => ih (s+1) (by omega) (by omega) ?_) _ 0 (by omega) (by omega) (fun i hi => by omega)⟩
      intro s' hs'
      by_cases e : s' = s
      · rw [e]; exact A
      · exact L s' (by omega)
  unfold wpX_isUsedInSources
  exact ⟨5, L 5 0 (by omega) (by omega) (fun s' hs' => by omega)⟩
theorem yw_fg24 {post : Int32 → SY → Prop} {J : Int32 → Prop} {K : Nat → Nat} {V : Nat → Int32} {Hn Len : Nat → Nat} {nc s c : Nat} (w : tx_WF K V Hn Len nc) (T : ys_T K V Hn Len nc ykd ybh yvl) (hS : ∀ c, c < 10 → yln c = nI (Len c)) (hs : s < 4) (hc : c < 6)
    (h1 : ∀ i, i < Len (6+s) → K (24 * (6+s) + i) = 16 + c → post (-3) (nI (c+1), ypl, ysz, yus, yof, yre, ysa, ykd, ybh, yln, yhl, yvl, yks, yog, yvs, ypa, ysp, ytd, ywi, yun, ysd, you, yfr, ylf, yva, ysv, ywo, ysi, ywk, yph)) (h0 : (∀ i, i < Len (6+s) → K (24 * (6+s) + i) ≠ 16 + c) → J (nI (6+s+1))) :
    ∀ (m j : Nat), j ≤ Len (6+s) → Len (6+s) < m + j → (∀ i, i < j → K (24 * (6+s) + i) ≠ 16 + c) → wY_forget_24 post J (nI (6+s)) (nI (c+1)) ypl ysz yus yof yre ysa ykd ybh yln yhl yvl yks yog yvs ypa ysp ytd ywi yun ysd you yfr ylf yva ysv ywo ysi ywk yph m (nI (24 * (6+s) + j)) := by
  have hr : tx_row nc (6+s) := Or.inr ⟨by omega, by omega⟩
  have l24 := (w.2 (6+s) hr).1
  have ec : ((16 : Int32) + nI (c+1)) - 1 = nI (16 + c) := by
    rw [show (16 : Int32) + nI (c+1) = nI (16 + (c+1)) from nI_add 16 (c+1)]
    exact nI_pred (16 + c)
  intro m
  induction m with
  | zero => intro j a b; omega
  | succ m ih =>
    intro j a b L
    refine ⟨pk_in (6+s) 11 (by omega), ?_⟩
    rw [nI_clamp (show 6 + s < 2 ^ 31 by omega), hS (6+s) (by omega), show (24 : Int32) * nI (6+s) = nI (24 * (6+s)) from pk_mul 24 (6+s), nI_add]
    refine pk_le (24 * (6+s) + Len (6+s)) (24 * (6+s) + j) (fun z => nm_r (nI_1 _) (h0 (fun i hi => L i (by omega)))) (fun z => ?_)
    rw [nI_clamp (show 24 * (6+s) + j < 2 ^ 31 by omega), (T (6+s) hr _ (by omega) (show 24 * (6+s) + j < 24 * (6+s) + Len (6+s) by omega)).1, ec]
    have k22 := tx_K22 w (r := 6+s) (i := 24 * (6+s) + j) ⟨hr, by omega, by omega⟩
    refine ⟨vp_in_nI (by omega) (by omega), pk_eq (K (24 * (6+s) + j)) (16 + c) (fun e => h1 j (by omega) e) (fun e => nm_r (nI_1 _) (ih (j+1) (by omega) (by omega) ?_))⟩
    intro i hi
    by_cases ei : i = j
    · rw [ei]; exact e
    · exact L i (by omega)
theorem yw_forget {post : Int32 → SY → Prop} {K : Nat → Nat} {V : Nat → Int32} {Hn Len : Nat → Nat} {nc c : Nat} (w : tx_WF K V Hn Len nc) (T : ys_T K V Hn Len nc ykd ybh yvl) (hS : ∀ c, c < 10 → yln c = nI (Len c)) (hc : c < 6)
    (h1 : ∀ s, s < 4 → ∀ i, i < Len (6+s) → K (24 * (6+s) + i) = 16 + c → post (-3) (nI (c+1), ypl, ysz, yus, yof, yre, ysa, ykd, ybh, yln, yhl, yvl, yks, yog, yvs, ypa, ysp, ytd, ywi, yun, ysd, you, yfr, ylf, yva, ysv, ywo, ysi, ywk, yph)) (h0 : (∀ s, s < 4 → ∀ i, i < Len (6+s) → K (24 * (6+s) + i) ≠ 16 + c) → post (nI c) (nI c, ypl, ysz, yus, yof, yre, ysa, ykd, ybh, yln, yhl, yvl, yks, yog, yvs, ypa, ysp, ytd, ywi, yun, ysd, you, yfr, ylf, yva, ysv, ywo, ysi, ywk, yph)) : wpY_forget post (nI (c+1), ypl, ysz, yus, yof, yre, ysa, ykd, ybh, yln, yhl, yvl, yks, yog, yvs, ypa, ysp, ytd, ywi, yun, ysd, you, yfr, ylf, yva, ysv, ywo, ysi, ywk, yph) := by
  have L : ∀ (m s : Nat), s ≤ 4 → 4 < m + s → (∀ s', s' < s → ∀ i, i < Len (6+s') → K (24 * (6+s') + i) ≠ 16 + c) → wY_forget_13 post (nI (c+1)) ypl ysz yus yof yre ysa ykd ybh yln yhl yvl yks yog yvs ypa ysp ytd ywi yun ysd you yfr ylf yva ysv ywo ysi ywk yph m (nI (6+s)) := by
    intro m
    induction m with
    | zero => intro s a b; omega
    | succ m ih =>
      intro s a b L
      refine pk_le 10 (6+s) (fun z => ?_) (fun z => ?_)
      · rw [nI_pred]
        exact nm_e (h0 (fun s' hs' => L s' (by omega)))
      · have hs : s < 4 := by omega
        refine nm_r (show (24 : Int32) * nI (6+s) = nI (24 * (6+s) + 0) from pk_mul 24 (6+s)) ⟨Len (6+s) + 1, yw_fg24 w T hS hs hc (h1 s hs) (fun A => ih (s+1) (by omega) (by omega) ?_) _ 0 (by omega) (by omega) (fun i hi => by omega)⟩
        intro s' hs'
        by_cases e : s' = s
        · rw [e]; exact A
        · exact L s' (by omega)
  unfold wpY_forget
  exact pk_eq (c+1) 0 (fun z => by omega) (fun _ => ⟨5, L 5 0 (by omega) (by omega) (fun s' hs' => by omega)⟩)
theorem i_vc_forget {k : Nat} {u : SX} {v : SY} (I : i_Rel k u v) (hk : k + 5 ≤ 2560) : wpX_forget (fun r u' => wpY_forget (fun r' v' => r' = r ∧ i_Rel (k + 5) u' v') v) u := by
  obtain ⟨xds, xcc, xmi, xre, xpc, xpl, xtl, xsc, xou, xtk, xtv, xss, xts, xho, xfu, xfa, xfo, xpn, xpe, xpf, xqk, xqv, xqo, xqp, xqs, xqh, xwo, xsi⟩ := u
  obtain ⟨yco, ypl, ysz, yus, yof, yre, ysa, ykd, ybh, yln, yhl, yvl, yks, yog, yvs, ypa, ysp, ytd, ywi, yun, ysd, you, yfr, ylf, yva, ysv, ywo, ysi, ywk, yph⟩ := v
  obtain ⟨K, V, Hn, Len, nc, DK, DV, dn, B, C, m1, m2, m3, m4⟩ := I
  have B' := B
  obtain ⟨w, D, e1, e2, T, d1, s1, t1, hh1, e3, T2, d2, l10, l, h2⟩ := B
  subst e2 e3
  have w0 := w.1
  unfold wpX_forget
  cases nc with
  | zero =>
    refine nm_e (br_t (by decide) ?_)
    unfold wpY_forget
    exact br_t rfl ⟨rfl, rl_mk B' C m1 m2 m3 m4⟩
  | succ c =>
    refine nm_r (nI_pred c) (br_f (nI_pos (by omega)) ?_)
    refine xw_used w T s1 (by omega) ?_ ?_
    · intro s hs i hi e
      refine br_f (by decide) ?_
      exact yw_forget w T2 l (by omega) (fun _ _ _ _ _ => ⟨rfl, rl_mk B' C m1 m2 m3 m4⟩) (fun A => absurd e (A s hs i hi))
    · intro A
      refine br_t rfl ?_
      refine yw_forget w T2 l (by omega) (fun s hs i hi e => absurd e (A s hs i hi)) (fun _ => ⟨rfl, ?_⟩)
      refine rl_mk (nc := c) ⟨tx_forgot w A, D, e1, rfl, ?_, d1, s1, t1, hh1, rfl, ?_, d2, l10, l, h2⟩ C m1 m2 m3 m4
      · intro r hr
        exact T r (by unfold tx_row at hr ⊢; omega)
      · intro r hr
        exact T2 r (by unfold tx_row at hr ⊢; omega)
