variable {xds xcc xmi xre xpc xpl xtl xsc xou : Int32} {xtk xtv xss xts xho xfu xfa xfo xpn xpe xpf xqk xqv xqo xqp xqs xqh xwo xsi : Nat → Int32}
theorem xw_leaf {post : SX → Prop} {n p m st : Nat} {O : pm_O} {a b c : Int32} {E : Nat → Int32} {Hn : Nat → Nat} {t : Nat} {s : Nat × (Nat → Int32)} (A : xr_A n O xqk xqv xqo xqp xqs xqh) (hH : ∀ c, c < 6 → xho c = nI (Hn c)) (hp : p < n) (hk : (O p).1 = 0 ∨ (O p).1 = 1)
    (he : ev_en O (ev_E0 a b c) xwo p E) (hst : st < 1000000)
    (h : wX_workOut_87 post (wX_workOut_9 post a b c m) a b c (nI p) (nI st) xds xcc xmi xre xpc xpl xtl xsc xou xtk xtv xss xts xho xfu xfa xfo xpn xpe xpf xqk xqv xqo xqp xqs xqh (upd xwo p (ev_go O (t+1) p E s).1) xsi) :
    wX_workOut_9 post a b c (m+1) (nI p) 0 (nI st) xds xcc xmi xre xpc xpl xtl xsc xou xtk xtv xss xts xho xfu xfa xfo xpn xpe xpf xqk xqv xqo xqp xqs xqh xwo xsi := by
  have A' := A
  obtain ⟨G, hO, hL⟩ := A
  have h3 := G.1
  obtain ⟨o1, o2, o3⟩ := hO p hp
  have i1 : vp_in (nI p) 2000 := pk_in p 2000 (by omega)
  refine pk_le 1000000 st (fun z => by omega) (fun _ => br_f (nI_pos (by omega)) (br_t rfl ⟨i1, ?_⟩))
  rw [nI_clamp (show p < 2 ^ 31 by omega), o1]
  have ha : tx_a Hn (O p).1 = 0 := by
    rcases hk with e | e <;> rw [e] <;> rfl
  refine xw_ops (Hn := Hn) (by omega) hH ?_
  rw [ha]
  refine br_t (by decide) ?_
  have N : ∀ z0 : Int32, z0 = (ev_go O (t+1) p E s).1 → wX_workOut_86 post (wX_workOut_9 post a b c m) a b c (nI p) (nI st) z0 (nI p) xds xcc xmi xre xpc xpl xtl xsc xou xtk xtv xss xts xho xfu xfa xfo xpn xpe xpf xqk xqv xqo xqp xqs xqh xwo xsi := by
    intro z0 ez
    subst ez
    unfold wX_workOut_86
    rw [nI_clamp (show p < 2 ^ 31 by omega)]
    exact ⟨i1, nm_e h⟩
  unfold wX_workOut_46
  refine br_t rfl ⟨i1, ?_⟩
  rw [nI_clamp (show p < 2 ^ 31 by omega), o1]
  refine pk_eq (O p).1 0 (fun e => ⟨i1, N _ (by rw [ev_0 e]; exact o2)⟩) (fun e => ?_)
  have e1 : (O p).1 = 1 := by omega
  refine xw_var A' hp e1 (N _ ?_)
  rw [ev_1 e1]
  exact he 2000 _ (by omega) (ev_vxE G hp (Or.inl e1)).1
theorem xw_down {post : SX → Prop} {n p m st : Nat} {O : pm_O} {a b c : Int32} {Hn : Nat → Nat} (A : xr_A n O xqk xqv xqo xqp xqs xqh) (hH : ∀ c, c < 6 → xho c = nI (Hn c)) (hp : p < n) (ha : 1 ≤ pm_ar O p) (hst : st < 1000000)
    (h : wX_workOut_9 post a b c m (nI (p+1)) 0 (nI (st+1)) xds xcc xmi xre xpc xpl xtl xsc xou xtk xtv xss xts xho xfu xfa xfo xpn xpe xpf xqk xqv xqo xqp xqs xqh xwo xsi) : wX_workOut_9 post a b c (m+1) (nI p) 0 (nI st) xds xcc xmi xre xpc xpl xtl xsc xou xtk xtv xss xts xho xfu xfa xfo xpn xpe xpf xqk xqv xqo xqp xqs xqh xwo xsi := by
  obtain ⟨G, hO, hL⟩ := A
  have h3 := G.1
  obtain ⟨o1, o2, o3⟩ := hO p hp
  have o8 := (G.2.2 p hp).1
  have i1 : vp_in (nI p) 2000 := pk_in p 2000 (by omega)
  have ha3 : pm_ar O p ≤ 3 := tr_a3 O o8
  refine pk_le 1000000 st (fun z => by omega) (fun _ => br_f (nI_pos (by omega)) (br_t rfl ⟨i1, ?_⟩))
  rw [nI_clamp (show p < 2 ^ 31 by omega), o1]
  have ea : tx_a Hn (O p).1 = pm_ar O p := tx_aI _ _ (by omega)
  refine xw_ops (Hn := Hn) (by omega) hH ?_
  rw [ea]
  exact pk_le (pm_ar O p) 0 (fun z => by omega) (fun _ => nm_r (nI_1 p) (nm_r (nI_1 st) h))
theorem xw_sim {post : SX → Prop} {n : Nat} {O : pm_O} {a b c : Int32} {Hn : Nat → Nat} (A : xr_A n O xqk xqv xqo xqp xqs xqh) (hH : ∀ c, c < 6 → xho c = nI (Hn c)) :
    ∀ (t p : Nat) (E W : Nat → Int32) (s : Nat × (Nat → Int32)) (B st : Nat), p < n → tr_sp (pm_ar O) p ≤ t → ev_en O (ev_E0 a b c) W p E → s.1 ≤ p → st + 2 * tr_sp (pm_ar O) p ≤ 900000 →
      (∀ (W' : Nat → Int32) (m st' : Nat), (∀ j, (j < p ∨ p + tr_sp (pm_ar O) p ≤ j) → W' j = W j) → W' p = (ev_go O t p E s).1 → B ≤ m → st' + 1 ≤ st + 2 * tr_sp (pm_ar O) p →
        wX_workOut_87 post (wX_workOut_9 post a b c m) a b c (nI p) (nI st') xds xcc xmi xre xpc xpl xtl (nI (ev_go O t p E s).2.1) xou xtk xtv xss xts xho xfu xfa xfo xpn xpe xpf xqk xqv xqo xqp xqs xqh W' ((ev_go O t p E s).2.2)) →
      ∀ m, B + 2 * tr_sp (pm_ar O) p ≤ m → wX_workOut_9 post a b c m (nI p) 0 (nI st) xds xcc xmi xre xpc xpl xtl (nI s.1) xou xtk xtv xss xts xho xfu xfa xfo xpn xpe xpf xqk xqv xqo xqp xqs xqh W s.2 := by
  have G := A.1
  have h3 := G.1
  intro t
  induction t with
  | zero =>
    intro p E W s B st hp ht
    have := (tr_spE G hp).2.2.1
    omega
  | succ t ih =>
    intro p E W s B st hp ht he hs hst h m hm
    obtain ⟨sp1, sp2, sp3, sp4⟩ := tr_spE G hp
    obtain ⟨m, rfl⟩ : ∃ m', m = m' + 1 := ⟨m - 1, by omega⟩
    rcases tr_kinds G hp with hk | hk | hk | hk | hk | hk
    · refine xw_leaf (E := E) (t := t) (s := s) A hH hp (Or.inl hk) he (by omega) ?_
      have := h (upd W p (ev_go O (t+1) p E s).1) m st (fun j hj => pk_un (by omega)) pk_us (by omega) (by omega)
      rw [ev_0 hk] at this ⊢
      exact this
    · refine xw_leaf (E := E) (t := t) (s := s) A hH hp (Or.inr hk) he (by omega) ?_
      have := h (upd W p (ev_go O (t+1) p E s).1) m st (fun j hj => pk_un (by omega)) pk_us (by omega) (by omega)
      rw [ev_1 hk] at this ⊢
      exact this
    · -- two operands, reckoned
      have ha := tr_ar2 (O := O) (p := p) (Or.inl hk)
      obtain ⟨k1, k2⟩ := tr_k1 G hp (by omega)
      obtain ⟨q1, q2, q3, q4⟩ := tr_k2 G hp (by omega)
      have l := tr_l2 G hp ha
      have c1 := ev_cnt G t (p+1) E s k1 (by omega)
      have c2 := ev_cnt G t (ev_q O p) E (ev_go O t (p+1) E s).2 q1 (by omega)
      refine xw_down A hH hp (by omega) (by omega) ?_
      refine ih (p+1) E W s (B + 1 + 2 * tr_sp (pm_ar O) (ev_q O p)) (st+1) k1 (by omega) (ev_enA he k2 (by omega) (Or.inl (by omega))) (by omega) (by omega) ?_ m (by omega)
      intro W1 m1 st1 x1 x2 x3 x4
      refine xa_next A hp (by omega) (by omega) ?_
      rw [if_neg (by omega)]
      refine ih (ev_q O p) E W1 (ev_go O t (p+1) E s).2 (B + 1) (st1+1) q1 (by omega) (ev_enA (ev_enW G hp he (fun j hj => x1 j (by omega))) q2 (by omega) (Or.inl (by omega))) (by omega) (by omega) ?_ m1 (by omega)
      intro W2 m2 st2 y1 y2 y3 y4
      obtain ⟨m2, rfl⟩ : ∃ m', m2 = m' + 1 := ⟨m2 - 1, by omega⟩
      have ew : W2 (p+1) = (ev_go O t (p+1) E s).1 := by rw [y1 (p+1) (by omega), x2]
      refine xa_fin A (by omega) q1 (by omega) (by omega) q2 (by omega) (Or.inl (by omega)) ?_
      have ef : ev_fin O p (W2 (p+1)) (W2 (ev_q O p)) (ev_go O t (ev_q O p) E (ev_go O t (p+1) E s).2).2 = ev_go O (t+1) p E s := by
        unfold ev_fin
        rw [if_neg (by omega), if_pos (by omega), ev_b hk, ew, y2]
      rw [ef]
      refine h _ m2 (st2+1) ?_ pk_us (by omega) (by omega)
      intro j hj
      rw [pk_un (by omega), y1 j (by omega), x1 j (by omega)]
    · -- IF
      have ha := tr_ar3 (O := O) (p := p) hk
      obtain ⟨k1, k2⟩ := tr_k1 G hp (by omega)
      obtain ⟨q1, q2, q3, q4⟩ := tr_k2 G hp (by omega)
      obtain ⟨r1, r2, r3, r4⟩ := tr_k3 G hp (by omega)
      have l := tr_l3 G hp ha
      have sr := (tr_spE G r1).2.2.1
      have c1 := ev_cnt G t (p+1) E s k1 (by omega)
      refine xw_down A hH hp (by omega) (by omega) ?_
      refine ih (p+1) E W s (B + 1 + 2 * tr_sp (pm_ar O) (ev_q O p) + 2 * tr_sp (pm_ar O) (ev_r O p)) (st+1) k1 (by omega) (ev_enA he k2 (by omega) (Or.inl (by omega))) (by omega) (by omega) ?_ m (by omega)
      intro W1 m1 st1 x1 x2 x3 x4
      refine xa_next A hp (by omega) (by omega) ?_
      by_cases h0 : (ev_go O t (p+1) E s).1 = 0
      · rw [if_pos ⟨hk, by rw [x2]; exact h0⟩]
        have c2 := ev_cnt G t (ev_r O p) E (ev_go O t (p+1) E s).2 r1 (by omega)
        refine ih (ev_r O p) E W1 (ev_go O t (p+1) E s).2 (B + 1) (st1+1) r1 (by omega) (ev_enA (ev_enW G hp he (fun j hj => x1 j (by omega))) r2 (by omega) (Or.inl (by omega))) (by omega) (by omega) ?_ m1 (by omega)
        intro W2 m2 st2 y1 y2 y3 y4
        obtain ⟨m2, rfl⟩ : ∃ m', m2 = m' + 1 := ⟨m2 - 1, by omega⟩
        refine xa_fin A (by omega) r1 (by omega) (by omega) r2 (by omega) (Or.inl (by omega)) ?_
        have ef : ev_fin O p (W2 (p+1)) (W2 (ev_r O p)) (ev_go O t (ev_r O p) E (ev_go O t (p+1) E s).2).2 = ev_go O (t+1) p E s := by
          unfold ev_fin
          rw [if_neg (by omega), if_neg (by omega), ev_6z hk h0, y2]
        rw [ef]
        refine h _ m2 (st2+1) ?_ pk_us (by omega) (by omega)
        intro j hj
        rw [pk_un (by omega), y1 j (by omega), x1 j (by omega)]
      · rw [if_neg (fun y => h0 (by rw [← x2]; exact y.2))]
        have c2 := ev_cnt G t (ev_q O p) E (ev_go O t (p+1) E s).2 q1 (by omega)
        refine ih (ev_q O p) E W1 (ev_go O t (p+1) E s).2 (B + 1) (st1+1) q1 (by omega) (ev_enA (ev_enW G hp he (fun j hj => x1 j (by omega))) q2 (by omega) (Or.inl (by omega))) (by omega) (by omega) ?_ m1 (by omega)
        intro W2 m2 st2 y1 y2 y3 y4
        obtain ⟨m2, rfl⟩ : ∃ m', m2 = m' + 1 := ⟨m2 - 1, by omega⟩
        refine xa_fin A (by omega) q1 (by omega) (by omega) q2 (by omega) (Or.inl (by omega)) ?_
        have ef : ev_fin O p (W2 (p+1)) (W2 (ev_q O p)) (ev_go O t (ev_q O p) E (ev_go O t (p+1) E s).2).2 = ev_go O (t+1) p E s := by
          unfold ev_fin
          rw [if_neg (by omega), if_neg (by omega), ev_6n hk h0, y2]
        rw [ef]
        refine h _ m2 (st2+1) ?_ pk_us (by omega) (by omega)
        intro j hj
        rw [pk_un (by omega), y1 j (by omega), x1 j (by omega)]
    · -- LET
      have ha := tr_ar2 (O := O) (p := p) (Or.inr hk)
      obtain ⟨k1, k2⟩ := tr_k1 G hp (by omega)
      obtain ⟨q1, q2, q3, q4⟩ := tr_k2 G hp (by omega)
      have l := tr_l2 G hp ha
      have c1 := ev_cnt G t (p+1) E s k1 (by omega)
      have c2 := ev_cnt G t (ev_q O p) (upd E (ev_vx O p) (ev_go O t (p+1) E s).1) (ev_go O t (p+1) E s).2 q1 (by omega)
      refine xw_down A hH hp (by omega) (by omega) ?_
      refine ih (p+1) E W s (B + 1 + 2 * tr_sp (pm_ar O) (ev_q O p)) (st+1) k1 (by omega) (ev_enA he k2 (by omega) (Or.inr rfl)) (by omega) (by omega) ?_ m (by omega)
      intro W1 m1 st1 x1 x2 x3 x4
      refine xa_next A hp (by omega) (by omega) ?_
      rw [if_neg (by omega)]
      have he2 := ev_enB (ev_enW G hp he (fun j hj => x1 j (by omega))) q2 (by omega) hk (by omega)
      rw [x2] at he2
      refine ih (ev_q O p) (upd E (ev_vx O p) (ev_go O t (p+1) E s).1) W1 (ev_go O t (p+1) E s).2 (B + 1) (st1+1) q1 (by omega) he2 (by omega) (by omega) ?_ m1 (by omega)
      intro W2 m2 st2 y1 y2 y3 y4
      obtain ⟨m2, rfl⟩ : ∃ m', m2 = m' + 1 := ⟨m2 - 1, by omega⟩
      refine xa_fin A (by omega) q1 (by omega) (by omega) q2 (by omega) (Or.inl (by omega)) ?_
      have ef : ev_fin O p (W2 (p+1)) (W2 (ev_q O p)) (ev_go O t (ev_q O p) (upd E (ev_vx O p) (ev_go O t (p+1) E s).1) (ev_go O t (p+1) E s).2).2 = ev_go O (t+1) p E s := by
        unfold ev_fin
        rw [if_neg (by omega), if_neg (by omega), ev_7 hk, y2]
      rw [ef]
      refine h _ m2 (st2+1) ?_ pk_us (by omega) (by omega)
      intro j hj
      rw [pk_un (by omega), y1 j (by omega), x1 j (by omega)]
    · -- SAY
      have ha := tr_ar1 (O := O) (p := p) hk
      obtain ⟨k1, k2⟩ := tr_k1 G hp (by omega)
      have l := tr_l1 G hp ha
      have c1 := ev_cnt G t (p+1) E s k1 (by omega)
      refine xw_down A hH hp (by omega) (by omega) ?_
      refine ih (p+1) E W s (B + 1) (st+1) k1 (by omega) (ev_enA he k2 (by omega) (Or.inr rfl)) (by omega) (by omega) ?_ m (by omega)
      intro W1 m1 st1 x1 x2 x3 x4
      obtain ⟨m1, rfl⟩ : ∃ m', m1 = m' + 1 := ⟨m1 - 1, by omega⟩
      refine xa_fin A (by omega) k1 (by omega) (by omega) k2 (by omega) (Or.inr hk) ?_
      have ef : ev_fin O p (W1 (p+1)) (W1 (p+1)) (ev_go O t (p+1) E s).2 = ev_go O (t+1) p E s := by
        unfold ev_fin
        rw [if_pos hk, ev_8 hk, x2]
      rw [ef]
      refine h _ m1 (st1+1) ?_ pk_us (by omega) (by omega)
      intro j hj
      rw [pk_un (by omega), x1 j (by omega)]
theorem xw_workOut {post : SX → Prop} {n : Nat} {O : pm_O} {a b c : Int32} {Hn : Nat → Nat} {E : Nat → Int32} (A : xr_A n O xqk xqv xqo xqp xqs xqh) (hH : ∀ c, c < 6 → xho c = nI (Hn c)) (hE : ∀ v, v < 4110 → E v = ev_E0 a b c v)
    (h : ∀ W : Nat → Int32, W 0 = (ev_go O 2000 0 E (0, xsi)).1 → post (xds, xcc, xmi, xre, xpc, xpl, xtl, nI (ev_go O 2000 0 E (0, xsi)).2.1, xou, xtk, xtv, xss, xts, xho, xfu, xfa, xfo, xpn, xpe, xpf, xqk, xqv, xqo, xqp, xqs, xqh, W, (ev_go O 2000 0 E (0, xsi)).2.2)) : wpX_workOut post (xds, xcc, xmi, xre, xpc, xpl, xtl, 0, xou, xtk, xtv, xss, xts, xho, xfu, xfa, xfo, xpn, xpe, xpf, xqk, xqv, xqo, xqp, xqs, xqh, xwo, xsi) a b c := by
  have G := A.1
  have h3 := G.1
  have n0 := tr_n0 G
  obtain ⟨sp1, sp2, sp3, sp4⟩ := tr_spE G n0
  have l3 := (A.2.2 0 n0).2.2
  have p0 : (O 0).2.2.2 = 0 := by
    have := tr_par G n0
    omega
  rw [p0, ys_i0] at l3
  unfold wpX_workOut
  refine ⟨1 + 2 * tr_sp (pm_ar O) 0, xw_sim A hH 2000 0 E xwo (0, xsi) 1 0 n0 (by omega) ?_ (Nat.le_refl _) (by omega) ?_ _ (Nat.le_refl _)⟩
  · intro t v ht hv
    rw [ev_en0 G (ev_E0 a b c) xwo t v ht hv, hE v hv]
  · intro W' m st' x1 x2 x3 x4
    obtain ⟨m, rfl⟩ : ∃ m', m = m' + 1 := ⟨m - 1, by omega⟩
    unfold wX_workOut_87 wpX_operandAfter
    dsimp only
    rw [nI_clamp (show 0 < 2 ^ 31 by omega)]
    refine ⟨pk_in 0 2000 (by omega), nm_r l3 (br_t (by decide) (br_f (by decide) ?_))⟩
    unfold wX_workOut_105
    rw [nI_clamp (show 0 < 2 ^ 31 by omega)]
    refine br_f (by decide) ⟨pk_in 0 2000 (by omega), nm_r l3 ?_⟩
    unfold wpX_finish
    refine br_f (by decide) (nm_r (nI_1 st') ?_)
    exact pk_le 1000000 (st'+1) (fun z => by omega) (fun _ => br_t (by decide) (h W' x2))
