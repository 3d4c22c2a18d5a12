variable {yco ypl ysz yus yof yre ysa : Int32} {ykd ybh yln yhl yvl yks yog yvs ypa ysp ytd ywi yun ysd you yfr ylf yva ysv ywo ysi ywk yph : Nat → Int32}
theorem yv_push {post : Int32 → SY → Prop} {n p f top h x m : Nat} {O : pm_O} {va sv : Nat → Int32} (A : yr_A n O yks yvs ysp) (hp : p < n) (ht : top < 2000) (hx : x < 2000) (hf : f < 3) (hh : h < 2050) (h1 : (O p).1 = 6 → f = 1 → 1 ≤ h) (hw : ywk top = nI p) (hph : yph top = nI f)
    (hn : ∀ pst : Int32 → SY → Prop, pst (nI x) (yco, ypl, ysz, yus, yof, yre, ysa, ykd, ybh, yln, yhl, yvl, yks, yog, yvs, ypa, ysp, ytd, ywi, yun, ysd, you, yfr, ylf, va, sv, ywo, ysi, ywk, upd yph top (nI (f+1))) → wpY_next pst (yco, ypl, ysz, yus, yof, yre, ysa, ykd, ybh, yln, yhl, yvl, yks, yog, yvs, ypa, ysp, ytd, ywi, yun, ysd, you, yfr, ylf, yva, ysv, ywo, ysi, ywk, upd yph top (nI (f+1))) (nI p) (nI f) (nI h))
    (H : wY_run_123 post m (nI (top+1+1)) (nI (if (O p).1 = 6 ∧ f = 1 then h - 1 else h)) yco ypl ysz yus yof yre ysa ykd ybh yln yhl yvl yks yog yvs ypa ysp ytd ywi yun ysd you yfr ylf va sv ywo ysi (upd ywk (top+1) (nI x)) (upd (upd yph top (nI (f+1))) (top+1) 0)) :
    wY_run_123 post (m+1) (nI (top+1)) (nI h) yco ypl ysz yus yof yre ysa ykd ybh yln yhl yvl yks yog yvs ypa ysp ytd ywi yun ysd you yfr ylf yva ysv ywo ysi ywk yph := by
  obtain ⟨G, hO, hS⟩ := A
  have h3 := G.1
  have o8 := (G.2.2 p hp).1
  obtain ⟨o1, o2⟩ := hO p hp
  have i1 : vp_in (nI top) 2100 := pk_in top 2100 (by omega)
  have i2 : vp_in (nI (top+1)) 2100 := pk_in (top+1) 2100 (by omega)
  refine pk_le (top+1) 0 (fun z => by omega) (fun _ => ?_)
  rw [nI_pred, nI_clamp (show top < 2 ^ 31 by omega), hw, hph, nI_1, nu_8 (show f + 1 < 128 by omega), nu_v8 (show f + 1 < 128 by omega)]
  refine ⟨i1, nm_e ⟨i1, ⟨i1, nm_e (nm_e (hn _ ?_))⟩⟩⟩
  refine br_f (nI_pos (by omega)) ?_
  rw [nI_clamp (show top + 1 < 2 ^ 31 by omega), nu_16 (show x < 32768 by omega), nu_v16 (show x < 32768 by omega), nu_n0, nI_clamp (show p < 2 ^ 31 by omega), o1]
  refine ⟨i2, nm_e (nm_r (nI_1 (top+1)) ⟨i2, nm_e ⟨pk_in p 2001 (by omega), ?_⟩⟩)⟩
  refine pk_eq (O p).1 6 (fun e => pk_eq f 1 (fun ef => ?_) (fun ef => ?_)) (fun e => ?_)
  · rw [if_pos ⟨e, ef⟩] at H
    obtain ⟨h', rfl⟩ : ∃ h', h = h' + 1 := ⟨h - 1, by have := h1 e ef; omega⟩
    exact nm_r (pk_m1 h') H
  · rw [if_neg (fun y => ef y.2)] at H
    exact H
  · rw [if_neg (fun y => e y.1)] at H
    exact H
theorem yv_done {post : Int32 → SY → Prop} {p f top h h' m : Nat} {sa : Int32} {va wo si : Nat → Int32} (ht : top < 2000) (hf : f < 3) (hw : ywk top = nI p) (hph : yph top = nI f)
    (hn : ∀ pst : Int32 → SY → Prop, pst (-1) (yco, ypl, ysz, yus, yof, yre, ysa, ykd, ybh, yln, yhl, yvl, yks, yog, yvs, ypa, ysp, ytd, ywi, yun, ysd, you, yfr, ylf, yva, ysv, ywo, ysi, ywk, upd yph top (nI (f+1))) → wpY_next pst (yco, ypl, ysz, yus, yof, yre, ysa, ykd, ybh, yln, yhl, yvl, yks, yog, yvs, ypa, ysp, ytd, ywi, yun, ysd, you, yfr, ylf, yva, ysv, ywo, ysi, ywk, upd yph top (nI (f+1))) (nI p) (nI f) (nI h))
    (hd : ∀ pst : Int32 → SY → Prop, pst (nI h') (yco, ypl, ysz, yus, yof, yre, sa, ykd, ybh, yln, yhl, yvl, yks, yog, yvs, ypa, ysp, ytd, ywi, yun, ysd, you, yfr, ylf, va, ysv, wo, si, ywk, upd yph top (nI (f+1))) → wpY_done pst (yco, ypl, ysz, yus, yof, yre, ysa, ykd, ybh, yln, yhl, yvl, yks, yog, yvs, ypa, ysp, ytd, ywi, yun, ysd, you, yfr, ylf, yva, ysv, ywo, ysi, ywk, upd yph top (nI (f+1))) (nI p) (nI h))
    (H : wY_run_123 post m (nI top) (nI h') yco ypl ysz yus yof yre sa ykd ybh yln yhl yvl yks yog yvs ypa ysp ytd ywi yun ysd you yfr ylf va ysv wo si ywk (upd yph top (nI (f+1)))) :
    wY_run_123 post (m+1) (nI (top+1)) (nI h) yco ypl ysz yus yof yre ysa ykd ybh yln yhl yvl yks yog yvs ypa ysp ytd ywi yun ysd you yfr ylf yva ysv ywo ysi ywk yph := by
  have i1 : vp_in (nI top) 2100 := pk_in top 2100 (by omega)
  refine pk_le (top+1) 0 (fun z => by omega) (fun _ => ?_)
  rw [nI_pred, nI_clamp (show top < 2 ^ 31 by omega), hw, hph, nI_1, nu_8 (show f + 1 < 128 by omega), nu_v8 (show f + 1 < 128 by omega)]
  refine ⟨i1, nm_e ⟨i1, ⟨i1, nm_e (nm_e (hn _ ?_))⟩⟩⟩
  exact br_t (by decide) (hd _ (nm_r (pk_m1 top) H))
theorem yv_back (va : Nat → Int32) (v : Nat) (w : Int32) : upd (upd va v w) v (va v) = va := by
  funext j
  unfold upd
  split
  · next e => rw [e]
  · rfl
theorem yw_sim {post : Int32 → SY → Prop} {n : Nat} {O : pm_O} (A : yr_A n O yks yvs ysp) :
    ∀ (t p : Nat) (E yva ysv ywo ywk yph : Nat → Int32) (s : Nat × (Nat → Int32)) (B top h : Nat), p < n → tr_sp (pm_ar O) p ≤ t → (∀ v, v < 4110 → yva v = E v) → s.1 ≤ p → top ≤ p → h ≤ top → ywk top = nI p → yph top = 0 →
      (∀ (sv wo wk ph : Nat → Int32) (m : Nat), (∀ j, (j < p ∨ p + tr_sp (pm_ar O) p ≤ j) → sv j = ysv j) → (∀ j, j < h → wo j = ywo j) → wo h = (ev_go O t p E s).1 → (∀ j, j < top → wk j = ywk j ∧ ph j = yph j) → B ≤ m →
        wY_run_123 post m (nI top) (nI (h+1)) yco ypl ysz yus yof yre (nI (ev_go O t p E s).2.1) ykd ybh yln yhl yvl yks yog yvs ypa ysp ytd ywi yun ysd you yfr ylf yva sv wo ((ev_go O t p E s).2.2) wk ph) →
      ∀ m, B + 3 * tr_sp (pm_ar O) p ≤ m → wY_run_123 post m (nI (top+1)) (nI h) yco ypl ysz yus yof yre (nI s.1) ykd ybh yln yhl yvl yks yog yvs ypa ysp ytd ywi yun ysd you yfr ylf yva ysv ywo s.2 ywk yph := by
  have G := A.1
  have h3 := G.1
  intro t
  induction t with
  | zero =>
    intro p E yva ysv ywo ywk yph s B top h hp ht
    have := (tr_spE G hp).2.2.1
    omega
  | succ t ih =>
    intro p E yva ysv ywo ywk yph s B top h hp ht hE hs htop hh hw hph H m hm
    obtain ⟨sp1, sp2, sp3, sp4⟩ := tr_spE G hp
    obtain ⟨m, rfl⟩ : ∃ m', m = m' + 1 := ⟨m - 1, by omega⟩
    rcases tr_kinds G hp with hk | hk | hk | hk | hk | hk
    · rw [ev_0 hk] at H
      refine yv_done (f := 0) (h' := h+1) (by omega) (by omega) hw hph (fun pst q => yn_leaf A hp (by omega) q) (fun pst q => yd_num (s := s) A hp (by omega) hk q) ?_
      exact H _ _ _ _ m (fun j _ => rfl) (fun j hj => pk_un (by omega)) pk_us (fun j hj => ⟨rfl, pk_un (by omega)⟩) (by omega)
    · rw [ev_1 hk] at H
      have ev := hE (ev_vx O p) (ev_vxE G hp (Or.inl hk)).1
      refine yv_done (f := 0) (h' := h+1) (by omega) (by omega) hw hph (fun pst q => yn_leaf A hp (by omega) q) (fun pst q => yd_var (s := s) A hp (by omega) hk q) ?_
      exact H _ _ _ _ m (fun j _ => rfl) (fun j hj => pk_un (by omega)) (by rw [pk_us]; exact ev) (fun j hj => ⟨rfl, pk_un (by omega)⟩) (by omega)
    · -- two operands, reckoned
      have ha := tr_ar2 (O := O) (p := p) (Or.inl hk)
      obtain ⟨k1, k2⟩ := tr_k1 G hp (by omega)
      obtain ⟨q1, q2, q3, q4⟩ := tr_k2 G hp (by omega)
      have l := tr_l2 G hp ha
      have c1 := ev_cnt G t (p+1) E s k1 (by omega)
      have c2 := ev_cnt G t (ev_q O p) E (ev_go O t (p+1) E s).2 q1 (by omega)
      rw [ev_b hk] at H
      refine yv_push (f := 0) (x := p+1) A hp (by omega) (by omega) (by omega) (by omega) (fun e => by omega) hw hph (fun pst q => yn_first A hp (by omega) q) ?_
      rw [if_neg (by omega)]
      refine ih (p+1) E yva ysv ywo _ _ s (B + 2 + 3 * tr_sp (pm_ar O) (ev_q O p)) (top+1) h k1 (by omega) hE (by omega) (by omega) (by omega) pk_us pk_us ?_ m (by omega)
      intro sv1 wo1 wk1 ph1 m1 x1 x2 x3 x4 x5
      obtain ⟨m1, rfl⟩ : ∃ m', m1 = m' + 1 := ⟨m1 - 1, by omega⟩
      have w1 : wk1 top = nI p := by rw [(x4 top (by omega)).1, pk_un (by omega)]; exact hw
      have p1 : ph1 top = nI 1 := by rw [(x4 top (by omega)).2, pk_un (by omega), pk_us]
      refine yv_push (f := 1) (x := ev_q O p) A hp (by omega) (by omega) (by omega) (by omega) (fun e => by omega) w1 p1 (fun pst q => yn_second A hp hk.1 hk.2 q) ?_
      rw [if_neg (by omega)]
      refine ih (ev_q O p) E yva sv1 wo1 _ _ (ev_go O t (p+1) E s).2 (B + 1) (top+1) (h+1) q1 (by omega) hE (by omega) (by omega) (by omega) pk_us pk_us ?_ m1 (by omega)
      intro sv2 wo2 wk2 ph2 m2 y1 y2 y3 y4 y5
      obtain ⟨m2, rfl⟩ : ∃ m', m2 = m' + 1 := ⟨m2 - 1, by omega⟩
      have w2 : wk2 top = nI p := by rw [(y4 top (by omega)).1, pk_un (by omega)]; exact w1
      have p2 : ph2 top = nI 2 := by rw [(y4 top (by omega)).2, pk_un (by omega), pk_us]
      refine yv_done (f := 2) (h := h+2) (h' := h+1) (by omega) (by omega) w2 p2 (fun pst q => yn_end A hp (by omega) (by omega) q) (fun pst q => yd_bin (s := s) A hp (by omega) hk.1 hk.2 q) ?_
      refine H _ _ _ _ m2 ?_ ?_ ?_ ?_ (by omega)
      · intro j hj
        rw [y1 j (by omega), x1 j (by omega)]
      · intro j hj
        rw [pk_un (by omega), y2 j (by omega), x2 j hj]
      · rw [pk_us, y3, y2 h (by omega), x3]
      · intro j hj
        rw [pk_un (by omega), (y4 j (by omega)).1, (y4 j (by omega)).2, pk_un (by omega), pk_un (by omega), pk_un (by omega), (x4 j (by omega)).1, (x4 j (by omega)).2, pk_un (by omega), pk_un (by omega), pk_un (by omega)]
        exact ⟨rfl, rfl⟩
    · -- IF
      have ha := tr_ar3 (O := O) (p := p) hk
      obtain ⟨k1, k2⟩ := tr_k1 G hp (by omega)
      obtain ⟨q1, q2, q3, q4⟩ := tr_k2 G hp (by omega)
      obtain ⟨r1, r2, r3, r4⟩ := tr_k3 G hp (by omega)
      have l := tr_l3 G hp ha
      have c1 := ev_cnt G t (p+1) E s k1 (by omega)
      refine yv_push (f := 0) (x := p+1) A hp (by omega) (by omega) (by omega) (by omega) (fun _ e => by omega) hw hph (fun pst q => yn_first A hp (by omega) q) ?_
      rw [if_neg (by omega)]
      refine ih (p+1) E yva ysv ywo _ _ s (B + 2 + 3 * tr_sp (pm_ar O) (ev_q O p) + 3 * tr_sp (pm_ar O) (ev_r O p)) (top+1) h k1 (by omega) hE (by omega) (by omega) (by omega) pk_us pk_us ?_ m (by have := (tr_spE G r1).2.2.1; omega)
      intro sv1 wo1 wk1 ph1 m1 x1 x2 x3 x4 x5
      obtain ⟨m1, rfl⟩ : ∃ m', m1 = m' + 1 := ⟨m1 - 1, by omega⟩
      have w1 : wk1 top = nI p := by rw [(x4 top (by omega)).1, pk_un (by omega)]; exact hw
      have p1 : ph1 top = nI 1 := by rw [(x4 top (by omega)).2, pk_un (by omega), pk_us]
      have hx2 : (if wo1 h = 0 then ev_r O p else ev_q O p) < 2000 := by split <;> omega
      refine yv_push (f := 1) (x := if wo1 h = 0 then ev_r O p else ev_q O p) A hp (by omega) hx2 (by omega) (by omega) (fun _ _ => by omega) w1 p1 (fun pst q => yn_if A hp hk (by omega) q) ?_
      rw [if_pos ⟨hk, rfl⟩, Nat.add_sub_cancel]
      by_cases h0 : (ev_go O t (p+1) E s).1 = 0
      · rw [x3, if_pos h0]
        rw [ev_6z hk h0] at H
        have c2 := ev_cnt G t (ev_r O p) E (ev_go O t (p+1) E s).2 r1 (by omega)
        refine ih (ev_r O p) E yva sv1 wo1 _ _ (ev_go O t (p+1) E s).2 (B + 1) (top+1) h r1 (by omega) hE (by omega) (by omega) (by omega) pk_us pk_us ?_ m1 (by omega)
        intro sv2 wo2 wk2 ph2 m2 y1 y2 y3 y4 y5
        obtain ⟨m2, rfl⟩ : ∃ m', m2 = m' + 1 := ⟨m2 - 1, by omega⟩
        have w2 : wk2 top = nI p := by rw [(y4 top (by omega)).1, pk_un (by omega)]; exact w1
        have p2 : ph2 top = nI 2 := by rw [(y4 top (by omega)).2, pk_un (by omega), pk_us]
        refine yv_done (f := 2) (h := h+1) (h' := h+1) (by omega) (by omega) w2 p2 (fun pst q => yn_end A hp (by omega) (by omega) q) (fun pst q => yd_if (s := s) A hp (by omega) hk q) ?_
        refine H _ _ _ _ m2 ?_ ?_ y3 ?_ (by omega)
        · intro j hj
          rw [y1 j (by omega), x1 j (by omega)]
        · intro j hj
          rw [y2 j hj, x2 j hj]
        · intro j hj
          rw [pk_un (by omega), (y4 j (by omega)).1, (y4 j (by omega)).2, pk_un (by omega), pk_un (by omega), pk_un (by omega), (x4 j (by omega)).1, (x4 j (by omega)).2, pk_un (by omega), pk_un (by omega), pk_un (by omega)]
          exact ⟨rfl, rfl⟩
      · rw [x3, if_neg h0]
        rw [ev_6n hk h0] at H
        have c2 := ev_cnt G t (ev_q O p) E (ev_go O t (p+1) E s).2 q1 (by omega)
        refine ih (ev_q O p) E yva sv1 wo1 _ _ (ev_go O t (p+1) E s).2 (B + 1) (top+1) h q1 (by omega) hE (by omega) (by omega) (by omega) pk_us pk_us ?_ m1 (by omega)
        intro sv2 wo2 wk2 ph2 m2 y1 y2 y3 y4 y5
        obtain ⟨m2, rfl⟩ : ∃ m', m2 = m' + 1 := ⟨m2 - 1, by omega⟩
        have w2 : wk2 top = nI p := by rw [(y4 top (by omega)).1, pk_un (by omega)]; exact w1
        have p2 : ph2 top = nI 2 := by rw [(y4 top (by omega)).2, pk_un (by omega), pk_us]
        refine yv_done (f := 2) (h := h+1) (h' := h+1) (by omega) (by omega) w2 p2 (fun pst q => yn_end A hp (by omega) (by omega) q) (fun pst q => yd_if (s := s) A hp (by omega) hk q) ?_
        refine H _ _ _ _ m2 ?_ ?_ y3 ?_ (by omega)
        · intro j hj
          rw [y1 j (by omega), x1 j (by omega)]
        · intro j hj
          rw [y2 j hj, x2 j hj]
        · intro j hj
          rw [pk_un (by omega), (y4 j (by omega)).1, (y4 j (by omega)).2, pk_un (by omega), pk_un (by omega), pk_un (by omega), (x4 j (by omega)).1, (x4 j (by omega)).2, pk_un (by omega), pk_un (by omega), pk_un (by omega)]
          exact ⟨rfl, rfl⟩
    · -- LET
      have ha := tr_ar2 (O := O) (p := p) (Or.inr hk)
      obtain ⟨k1, k2⟩ := tr_k1 G hp (by omega)
      obtain ⟨q1, q2, q3, q4⟩ := tr_k2 G hp (by omega)
      have l := tr_l2 G hp ha
      have c1 := ev_cnt G t (p+1) E s k1 (by omega)
      have c2 := ev_cnt G t (ev_q O p) (upd E (ev_vx O p) (ev_go O t (p+1) E s).1) (ev_go O t (p+1) E s).2 q1 (by omega)
      rw [ev_7 hk] at H
      refine yv_push (f := 0) (x := p+1) A hp (by omega) (by omega) (by omega) (by omega) (fun e => by omega) hw hph (fun pst q => yn_first A hp (by omega) q) ?_
      rw [if_neg (by omega)]
      refine ih (p+1) E yva ysv ywo _ _ s (B + 2 + 3 * tr_sp (pm_ar O) (ev_q O p)) (top+1) h k1 (by omega) hE (by omega) (by omega) (by omega) pk_us pk_us ?_ m (by omega)
      intro sv1 wo1 wk1 ph1 m1 x1 x2 x3 x4 x5
      obtain ⟨m1, rfl⟩ : ∃ m', m1 = m' + 1 := ⟨m1 - 1, by omega⟩
      have w1 : wk1 top = nI p := by rw [(x4 top (by omega)).1, pk_un (by omega)]; exact hw
      have p1 : ph1 top = nI 1 := by rw [(x4 top (by omega)).2, pk_un (by omega), pk_us]
      refine yv_push (f := 1) (x := ev_q O p) A hp (by omega) (by omega) (by omega) (by omega) (fun e => by omega) w1 p1 (fun pst q => yn_let A hp hk (by omega) q) ?_
      rw [if_neg (by omega), x3]
      refine ih (ev_q O p) (upd E (ev_vx O p) (ev_go O t (p+1) E s).1) (upd yva (ev_vx O p) (ev_go O t (p+1) E s).1) _ wo1 _ _ (ev_go O t (p+1) E s).2 (B + 1) (top+1) (h+1) q1 (by omega) ?_ (by omega) (by omega) (by omega) pk_us pk_us ?_ m1 (by omega)
      · intro v hv
        unfold upd
        split
        · rfl
        · exact hE v hv
      intro sv2 wo2 wk2 ph2 m2 y1 y2 y3 y4 y5
      obtain ⟨m2, rfl⟩ : ∃ m', m2 = m' + 1 := ⟨m2 - 1, by omega⟩
      have w2 : wk2 top = nI p := by rw [(y4 top (by omega)).1, pk_un (by omega)]; exact w1
      have p2 : ph2 top = nI 2 := by rw [(y4 top (by omega)).2, pk_un (by omega), pk_us]
      refine yv_done (f := 2) (h := h+2) (h' := h+1) (by omega) (by omega) w2 p2 (fun pst q => yn_end A hp (by omega) (by omega) q) (fun pst q => yd_let (s := s) A hp (by omega) hk q) ?_
      have esv : sv2 p = yva (ev_vx O p) := by rw [y1 p (by omega), pk_us]
      rw [esv, yv_back]
      refine H _ _ _ _ m2 ?_ ?_ ?_ ?_ (by omega)
      · intro j hj
        rw [y1 j (by omega), pk_un (by omega), x1 j (by omega)]
      · intro j hj
        rw [pk_un (by omega), y2 j (by omega), x2 j hj]
      · rw [pk_us, y3]
      · intro j hj
        rw [pk_un (by omega), (y4 j (by omega)).1, (y4 j (by omega)).2, pk_un (by omega), pk_un (by omega), pk_un (by omega), (x4 j (by omega)).1, (x4 j (by omega)).2, pk_un (by omega), pk_un (by omega), pk_un (by omega)]
        exact ⟨rfl, rfl⟩
    · -- SAY
      have ha := tr_ar1 (O := O) (p := p) hk
      obtain ⟨k1, k2⟩ := tr_k1 G hp (by omega)
      have l := tr_l1 G hp ha
      have c1 := ev_cnt G t (p+1) E s k1 (by omega)
      rw [ev_8 hk] at H
      refine yv_push (f := 0) (x := p+1) A hp (by omega) (by omega) (by omega) (by omega) (fun e => by omega) hw hph (fun pst q => yn_first A hp (by omega) q) ?_
      rw [if_neg (by omega)]
      refine ih (p+1) E yva ysv ywo _ _ s (B + 1) (top+1) h k1 (by omega) hE (by omega) (by omega) (by omega) pk_us pk_us ?_ m (by omega)
      intro sv1 wo1 wk1 ph1 m1 x1 x2 x3 x4 x5
      obtain ⟨m1, rfl⟩ : ∃ m', m1 = m' + 1 := ⟨m1 - 1, by omega⟩
      have w1 : wk1 top = nI p := by rw [(x4 top (by omega)).1, pk_un (by omega)]; exact hw
      have p1 : ph1 top = nI 1 := by rw [(x4 top (by omega)).2, pk_un (by omega), pk_us]
      refine yv_done (f := 1) (h := h+1) (h' := h+1) (by omega) (by omega) w1 p1 (fun pst q => yn_say A hp hk q) (fun pst q => yd_say (s := (ev_go O t (p+1) E s).2) A hp (by omega) hk (by omega) q) ?_
      rw [x3]
      refine H _ _ _ _ m1 ?_ x2 x3 ?_ (by omega)
      · intro j hj
        rw [x1 j (by omega)]
      · intro j hj
        rw [pk_un (by omega), (x4 j (by omega)).1, (x4 j (by omega)).2, pk_un (by omega), pk_un (by omega), pk_un (by omega)]
        exact ⟨rfl, rfl⟩
