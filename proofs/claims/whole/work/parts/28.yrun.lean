variable {yco ypl ysz yus yof yre ysa : Int32} {ykd ybh yln yhl yvl yks yog yvs ypa ysp ytd ywi yun ysd you yfr ylf yva ysv ywo ysi ywk yph : Nat → Int32}
def yr_A (n : Nat) (O : pm_O) (yks yvs ysp : Nat → Int32) : Prop := tr_G n O ∧ (∀ m, m < n → yks m = nI (O m).1 ∧ yvs m = (O m).2.1) ∧ ∀ m, m < n → ysp m = nI (tr_sp (pm_ar O) m)
theorem yn_leaf {post : Int32 → SY → Prop} {n p f h : Nat} {O : pm_O} (A : yr_A n O yks yvs ysp) (hp : p < n) (hk : (O p).1 ≤ 1)
    (H : post (-1) (yco, ypl, ysz, yus, yof, yre, ysa, ykd, ybh, yln, yhl, yvl, yks, yog, yvs, ypa, ysp, ytd, ywi, yun, ysd, you, yfr, ylf, yva, ysv, ywo, ysi, ywk, yph)) : wpY_next post (yco, ypl, ysz, yus, yof, yre, ysa, ykd, ybh, yln, yhl, yvl, yks, yog, yvs, ypa, ysp, ytd, ywi, yun, ysd, you, yfr, ylf, yva, ysv, ywo, ysi, ywk, yph) (nI p) (nI f) (nI h) := by
  obtain ⟨G, hO, hS⟩ := A
  have h3 := G.1
  have o8 := (G.2.2 p hp).1
  obtain ⟨o1, o2⟩ := hO p hp
  have i1 : vp_in (nI p) 2001 := pk_in p 2001 (by omega)
  have o1' : yks (nI p).toNatClampNeg = nI (O p).1 := by rw [nI_clamp (show p < 2 ^ 31 by omega)]; exact o1
  unfold wpY_next
  exact nm_r (nI_1 p) ⟨i1, nm_r o1' (br_f (nI_pos (by omega)) (pk_lt 8 (O p).1 (fun z => by omega) (fun _ => pk_eq (O p).1 0 (fun e => H) (fun n0 => pk_eq (O p).1 1 (fun e => H) (fun n1 => pk_eq (O p).1 2 (fun e => by omega) (fun n2 => pk_eq (O p).1 3 (fun e => by omega) (fun n3 => pk_eq (O p).1 4 (fun e => by omega) (fun n4 => pk_eq (O p).1 5 (fun e => by omega) (fun n5 => pk_eq (O p).1 6 (fun e => by omega) (fun n6 => pk_eq (O p).1 7 (fun e => by omega) (fun n7 => pk_eq (O p).1 8 (fun e => by omega) (fun n8 => True.intro))))))))))))⟩
theorem yn_first {post : Int32 → SY → Prop} {n p h : Nat} {O : pm_O} (A : yr_A n O yks yvs ysp) (hp : p < n) (hk : 2 ≤ (O p).1)
    (H : post (nI (p+1)) (yco, ypl, ysz, yus, yof, yre, ysa, ykd, ybh, yln, yhl, yvl, yks, yog, yvs, ypa, ysp, ytd, ywi, yun, ysd, you, yfr, ylf, yva, ysv, ywo, ysi, ywk, yph)) : wpY_next post (yco, ypl, ysz, yus, yof, yre, ysa, ykd, ybh, yln, yhl, yvl, yks, yog, yvs, ypa, ysp, ytd, ywi, yun, ysd, you, yfr, ylf, yva, ysv, ywo, ysi, ywk, yph) (nI p) (nI 0) (nI h) := by
  obtain ⟨G, hO, hS⟩ := A
  have h3 := G.1
  have o8 := (G.2.2 p hp).1
  obtain ⟨o1, o2⟩ := hO p hp
  have i1 : vp_in (nI p) 2001 := pk_in p 2001 (by omega)
  have o1' : yks (nI p).toNatClampNeg = nI (O p).1 := by rw [nI_clamp (show p < 2 ^ 31 by omega)]; exact o1
  have H196 : wY_next_196 post 0 (nI (p+1)) yco ypl ysz yus yof yre ysa ykd ybh yln yhl yvl yks yog yvs ypa ysp ytd ywi yun ysd you yfr ylf yva ysv ywo ysi ywk yph := by
    unfold wY_next_196
    exact br_t rfl H
  have H167 : wY_next_167 post 0 (nI (p+1)) yco ypl ysz yus yof yre ysa ykd ybh yln yhl yvl yks yog yvs ypa ysp ytd ywi yun ysd you yfr ylf yva ysv ywo ysi ywk yph := by
    unfold wY_next_167
    exact br_t rfl H
  unfold wpY_next
  exact nm_r (nI_1 p) ⟨i1, nm_r o1' (br_f (nI_pos (by omega)) (pk_lt 8 (O p).1 (fun z => by omega) (fun _ => pk_eq (O p).1 0 (fun e => by omega) (fun n0 => pk_eq (O p).1 1 (fun e => by omega) (fun n1 => pk_eq (O p).1 2 (fun e => H196) (fun n2 => pk_eq (O p).1 3 (fun e => H196) (fun n3 => pk_eq (O p).1 4 (fun e => H196) (fun n4 => pk_eq (O p).1 5 (fun e => H196) (fun n5 => pk_eq (O p).1 6 (fun e => br_t (by decide) (br_t rfl H)) (fun n6 => pk_eq (O p).1 7 (fun e => br_f (by decide) H167) (fun n7 => pk_eq (O p).1 8 (fun e => br_t rfl H) (fun n8 => True.intro))))))))))))⟩
theorem yn_second {post : Int32 → SY → Prop} {n p h : Nat} {O : pm_O} (A : yr_A n O yks yvs ysp) (hp : p < n) (hk : 2 ≤ (O p).1) (hk5 : (O p).1 ≤ 5)
    (H : post (nI (ev_q O p)) (yco, ypl, ysz, yus, yof, yre, ysa, ykd, ybh, yln, yhl, yvl, yks, yog, yvs, ypa, ysp, ytd, ywi, yun, ysd, you, yfr, ylf, yva, ysv, ywo, ysi, ywk, yph)) : wpY_next post (yco, ypl, ysz, yus, yof, yre, ysa, ykd, ybh, yln, yhl, yvl, yks, yog, yvs, ypa, ysp, ytd, ywi, yun, ysd, you, yfr, ylf, yva, ysv, ywo, ysi, ywk, yph) (nI p) (nI 1) (nI h) := by
  obtain ⟨G, hO, hS⟩ := A
  have h3 := G.1
  have o8 := (G.2.2 p hp).1
  obtain ⟨o1, o2⟩ := hO p hp
  have i1 : vp_in (nI p) 2001 := pk_in p 2001 (by omega)
  have o1' : yks (nI p).toNatClampNeg = nI (O p).1 := by rw [nI_clamp (show p < 2 ^ 31 by omega)]; exact o1
  obtain ⟨k1, k2⟩ := tr_k1 G hp (by rw [tr_ar2 (Or.inl ⟨hk, hk5⟩)]; omega)
  obtain ⟨q1, q2, q3, q4⟩ := tr_k2 G hp (by rw [tr_ar2 (Or.inl ⟨hk, hk5⟩)]; omega)
  have H196 : wY_next_196 post 1 (nI (p+1)) yco ypl ysz yus yof yre ysa ykd ybh yln yhl yvl yks yog yvs ypa ysp ytd ywi yun ysd you yfr ylf yva ysv ywo ysi ywk yph := by
    unfold wY_next_196
    rw [nI_clamp (show p + 1 < 2 ^ 31 by omega), hS (p+1) k1, nI_add, ← q3]
    exact br_f (by decide) (br_t rfl ⟨pk_in (p+1) 2001 (by omega), H⟩)
  unfold wpY_next
  exact nm_r (nI_1 p) ⟨i1, nm_r o1' (br_f (nI_pos (by omega)) (pk_lt 8 (O p).1 (fun z => by omega) (fun _ => pk_eq (O p).1 0 (fun e => by omega) (fun n0 => pk_eq (O p).1 1 (fun e => by omega) (fun n1 => pk_eq (O p).1 2 (fun e => H196) (fun n2 => pk_eq (O p).1 3 (fun e => H196) (fun n3 => pk_eq (O p).1 4 (fun e => H196) (fun n4 => pk_eq (O p).1 5 (fun e => H196) (fun n5 => pk_eq (O p).1 6 (fun e => by omega) (fun n6 => pk_eq (O p).1 7 (fun e => by omega) (fun n7 => pk_eq (O p).1 8 (fun e => by omega) (fun n8 => True.intro))))))))))))⟩
theorem yn_if {post : Int32 → SY → Prop} {n p h : Nat} {O : pm_O} (A : yr_A n O yks yvs ysp) (hp : p < n) (hk : (O p).1 = 6) (hh : h < 2000)
    (H : post (nI (if ywo h = 0 then ev_r O p else ev_q O p)) (yco, ypl, ysz, yus, yof, yre, ysa, ykd, ybh, yln, yhl, yvl, yks, yog, yvs, ypa, ysp, ytd, ywi, yun, ysd, you, yfr, ylf, yva, ysv, ywo, ysi, ywk, yph)) : wpY_next post (yco, ypl, ysz, yus, yof, yre, ysa, ykd, ybh, yln, yhl, yvl, yks, yog, yvs, ypa, ysp, ytd, ywi, yun, ysd, you, yfr, ylf, yva, ysv, ywo, ysi, ywk, yph) (nI p) (nI 1) (nI (h+1)) := by
  obtain ⟨G, hO, hS⟩ := A
  have h3 := G.1
  have o8 := (G.2.2 p hp).1
  obtain ⟨o1, o2⟩ := hO p hp
  have i1 : vp_in (nI p) 2001 := pk_in p 2001 (by omega)
  have o1' : yks (nI p).toNatClampNeg = nI (O p).1 := by rw [nI_clamp (show p < 2 ^ 31 by omega)]; exact o1
  obtain ⟨k1, k2⟩ := tr_k1 G hp (by rw [tr_ar3 hk]; omega)
  obtain ⟨q1, q2, q3, q4⟩ := tr_k2 G hp (by rw [tr_ar3 hk]; omega)
  obtain ⟨r1, r2, r3, r4⟩ := tr_k3 G hp (by rw [tr_ar3 hk]; omega)
  have e1 : nI (h+1) - 1 = nI h := nI_pred h
  have H6 : vp_in (nI (p+1)) 2001 ∧ ∀ x5 : Int32, x5 = nI (p+1) + ysp (nI (p+1)).toNatClampNeg → (vp_in (nI (h+1) - 1) 2100 ∧ (((ywo (nI (h+1) - 1).toNatClampNeg) = 0 → (vp_in x5 2001 ∧ (post (x5 + (ysp x5.toNatClampNeg)) (yco, ypl, ysz, yus, yof, yre, ysa, ykd, ybh, yln, yhl, yvl, yks, yog, yvs, ypa, ysp, ytd, ywi, yun, ysd, you, yfr, ylf, yva, ysv, ywo, ysi, ywk, yph)))) ∧ (¬ (ywo (nI (h+1) - 1).toNatClampNeg) = 0 → (post x5 (yco, ypl, ysz, yus, yof, yre, ysa, ykd, ybh, yln, yhl, yvl, yks, yog, yvs, ypa, ysp, ytd, ywi, yun, ysd, you, yfr, ylf, yva, ysv, ywo, ysi, ywk, yph))))) := by
    rw [e1, nI_clamp (show h < 2 ^ 31 by omega), nI_clamp (show p + 1 < 2 ^ 31 by omega), hS (p+1) k1, nI_add, ← q3]
    refine ⟨pk_in (p+1) 2001 (by omega), nm_e ⟨pk_in h 2100 (by omega), br_c (fun w0 => ?_) (fun w0 => ?_)⟩⟩
    · rw [if_pos w0] at H
      rw [nI_clamp (show ev_q O p < 2 ^ 31 by omega), hS _ q1, nI_add, ← r3]
      exact ⟨pk_in _ 2001 (by omega) rfl, H⟩
    · rw [if_neg w0] at H
      exact H
  unfold wpY_next
  exact nm_r (nI_1 p) ⟨i1, nm_r o1' (br_f (nI_pos (by omega)) (pk_lt 8 (O p).1 (fun z => by omega) (fun _ => pk_eq (O p).1 0 (fun e => by omega) (fun n0 => pk_eq (O p).1 1 (fun e => by omega) (fun n1 => pk_eq (O p).1 2 (fun e => by omega) (fun n2 => pk_eq (O p).1 3 (fun e => by omega) (fun n3 => pk_eq (O p).1 4 (fun e => by omega) (fun n4 => pk_eq (O p).1 5 (fun e => by omega) (fun n5 => pk_eq (O p).1 6 (fun e => br_t (by decide) (br_f (by decide) H6)) (fun n6 => pk_eq (O p).1 7 (fun e => by omega) (fun n7 => pk_eq (O p).1 8 (fun e => by omega) (fun n8 => True.intro))))))))))))⟩
theorem yn_let {post : Int32 → SY → Prop} {n p h : Nat} {O : pm_O} (A : yr_A n O yks yvs ysp) (hp : p < n) (hk : (O p).1 = 7) (hh : h < 2000)
    (H : post (nI (ev_q O p)) (yco, ypl, ysz, yus, yof, yre, ysa, ykd, ybh, yln, yhl, yvl, yks, yog, yvs, ypa, ysp, ytd, ywi, yun, ysd, you, yfr, ylf, upd yva (ev_vx O p) (ywo h), upd ysv p (yva (ev_vx O p)), ywo, ysi, ywk, yph)) : wpY_next post (yco, ypl, ysz, yus, yof, yre, ysa, ykd, ybh, yln, yhl, yvl, yks, yog, yvs, ypa, ysp, ytd, ywi, yun, ysd, you, yfr, ylf, yva, ysv, ywo, ysi, ywk, yph) (nI p) (nI 1) (nI (h+1)) := by
  obtain ⟨G, hO, hS⟩ := A
  have h3 := G.1
  have o8 := (G.2.2 p hp).1
  obtain ⟨o1, o2⟩ := hO p hp
  have i1 : vp_in (nI p) 2001 := pk_in p 2001 (by omega)
  have o1' : yks (nI p).toNatClampNeg = nI (O p).1 := by rw [nI_clamp (show p < 2 ^ 31 by omega)]; exact o1
  have ha := tr_ar2 (O := O) (p := p) (Or.inr hk)
  obtain ⟨k1, k2⟩ := tr_k1 G hp (by omega)
  obtain ⟨q1, q2, q3, q4⟩ := tr_k2 G hp (by omega)
  obtain ⟨v1, v2⟩ := ev_vxE G hp (Or.inr hk)
  have e1 : nI (h+1) - 1 = nI h := nI_pred h
  have H167 : wY_next_167 post 1 (nI (p+1)) yco ypl ysz yus yof yre ysa ykd ybh yln yhl yvl yks yog yvs ypa ysp ytd ywi yun ysd you yfr ylf (upd yva (ev_vx O p) (ywo h)) (upd ysv p (yva (ev_vx O p))) ywo ysi ywk yph := by
    unfold wY_next_167
    rw [nI_clamp (show p + 1 < 2 ^ 31 by omega), hS (p+1) k1, nI_add, ← q3]
    exact br_f (by decide) (br_t rfl ⟨pk_in (p+1) 2001 (by omega), H⟩)
  have i2 : vp_in (nI (ev_vx O p)) 4110 := pk_in _ 4110 v1 rfl
  have i3 : vp_in (nI h) 2100 := pk_in h 2100 (by omega)
  have H7 : vp_in (nI p) 2001 ∧ (vp_in (yvs (nI p).toNatClampNeg) 4110 ∧ (vp_in (nI p) 2001 ∧ ∀ x31, x31 = upd ysv (nI p).toNatClampNeg (yva (yvs (nI p).toNatClampNeg).toNatClampNeg) → (vp_in (nI p) 2001 ∧ (vp_in (nI (h+1) - 1) 2100 ∧ (vp_in (yvs (nI p).toNatClampNeg) 4110 ∧ ∀ x35, x35 = upd yva (yvs (nI p).toNatClampNeg).toNatClampNeg (ywo (nI (h+1) - 1).toNatClampNeg) → (wY_next_167 post 1 (nI (p+1)) yco ypl ysz yus yof yre ysa ykd ybh yln yhl yvl yks yog yvs ypa ysp ytd ywi yun ysd you yfr ylf x35 x31 ywo ysi ywk yph)))))) := by
    rw [e1, nI_clamp (show h < 2 ^ 31 by omega), nI_clamp (show p < 2 ^ 31 by omega), o2, v2, nI_clamp (show ev_vx O p < 2 ^ 31 by omega)]
    exact ⟨i1, ⟨i2, ⟨i1, nm_e ⟨i1, ⟨i3, ⟨i2, nm_e H167⟩⟩⟩⟩⟩⟩
  unfold wpY_next
  exact nm_r (nI_1 p) ⟨i1, nm_r o1' (br_f (nI_pos (by omega)) (pk_lt 8 (O p).1 (fun z => by omega) (fun _ => pk_eq (O p).1 0 (fun e => by omega) (fun n0 => pk_eq (O p).1 1 (fun e => by omega) (fun n1 => pk_eq (O p).1 2 (fun e => by omega) (fun n2 => pk_eq (O p).1 3 (fun e => by omega) (fun n3 => pk_eq (O p).1 4 (fun e => by omega) (fun n4 => pk_eq (O p).1 5 (fun e => by omega) (fun n5 => pk_eq (O p).1 6 (fun e => by omega) (fun n6 => pk_eq (O p).1 7 (fun e => br_t rfl H7) (fun n7 => pk_eq (O p).1 8 (fun e => by omega) (fun n8 => True.intro))))))))))))⟩
theorem yn_say {post : Int32 → SY → Prop} {n p h : Nat} {O : pm_O} (A : yr_A n O yks yvs ysp) (hp : p < n) (hk : (O p).1 = 8)
    (H : post (-1) (yco, ypl, ysz, yus, yof, yre, ysa, ykd, ybh, yln, yhl, yvl, yks, yog, yvs, ypa, ysp, ytd, ywi, yun, ysd, you, yfr, ylf, yva, ysv, ywo, ysi, ywk, yph)) : wpY_next post (yco, ypl, ysz, yus, yof, yre, ysa, ykd, ybh, yln, yhl, yvl, yks, yog, yvs, ypa, ysp, ytd, ywi, yun, ysd, you, yfr, ylf, yva, ysv, ywo, ysi, ywk, yph) (nI p) (nI 1) (nI h) := by
  obtain ⟨G, hO, hS⟩ := A
  have h3 := G.1
  have o8 := (G.2.2 p hp).1
  obtain ⟨o1, o2⟩ := hO p hp
  have i1 : vp_in (nI p) 2001 := pk_in p 2001 (by omega)
  have o1' : yks (nI p).toNatClampNeg = nI (O p).1 := by rw [nI_clamp (show p < 2 ^ 31 by omega)]; exact o1
  unfold wpY_next
  exact nm_r (nI_1 p) ⟨i1, nm_r o1' (br_f (nI_pos (by omega)) (pk_lt 8 (O p).1 (fun z => by omega) (fun _ => pk_eq (O p).1 0 (fun e => by omega) (fun n0 => pk_eq (O p).1 1 (fun e => by omega) (fun n1 => pk_eq (O p).1 2 (fun e => by omega) (fun n2 => pk_eq (O p).1 3 (fun e => by omega) (fun n3 => pk_eq (O p).1 4 (fun e => by omega) (fun n4 => pk_eq (O p).1 5 (fun e => by omega) (fun n5 => pk_eq (O p).1 6 (fun e => by omega) (fun n6 => pk_eq (O p).1 7 (fun e => by omega) (fun n7 => pk_eq (O p).1 8 (fun e => br_f (by decide) H) (fun n8 => True.intro))))))))))))⟩
theorem yn_end {post : Int32 → SY → Prop} {n p h : Nat} {O : pm_O} (A : yr_A n O yks yvs ysp) (hp : p < n) (hk : 2 ≤ (O p).1) (hk7 : (O p).1 ≤ 7)
    (H : post (-1) (yco, ypl, ysz, yus, yof, yre, ysa, ykd, ybh, yln, yhl, yvl, yks, yog, yvs, ypa, ysp, ytd, ywi, yun, ysd, you, yfr, ylf, yva, ysv, ywo, ysi, ywk, yph)) : wpY_next post (yco, ypl, ysz, yus, yof, yre, ysa, ykd, ybh, yln, yhl, yvl, yks, yog, yvs, ypa, ysp, ytd, ywi, yun, ysd, you, yfr, ylf, yva, ysv, ywo, ysi, ywk, yph) (nI p) (nI 2) (nI h) := by
  obtain ⟨G, hO, hS⟩ := A
  have h3 := G.1
  have o8 := (G.2.2 p hp).1
  obtain ⟨o1, o2⟩ := hO p hp
  have i1 : vp_in (nI p) 2001 := pk_in p 2001 (by omega)
  have o1' : yks (nI p).toNatClampNeg = nI (O p).1 := by rw [nI_clamp (show p < 2 ^ 31 by omega)]; exact o1
  have H196 : wY_next_196 post 2 (nI (p+1)) yco ypl ysz yus yof yre ysa ykd ybh yln yhl yvl yks yog yvs ypa ysp ytd ywi yun ysd you yfr ylf yva ysv ywo ysi ywk yph := by
    unfold wY_next_196
    exact br_f (by decide) (br_f (by decide) H)
  have H167 : wY_next_167 post 2 (nI (p+1)) yco ypl ysz yus yof yre ysa ykd ybh yln yhl yvl yks yog yvs ypa ysp ytd ywi yun ysd you yfr ylf yva ysv ywo ysi ywk yph := by
    unfold wY_next_167
    exact br_f (by decide) (br_f (by decide) H)
  unfold wpY_next
  exact nm_r (nI_1 p) ⟨i1, nm_r o1' (br_f (nI_pos (by omega)) (pk_lt 8 (O p).1 (fun z => by omega) (fun _ => pk_eq (O p).1 0 (fun e => by omega) (fun n0 => pk_eq (O p).1 1 (fun e => by omega) (fun n1 => pk_eq (O p).1 2 (fun e => H196) (fun n2 => pk_eq (O p).1 3 (fun e => H196) (fun n3 => pk_eq (O p).1 4 (fun e => H196) (fun n4 => pk_eq (O p).1 5 (fun e => H196) (fun n5 => pk_eq (O p).1 6 (fun e => br_f (by decide) H) (fun n6 => pk_eq (O p).1 7 (fun e => br_f (by decide) H167) (fun n7 => pk_eq (O p).1 8 (fun e => by omega) (fun n8 => True.intro))))))))))))⟩
theorem yd_w {post : Int32 → SY → Prop} {h : Nat} {x1 : Int32} (hh : h < 2100) (H : ∀ x y : Int32, (2 ≤ h → x = ywo (h-2)) → (1 ≤ h → y = ywo (h-1)) → wY_done_34 post x1 (nI h) x y yco ypl ysz yus yof yre ysa ykd ybh yln yhl yvl yks yog yvs ypa ysp ytd ywi yun ysd you yfr ylf yva ysv ywo ysi ywk yph) : wpY_done post (yco, ypl, ysz, yus, yof, yre, ysa, ykd, ybh, yln, yhl, yvl, yks, yog, yvs, ypa, ysp, ytd, ywi, yun, ysd, you, yfr, ylf, yva, ysv, ywo, ysi, ywk, yph) x1 (nI h) := by
  have N : ∀ x : Int32, (2 ≤ h → x = ywo (h-2)) → wY_done_17 post x1 (nI h) x yco ypl ysz yus yof yre ysa ykd ybh yln yhl yvl yks yog yvs ypa ysp ytd ywi yun ysd you yfr ylf yva ysv ywo ysi ywk yph := by
    intro x hx
    unfold wY_done_17
    refine pk_le h 0 (fun z => H x 0 hx (fun y => by omega)) (fun z => ?_)
    rw [show nI h - 1 = nI (h-1) from pk_sub (b := 1) z, nI_clamp (show h - 1 < 2 ^ 31 by omega)]
    exact ⟨pk_in (h-1) 2100 (by omega), H x _ hx (fun _ => rfl)⟩
  unfold wpY_done
  refine pk_le h 1 (fun z => N 0 (fun y => by omega)) (fun z => ?_)
  rw [show nI h - 2 = nI (h-2) from pk_sub (b := 2) z, nI_clamp (show h - 2 < 2 ^ 31 by omega)]
  exact ⟨pk_in (h-2) 2100 (by omega), N _ (fun _ => rfl)⟩
theorem yd_reck {post : Int32 → Prop} {k : Nat} {x y : Int32} (h2 : 2 ≤ k) (h5 : k ≤ 5) (h : post (ev_bin k x y)) : wpY_reckoned post (nI k) x y := by
  unfold ev_bin at h
  unfold wpY_reckoned
  refine pk_eq k 2 (fun e => by rw [if_pos e] at h; exact h) (fun n2 => pk_eq k 3 (fun e => by rw [if_neg n2, if_pos e] at h; exact h) (fun n3 => pk_eq k 4 (fun e => by rw [if_neg n2, if_neg n3, if_pos e] at h; exact h) (fun n4 => ?_)))
  rw [if_neg n2, if_neg n3, if_neg n4] at h
  refine br_c (fun z => ?_) (fun z => ?_)
  · rw [if_neg (Int32.not_lt.mpr z)] at h
    exact h
  · rw [if_pos (Int32.not_le.mp z)] at h
    exact h
theorem yd_num {post : Int32 → SY → Prop} {n p h : Nat} {O : pm_O} {s : Nat × (Nat → Int32)} (A : yr_A n O yks yvs ysp) (hp : p < n) (hh : h < 2000) (hk : (O p).1 = 0)
    (H : post (nI (h+1)) (yco, ypl, ysz, yus, yof, yre, ysa, ykd, ybh, yln, yhl, yvl, yks, yog, yvs, ypa, ysp, ytd, ywi, yun, ysd, you, yfr, ylf, yva, ysv, upd ywo h (O p).2.1, ysi, ywk, yph)) : wpY_done post (yco, ypl, ysz, yus, yof, yre, ysa, ykd, ybh, yln, yhl, yvl, yks, yog, yvs, ypa, ysp, ytd, ywi, yun, ysd, you, yfr, ylf, yva, ysv, ywo, ysi, ywk, yph) (nI p) (nI h) := by
  obtain ⟨G, hO, hS⟩ := A
  have h3 := G.1
  have o8 := (G.2.2 p hp).1
  obtain ⟨o1, o2⟩ := hO p hp
  have i1 : vp_in (nI p) 2001 := pk_in p 2001 (by omega)
  have o1' : yks (nI p).toNatClampNeg = nI (O p).1 := by rw [nI_clamp (show p < 2 ^ 31 by omega)]; exact o1
  refine yd_w (by omega) (fun x y hx hy => ?_)
  unfold wY_done_34
  refine ⟨i1, nm_r o1' (br_f (nI_pos (by omega)) (pk_lt 8 (O p).1 (fun z => by omega) (fun _ => pk_eq (O p).1 0 (fun e => ?_) (fun n0 => pk_eq (O p).1 1 (fun e => by omega) (fun n1 => pk_eq (O p).1 2 (fun e => by omega) (fun n2 => pk_eq (O p).1 3 (fun e => by omega) (fun n3 => pk_eq (O p).1 4 (fun e => by omega) (fun n4 => pk_eq (O p).1 5 (fun e => by omega) (fun n5 => pk_eq (O p).1 6 (fun e => by omega) (fun n6 => pk_eq (O p).1 7 (fun e => by omega) (fun n7 => pk_eq (O p).1 8 (fun e => by omega) (fun n8 => True.intro))))))))))))⟩
  rw [nI_clamp (show p < 2 ^ 31 by omega), nI_clamp (show h < 2 ^ 31 by omega), o2, nI_1]
  exact ⟨i1, ⟨pk_in h 2100 (by omega), nm_e H⟩⟩
theorem yd_var {post : Int32 → SY → Prop} {n p h : Nat} {O : pm_O} {s : Nat × (Nat → Int32)} (A : yr_A n O yks yvs ysp) (hp : p < n) (hh : h < 2000) (hk : (O p).1 = 1)
    (H : post (nI (h+1)) (yco, ypl, ysz, yus, yof, yre, ysa, ykd, ybh, yln, yhl, yvl, yks, yog, yvs, ypa, ysp, ytd, ywi, yun, ysd, you, yfr, ylf, yva, ysv, upd ywo h (yva (ev_vx O p)), ysi, ywk, yph)) : wpY_done post (yco, ypl, ysz, yus, yof, yre, ysa, ykd, ybh, yln, yhl, yvl, yks, yog, yvs, ypa, ysp, ytd, ywi, yun, ysd, you, yfr, ylf, yva, ysv, ywo, ysi, ywk, yph) (nI p) (nI h) := by
  obtain ⟨G, hO, hS⟩ := A
  have h3 := G.1
  have o8 := (G.2.2 p hp).1
  obtain ⟨o1, o2⟩ := hO p hp
  have i1 : vp_in (nI p) 2001 := pk_in p 2001 (by omega)
  have o1' : yks (nI p).toNatClampNeg = nI (O p).1 := by rw [nI_clamp (show p < 2 ^ 31 by omega)]; exact o1
  refine yd_w (by omega) (fun x y hx hy => ?_)
  obtain ⟨v1, v2⟩ := ev_vxE G hp (Or.inl hk)
  unfold wY_done_34
  refine ⟨i1, nm_r o1' (br_f (nI_pos (by omega)) (pk_lt 8 (O p).1 (fun z => by omega) (fun _ => pk_eq (O p).1 0 (fun e => by omega) (fun n0 => pk_eq (O p).1 1 (fun e => ?_) (fun n1 => pk_eq (O p).1 2 (fun e => by omega) (fun n2 => pk_eq (O p).1 3 (fun e => by omega) (fun n3 => pk_eq (O p).1 4 (fun e => by omega) (fun n4 => pk_eq (O p).1 5 (fun e => by omega) (fun n5 => pk_eq (O p).1 6 (fun e => by omega) (fun n6 => pk_eq (O p).1 7 (fun e => by omega) (fun n7 => pk_eq (O p).1 8 (fun e => by omega) (fun n8 => True.intro))))))))))))⟩
  rw [nI_clamp (show p < 2 ^ 31 by omega), nI_clamp (show h < 2 ^ 31 by omega), o2, v2, nI_clamp (show ev_vx O p < 2 ^ 31 by omega), nI_1]
  exact ⟨i1, ⟨pk_in _ 4110 v1 rfl, ⟨pk_in h 2100 (by omega), nm_e H⟩⟩⟩
theorem yd_bin {post : Int32 → SY → Prop} {n p h : Nat} {O : pm_O} {s : Nat × (Nat → Int32)} (A : yr_A n O yks yvs ysp) (hp : p < n) (hh : h < 2000) (hk : 2 ≤ (O p).1) (hk5 : (O p).1 ≤ 5)
    (H : post (nI (h+1)) (yco, ypl, ysz, yus, yof, yre, ysa, ykd, ybh, yln, yhl, yvl, yks, yog, yvs, ypa, ysp, ytd, ywi, yun, ysd, you, yfr, ylf, yva, ysv, upd ywo h (ev_bin (O p).1 (ywo h) (ywo (h+1))), ysi, ywk, yph)) : wpY_done post (yco, ypl, ysz, yus, yof, yre, ysa, ykd, ybh, yln, yhl, yvl, yks, yog, yvs, ypa, ysp, ytd, ywi, yun, ysd, you, yfr, ylf, yva, ysv, ywo, ysi, ywk, yph) (nI p) (nI (h+2)) := by
  obtain ⟨G, hO, hS⟩ := A
  have h3 := G.1
  have o8 := (G.2.2 p hp).1
  obtain ⟨o1, o2⟩ := hO p hp
  have i1 : vp_in (nI p) 2001 := pk_in p 2001 (by omega)
  have o1' : yks (nI p).toNatClampNeg = nI (O p).1 := by rw [nI_clamp (show p < 2 ^ 31 by omega)]; exact o1
  refine yd_w (by omega) (fun x y hx hy => ?_)
  have ex : x = ywo h := hx (by omega)
  have ey : y = ywo (h+1) := hy (by omega)
  subst ex ey
  have H194 : wY_done_194 post (nI p) (nI (h+2)) (ywo h) (ywo (h+1)) yco ypl ysz yus yof yre ysa ykd ybh yln yhl yvl yks yog yvs ypa ysp ytd ywi yun ysd you yfr ylf yva ysv ywo ysi ywk yph := by
    unfold wY_done_194
    rw [o1', show nI (h+2) - 2 = nI h from pk_sub (b := 2) (by omega), show nI (h+2) - 1 = nI (h+1) from nI_pred (h+1), nI_clamp (show h < 2 ^ 31 by omega)]
    exact ⟨i1, yd_reck hk hk5 ⟨pk_in h 2100 (by omega), nm_e H⟩⟩
  unfold wY_done_34
  refine ⟨i1, nm_r o1' (br_f (nI_pos (by omega)) (pk_lt 8 (O p).1 (fun z => by omega) (fun _ => pk_eq (O p).1 0 (fun e => by omega) (fun n0 => pk_eq (O p).1 1 (fun e => by omega) (fun n1 => pk_eq (O p).1 2 (fun e => H194) (fun n2 => pk_eq (O p).1 3 (fun e => H194) (fun n3 => pk_eq (O p).1 4 (fun e => H194) (fun n4 => pk_eq (O p).1 5 (fun e => H194) (fun n5 => pk_eq (O p).1 6 (fun e => by omega) (fun n6 => pk_eq (O p).1 7 (fun e => by omega) (fun n7 => pk_eq (O p).1 8 (fun e => by omega) (fun n8 => True.intro))))))))))))⟩
theorem yd_if {post : Int32 → SY → Prop} {n p h : Nat} {O : pm_O} {s : Nat × (Nat → Int32)} (A : yr_A n O yks yvs ysp) (hp : p < n) (hh : h < 2000) (hk : (O p).1 = 6)
    (H : post (nI (h+1)) (yco, ypl, ysz, yus, yof, yre, ysa, ykd, ybh, yln, yhl, yvl, yks, yog, yvs, ypa, ysp, ytd, ywi, yun, ysd, you, yfr, ylf, yva, ysv, ywo, ysi, ywk, yph)) : wpY_done post (yco, ypl, ysz, yus, yof, yre, ysa, ykd, ybh, yln, yhl, yvl, yks, yog, yvs, ypa, ysp, ytd, ywi, yun, ysd, you, yfr, ylf, yva, ysv, ywo, ysi, ywk, yph) (nI p) (nI (h+1)) := by
  obtain ⟨G, hO, hS⟩ := A
  have h3 := G.1
  have o8 := (G.2.2 p hp).1
  obtain ⟨o1, o2⟩ := hO p hp
  have i1 : vp_in (nI p) 2001 := pk_in p 2001 (by omega)
  have o1' : yks (nI p).toNatClampNeg = nI (O p).1 := by rw [nI_clamp (show p < 2 ^ 31 by omega)]; exact o1
  refine yd_w (by omega) (fun x y hx hy => ?_)
  unfold wY_done_34
  refine ⟨i1, nm_r o1' (br_f (nI_pos (by omega)) (pk_lt 8 (O p).1 (fun z => by omega) (fun _ => pk_eq (O p).1 0 (fun e => by omega) (fun n0 => pk_eq (O p).1 1 (fun e => by omega) (fun n1 => pk_eq (O p).1 2 (fun e => by omega) (fun n2 => pk_eq (O p).1 3 (fun e => by omega) (fun n3 => pk_eq (O p).1 4 (fun e => by omega) (fun n4 => pk_eq (O p).1 5 (fun e => by omega) (fun n5 => pk_eq (O p).1 6 (fun e => H) (fun n6 => pk_eq (O p).1 7 (fun e => by omega) (fun n7 => pk_eq (O p).1 8 (fun e => by omega) (fun n8 => True.intro))))))))))))⟩
theorem yd_let {post : Int32 → SY → Prop} {n p h : Nat} {O : pm_O} {s : Nat × (Nat → Int32)} (A : yr_A n O yks yvs ysp) (hp : p < n) (hh : h < 2000) (hk : (O p).1 = 7)
    (H : post (nI (h+1)) (yco, ypl, ysz, yus, yof, yre, ysa, ykd, ybh, yln, yhl, yvl, yks, yog, yvs, ypa, ysp, ytd, ywi, yun, ysd, you, yfr, ylf, upd yva (ev_vx O p) (ysv p), ysv, upd ywo h (ywo (h+1)), ysi, ywk, yph)) : wpY_done post (yco, ypl, ysz, yus, yof, yre, ysa, ykd, ybh, yln, yhl, yvl, yks, yog, yvs, ypa, ysp, ytd, ywi, yun, ysd, you, yfr, ylf, yva, ysv, ywo, ysi, ywk, yph) (nI p) (nI (h+2)) := by
  obtain ⟨G, hO, hS⟩ := A
  have h3 := G.1
  have o8 := (G.2.2 p hp).1
  obtain ⟨o1, o2⟩ := hO p hp
  have i1 : vp_in (nI p) 2001 := pk_in p 2001 (by omega)
  have o1' : yks (nI p).toNatClampNeg = nI (O p).1 := by rw [nI_clamp (show p < 2 ^ 31 by omega)]; exact o1
  refine yd_w (by omega) (fun x y hx hy => ?_)
  have ey : y = ywo (h+1) := hy (by omega)
  subst ey
  obtain ⟨v1, v2⟩ := ev_vxE G hp (Or.inr hk)
  unfold wY_done_34
  refine ⟨i1, nm_r o1' (br_f (nI_pos (by omega)) (pk_lt 8 (O p).1 (fun z => by omega) (fun _ => pk_eq (O p).1 0 (fun e => by omega) (fun n0 => pk_eq (O p).1 1 (fun e => by omega) (fun n1 => pk_eq (O p).1 2 (fun e => by omega) (fun n2 => pk_eq (O p).1 3 (fun e => by omega) (fun n3 => pk_eq (O p).1 4 (fun e => by omega) (fun n4 => pk_eq (O p).1 5 (fun e => by omega) (fun n5 => pk_eq (O p).1 6 (fun e => by omega) (fun n6 => pk_eq (O p).1 7 (fun e => ?_) (fun n7 => pk_eq (O p).1 8 (fun e => by omega) (fun n8 => True.intro))))))))))))⟩
  rw [nI_clamp (show p < 2 ^ 31 by omega), o2, v2, nI_clamp (show ev_vx O p < 2 ^ 31 by omega), show nI (h+2) - 2 = nI h from pk_sub (b := 2) (by omega), show nI (h+2) - 1 = nI (h+1) from nI_pred (h+1), nI_clamp (show h < 2 ^ 31 by omega)]
  exact ⟨i1, ⟨i1, ⟨pk_in _ 4110 v1 rfl, nm_e ⟨pk_in h 2100 (by omega), nm_e H⟩⟩⟩⟩
theorem yd_say {post : Int32 → SY → Prop} {n p h : Nat} {O : pm_O} {s : Nat × (Nat → Int32)} (A : yr_A n O yks yvs ysp) (hp : p < n) (hh : h < 2000) (hk : (O p).1 = 8) (hs : s.1 < 100000)
    (H : post (nI (h+1)) (yco, ypl, ysz, yus, yof, yre, nI (ev_say (ywo h) s).1, ykd, ybh, yln, yhl, yvl, yks, yog, yvs, ypa, ysp, ytd, ywi, yun, ysd, you, yfr, ylf, yva, ysv, ywo, (ev_say (ywo h) s).2, ywk, yph)) : wpY_done post (yco, ypl, ysz, yus, yof, yre, nI s.1, ykd, ybh, yln, yhl, yvl, yks, yog, yvs, ypa, ysp, ytd, ywi, yun, ysd, you, yfr, ylf, yva, ysv, ywo, s.2, ywk, yph) (nI p) (nI (h+1)) := by
  obtain ⟨G, hO, hS⟩ := A
  have h3 := G.1
  have o8 := (G.2.2 p hp).1
  obtain ⟨o1, o2⟩ := hO p hp
  have i1 : vp_in (nI p) 2001 := pk_in p 2001 (by omega)
  have o1' : yks (nI p).toNatClampNeg = nI (O p).1 := by rw [nI_clamp (show p < 2 ^ 31 by omega)]; exact o1
  refine yd_w (by omega) (fun x y hx hy => ?_)
  have ey : y = ywo h := hy (by omega)
  subst ey
  unfold ev_say at H
  unfold wY_done_34
  refine ⟨i1, nm_r o1' (br_f (nI_pos (by omega)) (pk_lt 8 (O p).1 (fun z => by omega) (fun _ => pk_eq (O p).1 0 (fun e => by omega) (fun n0 => pk_eq (O p).1 1 (fun e => by omega) (fun n1 => pk_eq (O p).1 2 (fun e => by omega) (fun n2 => pk_eq (O p).1 3 (fun e => by omega) (fun n3 => pk_eq (O p).1 4 (fun e => by omega) (fun n4 => pk_eq (O p).1 5 (fun e => by omega) (fun n5 => pk_eq (O p).1 6 (fun e => by omega) (fun n6 => pk_eq (O p).1 7 (fun e => by omega) (fun n7 => pk_eq (O p).1 8 (fun e => ?_) (fun n8 => True.intro))))))))))))⟩
  unfold wY_done_149
  refine pk_le 20 s.1 (fun z => ?_) (fun z => ?_)
  · rw [if_neg (show ¬ s.1 < 20 by omega)] at H
    exact nm_r (nI_1 _) H
  · rw [if_pos z] at H
    rw [nI_clamp (show s.1 < 2 ^ 31 by omega)]
    exact ⟨pk_in s.1 20 z, nm_e (nm_r (nI_1 _) H)⟩
