/-! working an expansion out, purely -/
def ev_say (w : Int32) (s : Nat × (Nat → Int32)) : Nat × (Nat → Int32) := (s.1 + 1, if s.1 < 20 then upd s.2 s.1 w else s.2)
def ev_bin (k : Nat) (x y : Int32) : Int32 := if k = 2 then x + y else if k = 3 then x - y else if k = 4 then x * y else if x < y then 1 else 0
def ev_vx (O : pm_O) (p : Nat) : Nat := (O p).2.1.toNatClampNeg
def ev_q (O : pm_O) (p : Nat) : Nat := gx_en (pm_ar O) (p+1)
def ev_r (O : pm_O) (p : Nat) : Nat := gx_en (pm_ar O) (ev_q O p)
def ev_go (O : pm_O) : Nat → Nat → (Nat → Int32) → Nat × (Nat → Int32) → Int32 × (Nat × (Nat → Int32))
  | 0, _, _, s => (0, s)
  | t+1, p, E, s =>
    if (O p).1 = 0 then ((O p).2.1, s)
    else if (O p).1 = 1 then (E (ev_vx O p), s)
    else if (O p).1 = 8 then ((ev_go O t (p+1) E s).1, ev_say (ev_go O t (p+1) E s).1 (ev_go O t (p+1) E s).2)
    else if (O p).1 = 6 then
      (if (ev_go O t (p+1) E s).1 = 0 then ev_go O t (ev_r O p) E (ev_go O t (p+1) E s).2 else ev_go O t (ev_q O p) E (ev_go O t (p+1) E s).2)
    else if (O p).1 = 7 then ev_go O t (ev_q O p) (upd E (ev_vx O p) (ev_go O t (p+1) E s).1) (ev_go O t (p+1) E s).2
    else (ev_bin (O p).1 (ev_go O t (p+1) E s).1 (ev_go O t (ev_q O p) E (ev_go O t (p+1) E s).2).1, (ev_go O t (ev_q O p) E (ev_go O t (p+1) E s).2).2)
theorem ev_0 {O : pm_O} {t p : Nat} {E : Nat → Int32} {s : Nat × (Nat → Int32)} (h : (O p).1 = 0) : ev_go O (t+1) p E s = ((O p).2.1, s) := by
  rw [ev_go, if_pos h]
theorem ev_1 {O : pm_O} {t p : Nat} {E : Nat → Int32} {s : Nat × (Nat → Int32)} (h : (O p).1 = 1) : ev_go O (t+1) p E s = (E (ev_vx O p), s) := by
  rw [ev_go, if_neg (by omega), if_pos h]
theorem ev_8 {O : pm_O} {t p : Nat} {E : Nat → Int32} {s : Nat × (Nat → Int32)} (h : (O p).1 = 8) : ev_go O (t+1) p E s = ((ev_go O t (p+1) E s).1, ev_say (ev_go O t (p+1) E s).1 (ev_go O t (p+1) E s).2) := by
  rw [ev_go, if_neg (by omega), if_neg (by omega), if_pos h]
theorem ev_6z {O : pm_O} {t p : Nat} {E : Nat → Int32} {s : Nat × (Nat → Int32)} (h : (O p).1 = 6) (h0 : (ev_go O t (p+1) E s).1 = 0) : ev_go O (t+1) p E s = ev_go O t (ev_r O p) E (ev_go O t (p+1) E s).2 := by
  rw [ev_go, if_neg (by omega), if_neg (by omega), if_neg (by omega), if_pos h, if_pos h0]
theorem ev_6n {O : pm_O} {t p : Nat} {E : Nat → Int32} {s : Nat × (Nat → Int32)} (h : (O p).1 = 6) (h0 : ¬ (ev_go O t (p+1) E s).1 = 0) : ev_go O (t+1) p E s = ev_go O t (ev_q O p) E (ev_go O t (p+1) E s).2 := by
  rw [ev_go, if_neg (by omega), if_neg (by omega), if_neg (by omega), if_pos h, if_neg h0]
theorem ev_7 {O : pm_O} {t p : Nat} {E : Nat → Int32} {s : Nat × (Nat → Int32)} (h : (O p).1 = 7) : ev_go O (t+1) p E s = ev_go O t (ev_q O p) (upd E (ev_vx O p) (ev_go O t (p+1) E s).1) (ev_go O t (p+1) E s).2 := by
  rw [ev_go, if_neg (by omega), if_neg (by omega), if_neg (by omega), if_neg (by omega), if_pos h]
theorem ev_b {O : pm_O} {t p : Nat} {E : Nat → Int32} {s : Nat × (Nat → Int32)} (h : 2 ≤ (O p).1 ∧ (O p).1 ≤ 5) : ev_go O (t+1) p E s =
    (ev_bin (O p).1 (ev_go O t (p+1) E s).1 (ev_go O t (ev_q O p) E (ev_go O t (p+1) E s).2).1, (ev_go O t (ev_q O p) E (ev_go O t (p+1) E s).2).2) := by
  rw [ev_go, if_neg (by omega), if_neg (by omega), if_neg (by omega), if_neg (by omega), if_neg (by omega)]
/-! the operands, one by one -/
theorem tr_ar0 {O : pm_O} {p : Nat} (h : (O p).1 = 0 ∨ (O p).1 = 1) : pm_ar O p = 0 := by
  unfold pm_ar
  rcases h with h | h <;> rw [h] <;> rfl
theorem tr_ar1 {O : pm_O} {p : Nat} (h : (O p).1 = 8) : pm_ar O p = 1 := by
  unfold pm_ar
  rw [h]; rfl
theorem tr_ar3 {O : pm_O} {p : Nat} (h : (O p).1 = 6) : pm_ar O p = 3 := by
  unfold pm_ar
  rw [h]; rfl
theorem tr_ar2 {O : pm_O} {p : Nat} (h : (2 ≤ (O p).1 ∧ (O p).1 ≤ 5) ∨ (O p).1 = 7) : pm_ar O p = 2 := by
  unfold pm_ar tx_a
  rw [if_neg (by omega), if_neg (by omega), if_neg (by omega), if_pos h]
theorem tr_k1 {n : Nat} {O : pm_O} (h : tr_G n O) {p : Nat} (hp : p < n) (ha : 1 ≤ pm_ar O p) : p + 1 < n ∧ (O (p+1)).2.2.2 = p + 1 := by
  obtain ⟨R, dj, e1, e2, e3, e4, e5, e6, e7⟩ := tr_ch h hp (j := 0) (by omega)
  have e : dj = 0 := by
    rw [gx_op] at e2
    omega
  subst e
  exact e7 (by omega)
theorem tr_k2 {n : Nat} {O : pm_O} (h : tr_G n O) {p : Nat} (hp : p < n) (ha : 2 ≤ pm_ar O p) :
    ev_q O p < n ∧ (O (ev_q O p)).2.2.2 = p + 1 ∧ ev_q O p = p + 1 + tr_sp (pm_ar O) (p+1) ∧ p + 1 < ev_q O p := by
  obtain ⟨k1, k2⟩ := tr_k1 h hp (by omega)
  obtain ⟨s1, s2, s3, s4⟩ := tr_spE h k1
  obtain ⟨R, dj, e1, e2, e3, e4, e5, e6, e7⟩ := tr_ch h hp (j := 1) (by omega)
  have e : ev_q O p = p + 1 + dj := e2
  have e8 := e7 (by omega)
  rw [← e] at e8
  have e9 : ev_q O p = p + 1 + tr_sp (pm_ar O) (p+1) := s4
  exact ⟨e8.1, e8.2, e9, by omega⟩
theorem tr_k3 {n : Nat} {O : pm_O} (h : tr_G n O) {p : Nat} (hp : p < n) (ha : 3 ≤ pm_ar O p) :
    ev_r O p < n ∧ (O (ev_r O p)).2.2.2 = p + 1 ∧ ev_r O p = ev_q O p + tr_sp (pm_ar O) (ev_q O p) ∧ ev_q O p < ev_r O p := by
  obtain ⟨k1, k2, k3, k4⟩ := tr_k2 h hp (by omega)
  obtain ⟨s1, s2, s3, s4⟩ := tr_spE h k1
  obtain ⟨R, dj, e1, e2, e3, e4, e5, e6, e7⟩ := tr_ch h hp (j := 2) (by omega)
  have e : ev_r O p = p + 1 + dj := e2
  have e8 := e7 (by omega)
  rw [← e] at e8
  have e9 : ev_r O p = ev_q O p + tr_sp (pm_ar O) (ev_q O p) := s4
  exact ⟨e8.1, e8.2, e9, by omega⟩
theorem tr_lastE {n : Nat} {O : pm_O} (h : tr_G n O) {p : Nat} (hp : p < n) : gx_op (pm_ar O) (p+1) (pm_ar O p) = p + tr_sp (pm_ar O) p := by
  obtain ⟨R, dj, e1, e2, e3, e4, e5, e6, e7⟩ := tr_ch h hp (j := pm_ar O p) (Nat.le_refl _)
  rw [Nat.sub_self] at e5
  have e := gx_det _ _ _ _ _ e5 (gx_00 _ _)
  rw [e2]; omega
theorem tr_l0 {n : Nat} {O : pm_O} (h : tr_G n O) {p : Nat} (hp : p < n) (ha : pm_ar O p = 0) : tr_sp (pm_ar O) p = 1 := by
  have := tr_lastE h hp
  rw [ha, gx_op] at this
  omega
theorem tr_l1 {n : Nat} {O : pm_O} (h : tr_G n O) {p : Nat} (hp : p < n) (ha : pm_ar O p = 1) : p + 1 + tr_sp (pm_ar O) (p+1) = p + tr_sp (pm_ar O) p := by
  obtain ⟨k1, k2⟩ := tr_k1 h hp (by omega)
  obtain ⟨s1, s2, s3, s4⟩ := tr_spE h k1
  have e := tr_lastE h hp
  rw [ha] at e
  have e2 : gx_op (pm_ar O) (p+1) 1 = gx_en (pm_ar O) (p+1) := rfl
  omega
theorem tr_l2 {n : Nat} {O : pm_O} (h : tr_G n O) {p : Nat} (hp : p < n) (ha : pm_ar O p = 2) : ev_q O p + tr_sp (pm_ar O) (ev_q O p) = p + tr_sp (pm_ar O) p := by
  obtain ⟨k1, k2, k3, k4⟩ := tr_k2 h hp (by omega)
  obtain ⟨s1, s2, s3, s4⟩ := tr_spE h k1
  have e := tr_lastE h hp
  rw [ha] at e
  have e2 : gx_op (pm_ar O) (p+1) 2 = gx_en (pm_ar O) (ev_q O p) := rfl
  omega
theorem tr_l3 {n : Nat} {O : pm_O} (h : tr_G n O) {p : Nat} (hp : p < n) (ha : pm_ar O p = 3) : ev_r O p + tr_sp (pm_ar O) (ev_r O p) = p + tr_sp (pm_ar O) p := by
  obtain ⟨k1, k2, k3, k4⟩ := tr_k3 h hp (by omega)
  obtain ⟨s1, s2, s3, s4⟩ := tr_spE h k1
  have e := tr_lastE h hp
  rw [ha] at e
  have e2 : gx_op (pm_ar O) (p+1) 3 = gx_en (pm_ar O) (ev_r O p) := rfl
  omega
theorem tr_kinds {n : Nat} {O : pm_O} (h : tr_G n O) {p : Nat} (hp : p < n) :
    (O p).1 = 0 ∨ (O p).1 = 1 ∨ (2 ≤ (O p).1 ∧ (O p).1 ≤ 5) ∨ (O p).1 = 6 ∨ (O p).1 = 7 ∨ (O p).1 = 8 := by
  have := (h.2.2 p hp).1
  omega
theorem ev_cnt {n : Nat} {O : pm_O} (h : tr_G n O) : ∀ (t p : Nat) (E : Nat → Int32) (s : Nat × (Nat → Int32)), p < n → tr_sp (pm_ar O) p ≤ t → (ev_go O t p E s).2.1 ≤ s.1 + tr_sp (pm_ar O) p
  | 0, p, E, s, _, _ => Nat.le_add_right _ _
  | t+1, p, E, s, hp, ht => by
    rcases tr_kinds h hp with hk | hk | hk | hk | hk | hk
    · rw [ev_0 hk]; exact Nat.le_add_right _ _
    · rw [ev_1 hk]; exact Nat.le_add_right _ _
    · have ha := tr_ar2 (Or.inl hk)
      obtain ⟨k1, k2⟩ := tr_k1 h hp (by omega)
      obtain ⟨q1, q2, q3, q4⟩ := tr_k2 h hp (by omega)
      have l := tr_l2 h hp ha
      have i1 := ev_cnt h t (p+1) E s k1 (by omega)
      have i2 := ev_cnt h t (ev_q O p) E (ev_go O t (p+1) E s).2 q1 (by omega)
      rw [ev_b hk]
      dsimp only
      omega
    · have ha := tr_ar3 hk
      obtain ⟨k1, k2⟩ := tr_k1 h hp (by omega)
      obtain ⟨q1, q2, q3, q4⟩ := tr_k2 h hp (by omega)
      obtain ⟨r1, r2, r3, r4⟩ := tr_k3 h hp (by omega)
      have l := tr_l3 h hp ha
      have i1 := ev_cnt h t (p+1) E s k1 (by omega)
      by_cases h0 : (ev_go O t (p+1) E s).1 = 0
      · have i2 := ev_cnt h t (ev_r O p) E (ev_go O t (p+1) E s).2 r1 (by omega)
        rw [ev_6z hk h0]
        omega
      · have i2 := ev_cnt h t (ev_q O p) E (ev_go O t (p+1) E s).2 q1 (by omega)
        rw [ev_6n hk h0]
        omega
    · have ha := tr_ar2 (Or.inr hk)
      obtain ⟨k1, k2⟩ := tr_k1 h hp (by omega)
      obtain ⟨q1, q2, q3, q4⟩ := tr_k2 h hp (by omega)
      have l := tr_l2 h hp ha
      have i1 := ev_cnt h t (p+1) E s k1 (by omega)
      have i2 := ev_cnt h t (ev_q O p) (upd E (ev_vx O p) (ev_go O t (p+1) E s).1) (ev_go O t (p+1) E s).2 q1 (by omega)
      rw [ev_7 hk]
      omega
    · have ha := tr_ar1 hk
      obtain ⟨k1, k2⟩ := tr_k1 h hp (by omega)
      have l := tr_l1 h hp ha
      have i1 := ev_cnt h t (p+1) E s k1 (by omega)
      rw [ev_8 hk]
      unfold ev_say
      dsimp only
      omega
/-! a variable, by going up -/
def ev_wk (O : pm_O) (E0 W : Nat → Int32) : Nat → Nat → Nat → Int32
  | 0, _, v => E0 v
  | t+1, b, v => if (O b).2.2.2 = 0 then E0 v
    else if (O ((O b).2.2.2 - 1)).1 = 7 ∧ ev_vx O ((O b).2.2.2 - 1) = v ∧ b ≠ (O b).2.2.2 then W (O b).2.2.2
    else ev_wk O E0 W t ((O b).2.2.2 - 1) v
def ev_en (O : pm_O) (E0 W : Nat → Int32) (p : Nat) (E : Nat → Int32) : Prop := ∀ t v, p ≤ t → v < 4110 → ev_wk O E0 W t p v = E v
theorem ev_en0 {n : Nat} {O : pm_O} (h : tr_G n O) (E0 W : Nat → Int32) : ev_en O E0 W 0 E0 := by
  intro t v _ _
  cases t with
  | zero => rfl
  | succ t =>
    obtain ⟨R, e⟩ := (h.2.2 0 (tr_n0 h)).2.2.2
    rw [tr_pd] at e
    have e1 : (O 0).2.2.2 = 0 := (List.cons.inj e).1.symm
    rw [ev_wk, if_pos e1]
theorem ev_enA {O : pm_O} {E0 W E : Nat → Int32} {p c : Nat} (h : ev_en O E0 W p E) (hc : (O c).2.2.2 = p + 1) (hp : p < c) (h7 : (O p).1 ≠ 7 ∨ c = p + 1) : ev_en O E0 W c E := by
  intro t v ht hv
  cases t with
  | zero => omega
  | succ t =>
    rw [ev_wk, hc, if_neg (by omega), Nat.add_sub_cancel, if_neg (by omega)]
    exact h t v (by omega) hv
theorem ev_enB {O : pm_O} {E0 W E : Nat → Int32} {p c : Nat} (h : ev_en O E0 W p E) (hc : (O c).2.2.2 = p + 1) (hp : p < c) (h7 : (O p).1 = 7) (hne : c ≠ p + 1) : ev_en O E0 W c (upd E (ev_vx O p) (W (p+1))) := by
  intro t v ht hv
  cases t with
  | zero => omega
  | succ t =>
    rw [ev_wk, hc, if_neg (by omega), Nat.add_sub_cancel]
    unfold upd
    by_cases e : ev_vx O p = v
    · rw [if_pos ⟨h7, e, hne⟩, if_pos e.symm]
    · rw [if_neg (fun z => e z.2.1), if_neg (fun z => e z.symm)]
      exact h t v (by omega) hv
theorem ev_wkW {n : Nat} {O : pm_O} (h : tr_G n O) {E0 W W' : Nat → Int32} : ∀ (t b v : Nat), b < n → (∀ j, j < b → W' j = W j) → ev_wk O E0 W' t b v = ev_wk O E0 W t b v
  | 0, _, _, _, _ => rfl
  | t+1, b, v, hb, hw => by
    obtain ⟨R, e⟩ := (h.2.2 b hb).2.2.2
    have h1 : (O b).2.2.2 ≤ b := tr_pdB (pm_ar O) b _ (by rw [e]; exact List.mem_cons_self)
    rw [ev_wk, ev_wk]
    by_cases h0 : (O b).2.2.2 = 0
    · rw [if_pos h0, if_pos h0]
    · rw [if_neg h0, if_neg h0]
      by_cases h2 : (O ((O b).2.2.2 - 1)).1 = 7 ∧ ev_vx O ((O b).2.2.2 - 1) = v ∧ b ≠ (O b).2.2.2
      · rw [if_pos h2, if_pos h2]
        exact hw _ (by omega)
      · rw [if_neg h2, if_neg h2]
        exact ev_wkW h t _ v (by omega) (fun j hj => hw j (by omega))
theorem ev_enW {n : Nat} {O : pm_O} (h : tr_G n O) {E0 W W' E : Nat → Int32} {p : Nat} (hp : p < n) (he : ev_en O E0 W p E) (hw : ∀ j, j < p → W' j = W j) : ev_en O E0 W' p E := by
  intro t v ht hv
  rw [ev_wkW h t p v hp hw]
  exact he t v ht hv
