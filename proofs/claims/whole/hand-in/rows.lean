section
/-! rows pasted from kit/rows, then small helpers -/
theorem pk_us {f : Nat → Int32} {k : Nat} {x : Int32} : upd f k x k = x := if_pos rfl
theorem pk_un {f : Nat → Int32} {k j : Nat} {x : Int32} (h : j ≠ k) : upd f k x j = f j := if_neg h
theorem pk_sub {a b : Nat} (h : b ≤ a) : nI a - nI b = nI (a - b) := by
  obtain ⟨c, rfl⟩ : ∃ c, a = c + b := ⟨a - b, by omega⟩
  rw [← nI_add, Int32.add_sub_cancel, Nat.add_sub_cancel]
theorem pk_m1 (n : Nat) : nI (n + 1) + (-1) = nI n := by
  rw [← nI_1, Int32.add_assoc, show (1 : Int32) + (-1) = 0 from rfl, Int32.add_zero]
theorem pk_mul (a b : Nat) : nI a * nI b = nI (a * b) := (Int32.ofNat_mul a b).symm
theorem pk_div {a d : Nat} (ha : a < 2 ^ 31) (h0 : 0 < d) (hd : d < 2 ^ 31) : nI a / nI d = nI (a / d) := by
  apply Int32.toInt_inj.mp
  rw [lg_idiv_nonneg (by rw [nI_toInt ha]; omega) (by rw [nI_toInt hd]; omega), nI_toInt ha, nI_toInt hd, nI_toInt (Nat.lt_of_le_of_lt (Nat.div_le_self a d) ha)]
  first | rfl | exact (Int.natCast_ediv _ _).symm
theorem pk_rem {a d : Nat} (ha : a < 2 ^ 31) (h0 : 0 < d) (hd : d < 2 ^ 31) : nI a - nI a / nI d * nI d = nI (a % d) := by
  rw [pk_div ha h0 hd, pk_mul, pk_sub (Nat.div_mul_le_self a d)]
  exact congrArg nI (by have := Nat.div_add_mod' a d; omega)
theorem pk_sub_toInt {a b : Nat} (ha : a < 2 ^ 30) (hb : b < 2 ^ 30) : (nI a - nI b).toInt = (a : Int) - b := by
  rw [Int32.toInt_sub, nI_toInt (by omega), nI_toInt (by omega)]
  exact Int.bmod_eq_of_le (by omega) (by omega)
theorem pk_sneg {a b : Nat} (hb : b < 2 ^ 30) (h : a < b) : nI a - nI b < 0 := by
  rw [Int32.lt_iff_toInt_lt, pk_sub_toInt (by omega) hb, show (0 : Int32).toInt = 0 from by decide]
  omega
theorem pk_ix (x : Int32) {n : Nat} (hn : n < 2 ^ 31) : x < 0 ∨ nI n ≤ x ∨ ∃ j : Nat, j < n ∧ x = nI j := by
  by_cases h : x < 0
  · exact Or.inl h
  · obtain ⟨j, hj, rfl⟩ := nI_of h
    by_cases h2 : j < n
    · exact Or.inr (Or.inr ⟨j, h2, rfl⟩)
    · exact Or.inr (Or.inl (nI_le (by omega) hj))
theorem pk_le {x y : Int32} {A B : Prop} (a b : Nat) (f : a ≤ b → A) (g : b < a → B) (hx : x = nI a := by rfl) (hy : y = nI b := by rfl) (ha : a < 2 ^ 31 := by omega) (hb : b < 2 ^ 31 := by omega) : (x ≤ y → A) ∧ (¬ x ≤ y → B) := by
  subst hx hy
  rw [nI_leI ha hb]
  exact ⟨f, fun z => g (by omega)⟩
theorem pk_lt {x y : Int32} {A B : Prop} (a b : Nat) (f : a < b → A) (g : b ≤ a → B) (hx : x = nI a := by rfl) (hy : y = nI b := by rfl) (ha : a < 2 ^ 31 := by omega) (hb : b < 2 ^ 31 := by omega) : (x < y → A) ∧ (¬ x < y → B) := by
  subst hx hy
  rw [nI_ltI ha hb]
  exact ⟨f, fun z => g (by omega)⟩
theorem pk_eq {x y : Int32} {A B : Prop} (a b : Nat) (f : a = b → A) (g : a ≠ b → B) (hx : x = nI a := by rfl) (hy : y = nI b := by rfl) (ha : a < 2 ^ 31 := by omega) (hb : b < 2 ^ 31 := by omega) : (x = y → A) ∧ (¬ x = y → B) := by
  subst hx hy
  rw [nI_eq ha hb]
  exact ⟨f, g⟩
theorem pk_in {x : Int32} (n N : Nat) (h : n < N) (hx : x = nI n := by rfl) (hN : N < 2 ^ 31 := by omega) : vp_in x N := by
  subst hx
  exact vp_in_nI h hN
theorem pk_cl {x : Int32} (n : Nat) (hx : x = nI n := by rfl) (h : n < 2 ^ 31 := by omega) : x.toNatClampNeg = n := by
  subst hx
  exact nI_clamp h
theorem pk_nb (z : Int32) : narrow .byte (.int z.toInt8.toInt32) = .int z.toInt8.toInt32 := congrArg Value.int (by simp)
theorem pk_ns (z : Int32) : narrow .short (.int z.toInt16.toInt32) = .int z.toInt16.toInt32 := congrArg Value.int (by simp)
theorem pk_fb (r : Int32) : fits .byte (.int r.toInt8.toInt32) = true := by
  have ⟨a, b⟩ := lg_i2b_range r
  have h1 : (-128 : Int32).toInt = -128 := by decide
  have h2 : (127 : Int32).toInt = 127 := by decide
  simp only [fits, Bool.and_eq_true, decide_eq_true_eq, Int32.le_iff_toInt_le, h1, h2]
  omega
theorem pk_fs (r : Int32) : fits .short (.int r.toInt16.toInt32) = true := by
  have ⟨a, b⟩ := lg_i2s_range r
  have h1 : (-32768 : Int32).toInt = -32768 := by decide
  have h2 : (32767 : Int32).toInt = 32767 := by decide
  simp only [fits, Bool.and_eq_true, decide_eq_true_eq, Int32.le_iff_toInt_le, h1, h2]
  omega
theorem pk_vb (z : Int32) : vp_nar .byte z.toInt8.toInt32 = z.toInt8.toInt32 := by rw [vp_nar_byte]; simp
theorem pk_vs (z : Int32) : vp_nar .short z.toInt16.toInt32 = z.toInt16.toInt32 := by rw [vp_nar_short]; simp
/-! small types, and numbers from -1 on: ys_i a is a - 1 -/
theorem nu_8 {n : Nat} (h : n < 128) : (nI n).toInt8.toInt32 = nI n :=
  lg_i2b_small (by rw [nI_toInt (by omega)]; omega) (by rw [nI_toInt (by omega)]; omega)
theorem nu_16 {n : Nat} (h : n < 32768) : (nI n).toInt16.toInt32 = nI n :=
  lg_i2s_small (by rw [nI_toInt (by omega)]; omega) (by rw [nI_toInt (by omega)]; omega)
theorem nu_v8 {n : Nat} (h : n < 128) : vp_nar .byte (nI n) = nI n := by rw [vp_nar_byte, nu_8 h]
theorem nu_v16 {n : Nat} (h : n < 32768) : vp_nar .short (nI n) = nI n := by rw [vp_nar_short, nu_16 h]
def ys_i (a : Nat) : Int32 := if a = 0 then -1 else nI (a - 1)
theorem ys_i0 : ys_i 0 = -1 := rfl
theorem ys_iS (a : Nat) : ys_i (a+1) = nI a := rfl
theorem ys_iP {a : Nat} (h : 0 < a) : ys_i a = nI (a - 1) := if_neg (by omega)
theorem ys_iN {a : Nat} (h : a < 2 ^ 31) : ys_i a < 0 ↔ a = 0 := by
  cases a with
  | zero => exact ⟨fun _ => rfl, fun _ => by decide⟩
  | succ a =>
    rw [ys_iS]
    exact ⟨fun z => absurd z (nI_pos (by omega)), fun z => by omega⟩
theorem ys_i16 {a : Nat} (h : a < 32768) : (ys_i a).toInt16.toInt32 = ys_i a := by
  cases a with
  | zero => decide
  | succ a => rw [ys_iS]; exact nu_16 (by omega)
theorem ys_v16 {a : Nat} (h : a < 32768) : vp_nar .short (ys_i a) = ys_i a := by rw [vp_nar_short, ys_i16 h]
theorem ys_iJ {a b : Nat} (ha : a < 2 ^ 31) (hb : b < 2 ^ 31) : ys_i a = ys_i b ↔ a = b := by
  constructor
  · intro h
    have h1 := ys_iN ha
    have h2 := ys_iN hb
    rw [h] at h1
    cases a with
    | zero => exact (h2.mp (h1.mpr rfl)).symm
    | succ a =>
      cases b with
      | zero => exact h1.mp (h2.mpr rfl)
      | succ b =>
        rw [ys_iS, ys_iS, nI_eq (by omega) (by omega)] at h
        omega
  · intro h; rw [h]
end
section
/-! expressions in Polish order over a sequence of arities: gx_ok ar d c p: from p, with c expressions still to come, exactly d tokens close them all -/
def gx_ok (ar : Nat → Nat) : Nat → Nat → Nat → Prop
  | 0, c, _ => c = 0
  | d+1, c, p => 0 < c ∧ gx_ok ar d (c - 1 + ar p) (p+1)
theorem gx_z (ar : Nat → Nat) (c p : Nat) : gx_ok ar 0 c p ↔ c = 0 := Iff.rfl
theorem gx_s (ar : Nat → Nat) (d c p : Nat) : gx_ok ar (d+1) c p ↔ (0 < c ∧ gx_ok ar d (c - 1 + ar p) (p+1)) := Iff.rfl
theorem gx_00 (ar : Nat → Nat) (p : Nat) : gx_ok ar 0 0 p := (gx_z ar 0 p).mpr rfl
theorem gx_det (ar : Nat → Nat) : ∀ (d d' c p : Nat), gx_ok ar d c p → gx_ok ar d' c p → d = d'
  | 0, 0, _, _, _, _ => rfl
  | 0, _+1, c, _, h, h' => by
      have h1 : c = 0 := h
      have h2 : 0 < c := h'.1
      omega
  | _+1, 0, c, _, h, h' => by
      have h1 : c = 0 := h'
      have h2 : 0 < c := h.1
      omega
  | d+1, d'+1, c, p, h, h' => by
      have := gx_det ar d d' _ _ h.2 h'.2
      omega
theorem gx_join (ar : Nat → Nat) : ∀ (d1 d2 a b p : Nat), gx_ok ar d1 a p → gx_ok ar d2 b (p + d1) → gx_ok ar (d1 + d2) (a + b) p
  | 0, d2, a, b, p, h1, h2 => by
      have h0 : a = 0 := h1
      subst h0
      rw [Nat.zero_add, Nat.zero_add]; exact h2
  | d1+1, d2, a, b, p, h1, h2 => by
      have e : d1 + 1 + d2 = (d1 + d2) + 1 := by omega
      rw [e, gx_s]
      have h0 := h1.1
      refine ⟨by omega, ?_⟩
      have e2 : p + 1 + d1 = p + (d1+1) := by omega
      have h3 := gx_join ar d1 d2 (a - 1 + ar p) b (p+1) h1.2 (by rw [e2]; exact h2)
      have e3 : a + b - 1 + ar p = a - 1 + ar p + b := by omega
      rw [e3]; exact h3
theorem gx_split (ar : Nat → Nat) : ∀ (d a b p : Nat), gx_ok ar d (a + b) p → ∃ d1 d2, d = d1 + d2 ∧ gx_ok ar d1 a p ∧ gx_ok ar d2 b (p + d1)
  | 0, a, b, p, h => by
      have h0 : a + b = 0 := h
      exact ⟨0, 0, rfl, (gx_z ar a p).mpr (by omega), (gx_z ar b _).mpr (by omega)⟩
  | d+1, a, b, p, h => by
     rcases Nat.eq_zero_or_pos a with ha | ha
     · subst ha
       rw [Nat.zero_add] at h
       exact ⟨0, d+1, by omega, gx_00 ar p, h⟩
     · have e : a + b - 1 + ar p = (a - 1 + ar p) + b := by omega
       have h2 := h.2
       rw [e] at h2
       obtain ⟨d1, d2, e1, h3, h4⟩ := gx_split ar d _ _ _ h2
       refine ⟨d1+1, d2, by omega, ⟨ha, h3⟩, ?_⟩
       have e2 : p + (d1 + 1) = p + 1 + d1 := by omega
       rw [e2]; exact h4
theorem gx_pos {ar : Nat → Nat} {d c p : Nat} (h : gx_ok ar d (c+1) p) : 0 < d := by
  cases d with
  | zero => exact absurd ((gx_z ar _ _).mp h) (by omega)
  | succ d => omega
theorem gx_congr (ar ar' : Nat → Nat) : ∀ (d c p p' : Nat), (∀ i, i < d → ar' (p' + i) = ar (p + i)) → gx_ok ar d c p → gx_ok ar' d c p'
  | 0, _, _, _, _, h => h
  | d+1, c, p, p', e, h => by
     have e0 := e 0 (by omega)
     rw [Nat.add_zero, Nat.add_zero] at e0
     rw [gx_s, e0]
     refine ⟨h.1, gx_congr ar ar' d _ (p+1) (p'+1) ?_ h.2⟩
     intro i hi
     have h5 := e (i+1) (by omega)
     have e1 : p' + 1 + i = p' + (i+1) := by omega
     have e2 : p + 1 + i = p + (i+1) := by omega
     rw [e1, e2]; exact h5
/-- at each place inside there begins an expression, and it ends inside -/
theorem gx_sub (ar : Nat → Nat) : ∀ (D c p j : Nat), gx_ok ar D c p → j < D → ∃ d, gx_ok ar d 1 (p + j) ∧ j + d ≤ D
  | 0, _, _, _, _, hj => absurd hj (by omega)
  | D+1, c, p, 0, h, _ => by
     have h0 := h.1
     have e : c = 1 + (c - 1) := by omega
     rw [e] at h
     obtain ⟨d1, d2, e1, h3, _⟩ := gx_split ar _ _ _ _ h
     exact ⟨d1, h3, by omega⟩
  | D+1, c, p, j+1, h, hj => by
     obtain ⟨d, h1, h2⟩ := gx_sub ar D _ (p+1) j h.2 (by omega)
     have e : p + 1 + j = p + (j+1) := by omega
     rw [e] at h1
     exact ⟨d, h1, by omega⟩
def gx_sk (ar : Nat → Nat) : Nat → Nat → Nat → Nat
  | 0, _, p => p
  | _+1, 0, p => p
  | f+1, c+1, p => gx_sk ar f (c + ar p) (p+1)
theorem gx_skE (ar : Nat → Nat) : ∀ (d f c p : Nat), gx_ok ar d c p → d ≤ f → gx_sk ar f c p = p + d
  | 0, f, c, p, h, _ => by
     have h0 : c = 0 := h
     subst h0
     cases f <;> rfl
  | d+1, f, c, p, h, hf => by
     have h0 := h.1
     obtain ⟨c', rfl⟩ : ∃ c', c = c' + 1 := ⟨c - 1, by omega⟩
     obtain ⟨f', rfl⟩ : ∃ f', f = f' + 1 := ⟨f - 1, by omega⟩
     have h2 := h.2
     rw [Nat.add_sub_cancel] at h2
     have h3 := gx_skE ar d f' (c' + ar p) (p+1) h2 (by omega)
     show gx_sk ar f' (c' + ar p) (p+1) = p + (d+1)
     rw [h3]; omega
/-- the place behind the expression at p -/
def gx_en (ar : Nat → Nat) (p : Nat) : Nat := gx_sk ar 2500 1 p
theorem gx_enE {ar : Nat → Nat} {d p : Nat} (h : gx_ok ar d 1 p) (hd : d ≤ 2500) : gx_en ar p = p + d := gx_skE ar d 2500 1 p h hd
/-- the k-th expression from p on -/
def gx_op (ar : Nat → Nat) (p : Nat) : Nat → Nat
  | 0 => p
  | k+1 => gx_en ar (gx_op ar p k)
theorem gx_opE (ar : Nat → Nat) (p : Nat) : ∀ (k d c : Nat), gx_ok ar d c p → d ≤ 2500 → k ≤ c → ∃ dk, gx_op ar p k = p + dk ∧ dk ≤ d ∧ gx_ok ar dk k p ∧ gx_ok ar (d - dk) (c - k) (p + dk)
  | 0, d, c, h, _, _ => ⟨0, rfl, by omega, gx_00 ar p, h⟩
  | k+1, d, c, h, hd, hk => by
     obtain ⟨dk, e1, h1, h2, h3⟩ := gx_opE ar p k d c h hd (by omega)
     have e : c - k = 1 + (c - (k+1)) := by omega
     rw [e] at h3
     obtain ⟨d1, d2, e2, h4, h5⟩ := gx_split ar _ _ _ _ h3
     refine ⟨dk + d1, ?_, by omega, gx_join ar dk d1 k 1 p h2 h4, ?_⟩
     · show gx_en ar (gx_op ar p k) = _
       rw [e1, gx_enE h4 (by omega)]; omega
     · have e3 : d - (dk + d1) = d2 := by omega
       have e4 : p + (dk + d1) = p + dk + d1 := by omega
       rw [e3, e4]; exact h5
/-- g 0, .., g (m-1) put on a stack -/
def gx_push {α : Type} (g : Nat → α) : Nat → List α → List α
  | 0, st => st
  | m+1, st => gx_push g m (g m :: st)
theorem gx_push_len {α : Type} (g : Nat → α) : ∀ (m : Nat) (st : List α), (gx_push g m st).length = m + st.length
  | 0, st => (Nat.zero_add _).symm
  | m+1, st => by
     show (gx_push g m (g m :: st)).length = _
     rw [gx_push_len g m, List.length_cons]; omega
theorem gx_push_all {α : Type} (g : Nat → α) (P : α → Prop) : ∀ (m : Nat) (st : List α), (∀ o, o < m → P (g o)) → (∀ x, x ∈ st → P x) → ∀ x, x ∈ gx_push g m st → P x
  | 0, _, _, h => h
  | m+1, st, hg, h => gx_push_all g P m (g m :: st) (fun o ho => hg o (by omega)) (fun x hx => by
      rcases List.mem_cons.mp hx with rfl | hx
      · exact hg m (by omega)
      · exact h x hx)
theorem gx_push_map {α β : Type} (g : Nat → α) (f : α → β) (b : β) (hf : ∀ o, f (g o) = b) : ∀ (m : Nat) (st : List α), (gx_push g m st).map f = List.replicate m b ++ st.map f
  | 0, _ => rfl
  | m+1, st => by
     show (gx_push g m (g m :: st)).map f = _
     rw [gx_push_map g f b hf m, List.map_cons, hf, List.replicate_succ', List.append_assoc]
     rfl
theorem gx_push_sum {α : Type} (g : Nat → α) (w : α → Nat) (b : Nat) (hf : ∀ o, w (g o) = b) : ∀ (m : Nat) (st : List α), ((gx_push g m st).map w).sum = m * b + (st.map w).sum
  | 0, st => by show (st.map w).sum = _; omega
  | m+1, st => by
     show ((gx_push g m (g m :: st)).map w).sum = _
     rw [gx_push_sum g w b hf m, List.map_cons, hf, List.sum_cons, Nat.add_mul]; omega
end
section
/-! the written text, purely: kinds K, values V, holes Hn of the concepts, lengths Len of the rows (0..5 templates, 6..9 sources, 10 the draft; row r begins at 24 r), nc concepts -/
def tx_a (Hn : Nat → Nat) (k : Nat) : Nat :=
  if 16 ≤ k then Hn (k - 16) else if k = 6 then 3 else if k = 8 then 1 else if (2 ≤ k ∧ k ≤ 5) ∨ k = 7 then 2 else 0
theorem tx_a3 (Hn : Nat → Nat) {k : Nat} (h : k < 16) : tx_a Hn k ≤ 3 := by
  unfold tx_a
  rw [if_neg (by omega)]
  split
  · omega
  · split
    · omega
    · split <;> omega
theorem tx_aI (Hn Hn' : Nat → Nat) {k : Nat} (h : k < 16) : tx_a Hn k = tx_a Hn' k := by
  unfold tx_a
  have h' : ¬ 16 ≤ k := by omega
  rw [if_neg h', if_neg h']
theorem tx_aU (Hn : Nat → Nat) {k : Nat} (h : 16 ≤ k) : tx_a Hn k = Hn (k - 16) := if_pos h
theorem tx_a9 (Hn : Nat → Nat) {k : Nat} (h : k = 9 ∨ k = 10) : tx_a Hn k = 0 := by
  rcases h with rfl | rfl <;> rfl
def tx_row (nc r : Nat) : Prop := r < nc ∨ (6 ≤ r ∧ r < 10)
def tx_lim (nc r : Nat) : Nat := if r < 6 then r else nc
def tx_pos (Len : Nat → Nat) (nc r i : Nat) : Prop := tx_row nc r ∧ 24 * r ≤ i ∧ i < 24 * r + Len r
def tx_tok (K : Nat → Nat) (V : Nat → Int32) (Hn : Nat → Nat) (nc r i : Nat) : Prop :=
  (K i ≤ 8 ∨ (r < 6 ∧ (K i = 9 ∨ K i = 10)) ∨ (16 ≤ K i ∧ K i < 16 + tx_lim nc r)) ∧
  (K i = 9 → ∃ h, h < Hn r ∧ V i = nI h) ∧
  ((K i = 1 ∨ K i = 7) → (∃ w, w < 10 ∧ V i = nI w) ∨ (r < 6 ∧ (V i = -1 ∨ V i = -2))) ∧
  ((2 ≤ K i ∧ K i ≤ 6) ∨ K i = 8 ∨ K i = 10 → V i = 0)
def tx_WF (K : Nat → Nat) (V : Nat → Int32) (Hn Len : Nat → Nat) (nc : Nat) : Prop :=
  nc ≤ 6 ∧ ∀ r, tx_row nc r → Len r ≤ 24 ∧ (r < 6 → 0 < Len r ∧ Len r ≤ 12 ∧ Hn r ≤ 3) ∧
    (0 < Len r → gx_ok (fun i => tx_a Hn (K i)) (Len r) 1 (24 * r)) ∧
    (∀ i, 24 * r ≤ i → i < 24 * r + Len r → tx_tok K V Hn nc r i)
theorem tx_expr {K : Nat → Nat} {V : Nat → Int32} {Hn Len : Nat → Nat} {nc r i : Nat} (w : tx_WF K V Hn Len nc) (h : tx_pos Len nc r i) :
    ∃ d, gx_ok (fun i => tx_a Hn (K i)) d 1 i ∧ i + d ≤ 24 * r + Len r ∧ 0 < d ∧ d ≤ 24 := by
  obtain ⟨h1, h2, h3⟩ := h
  obtain ⟨w1, _, w3, _⟩ := w.2 r h1
  obtain ⟨d, h4, h5⟩ := gx_sub _ (Len r) 1 (24 * r) (i - 24 * r) (w3 (by omega)) (by omega)
  have e : 24 * r + (i - 24 * r) = i := by omega
  rw [e] at h4
  have h6 := gx_pos h4
  exact ⟨d, h4, by omega, h6, by omega⟩
theorem tx_tokE {K : Nat → Nat} {V : Nat → Int32} {Hn Len : Nat → Nat} {nc r i : Nat} (w : tx_WF K V Hn Len nc) (h : tx_pos Len nc r i) : tx_tok K V Hn nc r i :=
  (w.2 r h.1).2.2.2 i h.2.1 h.2.2
theorem tx_useRow {K : Nat → Nat} {V : Nat → Int32} {Hn Len : Nat → Nat} {nc r i : Nat} (w : tx_WF K V Hn Len nc) (h : tx_pos Len nc r i) (hk : 16 ≤ K i) :
    K i - 16 < nc ∧ K i - 16 < 6 ∧ (r < 6 → K i - 16 < r) := by
  have h1 := (tx_tokE w h).1
  have h2 := w.1
  have h3 := h.1
  unfold tx_lim at h1
  unfold tx_row at h3
  split at h1 <;> omega
/-! the machine: a stack of (place, frame, above + 1); frames (place of the USE, frame around, origin, depth), frame 0 the source; tokens out (kind, value, origin, above + 1) -/
abbrev pm_S : Type := Nat × Nat × Nat
abbrev pm_F : Type := Nat → Nat × Nat × Nat × Nat
abbrev pm_O : Type := Nat → Nat × Int32 × Nat × Nat
def pm_fu {α : Type} (a : Nat → α) (i : Nat) (v : α) : Nat → α := fun j => if j = i then v else a j
theorem pm_fs {α : Type} {a : Nat → α} {i : Nat} {v : α} : pm_fu a i v i = v := if_pos rfl
theorem pm_fn {α : Type} {a : Nat → α} {i j : Nat} {v : α} (h : j ≠ i) : pm_fu a i v j = a j := if_neg h
def pm_org (F : pm_F) (f i : Nat) : Nat := if f = 0 then i % 24 else (F f).2.2.1
def pm_kind (k : Nat) : Nat := if k = 10 then 0 else k
def pm_val (K : Nat → Nat) (V : Nat → Int32) (F : pm_F) (f i : Nat) : Int32 :=
  if K i = 10 then V (F f).1 else if K i = 0 then V i else if K i = 1 ∨ K i = 7 then (if V i = -1 then nI (98 + 2 * f) else if V i = -2 then nI (99 + 2 * f) else V i) else 0
def pm_hole (V : Nat → Int32) (i : Nat) : Nat := (V i).toNatClampNeg
def pm_nF (F : pm_F) (nf f i : Nat) : pm_F := pm_fu F (nf+1) (i, f, pm_org F f i, (F f).2.2.2 + 1)
def pm_nO (K : Nat → Nat) (V : Nat → Int32) (F : pm_F) (n : Nat) (O : pm_O) (f i a : Nat) : pm_O := pm_fu O n (pm_kind (K i), pm_val K V F f i, pm_org F f i, a)
def pm_go (K : Nat → Nat) (V : Nat → Int32) (ar : Nat → Nat) : Nat → List pm_S → Nat → pm_F → Nat → pm_O → Option (Nat × Nat × pm_O)
  | 0, _, _, _, _, _ => none
  | _+1, [], nf, _, n, O => some (nf, n, O)
  | t+1, (i, f, a) :: st, nf, F, n, O =>
    if 16 ≤ K i then
      if nf = 2000 then none
      else pm_go K V ar t ((24 * (K i - 16), nf+1, a) :: st) (nf+1) (pm_nF F nf f i) n O
    else if K i = 9 then
      pm_go K V ar t ((gx_op ar ((F f).1 + 1) (pm_hole V i), (F f).2.1, a) :: st) nf F n O
    else if n = 2000 then none
    else pm_go K V ar t (gx_push (fun o => (gx_op ar (i+1) o, f, n+1)) (ar i) st) nf F (n+1) (pm_nO K V F n O f i a)
theorem pm_go0 (K : Nat → Nat) (V : Nat → Int32) (ar : Nat → Nat) (t nf : Nat) (F : pm_F) (n : Nat) (O : pm_O) : pm_go K V ar (t+1) [] nf F n O = some (nf, n, O) := rfl
theorem pm_goU (K : Nat → Nat) (V : Nat → Int32) (ar : Nat → Nat) (t i f a : Nat) (st : List pm_S) (nf : Nat) (F : pm_F) (n : Nat) (O : pm_O) (h : 16 ≤ K i) (h2 : nf ≠ 2000) :
    pm_go K V ar (t+1) ((i, f, a) :: st) nf F n O = pm_go K V ar t ((24 * (K i - 16), nf+1, a) :: st) (nf+1) (pm_nF F nf f i) n O := by
  rw [pm_go, if_pos h, if_neg h2]
theorem pm_goUx (K : Nat → Nat) (V : Nat → Int32) (ar : Nat → Nat) (t i f a : Nat) (st : List pm_S) (nf : Nat) (F : pm_F) (n : Nat) (O : pm_O) (h : 16 ≤ K i) (h2 : nf = 2000) :
    pm_go K V ar (t+1) ((i, f, a) :: st) nf F n O = none := by
  rw [pm_go, if_pos h, if_pos h2]
theorem pm_goH (K : Nat → Nat) (V : Nat → Int32) (ar : Nat → Nat) (t i f a : Nat) (st : List pm_S) (nf : Nat) (F : pm_F) (n : Nat) (O : pm_O) (h : K i = 9) :
    pm_go K V ar (t+1) ((i, f, a) :: st) nf F n O = pm_go K V ar t ((gx_op ar ((F f).1 + 1) (pm_hole V i), (F f).2.1, a) :: st) nf F n O := by
  rw [pm_go, if_neg (by omega), if_pos h]
theorem pm_goP (K : Nat → Nat) (V : Nat → Int32) (ar : Nat → Nat) (t i f a : Nat) (st : List pm_S) (nf : Nat) (F : pm_F) (n : Nat) (O : pm_O) (h : ¬ 16 ≤ K i) (h9 : K i ≠ 9) (h2 : n ≠ 2000) :
    pm_go K V ar (t+1) ((i, f, a) :: st) nf F n O = pm_go K V ar t (gx_push (fun o => (gx_op ar (i+1) o, f, n+1)) (ar i) st) nf F (n+1) (pm_nO K V F n O f i a) := by
  rw [pm_go, if_neg h, if_neg h9, if_neg h2]
theorem pm_goPx (K : Nat → Nat) (V : Nat → Int32) (ar : Nat → Nat) (t i f a : Nat) (st : List pm_S) (nf : Nat) (F : pm_F) (n : Nat) (O : pm_O) (h : ¬ 16 ≤ K i) (h9 : K i ≠ 9) (h2 : n = 2000) :
    pm_go K V ar (t+1) ((i, f, a) :: st) nf F n O = none := by
  rw [pm_go, if_neg h, if_neg h9, if_pos h2]
/-! its invariant and its measure -/
def pm_row (K : Nat → Nat) (s : Nat) (F : pm_F) (f : Nat) : Nat := if f = 0 then 6 + s else K (F f).1 - 16
def pm_we (K : Nat → Nat) (s : Nat) (F : pm_F) (f : Nat) : Nat := 7 - min (pm_row K s F f) 6
def pm_I (K : Nat → Nat) (Len : Nat → Nat) (nc s : Nat) (st : List pm_S) (nf : Nat) (F : pm_F) (n : Nat) : Prop :=
  s < 4 ∧ nf ≤ 2000 ∧ n ≤ 2000 ∧ (F 0).2.2.2 = 0 ∧
  (∀ f, 1 ≤ f → f ≤ nf → (F f).2.1 < f ∧ tx_pos Len nc (pm_row K s F (F f).2.1) (F f).1 ∧ 16 ≤ K (F f).1 ∧ (F f).2.2.2 = (F (F f).2.1).2.2.2 + 1 ∧ (F f).2.2.1 < 24) ∧
  (∀ x, x ∈ st → x.2.1 ≤ nf ∧ tx_pos Len nc (pm_row K s F x.2.1) x.1)
def pm_mu (K : Nat → Nat) (s : Nat) (F : pm_F) (st : List pm_S) (nf n : Nat) : Nat :=
  (st.map (fun x => pm_we K s F x.2.1)).sum + 8 * (2000 - nf) + 22 * (2000 - n)
theorem pm_we1 (K : Nat → Nat) (s : Nat) (F : pm_F) (f : Nat) : 1 ≤ pm_we K s F f ∧ pm_we K s F f ≤ 7 := by
  unfold pm_we
  omega
theorem pm_org24 {K : Nat → Nat} {Len : Nat → Nat} {nc s : Nat} {st : List pm_S} {nf : Nat} {F : pm_F} {n : Nat} (I : pm_I K Len nc s st nf F n) {f i : Nat} (hf : f ≤ nf) : pm_org F f i < 24 := by
  unfold pm_org
  split
  · omega
  · exact (I.2.2.2.2.1 f (by omega) hf).2.2.2.2
theorem pm_rowN {K : Nat → Nat} {s : Nat} {F : pm_F} {nf f i g : Nat} (h : g ≤ nf) : pm_row K s (pm_nF F nf f i) g = pm_row K s F g := by
  unfold pm_row pm_nF
  rw [pm_fn (by omega)]
theorem pm_rowS {K : Nat → Nat} {s : Nat} {F : pm_F} {nf f i : Nat} : pm_row K s (pm_nF F nf f i) (nf+1) = K i - 16 := by
  unfold pm_row pm_nF
  rw [if_neg (by omega), pm_fs]
theorem pm_tail {K : Nat → Nat} {Len : Nat → Nat} {nc s : Nat} {x : pm_S} {st : List pm_S} {nf : Nat} {F : pm_F} {n : Nat} (I : pm_I K Len nc s (x :: st) nf F n) : pm_I K Len nc s st nf F n :=
  ⟨I.1, I.2.1, I.2.2.1, I.2.2.2.1, I.2.2.2.2.1, fun y hy => I.2.2.2.2.2 y (List.mem_cons_of_mem _ hy)⟩
theorem pm_head {K : Nat → Nat} {Len : Nat → Nat} {nc s : Nat} {i f a : Nat} {st : List pm_S} {nf : Nat} {F : pm_F} {n : Nat} (I : pm_I K Len nc s ((i, f, a) :: st) nf F n) : f ≤ nf ∧ tx_pos Len nc (pm_row K s F f) i :=
  I.2.2.2.2.2 (i, f, a) List.mem_cons_self
/-- a USE is replaced -/
theorem pm_IU {K : Nat → Nat} {V : Nat → Int32} {Hn Len : Nat → Nat} {nc s : Nat} {i f a : Nat} {st : List pm_S} {nf : Nat} {F : pm_F} {n : Nat}
    (w : tx_WF K V Hn Len nc) (I : pm_I K Len nc s ((i, f, a) :: st) nf F n) (hk : 16 ≤ K i) (hn : nf ≠ 2000) :
    pm_I K Len nc s ((24 * (K i - 16), nf+1, a) :: st) (nf+1) (pm_nF F nf f i) n ∧
    pm_mu K s (pm_nF F nf f i) ((24 * (K i - 16), nf+1, a) :: st) (nf+1) n < pm_mu K s F ((i, f, a) :: st) nf n := by
  obtain ⟨hf, hp⟩ := pm_head I
  obtain ⟨u1, u2, u3⟩ := tx_useRow w hp hk
  obtain ⟨I1, I2, I3, I4, I5, I6⟩ := I
  have hO := pm_org24 ⟨I1, I2, I3, I4, I5, I6⟩ (i := i) hf
  have hst : ∀ x, x ∈ st → x.2.1 ≤ nf := fun x hx => (I6 x (List.mem_cons_of_mem _ hx)).1
  refine ⟨⟨I1, by omega, I3, ?_, ?_, ?_⟩, ?_⟩
  · unfold pm_nF
    rw [pm_fn (by omega)]; exact I4
  · intro g hg1 hg2
    by_cases e : g = nf + 1
    · subst e
      have e1 : pm_nF F nf f i (nf+1) = (i, f, pm_org F f i, (F f).2.2.2 + 1) := pm_fs
      have e2 : pm_nF F nf f i f = F f := pm_fn (by omega)
      rw [e1]
      dsimp only
      rw [e2, pm_rowN hf]
      exact ⟨by omega, hp, hk, rfl, hO⟩
    · have e1 : pm_nF F nf f i g = F g := pm_fn e
      have h5 := I5 g hg1 (by omega)
      have e2 : pm_nF F nf f i (F g).2.1 = F (F g).2.1 := pm_fn (by omega)
      rw [e1, e2, pm_rowN (by omega)]
      exact h5
  · intro x hx
    rcases List.mem_cons.mp hx with rfl | hx
    · refine ⟨Nat.le_refl _, ?_⟩
      show tx_pos Len nc (pm_row K s (pm_nF F nf f i) (nf+1)) (24 * (K i - 16))
      rw [pm_rowS]
      have h7 := (w.2 (K i - 16) (Or.inl u1)).2.1 u2
      exact ⟨Or.inl u1, Nat.le_refl _, by omega⟩
    · have h6 := I6 x (List.mem_cons_of_mem _ hx)
      rw [pm_rowN h6.1]
      exact ⟨by omega, h6.2⟩
  · unfold pm_mu
    have e : st.map (fun x => pm_we K s (pm_nF F nf f i) x.2.1) = st.map (fun x => pm_we K s F x.2.1) := by
      apply List.map_congr_left
      intro x hx
      show pm_we K s (pm_nF F nf f i) x.2.1 = pm_we K s F x.2.1
      unfold pm_we
      rw [pm_rowN (hst x hx)]
    rw [List.map_cons, List.map_cons, List.sum_cons, List.sum_cons, e]
    have h1 := (pm_we1 K s (pm_nF F nf f i) (nf+1)).2
    have h2 := (pm_we1 K s F f).1
    dsimp only
    omega
/-- a HOLE stands in a frame of a USE, and its operand in the frame around -/
theorem pm_holeE {K : Nat → Nat} {V : Nat → Int32} {Hn Len : Nat → Nat} {nc s : Nat} {i f a : Nat} {st : List pm_S} {nf : Nat} {F : pm_F} {n : Nat}
    (w : tx_WF K V Hn Len nc) (I : pm_I K Len nc s ((i, f, a) :: st) nf F n) (hk : K i = 9) :
    1 ≤ f ∧ f ≤ nf ∧ (F f).2.1 < f ∧ tx_pos Len nc (pm_row K s F (F f).2.1) (F f).1 ∧ V i = nI (pm_hole V i) ∧ pm_hole V i < 3 ∧
    pm_hole V i < tx_a Hn (K (F f).1) ∧ pm_row K s F f < 6 ∧
    tx_pos Len nc (pm_row K s F (F f).2.1) (gx_op (fun i => tx_a Hn (K i)) ((F f).1 + 1) (pm_hole V i)) ∧
    pm_we K s F (F f).2.1 < pm_we K s F f := by
  obtain ⟨hf, hp⟩ := pm_head I
  have ht := tx_tokE w hp
  have hr : pm_row K s F f < 6 := by
    have h1 := ht.1
    unfold tx_lim at h1
    split at h1 <;> omega
  have hf1 : 1 ≤ f := by
    rcases Nat.eq_zero_or_pos f with h0 | h0
    · subst h0
      unfold pm_row at hr
      rw [if_pos rfl] at hr
      omega
    · exact h0
  obtain ⟨h, hh1, hh2⟩ := ht.2.1 hk
  obtain ⟨g1, g2, g3, g4, g5⟩ := I.2.2.2.2.1 f hf1 hf
  have er : pm_row K s F f = K (F f).1 - 16 := by
    unfold pm_row
    rw [if_neg (by omega)]
  obtain ⟨u1, u2, u3⟩ := tx_useRow w g2 g3
  have hn3 : Hn (pm_row K s F f) ≤ 3 := ((w.2 (pm_row K s F f) hp.1).2.1 hr).2.2
  have eh : pm_hole V i = h := by
    unfold pm_hole
    rw [hh2, nI_clamp (by omega)]
  have ea : tx_a Hn (K (F f).1) = Hn (pm_row K s F f) := by rw [tx_aU Hn g3, er]
  refine ⟨hf1, hf, g1, g2, by rw [eh]; exact hh2, by omega, by omega, hr, ?_, ?_⟩
  · obtain ⟨d, d1, d2, d3, d4⟩ := tx_expr w g2
    obtain ⟨d', rfl⟩ : ∃ d', d = d' + 1 := ⟨d - 1, by omega⟩
    have d5 := d1.2
    rw [Nat.sub_self, Nat.zero_add] at d5
    obtain ⟨dk, k1, k2, k3, k4⟩ := gx_opE _ ((F f).1 + 1) (pm_hole V i) d' _ d5 (by omega) (by dsimp only; omega)
    have e4 : tx_a Hn (K (F f).1) - pm_hole V i = (tx_a Hn (K (F f).1) - pm_hole V i - 1) + 1 := by omega
    dsimp only at k4
    rw [e4] at k4
    have k5 := gx_pos k4
    rw [k1]
    exact ⟨g2.1, by have := g2.2.1; omega, by omega⟩
  · unfold pm_we
    omega
theorem pm_IH {K : Nat → Nat} {V : Nat → Int32} {Hn Len : Nat → Nat} {nc s : Nat} {i f a : Nat} {st : List pm_S} {nf : Nat} {F : pm_F} {n : Nat}
    (w : tx_WF K V Hn Len nc) (I : pm_I K Len nc s ((i, f, a) :: st) nf F n) (hk : K i = 9) :
    pm_I K Len nc s ((gx_op (fun i => tx_a Hn (K i)) ((F f).1 + 1) (pm_hole V i), (F f).2.1, a) :: st) nf F n ∧
    pm_mu K s F ((gx_op (fun i => tx_a Hn (K i)) ((F f).1 + 1) (pm_hole V i), (F f).2.1, a) :: st) nf n < pm_mu K s F ((i, f, a) :: st) nf n := by
  obtain ⟨h1, h2, h3, h4, h5, h6, h7, h8, h9, h10⟩ := pm_holeE w I hk
  obtain ⟨I1, I2, I3, I4, I5, I6⟩ := I
  refine ⟨⟨I1, I2, I3, I4, I5, ?_⟩, ?_⟩
  · intro x hx
    rcases List.mem_cons.mp hx with rfl | hx
    · exact ⟨by dsimp only; omega, h9⟩
    · exact I6 x (List.mem_cons_of_mem _ hx)
  · unfold pm_mu
    rw [List.map_cons, List.map_cons, List.sum_cons, List.sum_cons]
    dsimp only
    omega
/-- the operands of a token -/
theorem pm_opE {K : Nat → Nat} {V : Nat → Int32} {Hn Len : Nat → Nat} {nc r i : Nat} (w : tx_WF K V Hn Len nc) (h : tx_pos Len nc r i) {o : Nat} (ho : o < tx_a Hn (K i)) :
    tx_pos Len nc r (gx_op (fun i => tx_a Hn (K i)) (i+1) o) := by
  obtain ⟨d, d1, d2, d3, d4⟩ := tx_expr w h
  obtain ⟨d', rfl⟩ : ∃ d', d = d' + 1 := ⟨d - 1, by omega⟩
  have d5 := d1.2
  rw [Nat.sub_self, Nat.zero_add] at d5
  obtain ⟨dk, k1, k2, k3, k4⟩ := gx_opE _ (i+1) o d' _ d5 (by omega) (by dsimp only; omega)
  have e4 : tx_a Hn (K i) - o = (tx_a Hn (K i) - o - 1) + 1 := by omega
  dsimp only at k4
  rw [e4] at k4
  have k5 := gx_pos k4
  rw [k1]
  exact ⟨h.1, by have := h.2.1; omega, by omega⟩
theorem pm_IP {K : Nat → Nat} {V : Nat → Int32} {Hn Len : Nat → Nat} {nc s : Nat} {i f a : Nat} {st : List pm_S} {nf : Nat} {F : pm_F} {n : Nat}
    (w : tx_WF K V Hn Len nc) (I : pm_I K Len nc s ((i, f, a) :: st) nf F n) (hk : ¬ 16 ≤ K i) (hn : n ≠ 2000) (a' : Nat) :
    pm_I K Len nc s (gx_push (fun o => (gx_op (fun i => tx_a Hn (K i)) (i+1) o, f, a')) (tx_a Hn (K i)) st) nf F (n+1) ∧
    pm_mu K s F (gx_push (fun o => (gx_op (fun i => tx_a Hn (K i)) (i+1) o, f, a')) (tx_a Hn (K i)) st) nf (n+1) < pm_mu K s F ((i, f, a) :: st) nf n := by
  obtain ⟨hf, hp⟩ := pm_head I
  obtain ⟨I1, I2, I3, I4, I5, I6⟩ := I
  refine ⟨⟨I1, I2, by omega, I4, I5, ?_⟩, ?_⟩
  · refine gx_push_all _ (fun x : pm_S => x.2.1 ≤ nf ∧ tx_pos Len nc (pm_row K s F x.2.1) x.1) _ _ ?_ ?_
    · intro o ho
      exact ⟨hf, pm_opE w hp ho⟩
    · intro x hx
      exact I6 x (List.mem_cons_of_mem _ hx)
  · unfold pm_mu
    rw [gx_push_sum _ (fun x : pm_S => pm_we K s F x.2.1) (pm_we K s F f) (fun _ => rfl), List.map_cons, List.sum_cons]
    have h1 := pm_we1 K s F f
    have h3 := tx_a3 Hn (k := K i) (by omega)
    have h4 : tx_a Hn (K i) * pm_we K s F f ≤ 3 * 7 := Nat.mul_le_mul h3 h1.2
    dsimp only
    omega
theorem pm_valV {K : Nat → Nat} {V : Nat → Int32} {Hn : Nat → Nat} {nc r i : Nat} (h : tx_tok K V Hn nc r i) (F : pm_F) {f : Nat} (hf : f ≤ 2000) (hk : K i = 1 ∨ K i = 7) :
    ∃ w, w < 4110 ∧ pm_val K V F f i = nI w := by
  unfold pm_val
  rw [if_neg (by omega), if_neg (by omega), if_pos hk]
  rcases h.2.2.1 hk with ⟨w, w1, w2⟩ | ⟨_, e | e⟩
  · refine ⟨w, by omega, ?_⟩
    rw [if_neg, if_neg]
    · exact w2
    · rw [w2]; intro z
      have h1 : (nI w).toInt = w := nI_toInt (by omega)
      rw [z] at h1
      have h2 : ((-2 : Int32)).toInt = -2 := by decide
      omega
    · rw [w2]; intro z
      have h1 : (nI w).toInt = w := nI_toInt (by omega)
      rw [z] at h1
      have h2 : ((-1 : Int32)).toInt = -1 := by decide
      omega
  · exact ⟨98 + 2 * f, by omega, by rw [if_pos e]⟩
  · refine ⟨99 + 2 * f, by omega, ?_⟩
    rw [if_neg (by rw [e]; decide), if_pos e]
end
section
/-! the plain tokens: which token (plus one) waits for an operand, the next first -/
def tr_pd (a : Nat → Nat) : Nat → List Nat
  | 0 => [0]
  | m+1 => List.replicate (a m) (m+1) ++ (tr_pd a m).tail
theorem tr_pdS (a : Nat → Nat) (m : Nat) : tr_pd a (m+1) = List.replicate (a m) (m+1) ++ (tr_pd a m).tail := rfl
theorem tr_pdC (a a' : Nat → Nat) : ∀ (m : Nat), (∀ j, j < m → a j = a' j) → tr_pd a m = tr_pd a' m
  | 0, _ => rfl
  | m+1, h => by
    rw [tr_pdS, tr_pdS, h m (by omega), tr_pdC a a' m (fun j hj => h j (by omega))]
theorem tr_pdL (a : Nat → Nat) : ∀ (m : Nat), (∀ j, j < m → a j ≤ 3) → (tr_pd a m).length ≤ 1 + 2 * m
  | 0, _ => Nat.le_refl _
  | m+1, h => by
    have h1 := tr_pdL a m (fun j hj => h j (by omega))
    have h2 := h m (by omega)
    rw [tr_pdS, List.length_append, List.length_replicate, List.length_tail]
    omega
theorem tr_pdB (a : Nat → Nat) : ∀ (m : Nat), ∀ x, x ∈ tr_pd a m → x ≤ m
  | 0, x, h => by
    rw [tr_pd, List.mem_singleton] at h
    omega
  | m+1, x, h => by
    rw [tr_pdS, List.mem_append] at h
    rcases h with h | h
    · have := List.eq_of_mem_replicate h
      omega
    · have := tr_pdB a m x (List.mem_of_mem_tail h)
      omega
theorem tr_sk (a : Nat → Nat) : ∀ (d c k : Nat) (L R : List Nat), gx_ok a d c k → tr_pd a k = L ++ R → L.length = c → tr_pd a (k+d) = R
  | 0, c, k, L, R, h, e, el => by
    have h0 : c = 0 := h
    rw [h0] at el
    rw [List.length_eq_zero_iff.mp el, List.nil_append] at e
    exact e
  | d+1, c, k, L, R, h, e, el => by
    have h0 := h.1
    cases L with
    | nil => rw [List.length_nil] at el; omega
    | cons u L' =>
      have e1 : tr_pd a (k+1) = (List.replicate (a k) (k+1) ++ L') ++ R := by
        rw [tr_pdS, e, List.append_assoc]
        rfl
      have h2 := tr_sk a d _ (k+1) _ R h.2 e1 (by
        rw [List.length_append, List.length_replicate]
        rw [List.length_cons] at el
        omega)
      have e2 : k + (d+1) = k + 1 + d := by omega
      rw [e2]; exact h2
theorem tr_gx (a : Nat → Nat) : ∀ (d m : Nat), (∀ j, j < d → tr_pd a (m+j) ≠ []) → tr_pd a (m+d) = [] → gx_ok a d (tr_pd a m).length m
  | 0, m, _, e => by
    rw [gx_z]
    have e' : tr_pd a m = [] := e
    rw [e']
    rfl
  | d+1, m, h, e => by
    have h0 := h 0 (by omega)
    have e2 : m + (d+1) = m + 1 + d := by omega
    rw [e2] at e
    have h1 := tr_gx a d (m+1) (fun j hj => by
      have h5 := h (j+1) (by omega)
      have e3 : m + (j+1) = m + 1 + j := by omega
      rw [e3] at h5; exact h5) e
    rw [tr_pdS, List.length_append, List.length_replicate, List.length_tail] at h1
    rw [gx_s]
    have h4 : 0 < (tr_pd a m).length := List.length_pos_iff.mpr h0
    refine ⟨h4, ?_⟩
    rw [Nat.add_comm]; exact h1
/-! what the machine's tokens keep -/
def pm_ar (O : pm_O) : Nat → Nat := fun m => tx_a (fun _ => 0) (O m).1
def pm_J (st : List pm_S) (n : Nat) (O : pm_O) : Prop :=
  st.map (fun x => x.2.2) = tr_pd (pm_ar O) n ∧ ∀ m, m < n → (O m).1 ≤ 8 ∧ (O m).2.2.1 < 24 ∧
    ((O m).1 = 1 ∨ (O m).1 = 7 → ∃ w, w < 4110 ∧ (O m).2.1 = nI w) ∧ ∃ R, tr_pd (pm_ar O) m = (O m).2.2.2 :: R
theorem pm_Jx {i f a i' f' : Nat} {st : List pm_S} {n : Nat} {O : pm_O} (h : pm_J ((i, f, a) :: st) n O) : pm_J ((i', f', a) :: st) n O := h
theorem pm_JP {K : Nat → Nat} {V : Nat → Int32} {Hn Len : Nat → Nat} {nc s : Nat} {i f a : Nat} {st : List pm_S} {nf : Nat} {F : pm_F} {n : Nat} {O : pm_O} (g : Nat → Nat)
    (w : tx_WF K V Hn Len nc) (I : pm_I K Len nc s ((i, f, a) :: st) nf F n) (J : pm_J ((i, f, a) :: st) n O) (hk : ¬ 16 ≤ K i) (h9 : K i ≠ 9) :
    pm_J (gx_push (fun o => (g o, f, n+1)) (tx_a Hn (K i)) st) (n+1) (pm_nO K V F n O f i a) := by
  obtain ⟨hf, hp⟩ := pm_head I
  have ht := tx_tokE w hp
  obtain ⟨J1, J2⟩ := J
  have en : pm_nO K V F n O f i a n = (pm_kind (K i), pm_val K V F f i, pm_org F f i, a) := pm_fs
  have eo : ∀ m, m < n → pm_nO K V F n O f i a m = O m := fun m hm => pm_fn (by omega)
  have eb : ∀ m, m < n → pm_ar (pm_nO K V F n O f i a) m = pm_ar O m := fun m hm => by
    unfold pm_ar
    rw [eo m hm]
  have hk8 : K i ≤ 8 ∨ K i = 10 := by
    have h1 := ht.1
    omega
  have ean : pm_ar (pm_nO K V F n O f i a) n = tx_a Hn (K i) := by
    unfold pm_ar
    rw [en]
    show tx_a (fun _ => 0) (pm_kind (K i)) = _
    unfold pm_kind
    split
    · next h => rw [h]; rfl
    · exact tx_aI _ _ (by omega)
  have ep : ∀ m, m ≤ n → tr_pd (pm_ar (pm_nO K V F n O f i a)) m = tr_pd (pm_ar O) m := fun m hm => tr_pdC _ _ m (fun j hj => eb j (by omega))
  rw [List.map_cons] at J1
  refine ⟨?_, ?_⟩
  · rw [gx_push_map (fun o => (g o, f, n+1)) (fun x : pm_S => x.2.2) (n+1) (fun _ => rfl), tr_pdS, ean, ep n (Nat.le_refl _), ← J1]
    rfl
  · intro m hm
    by_cases e : m = n
    · subst e
      rw [en, ep m (Nat.le_refl _), ← J1]
      refine ⟨?_, pm_org24 I hf, ?_, ⟨_, rfl⟩⟩
      · show pm_kind (K i) ≤ 8
        unfold pm_kind
        split <;> omega
      · intro h
        have h' : K i = 1 ∨ K i = 7 := by
          have h2 : pm_kind (K i) = 1 ∨ pm_kind (K i) = 7 := h
          unfold pm_kind at h2
          split at h2 <;> omega
        have h3 := I.2.1
        exact pm_valV ht F (by omega) h'
    · rw [eo m (by omega), ep m (by omega)]
      exact J2 m (by omega)
theorem pm_fin {K : Nat → Nat} {V : Nat → Int32} {Hn Len : Nat → Nat} {nc s : Nat} (w : tx_WF K V Hn Len nc) {nf' n' : Nat} {O' : pm_O} :
    ∀ (t : Nat) (st : List pm_S) (nf : Nat) (F : pm_F) (n : Nat) (O : pm_O), pm_I K Len nc s st nf F n → pm_J st n O →
    pm_go K V (fun i => tx_a Hn (K i)) t st nf F n O = some (nf', n', O') → nf' ≤ 2000 ∧ n' ≤ 2000 ∧ pm_J [] n' O'
  | 0, st, nf, F, n, O, _, _, h => by
    rw [pm_go] at h
    exact absurd h (by intro z; cases z)
  | t+1, [], nf, F, n, O, I, J, h => by
    rw [pm_go0] at h
    cases h
    exact ⟨I.2.1, I.2.2.1, J⟩
  | t+1, (i, f, a) :: st, nf, F, n, O, I, J, h => by
    by_cases hk : 16 ≤ K i
    · by_cases hn : nf = 2000
      · rw [pm_goUx _ _ _ _ _ _ _ _ _ _ _ _ hk hn] at h
        cases h
      · rw [pm_goU _ _ _ _ _ _ _ _ _ _ _ _ hk hn] at h
        exact pm_fin w t _ _ _ _ _ (pm_IU w I hk hn).1 (pm_Jx J) h
    · by_cases h9 : K i = 9
      · rw [pm_goH _ _ _ _ _ _ _ _ _ _ _ _ h9] at h
        exact pm_fin w t _ _ _ _ _ (pm_IH w I h9).1 (pm_Jx J) h
      · by_cases hn : n = 2000
        · rw [pm_goPx _ _ _ _ _ _ _ _ _ _ _ _ hk h9 hn] at h
          cases h
        · rw [pm_goP _ _ _ _ _ _ _ _ _ _ _ _ hk h9 hn] at h
          exact pm_fin w t _ _ _ _ _ (pm_IP w I hk hn (n+1)).1 (pm_JP _ w I J hk h9) h
/-! one whole expression of plain tokens -/
def tr_G (n : Nat) (O : pm_O) : Prop := n ≤ 2000 ∧ pm_J [] n O
theorem tr_end {n : Nat} {O : pm_O} (h : tr_G n O) : tr_pd (pm_ar O) n = [] := h.2.1.symm
theorem tr_n0 {n : Nat} {O : pm_O} (h : tr_G n O) : 0 < n := by
  rcases Nat.eq_zero_or_pos n with h0 | h0
  · subst h0
    have := tr_end h
    rw [tr_pd] at this
    cases this
  · exact h0
theorem tr_all {n : Nat} {O : pm_O} (h : tr_G n O) : gx_ok (pm_ar O) n 1 0 := by
  have h1 := tr_gx (pm_ar O) n 0 (fun j hj => by
    obtain ⟨R, e⟩ := (h.2.2 j hj).2.2.2
    rw [Nat.zero_add, e]
    exact List.cons_ne_nil _ _) (by rw [Nat.zero_add]; exact tr_end h)
  exact h1
theorem tr_a3 (O : pm_O) {m : Nat} (h : (O m).1 ≤ 8) : pm_ar O m ≤ 3 := tx_a3 _ (by omega)
def tr_sp (a : Nat → Nat) (k : Nat) : Nat := gx_en a k - k
theorem tr_spE {n : Nat} {O : pm_O} (h : tr_G n O) {k : Nat} (hk : k < n) :
    gx_ok (pm_ar O) (tr_sp (pm_ar O) k) 1 k ∧ k + tr_sp (pm_ar O) k ≤ n ∧ 0 < tr_sp (pm_ar O) k ∧ gx_en (pm_ar O) k = k + tr_sp (pm_ar O) k := by
  obtain ⟨d, h1, h2⟩ := gx_sub _ n 1 0 k (tr_all h) hk
  rw [Nat.zero_add] at h1
  have h3 := h.1
  have e := gx_enE h1 (by omega)
  have e2 : tr_sp (pm_ar O) k = d := by
    unfold tr_sp
    omega
  rw [e2]
  exact ⟨h1, h2, gx_pos h1, e⟩
theorem tr_spG {a : Nat → Nat} {d p : Nat} (h : gx_ok a d 1 p) (hd : d ≤ 2500) : tr_sp a p = d := by
  unfold tr_sp
  rw [gx_enE h hd]; omega
/-- the operands of token k -/
theorem tr_ch {n : Nat} {O : pm_O} (h : tr_G n O) {k : Nat} (hk : k < n) {j : Nat} (hj : j ≤ pm_ar O k) :
    ∃ R dj, tr_pd (pm_ar O) k = (O k).2.2.2 :: R ∧ gx_op (pm_ar O) (k+1) j = k + 1 + dj ∧ dj + 1 ≤ tr_sp (pm_ar O) k ∧ gx_ok (pm_ar O) dj j (k+1) ∧
      gx_ok (pm_ar O) (tr_sp (pm_ar O) k - 1 - dj) (pm_ar O k - j) (k + 1 + dj) ∧
      tr_pd (pm_ar O) (k + 1 + dj) = List.replicate (pm_ar O k - j) (k+1) ++ R ∧ (j < pm_ar O k → k + 1 + dj < n ∧ (O (k+1+dj)).2.2.2 = k+1) := by
  obtain ⟨s1, s2, s3, s4⟩ := tr_spE h hk
  obtain ⟨R, e⟩ := (h.2.2 k hk).2.2.2
  have h3 := h.1
  obtain ⟨d', ed⟩ : ∃ d', tr_sp (pm_ar O) k = d' + 1 := ⟨tr_sp (pm_ar O) k - 1, by omega⟩
  rw [ed] at s1
  have d5 := s1.2
  rw [Nat.sub_self, Nat.zero_add] at d5
  obtain ⟨dk, k1, k2, k3, k4⟩ := gx_opE _ (k+1) j d' _ d5 (by omega) hj
  have e1 : tr_pd (pm_ar O) (k+1) = List.replicate j (k+1) ++ (List.replicate (pm_ar O k - j) (k+1) ++ R) := by
    rw [tr_pdS, e, ← List.append_assoc, List.replicate_append_replicate]
    have e3 : j + (pm_ar O k - j) = pm_ar O k := by omega
    rw [e3]
    rfl
  have e2 := tr_sk _ dk j (k+1) _ _ k3 e1 (List.length_replicate)
  have ed2 : tr_sp (pm_ar O) k - 1 - dk = d' - dk := by omega
  refine ⟨R, dk, e, k1, by omega, k3, by rw [ed2]; exact k4, e2, ?_⟩
  intro hlt
  obtain ⟨c, ec⟩ : ∃ c, pm_ar O k - j = c + 1 := ⟨pm_ar O k - j - 1, by omega⟩
  rw [ec] at k4 e2
  have k5 := gx_pos k4
  have hm : k + 1 + dk < n := by omega
  refine ⟨hm, ?_⟩
  obtain ⟨R', e'⟩ := (h.2.2 _ hm).2.2.2
  rw [e', List.replicate_succ, List.cons_append] at e2
  exact (List.cons.inj e2).1
/-! heights -/
def tr_hf (a : Nat → Nat) : Nat → Nat → Nat → Nat
  | 0, _, _ => 0
  | _+1, 0, _ => 0
  | t+1, c+1, p => max (tr_hf a t (a p) (p+1) + 1) (tr_hf a t c (gx_en a p))
def tr_ht (a : Nat → Nat) (p : Nat) : Nat := tr_hf a 2500 (a p) (p+1) + 1
theorem tr_hf0 (a : Nat → Nat) (t p : Nat) : tr_hf a t 0 p = 0 := by
  cases t <;> rfl
theorem tr_cut {a : Nat → Nat} {d c p : Nat} (h : gx_ok a d (c+1) p) (hd : d ≤ 2500) : ∃ d1 d2, d = (d1 + 1) + d2 ∧ gx_ok a d1 (a p) (p+1) ∧ gx_en a p = p + (d1 + 1) ∧ gx_ok a d2 c (p + (d1+1)) ∧ gx_ok a (d1+1) 1 p := by
  rw [Nat.add_comm c 1] at h
  obtain ⟨d1, d2, e, h1, h2⟩ := gx_split a _ _ _ _ h
  have h0 := gx_pos h1
  obtain ⟨d', rfl⟩ : ∃ d', d1 = d' + 1 := ⟨d1 - 1, by omega⟩
  have h5 := h1.2
  rw [Nat.sub_self, Nat.zero_add] at h5
  exact ⟨d', d2, e, h5, gx_enE h1 (by omega), h2, h1⟩
theorem tr_hfI (a : Nat → Nat) : ∀ (t t' d c p : Nat), gx_ok a d c p → d ≤ t → d ≤ t' → d ≤ 2500 → tr_hf a t c p = tr_hf a t' c p
  | t, t', d, 0, p, _, _, _, _ => by rw [tr_hf0, tr_hf0]
  | 0, t', d, c+1, p, h, h1, _, _ => by
    have := gx_pos h
    omega
  | t+1, 0, d, c+1, p, h, _, h2, _ => by
    have := gx_pos h
    omega
  | t+1, t'+1, d, c+1, p, h, h1, h2, h3 => by
    obtain ⟨d1, d2, e, g1, g2, g3, g4⟩ := tr_cut h h3
    rw [tr_hf, tr_hf, g2, tr_hfI a t t' d1 (a p) (p+1) g1 (by omega) (by omega) (by omega), tr_hfI a t t' d2 c _ g3 (by omega) (by omega) (by omega)]
theorem tr_hfS {a : Nat → Nat} {d c p : Nat} (h : gx_ok a d (c+1) p) (hd : d ≤ 2400) : tr_hf a 2500 (c+1) p = max (tr_ht a p) (tr_hf a 2500 c (gx_en a p)) := by
  obtain ⟨d1, d2, e, g1, g2, g3, g4⟩ := tr_cut h (by omega)
  have e1 : tr_hf a 2500 (c+1) p = max (tr_hf a 2499 (a p) (p+1) + 1) (tr_hf a 2499 c (gx_en a p)) := rfl
  rw [e1, g2, tr_hfI a 2499 2500 d1 (a p) (p+1) g1 (by omega) (by omega) (by omega), tr_hfI a 2499 2500 d2 c _ g3 (by omega) (by omega) (by omega)]
  rfl
theorem tr_hfB (a : Nat → Nat) : ∀ (t d c p : Nat), gx_ok a d c p → d ≤ 2500 → tr_hf a t c p ≤ d
  | 0, d, c, p, _, _ => Nat.zero_le _
  | t+1, d, 0, p, _, _ => by rw [tr_hf0]; omega
  | t+1, d, c+1, p, h, h3 => by
    obtain ⟨d1, d2, e, g1, g2, g3, g4⟩ := tr_cut h h3
    have h1 := tr_hfB a t d1 (a p) (p+1) g1 (by omega)
    have h2 := tr_hfB a t d2 c _ g3 (by omega)
    rw [tr_hf, g2]
    omega
/-! the greatest depth is the height of token 0 -/
def tr_mx (D : Nat → Nat) : Nat → Nat → Nat
  | _, 0 => 0
  | p, d+1 => max (D p) (tr_mx D (p+1) d)
theorem tr_mxA (D : Nat → Nat) : ∀ (d1 d2 p : Nat), tr_mx D p (d1 + d2) = max (tr_mx D p d1) (tr_mx D (p + d1) d2)
  | 0, d2, p => by
    rw [Nat.zero_add, tr_mx, Nat.add_zero]; omega
  | d1+1, d2, p => by
    have e : d1 + 1 + d2 = (d1 + d2) + 1 := by omega
    have e2 : p + (d1 + 1) = p + 1 + d1 := by omega
    rw [e, e2, tr_mx, tr_mx, tr_mxA D d1 d2 (p+1)]
    omega
theorem tr_mxS (D : Nat → Nat) (d p : Nat) : tr_mx D p (d+1) = max (tr_mx D p d) (D (p+d)) := by
  rw [tr_mxA D d 1 p, tr_mx, tr_mx]
  omega
theorem tr_dep {n : Nat} {O : pm_O} (h : tr_G n O) (D : Nat → Nat) (hD : ∀ m, 0 < m → m < n → D m = D ((O m).2.2.2 - 1) + 1) :
    ∀ (t d c p k : Nat) (R : List Nat), d ≤ t → gx_ok (pm_ar O) d c p → tr_pd (pm_ar O) p = List.replicate c (k+1) ++ R → 0 < p → p + d ≤ n →
      tr_mx D p d = if c = 0 then 0 else D k + tr_hf (pm_ar O) 2500 c p
  | t, d, 0, p, k, R, _, g, _, _, _ => by
    have e : d = 0 := gx_det _ _ _ _ _ g (gx_00 _ _)
    subst e
    rfl
  | 0, d, c+1, p, k, R, ht, g, _, _, _ => by
    have := gx_pos g
    omega
  | t+1, d, c+1, p, k, R, ht, g, ep, hp, hn => by
    have h3 := h.1
    obtain ⟨d1, d2, e, g1, g2, g3, g4⟩ := tr_cut g (by omega)
    have hpn : p < n := by omega
    obtain ⟨R', e'⟩ := (h.2.2 p hpn).2.2.2
    have e5 := ep
    rw [e', List.replicate_succ, List.cons_append] at e5
    obtain ⟨e6, e7⟩ := List.cons.inj e5
    have ek : D p = D k + 1 := by
      rw [hD p hp hpn, e6]
      rfl
    have i1 := tr_dep h D hD t d1 (pm_ar O p) (p+1) p R' (by omega) g1 (by rw [tr_pdS, e']; rfl) (by omega) (by omega)
    have i2 := tr_dep h D hD t d2 c (p + (d1+1)) k R (by omega) g3 (tr_sk _ (d1+1) 1 p [k+1] _ g4 (by rw [ep, List.replicate_succ]; rfl) rfl) (by omega) (by omega)
    rw [if_neg (by omega), tr_hfS g (by omega), e, tr_mxA, i2, g2]
    have e8 : tr_mx D p (d1 + 1) = D k + tr_ht (pm_ar O) p := by
      rw [tr_mx, i1, ek]
      unfold tr_ht
      split
      · next h0 => rw [h0, tr_hf0]; omega
      · omega
    rw [e8]
    split
    · next h0 => rw [h0, tr_hf0]; omega
    · omega
theorem tr_depth {n : Nat} {O : pm_O} (h : tr_G n O) (D : Nat → Nat) (h0 : D 0 = 1) (hD : ∀ m, 0 < m → m < n → D m = D ((O m).2.2.2 - 1) + 1) :
    tr_mx D 0 n = tr_ht (pm_ar O) 0 := by
  have hn := tr_n0 h
  have h3 := h.1
  obtain ⟨d1, d2, e, g1, g2, g3, g4⟩ := tr_cut (tr_all h) (by omega)
  have e2 : d2 = 0 := gx_det _ _ _ _ _ g3 (gx_00 _ _)
  subst e2
  have i1 := tr_dep h D hD n d1 (pm_ar O 0) (0+1) 0 [] (by omega) g1 (by rw [tr_pdS]; rfl) (by omega) (by omega)
  have e3 : n = d1 + 1 := by omega
  rw [e3, tr_mx, i1, h0]
  unfold tr_ht
  split
  · next h5 => rw [h5, tr_hf0]; omega
  · omega
/-! spans by adding up -/
def tr_S (a : Nat → Nat) (i : Nat) : List Nat → Nat → Nat
  | [], _ => 0
  | u :: L, p => (if u = i + 1 then tr_sp a p else 0) + tr_S a i L (p + tr_sp a p)
theorem tr_S_rep (a : Nat → Nat) (i u : Nat) (R : List Nat) : ∀ (c d p : Nat), gx_ok a d c p → d ≤ 2500 → tr_S a i (List.replicate c u ++ R) p = (if u = i + 1 then d else 0) + tr_S a i R (p + d)
  | 0, d, p, g, _ => by
    have e : d = 0 := gx_det _ _ _ _ _ g (gx_00 _ _)
    subst e
    have e0 : (if u = i + 1 then (0 : Nat) else 0) = 0 := by split <;> rfl
    rw [List.replicate_zero, List.nil_append, e0, Nat.zero_add]
    rfl
  | c+1, d, p, g, hd => by
    obtain ⟨d1, d2, e, g1, g2, g3, g4⟩ := tr_cut g hd
    have es : tr_sp a p = d1 + 1 := tr_spG g4 (by omega)
    rw [List.replicate_succ, List.cons_append, tr_S, es, tr_S_rep a i u R c d2 _ g3 (by omega)]
    have e9 : p + (d1 + 1) + d2 = p + d := by omega
    rw [e9]
    split <;> omega
/-- what the adding has given token i when all tokens from q on have been added -/
def tr_V (O : pm_O) (q i : Nat) : Nat := if i < q then 1 + tr_S (pm_ar O) i (tr_pd (pm_ar O) q) q else tr_sp (pm_ar O) i
theorem tr_Vn {n : Nat} {O : pm_O} (h : tr_G n O) {i : Nat} (hi : i < n) : tr_V O n i = 1 := by
  unfold tr_V
  rw [if_pos hi, tr_end h]
  rfl
theorem tr_Vk {n : Nat} {O : pm_O} (h : tr_G n O) {k : Nat} (hk : k < n) : tr_V O (k+1) k = tr_sp (pm_ar O) k := by
  obtain ⟨R, e⟩ := (h.2.2 k hk).2.2.2
  obtain ⟨s1, s2, s3, s4⟩ := tr_spE h hk
  have h3 := h.1
  obtain ⟨d', ed⟩ : ∃ d', tr_sp (pm_ar O) k = d' + 1 := ⟨tr_sp (pm_ar O) k - 1, by omega⟩
  rw [ed] at s1
  have d5 := s1.2
  rw [Nat.sub_self, Nat.zero_add] at d5
  unfold tr_V
  rw [if_pos (by omega), tr_pdS, e, tr_S_rep _ _ _ _ _ d' _ d5 (by omega), if_pos rfl, ed]
  have hR : ∀ (L : List Nat) (p : Nat), (∀ x, x ∈ L → x ≤ k) → tr_S (pm_ar O) k L p = 0 := by
    intro L
    induction L with
    | nil => intro p _; rfl
    | cons u L ih =>
      intro p hL
      have h1 := hL u List.mem_cons_self
      rw [tr_S, if_neg (by omega), ih _ (fun x hx => hL x (List.mem_cons_of_mem _ hx))]
  rw [hR _ _ (fun x hx => tr_pdB (pm_ar O) k x (by rw [e]; exact List.mem_cons_of_mem _ hx))]
  omega
theorem tr_Vs {n : Nat} {O : pm_O} (h : tr_G n O) {k i : Nat} (hk : k < n) : tr_V O k i = if (O k).2.2.2 = i + 1 then tr_V O (k+1) i + tr_sp (pm_ar O) k else tr_V O (k+1) i := by
  obtain ⟨R, e⟩ := (h.2.2 k hk).2.2.2
  obtain ⟨s1, s2, s3, s4⟩ := tr_spE h hk
  have h3 := h.1
  have hb : (O k).2.2.2 ≤ k := tr_pdB (pm_ar O) k _ (by rw [e]; exact List.mem_cons_self)
  by_cases h1 : i < k
  · obtain ⟨d', ed⟩ : ∃ d', tr_sp (pm_ar O) k = d' + 1 := ⟨tr_sp (pm_ar O) k - 1, by omega⟩
    rw [ed] at s1
    have d5 := s1.2
    rw [Nat.sub_self, Nat.zero_add] at d5
    have e9 : k + 1 + d' = k + (d' + 1) := by omega
    have hA : tr_V O k i = 1 + ((if (O k).2.2.2 = i + 1 then d' + 1 else 0) + tr_S (pm_ar O) i R (k + (d' + 1))) := by
      unfold tr_V
      rw [if_pos h1, e, tr_S, ed]
    have hB : tr_V O (k+1) i = 1 + tr_S (pm_ar O) i R (k + (d' + 1)) := by
      unfold tr_V
      have hi : i < k + 1 := by omega
      have hne : ¬ k + 1 = i + 1 := by omega
      rw [if_pos hi, tr_pdS, e, tr_S_rep _ _ _ _ _ d' _ d5 (by omega), if_neg hne, e9, Nat.zero_add]
      rfl
    rw [hA, hB, ed]
    split <;> omega
  · rw [if_neg (by omega)]
    by_cases h2 : i = k
    · subst h2
      rw [tr_Vk h hk]
      unfold tr_V
      rw [if_neg (by omega)]
    · unfold tr_V
      rw [if_neg h1, if_neg (by omega)]
end
section
/-! the draft and how it becomes a row -/
def fd_go (fit : Nat → Bool) (ar : Nat → Nat) (n : Nat) : Nat → Nat → Nat → Option Nat
  | 0, _, o => if o = 0 then none else some n
  | d+1, k, o => if o = 0 ∨ fit k = false then some k else fd_go fit ar n d (k+1) (o - 1 + ar k)
theorem fd_ok (fit : Nat → Bool) (ar : Nat → Nat) (n : Nat) : ∀ (d k o : Nat), fd_go fit ar n d k o = none → gx_ok ar d o k ∧ ∀ i, k ≤ i → i < k + d → fit i = true
  | 0, k, o, h => by
    rw [fd_go] at h
    by_cases h0 : o = 0
    · exact ⟨(gx_z ar o k).mpr h0, fun i h1 h2 => by omega⟩
    · rw [if_neg h0] at h
      cases h
  | d+1, k, o, h => by
    rw [fd_go] at h
    by_cases h0 : o = 0 ∨ fit k = false
    · rw [if_pos h0] at h
      cases h
    · rw [if_neg h0] at h
      obtain ⟨h1, h2⟩ := fd_ok fit ar n d (k+1) _ h
      have h3 : o ≠ 0 := fun z => h0 (Or.inl z)
      have h4 : fit k = true := by
        cases hf : fit k with
        | true => rfl
        | false => exact absurd (Or.inr hf) h0
      refine ⟨⟨by omega, h1⟩, fun i h5 h6 => ?_⟩
      by_cases e : i = k
      · rw [e]; exact h4
      · exact h2 i (by omega) (by omega)
theorem fd_le (fit : Nat → Bool) (ar : Nat → Nat) (n : Nat) : ∀ (d k o r : Nat), k + d ≤ n → fd_go fit ar n d k o = some r → r ≤ n
  | 0, k, o, r, hn, h => by
    rw [fd_go] at h
    by_cases h0 : o = 0
    · rw [if_pos h0] at h; cases h
    · rw [if_neg h0] at h
      cases h; omega
  | d+1, k, o, r, hn, h => by
    rw [fd_go] at h
    by_cases h0 : o = 0 ∨ fit k = false
    · rw [if_pos h0] at h
      cases h; omega
    · rw [if_neg h0] at h
      exact fd_le fit ar n d (k+1) _ r (by omega) h
def dr_bT (DK : Nat → Nat) (DV : Nat → Int32) (nc h i : Nat) : Bool := decide (i < 12 ∧ (DK i = 9 → DV i < nI h) ∧ (16 ≤ DK i → DK i - 16 < nc))
def dr_bS (DK : Nat → Nat) (DV : Nat → Int32) (nc i : Nat) : Bool := decide (((DK i = 1 ∨ DK i = 7) → 0 ≤ DV i) ∧ DK i ≠ 9 ∧ DK i ≠ 10 ∧ (16 ≤ DK i → DK i - 16 < nc))
def dr_D (DK : Nat → Nat) (DV : Nat → Int32) (dn : Nat) : Prop :=
  dn ≤ 24 ∧ ∀ i, i < dn → (DK i ≤ 10 ∨ (16 ≤ DK i ∧ DK i < 22)) ∧ (DK i = 9 → ∃ h, h < 3 ∧ DV i = nI h) ∧
    ((DK i = 1 ∨ DK i = 7) → (∃ w, w < 10 ∧ DV i = nI w) ∨ DV i = -1 ∨ DV i = -2) ∧
    ((2 ≤ DK i ∧ DK i ≤ 6) ∨ DK i = 8 ∨ DK i = 10 → DV i = 0)
def tx_cp {α : Type} (A D : Nat → α) (r n : Nat) : Nat → α := fun j => if 24 * r ≤ j ∧ j < 24 * r + n then D (j - 24 * r) else A j
theorem tx_cpI {α : Type} {A D : Nat → α} {r n i : Nat} (h : i < n) : tx_cp A D r n (24 * r + i) = D i := by
  unfold tx_cp
  rw [if_pos (by omega), Nat.add_sub_cancel_left]
theorem tx_cpO {α : Type} {A D : Nat → α} {r n j : Nat} (h : j < 24 * r ∨ 24 * r + n ≤ j) : tx_cp A D r n j = A j := by
  unfold tx_cp
  rw [if_neg (by omega)]
theorem tx_cpR {α : Type} {A D : Nat → α} {r r' n i m : Nat} (hr : r' ≠ r) (h1 : 24 * r' ≤ i) (h2 : i < 24 * r' + m) (hm : m ≤ 24) (hn : n ≤ 24) : tx_cp A D r n i = A i := by
  refine tx_cpO ?_
  omega
/-- rows that stay: other kinds and values elsewhere, other holes for concepts that aren't used -/
theorem tx_keep {K K' : Nat → Nat} {V V' : Nat → Int32} {Hn Hn' Len Len' : Nat → Nat} {nc nc' r : Nat} (w : tx_WF K V Hn Len nc) (hr : tx_row nc r) (hl : Len' r = Len r)
    (hK : ∀ i, 24 * r ≤ i → i < 24 * r + Len r → K' i = K i ∧ V' i = V i) (hH : ∀ c, c < nc → c < nc' → Hn' c = Hn c) (hr' : r < 6 → r < nc')
    (hu : ∀ i, 24 * r ≤ i → i < 24 * r + Len r → 16 ≤ K i → K i - 16 < nc') :
    Len' r ≤ 24 ∧ (r < 6 → 0 < Len' r ∧ Len' r ≤ 12 ∧ Hn' r ≤ 3) ∧
    (0 < Len' r → gx_ok (fun i => tx_a Hn' (K' i)) (Len' r) 1 (24 * r)) ∧
    (∀ i, 24 * r ≤ i → i < 24 * r + Len' r → tx_tok K' V' Hn' nc' r i) := by
  obtain ⟨w1, w2, w3, w4⟩ := w.2 r hr
  have hnc := w.1
  have hH2 : r < 6 → Hn' r = Hn r := fun h6 => by
    refine hH r ?_ (hr' h6)
    unfold tx_row at hr
    omega
  rw [hl]
  refine ⟨w1, fun h6 => ?_, fun h0 => ?_, fun i h1 h2 => ?_⟩
  · rw [hH2 h6]; exact w2 h6
  · refine gx_congr _ _ _ _ _ _ ?_ (w3 h0)
    intro i hi
    show tx_a Hn' (K' (24 * r + i)) = tx_a Hn (K (24 * r + i))
    have h5 := hK (24 * r + i) (by omega) (by omega)
    rw [h5.1]
    by_cases h16 : 16 ≤ K (24 * r + i)
    · rw [tx_aU _ h16, tx_aU _ h16]
      refine hH _ ?_ (hu _ (by omega) (by omega) h16)
      have h7 := (w4 (24 * r + i) (by omega) (by omega)).1
      unfold tx_lim at h7
      unfold tx_row at hr
      split at h7 <;> omega
    · exact tx_aI _ _ (by omega)
  · obtain ⟨t1, t2, t3, t4⟩ := w4 i h1 h2
    obtain ⟨e1, e2⟩ := hK i h1 h2
    have h8 := hu i h1 h2
    unfold tx_tok
    rw [e1, e2]
    refine ⟨?_, fun h9 => ?_, t3, t4⟩
    · unfold tx_lim at t1 ⊢
      split
      · next h6 => rw [if_pos h6] at t1; exact t1
      · next h6 =>
        rw [if_neg h6] at t1
        clear t2 t3 t4
        omega
    · obtain ⟨h, a, b⟩ := t2 h9
      refine ⟨h, ?_, b⟩
      have h6 : r < 6 := by
        clear t2 t3 t4
        omega
      rw [hH2 h6]; exact a
theorem tx_defined {K : Nat → Nat} {V : Nat → Int32} {Hn Len : Nat → Nat} {nc : Nat} {DK : Nat → Nat} {DV : Nat → Int32} {dn h : Nat}
    (w : tx_WF K V Hn Len nc) (hc : nc < 6) (hh : h ≤ 3) (D : dr_D DK DV dn)
    (hg : fd_go (dr_bT DK DV nc h) (fun i => tx_a Hn (DK i)) dn dn 0 1 = none) :
    tx_WF (tx_cp K DK nc dn) (tx_cp V DV nc dn) (pm_fu Hn nc h) (pm_fu Len nc dn) (nc+1) ∧ 0 < dn ∧ dn ≤ 12 := by
  obtain ⟨g1, g2⟩ := fd_ok _ _ _ _ _ _ hg
  have g3 : ∀ i, i < dn → i < 12 ∧ (DK i = 9 → DV i < nI h) ∧ (16 ≤ DK i → DK i - 16 < nc) := fun i hi => of_decide_eq_true (g2 i (by omega) (by omega))
  have d0 : 0 < dn := gx_pos g1
  have d12 : dn ≤ 12 := by
    have := (g3 (dn - 1) (by omega)).1
    omega
  refine ⟨⟨by omega, ?_⟩, d0, d12⟩
  intro r hr
  by_cases e : r = nc
  · subst e
    rw [pm_fs]
    refine ⟨by omega, fun _ => ⟨d0, d12, by rw [pm_fs]; exact hh⟩, fun _ => ?_, ?_⟩
    · refine gx_congr _ _ _ _ _ _ ?_ g1
      intro i hi
      show tx_a (pm_fu Hn r h) (tx_cp K DK r dn (24 * r + i)) = tx_a Hn (DK (0 + i))
      rw [tx_cpI hi, Nat.zero_add]
      by_cases h16 : 16 ≤ DK i
      · rw [tx_aU _ h16, tx_aU _ h16]
        have := (g3 i hi).2.2 h16
        exact pm_fn (by omega)
      · exact tx_aI _ _ (by omega)
    · intro i h1 h2
      obtain ⟨j, rfl⟩ : ∃ j, i = 24 * r + j := ⟨i - 24 * r, by omega⟩
      have hj : j < dn := by omega
      obtain ⟨D1, D2, D3, D4⟩ := D.2 j hj
      have g4 := g3 j hj
      unfold tx_tok
      rw [tx_cpI hj, tx_cpI hj, pm_fs]
      refine ⟨?_, fun h9 => ?_, fun h17 => ?_, D4⟩
      · have g5 := g4.2.2
        unfold tx_lim
        rw [if_pos hc]
        clear D2 D3 D4
        omega
      · obtain ⟨x, x1, x2⟩ := D2 h9
        refine ⟨x, ?_, x2⟩
        have g6 := g4.2.1 h9
        rw [x2] at g6
        exact (nI_ltI (by omega) (by omega)).mp g6
      · rcases D3 h17 with ⟨x, x1, x2⟩ | x
        · exact Or.inl ⟨x, x1, x2⟩
        · exact Or.inr ⟨hc, x⟩
  · have hr' : tx_row nc r := by
      unfold tx_row at hr ⊢
      omega
    refine tx_keep w hr' (pm_fn e) ?_ (fun c h1 _ => pm_fn (by omega)) (fun h6 => by unfold tx_row at hr; omega) ?_
    · intro i h1 h2
      have h3 := (w.2 r hr').1
      exact ⟨tx_cpR e h1 h2 h3 (by omega), tx_cpR e h1 h2 h3 (by omega)⟩
    · intro i h1 h2 h16
      have := tx_useRow w ⟨hr', h1, h2⟩ h16
      omega
theorem tx_sourced {K : Nat → Nat} {V : Nat → Int32} {Hn Len : Nat → Nat} {nc : Nat} {DK : Nat → Nat} {DV : Nat → Int32} {dn s : Nat}
    (w : tx_WF K V Hn Len nc) (hs : s < 4) (D : dr_D DK DV dn)
    (hg : dn = 0 ∨ fd_go (dr_bS DK DV nc) (fun i => tx_a Hn (DK i)) dn dn 0 1 = none) :
    tx_WF (tx_cp K DK (6+s) dn) (tx_cp V DV (6+s) dn) Hn (pm_fu Len (6+s) dn) nc := by
  refine ⟨w.1, ?_⟩
  intro r hr
  by_cases e : r = 6 + s
  · subst e
    rw [pm_fs]
    rcases hg with h0 | hg
    · subst h0
      exact ⟨by omega, fun h => by omega, fun h => by omega, fun i h1 h2 => by omega⟩
    · obtain ⟨g1, g2⟩ := fd_ok _ _ _ _ _ _ hg
      have g3 : ∀ i, i < dn → ((DK i = 1 ∨ DK i = 7) → 0 ≤ DV i) ∧ DK i ≠ 9 ∧ DK i ≠ 10 ∧ (16 ≤ DK i → DK i - 16 < nc) := fun i hi => of_decide_eq_true (g2 i (by omega) (by omega))
      refine ⟨D.1, fun h => by omega, fun _ => ?_, ?_⟩
      · refine gx_congr _ _ _ _ _ _ ?_ g1
        intro i hi
        show tx_a Hn (tx_cp K DK (6+s) dn (24 * (6+s) + i)) = tx_a Hn (DK (0 + i))
        rw [tx_cpI hi, Nat.zero_add]
      · intro i h1 h2
        obtain ⟨j, rfl⟩ : ∃ j, i = 24 * (6+s) + j := ⟨i - 24 * (6+s), by omega⟩
        have hj : j < dn := by omega
        obtain ⟨D1, D2, D3, D4⟩ := D.2 j hj
        obtain ⟨g4, g5, g6, g7⟩ := g3 j hj
        unfold tx_tok
        rw [tx_cpI hj, tx_cpI hj]
        refine ⟨?_, fun h9 => absurd h9 g5, fun h17 => ?_, D4⟩
        · unfold tx_lim
          have h6 : ¬ 6 + s < 6 := by omega
          rw [if_neg h6]
          clear D2 D3 D4
          omega
        · rcases D3 h17 with ⟨x, x1, x2⟩ | x | x
          · exact Or.inl ⟨x, x1, x2⟩
          · have := g4 h17
            rw [x] at this
            exact absurd this (by decide)
          · have := g4 h17
            rw [x] at this
            exact absurd this (by decide)
  · refine tx_keep w hr (pm_fn e) ?_ (fun c h1 _ => rfl) (fun h6 => by unfold tx_row at hr; omega) ?_
    · intro i h1 h2
      have h3 := (w.2 r hr).1
      exact ⟨tx_cpR e h1 h2 h3 D.1, tx_cpR e h1 h2 h3 D.1⟩
    · intro i h1 h2 h16
      exact (tx_useRow w ⟨hr, h1, h2⟩ h16).1
theorem tx_forgot {K : Nat → Nat} {V : Nat → Int32} {Hn Len : Nat → Nat} {nc : Nat} (w : tx_WF K V Hn Len (nc+1))
    (hu : ∀ s, s < 4 → ∀ i, i < Len (6+s) → K (24 * (6+s) + i) ≠ 16 + nc) : tx_WF K V Hn Len nc := by
  have w0 := w.1
  refine ⟨by omega, ?_⟩
  intro r hr
  have hr' : tx_row (nc+1) r := by
    unfold tx_row at hr ⊢
    omega
  refine tx_keep w hr' rfl (fun i _ _ => ⟨rfl, rfl⟩) (fun c _ _ => rfl) (fun h6 => by unfold tx_row at hr; omega) ?_
  intro i h1 h2 h16
  obtain ⟨u1, u2, u3⟩ := tx_useRow w ⟨hr', h1, h2⟩ h16
  by_cases h6 : r < 6
  · have := u3 h6
    unfold tx_row at hr
    omega
  · unfold tx_row at hr
    have h7 := hu (r - 6) (by omega) (i - 24 * r) (by rw [show 6 + (r - 6) = r from by omega]; omega)
    rw [show 24 * (6 + (r - 6)) + (i - 24 * r) = i from by omega] at h7
    omega
end
section
/-! working an expansion out, purely -/
def ev_say (w : Int32) (s : Nat × (Nat → Int32)) : Nat × (Nat → Int32) := (s.1 + 1, if s.1 < 20 then upd s.2 s.1 w else s.2)
def ev_bin (k : Nat) (x y : Int32) : Int32 := if k = 2 then x + y else if k = 3 then x - y else if k = 4 then x * y else if x < y then 1 else 0
def ev_vx (O : pm_O) (p : Nat) : Nat := (O p).2.1.toNatClampNeg
def ev_q (O : pm_O) (p : Nat) : Nat := gx_en (pm_ar O) (p+1)
def ev_r (O : pm_O) (p : Nat) : Nat := gx_en (pm_ar O) (ev_q O p)
def ev_go (O : pm_O) : Nat → Nat → (Nat → Int32) → Nat × (Nat → Int32) → Int32 × (Nat × (Nat → Int32))
  | 0, _, _, s => (0, s)
  | t+1, p, E, s =>
    if (O p).1 = 0 then ((O p).2.1, s)
    else if (O p).1 = 1 then (E (ev_vx O p), s)
    else if (O p).1 = 8 then ((ev_go O t (p+1) E s).1, ev_say (ev_go O t (p+1) E s).1 (ev_go O t (p+1) E s).2)
    else if (O p).1 = 6 then
      (if (ev_go O t (p+1) E s).1 = 0 then ev_go O t (ev_r O p) E (ev_go O t (p+1) E s).2 else ev_go O t (ev_q O p) E (ev_go O t (p+1) E s).2)
    else if (O p).1 = 7 then ev_go O t (ev_q O p) (upd E (ev_vx O p) (ev_go O t (p+1) E s).1) (ev_go O t (p+1) E s).2
    else (ev_bin (O p).1 (ev_go O t (p+1) E s).1 (ev_go O t (ev_q O p) E (ev_go O t (p+1) E s).2).1, (ev_go O t (ev_q O p) E (ev_go O t (p+1) E s).2).2)
theorem ev_0 {O : pm_O} {t p : Nat} {E : Nat → Int32} {s : Nat × (Nat → Int32)} (h : (O p).1 = 0) : ev_go O (t+1) p E s = ((O p).2.1, s) := by
  rw [ev_go, if_pos h]
theorem ev_1 {O : pm_O} {t p : Nat} {E : Nat → Int32} {s : Nat × (Nat → Int32)} (h : (O p).1 = 1) : ev_go O (t+1) p E s = (E (ev_vx O p), s) := by
  rw [ev_go, if_neg (by omega), if_pos h]
theorem ev_8 {O : pm_O} {t p : Nat} {E : Nat → Int32} {s : Nat × (Nat → Int32)} (h : (O p).1 = 8) : ev_go O (t+1) p E s = ((ev_go O t (p+1) E s).1, ev_say (ev_go O t (p+1) E s).1 (ev_go O t (p+1) E s).2) := by
  rw [ev_go, if_neg (by omega), if_neg (by omega), if_pos h]
theorem ev_6z {O : pm_O} {t p : Nat} {E : Nat → Int32} {s : Nat × (Nat → Int32)} (h : (O p).1 = 6) (h0 : (ev_go O t (p+1) E s).1 = 0) : ev_go O (t+1) p E s = ev_go O t (ev_r O p) E (ev_go O t (p+1) E s).2 := by
  rw [ev_go, if_neg (by omega), if_neg (by omega), if_neg (by omega), if_pos h, if_pos h0]
theorem ev_6n {O : pm_O} {t p : Nat} {E : Nat → Int32} {s : Nat × (Nat → Int32)} (h : (O p).1 = 6) (h0 : ¬ (ev_go O t (p+1) E s).1 = 0) : ev_go O (t+1) p E s = ev_go O t (ev_q O p) E (ev_go O t (p+1) E s).2 := by
  rw [ev_go, if_neg (by omega), if_neg (by omega), if_neg (by omega), if_pos h, if_neg h0]
theorem ev_7 {O : pm_O} {t p : Nat} {E : Nat → Int32} {s : Nat × (Nat → Int32)} (h : (O p).1 = 7) : ev_go O (t+1) p E s = ev_go O t (ev_q O p) (upd E (ev_vx O p) (ev_go O t (p+1) E s).1) (ev_go O t (p+1) E s).2 := by
  rw [ev_go, if_neg (by omega), if_neg (by omega), if_neg (by omega), if_neg (by omega), if_pos h]
theorem ev_b {O : pm_O} {t p : Nat} {E : Nat → Int32} {s : Nat × (Nat → Int32)} (h : 2 ≤ (O p).1 ∧ (O p).1 ≤ 5) : ev_go O (t+1) p E s =
    (ev_bin (O p).1 (ev_go O t (p+1) E s).1 (ev_go O t (ev_q O p) E (ev_go O t (p+1) E s).2).1, (ev_go O t (ev_q O p) E (ev_go O t (p+1) E s).2).2) := by
  rw [ev_go, if_neg (by omega), if_neg (by omega), if_neg (by omega), if_neg (by omega), if_neg (by omega)]
/-! the operands, one by one -/
theorem tr_ar0 {O : pm_O} {p : Nat} (h : (O p).1 = 0 ∨ (O p).1 = 1) : pm_ar O p = 0 := by
  unfold pm_ar
  rcases h with h | h <;> rw [h] <;> rfl
theorem tr_ar1 {O : pm_O} {p : Nat} (h : (O p).1 = 8) : pm_ar O p = 1 := by
  unfold pm_ar
  rw [h]; rfl
theorem tr_ar3 {O : pm_O} {p : Nat} (h : (O p).1 = 6) : pm_ar O p = 3 := by
  unfold pm_ar
  rw [h]; rfl
theorem tr_ar2 {O : pm_O} {p : Nat} (h : (2 ≤ (O p).1 ∧ (O p).1 ≤ 5) ∨ (O p).1 = 7) : pm_ar O p = 2 := by
  unfold pm_ar tx_a
  rw [if_neg (by omega), if_neg (by omega), if_neg (by omega), if_pos h]
theorem tr_k1 {n : Nat} {O : pm_O} (h : tr_G n O) {p : Nat} (hp : p < n) (ha : 1 ≤ pm_ar O p) : p + 1 < n ∧ (O (p+1)).2.2.2 = p + 1 := by
  obtain ⟨R, dj, e1, e2, e3, e4, e5, e6, e7⟩ := tr_ch h hp (j := 0) (by omega)
  have e : dj = 0 := by
    rw [gx_op] at e2
    omega
  subst e
  exact e7 (by omega)
theorem tr_k2 {n : Nat} {O : pm_O} (h : tr_G n O) {p : Nat} (hp : p < n) (ha : 2 ≤ pm_ar O p) :
    ev_q O p < n ∧ (O (ev_q O p)).2.2.2 = p + 1 ∧ ev_q O p = p + 1 + tr_sp (pm_ar O) (p+1) ∧ p + 1 < ev_q O p := by
  obtain ⟨k1, k2⟩ := tr_k1 h hp (by omega)
  obtain ⟨s1, s2, s3, s4⟩ := tr_spE h k1
  obtain ⟨R, dj, e1, e2, e3, e4, e5, e6, e7⟩ := tr_ch h hp (j := 1) (by omega)
  have e : ev_q O p = p + 1 + dj := e2
  have e8 := e7 (by omega)
  rw [← e] at e8
  have e9 : ev_q O p = p + 1 + tr_sp (pm_ar O) (p+1) := s4
  exact ⟨e8.1, e8.2, e9, by omega⟩
theorem tr_k3 {n : Nat} {O : pm_O} (h : tr_G n O) {p : Nat} (hp : p < n) (ha : 3 ≤ pm_ar O p) :
    ev_r O p < n ∧ (O (ev_r O p)).2.2.2 = p + 1 ∧ ev_r O p = ev_q O p + tr_sp (pm_ar O) (ev_q O p) ∧ ev_q O p < ev_r O p := by
  obtain ⟨k1, k2, k3, k4⟩ := tr_k2 h hp (by omega)
  obtain ⟨s1, s2, s3, s4⟩ := tr_spE h k1
  obtain ⟨R, dj, e1, e2, e3, e4, e5, e6, e7⟩ := tr_ch h hp (j := 2) (by omega)
  have e : ev_r O p = p + 1 + dj := e2
  have e8 := e7 (by omega)
  rw [← e] at e8
  have e9 : ev_r O p = ev_q O p + tr_sp (pm_ar O) (ev_q O p) := s4
  exact ⟨e8.1, e8.2, e9, by omega⟩
theorem tr_lastE {n : Nat} {O : pm_O} (h : tr_G n O) {p : Nat} (hp : p < n) : gx_op (pm_ar O) (p+1) (pm_ar O p) = p + tr_sp (pm_ar O) p := by
  obtain ⟨R, dj, e1, e2, e3, e4, e5, e6, e7⟩ := tr_ch h hp (j := pm_ar O p) (Nat.le_refl _)
  rw [Nat.sub_self] at e5
  have e := gx_det _ _ _ _ _ e5 (gx_00 _ _)
  rw [e2]; omega
theorem tr_l0 {n : Nat} {O : pm_O} (h : tr_G n O) {p : Nat} (hp : p < n) (ha : pm_ar O p = 0) : tr_sp (pm_ar O) p = 1 := by
  have := tr_lastE h hp
  rw [ha, gx_op] at this
  omega
theorem tr_l1 {n : Nat} {O : pm_O} (h : tr_G n O) {p : Nat} (hp : p < n) (ha : pm_ar O p = 1) : p + 1 + tr_sp (pm_ar O) (p+1) = p + tr_sp (pm_ar O) p := by
  obtain ⟨k1, k2⟩ := tr_k1 h hp (by omega)
  obtain ⟨s1, s2, s3, s4⟩ := tr_spE h k1
  have e := tr_lastE h hp
  rw [ha] at e
  have e2 : gx_op (pm_ar O) (p+1) 1 = gx_en (pm_ar O) (p+1) := rfl
  omega
theorem tr_l2 {n : Nat} {O : pm_O} (h : tr_G n O) {p : Nat} (hp : p < n) (ha : pm_ar O p = 2) : ev_q O p + tr_sp (pm_ar O) (ev_q O p) = p + tr_sp (pm_ar O) p := by
  obtain ⟨k1, k2, k3, k4⟩ := tr_k2 h hp (by omega)
  obtain ⟨s1, s2, s3, s4⟩ := tr_spE h k1
  have e := tr_lastE h hp
  rw [ha] at e
  have e2 : gx_op (pm_ar O) (p+1) 2 = gx_en (pm_ar O) (ev_q O p) := rfl
  omega
theorem tr_l3 {n : Nat} {O : pm_O} (h : tr_G n O) {p : Nat} (hp : p < n) (ha : pm_ar O p = 3) : ev_r O p + tr_sp (pm_ar O) (ev_r O p) = p + tr_sp (pm_ar O) p := by
  obtain ⟨k1, k2, k3, k4⟩ := tr_k3 h hp (by omega)
  obtain ⟨s1, s2, s3, s4⟩ := tr_spE h k1
  have e := tr_lastE h hp
  rw [ha] at e
  have e2 : gx_op (pm_ar O) (p+1) 3 = gx_en (pm_ar O) (ev_r O p) := rfl
  omega
theorem tr_kinds {n : Nat} {O : pm_O} (h : tr_G n O) {p : Nat} (hp : p < n) :
    (O p).1 = 0 ∨ (O p).1 = 1 ∨ (2 ≤ (O p).1 ∧ (O p).1 ≤ 5) ∨ (O p).1 = 6 ∨ (O p).1 = 7 ∨ (O p).1 = 8 := by
  have := (h.2.2 p hp).1
  omega
theorem ev_cnt {n : Nat} {O : pm_O} (h : tr_G n O) : ∀ (t p : Nat) (E : Nat → Int32) (s : Nat × (Nat → Int32)), p < n → tr_sp (pm_ar O) p ≤ t → (ev_go O t p E s).2.1 ≤ s.1 + tr_sp (pm_ar O) p
  | 0, p, E, s, _, _ => Nat.le_add_right _ _
  | t+1, p, E, s, hp, ht => by
    rcases tr_kinds h hp with hk | hk | hk | hk | hk | hk
    · rw [ev_0 hk]; exact Nat.le_add_right _ _
    · rw [ev_1 hk]; exact Nat.le_add_right _ _
    · have ha := tr_ar2 (Or.inl hk)
      obtain ⟨k1, k2⟩ := tr_k1 h hp (by omega)
      obtain ⟨q1, q2, q3, q4⟩ := tr_k2 h hp (by omega)
      have l := tr_l2 h hp ha
      have i1 := ev_cnt h t (p+1) E s k1 (by omega)
      have i2 := ev_cnt h t (ev_q O p) E (ev_go O t (p+1) E s).2 q1 (by omega)
      rw [ev_b hk]
      dsimp only
      omega
    · have ha := tr_ar3 hk
      obtain ⟨k1, k2⟩ := tr_k1 h hp (by omega)
      obtain ⟨q1, q2, q3, q4⟩ := tr_k2 h hp (by omega)
      obtain ⟨r1, r2, r3, r4⟩ := tr_k3 h hp (by omega)
      have l := tr_l3 h hp ha
      have i1 := ev_cnt h t (p+1) E s k1 (by omega)
      by_cases h0 : (ev_go O t (p+1) E s).1 = 0
      · have i2 := ev_cnt h t (ev_r O p) E (ev_go O t (p+1) E s).2 r1 (by omega)
        rw [ev_6z hk h0]
        omega
      · have i2 := ev_cnt h t (ev_q O p) E (ev_go O t (p+1) E s).2 q1 (by omega)
        rw [ev_6n hk h0]
        omega
    · have ha := tr_ar2 (Or.inr hk)
      obtain ⟨k1, k2⟩ := tr_k1 h hp (by omega)
      obtain ⟨q1, q2, q3, q4⟩ := tr_k2 h hp (by omega)
      have l := tr_l2 h hp ha
      have i1 := ev_cnt h t (p+1) E s k1 (by omega)
      have i2 := ev_cnt h t (ev_q O p) (upd E (ev_vx O p) (ev_go O t (p+1) E s).1) (ev_go O t (p+1) E s).2 q1 (by omega)
      rw [ev_7 hk]
      omega
    · have ha := tr_ar1 hk
      obtain ⟨k1, k2⟩ := tr_k1 h hp (by omega)
      have l := tr_l1 h hp ha
      have i1 := ev_cnt h t (p+1) E s k1 (by omega)
      rw [ev_8 hk]
      unfold ev_say
      dsimp only
      omega
/-! a variable, by going up -/
def ev_wk (O : pm_O) (E0 W : Nat → Int32) : Nat → Nat → Nat → Int32
  | 0, _, v => E0 v
  | t+1, b, v => if (O b).2.2.2 = 0 then E0 v
    else if (O ((O b).2.2.2 - 1)).1 = 7 ∧ ev_vx O ((O b).2.2.2 - 1) = v ∧ b ≠ (O b).2.2.2 then W (O b).2.2.2
    else ev_wk O E0 W t ((O b).2.2.2 - 1) v
def ev_en (O : pm_O) (E0 W : Nat → Int32) (p : Nat) (E : Nat → Int32) : Prop := ∀ t v, p ≤ t → v < 4110 → ev_wk O E0 W t p v = E v
theorem ev_en0 {n : Nat} {O : pm_O} (h : tr_G n O) (E0 W : Nat → Int32) : ev_en O E0 W 0 E0 := by
  intro t v _ _
  cases t with
  | zero => rfl
  | succ t =>
    obtain ⟨R, e⟩ := (h.2.2 0 (tr_n0 h)).2.2.2
    rw [tr_pd] at e
    have e1 : (O 0).2.2.2 = 0 := (List.cons.inj e).1.symm
    rw [ev_wk, if_pos e1]
theorem ev_enA {O : pm_O} {E0 W E : Nat → Int32} {p c : Nat} (h : ev_en O E0 W p E) (hc : (O c).2.2.2 = p + 1) (hp : p < c) (h7 : (O p).1 ≠ 7 ∨ c = p + 1) : ev_en O E0 W c E := by
  intro t v ht hv
  cases t with
  | zero => omega
  | succ t =>
    rw [ev_wk, hc, if_neg (by omega), Nat.add_sub_cancel, if_neg (by omega)]
    exact h t v (by omega) hv
theorem ev_enB {O : pm_O} {E0 W E : Nat → Int32} {p c : Nat} (h : ev_en O E0 W p E) (hc : (O c).2.2.2 = p + 1) (hp : p < c) (h7 : (O p).1 = 7) (hne : c ≠ p + 1) : ev_en O E0 W c (upd E (ev_vx O p) (W (p+1))) := by
  intro t v ht hv
  cases t with
  | zero => omega
  | succ t =>
    rw [ev_wk, hc, if_neg (by omega), Nat.add_sub_cancel]
    unfold upd
    by_cases e : ev_vx O p = v
    · rw [if_pos ⟨h7, e, hne⟩, if_pos e.symm]
    · rw [if_neg (fun z => e z.2.1), if_neg (fun z => e z.symm)]
      exact h t v (by omega) hv
theorem ev_wkW {n : Nat} {O : pm_O} (h : tr_G n O) {E0 W W' : Nat → Int32} : ∀ (t b v : Nat), b < n → (∀ j, j < b → W' j = W j) → ev_wk O E0 W' t b v = ev_wk O E0 W t b v
  | 0, _, _, _, _ => rfl
  | t+1, b, v, hb, hw => by
    obtain ⟨R, e⟩ := (h.2.2 b hb).2.2.2
    have h1 : (O b).2.2.2 ≤ b := tr_pdB (pm_ar O) b _ (by rw [e]; exact List.mem_cons_self)
    rw [ev_wk, ev_wk]
    by_cases h0 : (O b).2.2.2 = 0
    · rw [if_pos h0, if_pos h0]
    · rw [if_neg h0, if_neg h0]
      by_cases h2 : (O ((O b).2.2.2 - 1)).1 = 7 ∧ ev_vx O ((O b).2.2.2 - 1) = v ∧ b ≠ (O b).2.2.2
      · rw [if_pos h2, if_pos h2]
        exact hw _ (by omega)
      · rw [if_neg h2, if_neg h2]
        exact ev_wkW h t _ v (by omega) (fun j hj => hw j (by omega))
theorem ev_enW {n : Nat} {O : pm_O} (h : tr_G n O) {E0 W W' E : Nat → Int32} {p : Nat} (hp : p < n) (he : ev_en O E0 W p E) (hw : ∀ j, j < p → W' j = W j) : ev_en O E0 W' p E := by
  intro t v ht hv
  rw [ev_wkW h t p v hp hw]
  exact he t v ht hv
end
section
/-! the component's pieces against the machine's stack -/
def xs_b (r : Nat) : Nat := if r < 6 then 120 + 12 * r else 24 * (r - 6)
def xs_seg (ar : Nat → Nat) (q f : Nat) (rest : List pm_S) : Nat → Nat → List pm_S → Prop
  | 0, p, st => p = q ∧ st = rest
  | c+1, p, st => ∃ d a st', gx_ok ar d 1 p ∧ st = (p, f, a) :: st' ∧ xs_seg ar q f rest c (p+d) st'
theorem xs_le (ar : Nat → Nat) (q f : Nat) (rest : List pm_S) : ∀ (c p : Nat) (st : List pm_S), xs_seg ar q f rest c p st → p + c ≤ q
  | 0, p, st, h => by
    have := h.1
    omega
  | c+1, p, st, h => by
    obtain ⟨d, a, st', h1, h2, h3⟩ := h
    have := xs_le ar q f rest c _ _ h3
    have := gx_pos h1
    omega
theorem xs_push (ar : Nat → Nat) (q f a : Nat) (rest : List pm_S) (p : Nat) : ∀ (m D c : Nat) (st : List pm_S), gx_ok ar D m p → D ≤ 2500 → xs_seg ar q f rest c (p+D) st → xs_seg ar q f rest (m + c) p (gx_push (fun o => (gx_op ar p o, f, a)) m st)
  | 0, D, c, st, h, _, hs => by
    have e : D = 0 := gx_det _ _ _ _ _ h (gx_00 _ _)
    subst e
    rw [Nat.zero_add]
    exact hs
  | m+1, D, c, st, h, hD, hs => by
    obtain ⟨d1, d2, e, h1, h2⟩ := gx_split ar _ _ _ _ h
    obtain ⟨dk, k1, k2, k3, k4⟩ := gx_opE ar p m d1 m h1 (by omega) (Nat.le_refl _)
    have ek : dk = d1 := gx_det _ _ _ _ _ k3 h1
    have e2 : m + 1 + c = m + (c + 1) := by omega
    rw [e2]
    refine xs_push ar q f a rest p m d1 (c+1) _ h1 (by omega) ⟨d2, a, st, h2, ?_, ?_⟩
    · dsimp only
      rw [k1, ek]
    · rw [Nat.add_assoc, ← e]
      exact hs
def xs_P (ar row Len dp : Nat → Nat) (nf : Nat) (pn pe pf : Nat → Int32) : Nat → List pm_S → Prop
  | 0, st => st = []
  | j+1, st => ∃ c p q f rest, xs_seg ar q f rest c p st ∧ f ≤ nf ∧ 24 * row f ≤ p ∧ q ≤ 24 * row f + Len (row f) ∧ j + dp f ≤ 2 * nf ∧
      pn j = nI (xs_b (row f) + (p - 24 * row f)) ∧ pe j = nI (xs_b (row f) + (q - 24 * row f)) ∧ pf j = nI f ∧ xs_P ar row Len dp nf pn pe pf j rest
theorem xs_keep {ar row row' Len dp dp' : Nat → Nat} {nf nf' : Nat} {pn pe pf pn' pe' pf' : Nat → Int32} (hf : ∀ f, f ≤ nf → row' f = row f ∧ dp' f = dp f) (hn : nf ≤ nf') :
    ∀ (j : Nat) (st : List pm_S), (∀ i, i < j → pn' i = pn i ∧ pe' i = pe i ∧ pf' i = pf i) → xs_P ar row Len dp nf pn pe pf j st → xs_P ar row' Len dp' nf' pn' pe' pf' j st
  | 0, _, _, h => h
  | j+1, st, ha, h => by
    obtain ⟨c, p, q, f, rest, h1, h2, h3, h4, h5, h6, h7, h8, h9⟩ := h
    obtain ⟨e1, e2⟩ := hf f h2
    obtain ⟨a1, a2, a3⟩ := ha j (by omega)
    refine ⟨c, p, q, f, rest, h1, by omega, by rw [e1]; exact h3, by rw [e1]; exact h4, by rw [e2]; omega, by rw [a1, e1]; exact h6, by rw [a2, e1]; exact h7, by rw [a3]; exact h8, ?_⟩
    exact xs_keep hf hn j rest (fun i hi => ha i (by omega)) h9
def xs_T (K : Nat → Nat) (V : Nat → Int32) (Len : Nat → Nat) (nc : Nat) (tk tv : Nat → Int32) : Prop :=
  ∀ r, tx_row nc r → ∀ j, j < Len r → tk (xs_b r + j) = nI (K (24 * r + j)) ∧ tv (xs_b r + j) = V (24 * r + j)
def xs_F (row : Nat → Nat) (F : pm_F) (nf : Nat) (fU fA fO : Nat → Int32) : Prop :=
  ∀ f, 1 ≤ f → f ≤ nf → fU f = nI (xs_b (row (F f).2.1) + ((F f).1 - 24 * row (F f).2.1)) ∧ fA f = nI (F f).2.1 ∧ fO f = nI (F f).2.2.1
def xs_O (n : Nat) (O : pm_O) (pk pv po : Nat → Int32) : Prop :=
  ∀ m, m < n → pk m = nI (O m).1 ∧ pv m = (O m).2.1 ∧ po m = nI (O m).2.2.1
theorem xs_Tp {K : Nat → Nat} {V : Nat → Int32} {Len : Nat → Nat} {nc : Nat} {tk tv : Nat → Int32} (h : xs_T K V Len nc tk tv) {r i : Nat} (hp : tx_pos Len nc r i) :
    tk (xs_b r + (i - 24 * r)) = nI (K i) ∧ tv (xs_b r + (i - 24 * r)) = V i := by
  obtain ⟨h1, h2, h3⟩ := hp
  have := h r h1 (i - 24 * r) (by omega)
  rw [show 24 * r + (i - 24 * r) = i from by omega] at this
  exact this
theorem xs_b192 {K : Nat → Nat} {V : Nat → Int32} {Hn Len : Nat → Nat} {nc r : Nat} (w : tx_WF K V Hn Len nc) (hr : tx_row nc r) : xs_b r + Len r ≤ 192 := by
  have w0 := w.1
  obtain ⟨w1, w2, _⟩ := w.2 r hr
  unfold tx_row at hr
  unfold xs_b
  split
  · next h => have := w2 h; omega
  · omega
end
section
/-! a token whose parent is k is one of the operands of k -/
theorem gx_opS (a : Nat → Nat) (p : Nat) : ∀ j, gx_op a (gx_en a p) j = gx_op a p (j+1)
  | 0 => rfl
  | j+1 => by
    show gx_en a (gx_op a (gx_en a p) j) = gx_en a (gx_op a p (j+1))
    rw [gx_opS a p j]
theorem tr_lo (a : Nat → Nat) : ∀ (d c p b : Nat) (L R : List Nat), gx_ok a d c p → tr_pd a p = L ++ R → L.length = c → (∀ x, x ∈ L → b ≤ x) → b ≤ p + 1 → ∀ o, p ≤ o → o < p + d → ∃ u R', tr_pd a o = u :: R' ∧ b ≤ u
  | 0, _, _, _, _, _, _, _, _, _, _, o, h1, h2 => by omega
  | d+1, c, p, b, L, R, g, e, el, hL, hb, o, h1, h2 => by
    have g0 := g.1
    cases L with
    | nil => rw [List.length_nil] at el; omega
    | cons u L' =>
      by_cases ho : o = p
      · subst ho
        exact ⟨u, L' ++ R, e, hL u List.mem_cons_self⟩
      · have e1 : tr_pd a (p+1) = (List.replicate (a p) (p+1) ++ L') ++ R := by
          rw [tr_pdS, e, List.append_assoc]
          rfl
        refine tr_lo a d _ (p+1) b _ R g.2 e1 ?_ ?_ (by omega) o (by omega) (by omega)
        · rw [List.length_append, List.length_replicate]
          rw [List.length_cons] at el
          omega
        · intro x hx
          rcases List.mem_append.mp hx with hx | hx
          · have := List.eq_of_mem_replicate hx
            omega
          · exact hL x (List.mem_cons_of_mem _ hx)
theorem tr_hi (a : Nat → Nat) (e : Nat) : ∀ (i x : Nat), x ∈ tr_pd a (e+i) → x ∈ tr_pd a e ∨ e + 1 ≤ x
  | 0, x, h => Or.inl h
  | i+1, x, h => by
    have h' : x ∈ tr_pd a ((e+i)+1) := h
    rw [tr_pdS, List.mem_append] at h'
    rcases h' with h' | h'
    · have := List.eq_of_mem_replicate h'
      omega
    · exact tr_hi a e i x (List.mem_of_mem_tail h')
theorem tr_forest (a : Nat → Nat) : ∀ (c d p k : Nat) (R : List Nat), gx_ok a d c p → d ≤ 2500 → tr_pd a p = List.replicate c (k+1) ++ R → k < p → ∀ o R', p ≤ o → o < p + d → tr_pd a o = (k+1) :: R' → ∃ j, j < c ∧ o = gx_op a p j
  | 0, d, p, k, R, g, _, _, _, o, R', h1, h2, _ => by
    have e : d = 0 := gx_det _ _ _ _ _ g (gx_00 _ _)
    omega
  | c+1, d, p, k, R, g, hd, e, hk, o, R', h1, h2, eo => by
    obtain ⟨d1, d2, e1, g1, g2, g3, g4⟩ := tr_cut g hd
    by_cases ho : o = p
    · exact ⟨0, by omega, ho⟩
    · by_cases ho2 : o < p + (d1 + 1)
      · have e5 : tr_pd a (p+1) = List.replicate (a p) (p+1) ++ (List.replicate c (k+1) ++ R) := by
          rw [tr_pdS, e, List.replicate_succ]
          rfl
        obtain ⟨u, R2, e6, e7⟩ := tr_lo a d1 (a p) (p+1) (p+1) _ _ g1 e5 List.length_replicate (fun x hx => by have := List.eq_of_mem_replicate hx; omega) (by omega) o (by omega) (by omega)
        rw [eo] at e6
        have := (List.cons.inj e6).1
        omega
      · have e8 : tr_pd a (p + (d1+1)) = List.replicate c (k+1) ++ R := tr_sk a (d1+1) 1 p [k+1] _ g4 (by rw [e, List.replicate_succ]; rfl) rfl
        obtain ⟨j, j1, j2⟩ := tr_forest a c d2 _ k R g3 (by omega) e8 (by omega) o R' (by omega) (by omega) eo
        refine ⟨j+1, by omega, ?_⟩
        rw [j2, ← g2, gx_opS]
theorem tr_isch {n : Nat} {O : pm_O} (h : tr_G n O) {k o : Nat} (hk : k < n) (ho : o < n) (e : (O o).2.2.2 = k + 1) : ∃ j, j < pm_ar O k ∧ o = gx_op (pm_ar O) (k+1) j := by
  obtain ⟨R, dj, e1, e2, e3, e4, e5, e6, e7⟩ := tr_ch h hk (j := 0) (Nat.zero_le _)
  have hd : dj = 0 := by
    rw [gx_op] at e2
    omega
  subst hd
  obtain ⟨R', er⟩ := (h.2.2 o ho).2.2.2
  rw [e] at er
  have h3 := h.1
  obtain ⟨s1, s2, s3, s4⟩ := tr_spE h hk
  have hm : k + 1 ∈ tr_pd (pm_ar O) o := by rw [er]; exact List.mem_cons_self
  by_cases h1 : o ≤ k
  · have := tr_pdB _ o _ hm
    omega
  · by_cases h2 : o < k + tr_sp (pm_ar O) k
    · exact tr_forest (pm_ar O) (pm_ar O k) (tr_sp (pm_ar O) k - 1) (k+1) k R e5 (by omega) e6 (by omega) o R' (by omega) (by omega) er
    · have h5 : k + tr_sp (pm_ar O) k + (o - (k + tr_sp (pm_ar O) k)) = o := by omega
      rw [← h5] at hm
      have e9 : tr_pd (pm_ar O) (k + tr_sp (pm_ar O) k) = R := tr_sk _ _ 1 k [(O k).2.2.2] R s1 e1 rfl
      rcases tr_hi _ _ _ _ hm with h6 | h6
      · rw [e9] at h6
        have := tr_pdB (pm_ar O) k (k+1) (by rw [e1]; exact List.mem_cons_of_mem _ h6)
        omega
      · omega
end
section
/-! the reference's arrays against the machine -/
def ys_P (td wi un : Nat → Int32) : Nat → List pm_S → Prop
  | 0, st => st = []
  | j+1, st => ∃ i f a rest, st = (i, f, a) :: rest ∧ td j = nI i ∧ wi j = ys_i f ∧ un j = ys_i a ∧ ys_P td wi un j rest
theorem ys_keep {td wi un td' wi' un' : Nat → Int32} : ∀ (j : Nat) (st : List pm_S), (∀ i, i < j → td' i = td i ∧ wi' i = wi i ∧ un' i = un i) → ys_P td wi un j st → ys_P td' wi' un' j st
  | 0, _, _, h => h
  | j+1, st, ha, h => by
    obtain ⟨i, f, a, rest, h1, h2, h3, h4, h5⟩ := h
    obtain ⟨a1, a2, a3⟩ := ha j (by omega)
    exact ⟨i, f, a, rest, h1, by rw [a1]; exact h2, by rw [a2]; exact h3, by rw [a3]; exact h4, ys_keep j rest (fun x hx => ha x (by omega)) h5⟩
theorem ys_len {td wi un : Nat → Int32} : ∀ (j : Nat) (st : List pm_S), ys_P td wi un j st → st.length = j
  | 0, st, h => by
    have e : st = [] := h
    rw [e]; rfl
  | j+1, st, h => by
    obtain ⟨i, f, a, rest, h1, h2, h3, h4, h5⟩ := h
    rw [h1, List.length_cons, ys_len j rest h5]
theorem ys_put {td wi un : Nat → Int32} {j : Nat} {rest : List pm_S} {i f a : Nat} {x y z : Int32} (h : ys_P td wi un j rest) (hx : x = nI i) (hy : y = ys_i f) (hz : z = ys_i a) :
    ys_P (upd td j x) (upd wi j y) (upd un j z) (j+1) ((i, f, a) :: rest) := by
  refine ⟨i, f, a, rest, rfl, ?_, ?_, ?_, ?_⟩
  · rw [pk_us]; exact hx
  · rw [pk_us]; exact hy
  · rw [pk_us]; exact hz
  · exact ys_keep j rest (fun x hx => ⟨pk_un (by omega), pk_un (by omega), pk_un (by omega)⟩) h
def ys_F (F : pm_F) (nf : Nat) (sd ou fr : Nat → Int32) : Prop :=
  ∀ f, f < nf → sd f = nI (F (f+1)).1 ∧ ou f = ys_i (F (f+1)).2.1 ∧ fr f = nI (F (f+1)).2.2.1
def ys_O (n : Nat) (O : pm_O) (ks vs og pa : Nat → Int32) : Prop :=
  ∀ m, m < n → ks m = nI (O m).1 ∧ vs m = (O m).2.1 ∧ og m = nI (O m).2.2.1 ∧ pa m = ys_i (O m).2.2.2
def tx_hv (k : Nat) : Prop := k = 0 ∨ k = 1 ∨ k = 7 ∨ k = 9 ∨ 16 ≤ k
def ys_T (K : Nat → Nat) (V : Nat → Int32) (Hn Len : Nat → Nat) (nc : Nat) (kd bh vl : Nat → Int32) : Prop :=
  ∀ r, tx_row nc r → ∀ i, 24 * r ≤ i → i < 24 * r + Len r → kd i = nI (K i) ∧ (tx_hv (K i) → vl i = V i) ∧ bh i = nI (gx_en (fun i => tx_a Hn (K i)) i - 24 * r)
theorem ys_opS {K : Nat → Nat} {V : Nat → Int32} {Hn Len : Nat → Nat} {nc r i : Nat} {kd bh vl : Nat → Int32} (w : tx_WF K V Hn Len nc) (T : ys_T K V Hn Len nc kd bh vl) (h : tx_pos Len nc r i) {o : Nat} (ho : o < tx_a Hn (K i)) :
    tx_pos Len nc r (gx_op (fun i => tx_a Hn (K i)) (i+1) o) ∧
    bh (gx_op (fun i => tx_a Hn (K i)) (i+1) o) = nI (gx_op (fun i => tx_a Hn (K i)) (i+1) (o+1) - 24 * r) ∧
    24 * r ≤ gx_op (fun i => tx_a Hn (K i)) (i+1) (o+1) ∧ gx_op (fun i => tx_a Hn (K i)) (i+1) (o+1) ≤ 24 * r + Len r := by
  have hp := pm_opE w h ho
  obtain ⟨d, d1, d2, d3, d4⟩ := tx_expr w hp
  have e : gx_op (fun i => tx_a Hn (K i)) (i+1) (o+1) = gx_op (fun i => tx_a Hn (K i)) (i+1) o + d := gx_enE d1 (by omega)
  have hb := (T r h.1 _ hp.2.1 hp.2.2).2.2
  have e2 : gx_en (fun i => tx_a Hn (K i)) (gx_op (fun i => tx_a Hn (K i)) (i+1) o) = gx_op (fun i => tx_a Hn (K i)) (i+1) o + d := gx_enE d1 (by omega)
  rw [e2, ← e] at hb
  have h2 := hp.2.1
  exact ⟨hp, hb, by omega, by omega⟩
end
section
variable {xds xcc xmi xre xpc xpl xtl xsc xou : Int32} {xtk xtv xss xts xho xfu xfa xfo xpn xpe xpf xqk xqv xqo xqp xqs xqh xwo xsi : Nat → Int32}
theorem gx_cd (ar : Nat → Nat) : ∀ (d c p : Nat), gx_ok ar d c p → c ≤ d
  | 0, c, p, h => by
    have h0 : c = 0 := h
    omega
  | d+1, c, p, h => by
    have h1 := gx_cd ar d _ _ h.2
    omega
theorem nu_open {c a : Nat} (h : 0 < c) : nI c + (nI a - 1) = nI (c - 1 + a) := by
  obtain ⟨c', rfl⟩ : ∃ c', c = c' + 1 := ⟨c - 1, by omega⟩
  rw [Nat.add_sub_cancel, nI_succ c', ← nI_add c' a]
  generalize nI c' = x
  generalize nI a = y
  grind
theorem xw_isUse {post : Int32 → Prop} {k : Nat} (hk : k < 2 ^ 31) (h1 : 16 ≤ k → k < 22 → post 1) (h0 : ¬ (16 ≤ k ∧ k < 22) → post 0) : wpX_isUse post (nI k) := by
  unfold wpX_isUse
  exact pk_lt k 16 (fun z => h0 (by omega)) (fun z => pk_le 22 k (fun y => h0 (by omega)) (fun y => h1 z y))
theorem xw_ops {post : Int32 → Prop} {Hn : Nat → Nat} {k : Nat} (hk : k < 22) (hH : ∀ c, c < 6 → xho c = nI (Hn c)) (h : post (nI (tx_a Hn k))) : wpX_operandsOf post (xds, xcc, xmi, xre, xpc, xpl, xtl, xsc, xou, xtk, xtv, xss, xts, xho, xfu, xfa, xfo, xpn, xpe, xpf, xqk, xqv, xqo, xqp, xqs, xqh, xwo, xsi) (nI k) := by
  unfold wpX_operandsOf
  unfold tx_a at h
  refine pk_lt k 16 (fun h1 => ?_) (fun h1 => ?_)
  · rw [if_neg (by omega)] at h
    unfold wX_operandsOf_22 wX_operandsOf_48
    refine pk_eq k 6 (fun e => by rw [if_pos e] at h; exact h) (fun e6 => ?_)
    rw [if_neg e6] at h
    refine pk_eq k 8 (fun e => by rw [if_pos e] at h; exact h) (fun e8 => ?_)
    rw [if_neg e8] at h
    refine pk_lt k 2 (fun e2 => pk_eq k 7 (fun e7 => by omega) (fun e7 => by rw [if_neg (by omega)] at h; exact h)) (fun e2 => ?_)
    refine pk_le k 5 (fun e5 => by rw [if_pos (by omega)] at h; exact h) (fun e5 => ?_)
    exact pk_eq k 7 (fun e7 => by rw [if_pos (by omega)] at h; exact h) (fun e7 => by rw [if_neg (by omega)] at h; exact h)
  · rw [if_pos h1] at h
    refine pk_le 22 k (fun e => by omega) (fun _ => ?_)
    have e : nI k - 16 = nI (k - 16) := pk_sub (b := 16) h1
    rw [e, nI_clamp (by omega), hH _ (by omega)]
    exact ⟨pk_in (k - 16) 6 (by omega), h⟩
theorem xw_behind4 {post : Int32 → Prop} {Hn KX : Nat → Nat} (hH : ∀ c, c < 6 → xho c = nI (Hn c)) : ∀ (n d c p : Nat), gx_ok (fun i => tx_a Hn (KX i)) d c p →
    (∀ i, p ≤ i → i < p + d → xtk i = nI (KX i) ∧ KX i < 22) → p + d ≤ 192 → d < n → post (nI (p+d)) → wX_behind_4 post xds xcc xmi xre xpc xpl xtl xsc xou xtk xtv xss xts xho xfu xfa xfo xpn xpe xpf xqk xqv xqo xqp xqs xqh xwo xsi n (nI c) (nI p)
  | 0, d, c, p, _, _, _, hn, _ => by omega
  | n+1, 0, c, p, g, hT, hp, hn, h => by
    have e : c = 0 := g
    subst e
    exact pk_le 192 p (fun _ => h) (fun _ => pk_le 0 0 (fun _ => h) (fun z => by omega))
  | n+1, d+1, c, p, g, hT, hp, hn, h => by
    have g0 := g.1
    have gc := gx_cd _ _ _ _ g
    obtain ⟨t1, t2⟩ := hT p (by omega) (by omega)
    refine pk_le 192 p (fun z => by omega) (fun _ => pk_le c 0 (fun z => by omega) (fun _ => ⟨pk_in p 192 (by omega), ?_⟩))
    rw [nI_clamp (by omega), t1]
    refine xw_ops t2 hH (nm_r (nu_open g0) (nm_r (nI_1 p) ?_))
    exact xw_behind4 hH n d _ (p+1) g.2 (fun i h1 h2 => hT i (by omega) (by omega)) (by omega) (by omega) (by rw [show p + 1 + d = p + (d+1) from by omega]; exact h)
theorem xw_behind {post : Int32 → Prop} {K : Nat → Nat} {V : Nat → Int32} {Hn Len : Nat → Nat} {nc r i : Nat} (w : tx_WF K V Hn Len nc) (T : xs_T K V Len nc xtk xtv) (hH : ∀ c, c < 6 → xho c = nI (Hn c))
    (hp : tx_pos Len nc r i) (h : post (nI (xs_b r + (gx_en (fun i => tx_a Hn (K i)) i - 24 * r)))) : wpX_behind post (xds, xcc, xmi, xre, xpc, xpl, xtl, xsc, xou, xtk, xtv, xss, xts, xho, xfu, xfa, xfo, xpn, xpe, xpf, xqk, xqv, xqo, xqp, xqs, xqh, xwo, xsi) (nI (xs_b r + (i - 24 * r))) := by
  obtain ⟨d, d1, d2, d3, d4⟩ := tx_expr w hp
  obtain ⟨p1, p2, p3⟩ := hp
  have hb := xs_b192 w p1
  unfold wpX_behind
  refine ⟨d + 1, xw_behind4 (KX := fun x => K (24 * r + (x - xs_b r))) hH (d+1) d 1 _ ?_ ?_ (by omega) (by omega) ?_⟩
  · refine gx_congr _ _ _ _ _ _ ?_ d1
    intro j hj
    rw [show 24 * r + (xs_b r + (i - 24 * r) + j - xs_b r) = i + j from by omega]
  · intro x h1 h2
    obtain ⟨t1, t2⟩ := T r p1 (x - xs_b r) (by omega)
    rw [show xs_b r + (x - xs_b r) = x from by omega] at t1
    refine ⟨t1, ?_⟩
    have t3 := (tx_tokE w ⟨p1, by omega, by omega⟩ : tx_tok K V Hn nc r (24 * r + (x - xs_b r))).1
    have w0 := w.1
    unfold tx_lim at t3
    split at t3 <;> omega
  · rw [gx_enE d1 (by omega)] at h
    rw [show xs_b r + (i - 24 * r) + d = xs_b r + (i + d - 24 * r) from by omega]
    exact h
theorem xw_openPiece {post : SX → Prop} {j : Nat} {a b c : Int32} (hj : j < 4001) (h : post (xds, xcc, xmi, xre, nI (j+1), xpl, xtl, xsc, xou, xtk, xtv, xss, xts, xho, xfu, xfa, xfo, upd xpn j a, upd xpe j b, upd xpf j c, xqk, xqv, xqo, xqp, xqs, xqh, xwo, xsi)) : wpX_openPiece post (xds, xcc, xmi, xre, nI j, xpl, xtl, xsc, xou, xtk, xtv, xss, xts, xho, xfu, xfa, xfo, xpn, xpe, xpf, xqk, xqv, xqo, xqp, xqs, xqh, xwo, xsi) a b c := by
  unfold wpX_openPiece
  refine pk_le 4001 j (fun z => by omega) (fun _ => ⟨pk_in j 4001 hj, ?_⟩)
  rw [nI_clamp (by omega)]
  exact nm_e ⟨pk_in j 4001 hj, nm_e ⟨pk_in j 4001 hj, nm_e (nm_r (nI_1 j) h)⟩⟩
theorem xw_origin {post : Int32 → Prop} {j f x : Nat} {z : Int32} (hj : j < 4001) (hf : f < 2001) (e1 : xpf j = nI f) (h0 : f = 0 → post (xpn j - z)) (h1 : 0 < f → xfo f = nI x → post (nI x)) (e2 : 0 < f → xfo f = nI x) : wpX_originOfNext post (xds, xcc, xmi, xre, xpc, xpl, xtl, xsc, xou, xtk, xtv, xss, xts, xho, xfu, xfa, xfo, xpn, xpe, xpf, xqk, xqv, xqo, xqp, xqs, xqh, xwo, xsi) (nI j) z := by
  unfold wpX_originOfNext
  rw [nI_clamp (by omega)]
  refine ⟨pk_in j 4001 hj, nm_r e1 ?_⟩
  refine pk_eq f 0 (fun e => ⟨pk_in j 4001 hj, h0 e⟩) (fun e => ⟨pk_in f 2001 hf, ?_⟩)
  rw [nI_clamp (by omega), e2 (by omega)]
  exact h1 (by omega) (e2 (by omega))
end
section
variable {xds xcc xmi xre xpc xpl xtl xsc xou : Int32} {xtk xtv xss xts xho xfu xfa xfo xpn xpe xpf xqk xqv xqo xqp xqs xqh xwo xsi : Nat → Int32}
theorem nu_f1 (f : Nat) : (100 + (2 * (nI f - 1))) + ((-1) - (-1)) = nI (98 + 2 * f) := by
  rw [← nI_add, ← pk_mul]
  show _ = (98 : Int32) + 2 * nI f
  generalize nI f = x
  grind
theorem nu_f2 (f : Nat) : (100 + (2 * (nI f - 1))) + ((-1) - (-2)) = nI (99 + 2 * f) := by
  rw [← nI_add, ← pk_mul]
  show _ = (99 : Int32) + 2 * nI f
  generalize nI f = x
  grind
theorem xw_org {post : Int32 → Prop} {j f og : Nat} {z : Int32} (hj : j < 4001) (hf : f < 2001) (e1 : xpf j = nI f) (h0 : f = 0 → xpn j - z = nI og) (h1 : 0 < f → xfo f = nI og) (h : post (nI og)) : wpX_originOfNext post (xds, xcc, xmi, xre, xpc, xpl, xtl, xsc, xou, xtk, xtv, xss, xts, xho, xfu, xfa, xfo, xpn, xpe, xpf, xqk, xqv, xqo, xqp, xqs, xqh, xwo, xsi) (nI j) z :=
  xw_origin hj hf e1 (fun e => by rw [h0 e]; exact h) (fun _ _ => h) h1
theorem xw_openTemplate {post : SX → Prop} {K : Nat → Nat} {V : Nat → Int32} {Hn Len : Nat → Nat} {nc r j f p nf og : Nat} {z : Int32} (w : tx_WF K V Hn Len nc) (T : xs_T K V Len nc xtk xtv) (hH : ∀ c, c < 6 → xho c = nI (Hn c))
    (hL : ∀ c, c < 6 → xts c = nI (Len c)) (hj : j + 1 < 4001) (hnf : nf < 2000) (hf : f ≤ nf) (hp : tx_pos Len nc r p) (hk : 16 ≤ K p)
    (e1 : xpn j = nI (xs_b r + (p - 24 * r))) (e2 : xpf j = nI f) (h0 : f = 0 → xpn j - z = nI og) (h1 : 0 < f → xfo f = nI og)
    (h : post (xds, xcc, xmi, nI (nf+1), nI (j+1+1), xpl, xtl, xsc, xou, xtk, xtv, xss, xts, xho, upd xfu (nf+1) (nI (xs_b r + (p - 24 * r))), upd xfa (nf+1) (nI f), upd xfo (nf+1) (nI og), upd (upd xpn j (nI (xs_b r + (gx_en (fun i => tx_a Hn (K i)) p - 24 * r)))) (j+1) (nI (xs_b (K p - 16))), upd xpe (j+1) (nI (xs_b (K p - 16) + Len (K p - 16))), upd xpf (j+1) (nI (nf+1)), xqk, xqv, xqo, xqp, xqs, xqh, xwo, xsi)) :
    wpX_openTemplate post (xds, xcc, xmi, nI nf, nI (j+1), xpl, xtl, xsc, xou, xtk, xtv, xss, xts, xho, xfu, xfa, xfo, xpn, xpe, xpf, xqk, xqv, xqo, xqp, xqs, xqh, xwo, xsi) (nI j) z := by
  obtain ⟨u1, u2, u3⟩ := tx_useRow w hp hk
  have hb := xs_b192 w hp.1
  have t1 := (xs_Tp T hp).1
  have p2 := hp.2.1
  have p3 := hp.2.2
  have eb : xs_b (K p - 16) = 120 + (K p - 16) * 12 := by
    unfold xs_b
    rw [if_pos u2]; omega
  unfold wpX_openTemplate
  refine pk_lt nf 2000 (fun _ => ?_) (fun z => by omega)
  rw [nI_clamp (show j < 2 ^ 31 by omega)]
  refine ⟨pk_in j 4001 (by omega), nm_r e1 (nm_r (nI_1 nf) ?_)⟩
  rw [nI_clamp (show nf + 1 < 2 ^ 31 by omega)]
  refine ⟨pk_in (nf+1) 2001 (by omega), nm_e ⟨pk_in j 4001 (by omega), ⟨pk_in (nf+1) 2001 (by omega), nm_r (by rw [e2]) ?_⟩⟩⟩
  refine xw_org (og := og) (by omega) (by omega) e2 h0 h1 ⟨pk_in (nf+1) 2001 (by omega), nm_e ?_⟩
  refine xw_behind w T hH hp ⟨pk_in j 4001 (by omega), nm_e ⟨vp_in_nI (by omega) (by omega), ?_⟩⟩
  rw [nI_clamp (show xs_b r + (p - 24 * r) < 2 ^ 31 by omega), t1]
  refine nm_r (pk_sub (b := 16) hk) (nm_r (e' := nI (xs_b (K p - 16))) ?_ ⟨pk_in (K p - 16) 6 u2, ?_⟩)
  · rw [eb, ← nI_add, ← pk_mul]
    rfl
  · rw [nI_clamp (show K p - 16 < 2 ^ 31 by omega), hL _ u2, nI_add]
    exact xw_openPiece hj h
theorem xw_openOperand {post : SX → Prop} {K : Nat → Nat} {V : Nat → Int32} {Hn Len : Nat → Nat} {nc r r' j f p su ou hv : Nat} (w : tx_WF K V Hn Len nc) (T : xs_T K V Len nc xtk xtv) (hH : ∀ c, c < 6 → xho c = nI (Hn c))
    (hj : j + 1 < 4001) (hf : f < 2001) (hp : tx_pos Len nc r p) (e1 : xpn j = nI (xs_b r + (p - 24 * r))) (e2 : xpf j = nI f) (ev : V p = nI hv)
    (hs : tx_pos Len nc r' su) (hh : hv < tx_a Hn (K su)) (h3 : hv < 3) (e3 : xfu f = nI (xs_b r' + (su - 24 * r'))) (e4 : xfa f = nI ou)
    (h : post (xds, xcc, xmi, xre, nI (j+1+1), xpl, xtl, xsc, xou, xtk, xtv, xss, xts, xho, xfu, xfa, xfo, upd (upd xpn j (nI (xs_b r + (p + 1 - 24 * r)))) (j+1) (nI (xs_b r' + (gx_op (fun i => tx_a Hn (K i)) (su+1) hv - 24 * r'))), upd xpe (j+1) (nI (xs_b r' + (gx_op (fun i => tx_a Hn (K i)) (su+1) (hv+1) - 24 * r'))), upd xpf (j+1) (nI ou), xqk, xqv, xqo, xqp, xqs, xqh, xwo, xsi)) :
    wpX_openOperand post (xds, xcc, xmi, xre, nI (j+1), xpl, xtl, xsc, xou, xtk, xtv, xss, xts, xho, xfu, xfa, xfo, xpn, xpe, xpf, xqk, xqv, xqo, xqp, xqs, xqh, xwo, xsi) (nI j) := by
  have hb := xs_b192 w hp.1
  have t1 := (xs_Tp T hp).2
  have p2 := hp.2.1
  have p3 := hp.2.2
  have s2 := hs.2.1
  have s3 := hs.2.2
  have hb' := xs_b192 w hs.1
  unfold wpX_openOperand
  dsimp only
  rw [nI_clamp (show j < 2 ^ 31 by omega), e1, nI_clamp (show xs_b r + (p - 24 * r) < 2 ^ 31 by omega), t1]
  refine ⟨pk_in j 4001 (by omega), ⟨vp_in_nI (by omega) (by omega), nm_r ev ⟨pk_in j 4001 (by omega), nm_r e2 ⟨pk_in f 2001 hf, ?_⟩⟩⟩⟩
  rw [nI_clamp (show f < 2 ^ 31 by omega)]
  refine nm_r (e' := nI (xs_b r' + (gx_op (fun i => tx_a Hn (K i)) (su+1) 0 - 24 * r'))) ?_ ?_
  · rw [e3, nI_1, gx_op]
    exact congrArg nI (by omega)
  have L : ∀ (n k : Nat), k ≤ hv → hv < n + k → wX_openOperand_32 post (nI j) (nI hv) (nI f) xds xcc xmi xre (nI (j+1)) xpl xtl xsc xou xtk xtv xss xts xho xfu xfa xfo xpn xpe xpf xqk xqv xqo xqp xqs xqh xwo xsi n (nI (xs_b r' + (gx_op (fun i => tx_a Hn (K i)) (su+1) k - 24 * r'))) (nI k) := by
    intro n
    induction n with
    | zero => intro k h1 h2; omega
    | succ n ih =>
      intro k h1 h2
      have hq := pm_opE w hs (o := k) (by omega)
      refine pk_le hv k (fun y => ?_) (fun y => ?_)
      · have ek : k = hv := by omega
        subst ek
        refine xw_behind w T hH hq ⟨pk_in j 4001 (by omega), ⟨pk_in j 4001 (by omega), ?_⟩⟩
        rw [nI_clamp (show j < 2 ^ 31 by omega)]
        refine nm_r (by rw [e1, nI_1, show xs_b r + (p - 24 * r) + 1 = xs_b r + (p + 1 - 24 * r) from by omega]) ⟨pk_in f 2001 hf, ?_⟩
        rw [nI_clamp (show f < 2 ^ 31 by omega), e4]
        exact xw_openPiece hj h
      · refine xw_behind w T hH hq (nm_r (nI_1 k) ?_)
        exact ih (k+1) (by omega) (by omega)
  exact ⟨hv + 1, L (hv+1) 0 (by omega) (by omega)⟩
theorem xw_addPlain {post : SX → Prop} {K : Nat → Nat} {V : Nat → Int32} {Hn Len : Nat → Nat} {nc r j f p n og : Nat} {F : pm_F} {z : Int32} (w : tx_WF K V Hn Len nc) (T : xs_T K V Len nc xtk xtv)
    (hj : j < 4001) (hf : f < 2001) (hp : tx_pos Len nc r p) (hn : n < 2000) (hk : ¬ 16 ≤ K p) (h9 : K p ≠ 9) (e1 : xpn j = nI (xs_b r + (p - 24 * r))) (e2 : xpf j = nI f)
    (h10 : K p = 10 → ∃ r', tx_pos Len nc r' (F f).1 ∧ 16 ≤ K (F f).1 ∧ xfu f = nI (xs_b r' + ((F f).1 - 24 * r')))
    (h0 : f = 0 → xpn j - z = nI og) (h1 : 0 < f → xfo f = nI og)
    (h : post (xds, xcc, xmi, xre, xpc, nI (n+1), xtl, xsc, xou, xtk, xtv, xss, xts, xho, xfu, xfa, xfo, upd xpn j (nI (xs_b r + (p + 1 - 24 * r))), xpe, xpf, upd xqk n (nI (pm_kind (K p))), upd xqv n (pm_val K V F f p), upd xqo n (nI og), xqp, xqs, xqh, xwo, xsi)) :
    wpX_addPlain post (xds, xcc, xmi, xre, xpc, nI n, xtl, xsc, xou, xtk, xtv, xss, xts, xho, xfu, xfa, xfo, xpn, xpe, xpf, xqk, xqv, xqo, xqp, xqs, xqh, xwo, xsi) (nI j) z := by
  have hb := xs_b192 w hp.1
  obtain ⟨t1, t2⟩ := xs_Tp T hp
  have p2 := hp.2.1
  have p3 := hp.2.2
  have tk := tx_tokE w hp
  have H : ∀ (a b : Int32), a = nI (pm_kind (K p)) → b = pm_val K V F f p → wX_addPlain_100 post (nI j) z a b xds xcc xmi xre xpc (nI n) xtl xsc xou xtk xtv xss xts xho xfu xfa xfo xpn xpe xpf xqk xqv xqo xqp xqs xqh xwo xsi := by
    intro a b ea eb
    subst ea eb
    unfold wX_addPlain_100
    rw [nI_clamp (show n < 2 ^ 31 by omega), nI_clamp (show j < 2 ^ 31 by omega)]
    refine ⟨pk_in n 2000 hn, nm_e ⟨pk_in n 2000 hn, nm_e ?_⟩⟩
    refine xw_org (og := og) hj hf e2 h0 h1 ⟨pk_in n 2000 hn, nm_e (nm_r (nI_1 n) ⟨pk_in j 4001 hj, ⟨pk_in j 4001 hj, ?_⟩⟩)⟩
    refine nm_r (by rw [e1, nI_1, show xs_b r + (p - 24 * r) + 1 = xs_b r + (p + 1 - 24 * r) from by omega]) h
  unfold wpX_addPlain
  refine pk_lt n 2000 (fun _ => ?_) (fun z => by omega)
  rw [nI_clamp (show j < 2 ^ 31 by omega), e1, nI_clamp (show xs_b r + (p - 24 * r) < 2 ^ 31 by omega), t1, t2]
  have i1 : vp_in (nI j) 4001 := pk_in j 4001 hj
  have i2 : vp_in (nI (xs_b r + (p - 24 * r))) 192 := vp_in_nI (by omega) (by omega)
  refine ⟨i1, nm_r e2 ⟨i1, ⟨i2, nm_e ⟨i1, ⟨i2, nm_e ?_⟩⟩⟩⟩⟩
  refine pk_eq (K p) 10 (fun e => ?_) (fun e => ?_)
  · obtain ⟨r', q1, q2, q3⟩ := h10 e
    have hb' := xs_b192 w q1.1
    have q4 := q1.2.1
    have q5 := q1.2.2
    rw [nI_clamp (show f < 2 ^ 31 by omega), q3, nI_clamp (show xs_b r' + ((F f).1 - 24 * r') < 2 ^ 31 by omega), (xs_Tp T q1).2]
    refine ⟨pk_in f 2001 hf, ⟨vp_in_nI (by omega) (by omega), nm_e (H _ _ ?_ ?_)⟩⟩
    · unfold pm_kind
      rw [if_pos e]; rfl
    · unfold pm_val
      rw [if_pos e]
  · have ek : pm_kind (K p) = K p := by
      unfold pm_kind
      rw [if_neg e]
    refine pk_eq (K p) 0 (fun e0 => H _ _ (by rw [ek]) (by unfold pm_val; rw [if_neg e, if_pos e0])) (fun e0 => ?_)
    have ev : pm_val K V F f p = if K p = 1 ∨ K p = 7 then (if V p = -1 then nI (98 + 2 * f) else if V p = -2 then nI (99 + 2 * f) else V p) else 0 := by
      unfold pm_val
      rw [if_neg e, if_neg e0]
    have tk1 := tk.1
    refine br_c (fun hv => H _ _ (by rw [ek]) ?_) (fun hv => nm_e (H _ _ (by rw [ek]) ?_))
    · rw [ev]
      by_cases h17 : K p = 1 ∨ K p = 7
      · rw [if_pos h17, if_neg (fun y => by rw [y] at hv; exact absurd hv (by decide)), if_neg (fun y => by rw [y] at hv; exact absurd hv (by decide))]
      · rw [if_neg h17]
        exact tk.2.2.2 (by omega)
    · rw [ev]
      by_cases h17 : K p = 1 ∨ K p = 7
      · rw [if_pos h17]
        rcases tk.2.2.1 h17 with ⟨x, x1, x2⟩ | ⟨_, y | y⟩
        · rw [x2] at hv
          exact absurd (nI_pos' (by omega)) hv
        · rw [if_pos y, y]; exact nu_f1 f
        · rw [if_neg (by rw [y]; decide), if_pos y, y]; exact nu_f2 f
      · have := tk.2.2.2 (by omega)
        rw [this] at hv
        exact absurd hv (by decide)
end
section
variable {xds xcc xmi xre xpc xpl xtl xsc xou : Int32} {xtk xtv xss xts xho xfu xfa xfo xpn xpe xpf xqk xqv xqo xqp xqs xqh xwo xsi : Nat → Int32}
theorem xw_loopX {post : Int32 → SX → Prop} {z : Int32} {m step pc : Nat} (hm : 0 < m) (hs : step < 1000000) (h0 : 0 < pc) (h1 : pc < 2 ^ 31) (h : wX_expand_166 post xds xcc xmi xre (nI pc) xpl 1 xsc xou xtk xtv xss xts xho xfu xfa xfo xpn xpe xpf xqk xqv xqo xqp xqs xqh xwo xsi) : wX_expand_51 post z m (nI step) xds xcc xmi xre (nI pc) xpl 1 xsc xou xtk xtv xss xts xho xfu xfa xfo xpn xpe xpf xqk xqv xqo xqp xqs xqh xwo xsi := by
  obtain ⟨m', rfl⟩ : ∃ m', m = m' + 1 := ⟨m - 1, by omega⟩
  exact pk_le 1000000 step (fun z => by omega) (fun _ => pk_le pc 0 (fun z => by omega) (fun _ => br_f (by decide) h))
theorem xw_og {K : Nat → Nat} {V : Nat → Int32} {Hn Len : Nat → Nat} {nc s f p j nf : Nat} {F : pm_F} (w : tx_WF K V Hn Len nc) (hs : s < 4) (hf : f ≤ nf) (hp : tx_pos Len nc (pm_row K s F f) p)
    (e1 : xpn j = nI (xs_b (pm_row K s F f) + (p - 24 * pm_row K s F f))) (hF : xs_F (pm_row K s F) F nf xfu xfa xfo) :
    (f = 0 → xpn j - nI (24 * s) = nI (pm_org F f p)) ∧ (0 < f → xfo f = nI (pm_org F f p)) := by
  constructor
  · intro e
    subst e
    have er : pm_row K s F 0 = 6 + s := if_pos rfl
    rw [er] at e1 hp
    have hl := (w.2 (6+s) hp.1).1
    have h2 := hp.2.1
    have h3 := hp.2.2
    have eb : xs_b (6+s) = 24 * s := by
      unfold xs_b
      rw [if_neg (by omega)]; omega
    have eo : pm_org F 0 p = p % 24 := if_pos rfl
    rw [e1, eb, pk_sub (by omega), eo]
    exact congrArg nI (by omega)
  · intro h
    have eo : pm_org F f p = (F f).2.2.1 := if_neg (by omega)
    rw [eo]
    exact (hF f h hf).2.2
theorem xw_loop {post : Int32 → SX → Prop} {K : Nat → Nat} {V : Nat → Int32} {Hn Len : Nat → Nat} {nc s : Nat} (w : tx_WF K V Hn Len nc) (T : xs_T K V Len nc xtk xtv) (hH : ∀ c, c < 6 → xho c = nI (Hn c))
    (hL : ∀ c, c < 6 → xts c = nI (Len c)) (hs : s < 4) (R : Option (Nat × Nat × pm_O))
    (h : ∀ (re pc pl tl : Int32) (fu fa fo pn pe pf qk qv qo : Nat → Int32), (R = none → tl = 1) → (∀ nf' n' O', R = some (nf', n', O') → re = nI nf' ∧ pl = nI n' ∧ tl = 0 ∧ xs_O n' O' qk qv qo) →
      wX_expand_166 post xds xcc xmi re pc pl tl xsc xou xtk xtv xss xts xho fu fa fo pn pe pf qk qv qo xqp xqs xqh xwo xsi) :
    ∀ (m t step pc : Nat) (st : List pm_S) (nf : Nat) (F : pm_F) (n : Nat) (O : pm_O) (xfu xfa xfo xpn xpe xpf xqk xqv xqo : Nat → Int32), pm_I K Len nc s st nf F n →
      xs_P (fun i => tx_a Hn (K i)) (pm_row K s F) Len (fun f => (F f).2.2.2) nf xpn xpe xpf pc st → xs_F (pm_row K s F) F nf xfu xfa xfo → xs_O n O xqk xqv xqo →
      pm_go K V (fun i => tx_a Hn (K i)) t st nf F n O = R → pm_mu K s F st nf n < t → 2 * pm_mu K s F st nf n + pc < m → step + 2 * pm_mu K s F st nf n + pc < 1000000 →
      wX_expand_51 post (nI (24 * s)) m (nI step) xds xcc xmi (nI nf) (nI pc) (nI n) 0 xsc xou xtk xtv xss xts xho xfu xfa xfo xpn xpe xpf xqk xqv xqo xqp xqs xqh xwo xsi := by
  intro m
  induction m with
  | zero => intro t step pc st nf F n O xfu xfa xfo xpn xpe xpf xqk xqv xqo _ _ _ _ _ _ hm; omega
  | succ m ih =>
    intro t step pc st nf F n O xfu xfa xfo xpn xpe xpf xqk xqv xqo hI hP hF hO hR ht hm hst
    obtain ⟨t, rfl⟩ : ∃ t', t = t' + 1 := ⟨t - 1, by omega⟩
    refine pk_le 1000000 step (fun z => by omega) (fun _ => ?_)
    cases pc with
    | zero =>
      have e : st = [] := hP
      subst e
      rw [pm_go0] at hR
      refine pk_le 0 0 (fun _ => ?_) (fun z => by omega)
      refine h _ _ _ _ _ _ _ _ _ _ _ _ _ (fun z => by rw [z] at hR; cases hR) (fun nf' n' O' z => ?_)
      rw [z] at hR
      cases hR
      exact ⟨rfl, rfl, rfl, hO⟩
    | succ j =>
      obtain ⟨c, p, q, f, rest, g1, g2, g3, g4, g5, g6, g7, g8, g9⟩ := hP
      replace g5 : j + (F f).2.2.2 ≤ 2 * nf := g5
      have hnf := hI.2.1
      have hj : j < 4001 := by omega
      refine pk_le (j+1) 0 (fun z => by omega) (fun _ => br_t rfl (nm_r (nI_pred j) ⟨pk_in j 4001 hj, ?_⟩))
      rw [nI_clamp (show j < 2 ^ 31 by omega)]
      refine nm_r g6 ⟨pk_in j 4001 hj, ?_⟩
      rw [g7]
      cases c with
      | zero =>
        obtain ⟨e1, e2⟩ := g1
        subst e1 e2
        refine br_f (by rw [Int32.not_lt]; exact Int32.le_refl _) (nm_r (nI_1 step) ?_)
        exact ih (t+1) (step+1) j st nf F n O _ _ _ _ _ _ _ _ _ hI g9 hF hO hR ht (by omega) (by omega)
      | succ c =>
        obtain ⟨d, a, st', k1, k2, k3⟩ := g1
        subst k2
        obtain ⟨hf, hp⟩ := pm_head hI
        have hd := gx_pos k1
        have hle := xs_le _ _ _ _ _ _ _ k3
        have hb := xs_b192 w hp.1
        have hl24 := (w.2 _ hp.1).1
        obtain ⟨t1, t2⟩ := xs_Tp T hp
        obtain ⟨og0, og1⟩ := xw_og (j := j) w hs hf hp g6 hF
        have een : gx_en (fun i => tx_a Hn (K i)) p = p + d := gx_enE k1 (by omega)
        refine pk_lt (xs_b (pm_row K s F f) + (p - 24 * pm_row K s F f)) (xs_b (pm_row K s F f) + (q - 24 * pm_row K s F f)) (fun _ => ⟨vp_in_nI (by omega) (by omega), ?_⟩) (fun z => by omega)
        rw [nI_clamp (show xs_b (pm_row K s F f) + (p - 24 * pm_row K s F f) < 2 ^ 31 by omega), t1]
        have hk22 : K p < 22 := by
          have x1 := (tx_tokE w hp).1
          have x2 := w.1
          unfold tx_lim at x1
          split at x1 <;> omega
        refine xw_isUse (by omega) (fun hk _ => br_f (by decide) ?_) (fun hk' => br_t rfl ⟨vp_in_nI (by omega) (by omega), ?_⟩)
        · -- a USE
          by_cases hn : nf = 2000
          · rw [pm_goUx _ _ _ _ _ _ _ _ _ _ _ _ hk hn] at hR
            subst hn
            unfold wpX_openTemplate
            refine pk_lt 2000 2000 (fun z => by omega) (fun _ => nm_r (nI_1 step) ?_)
            refine xw_loopX (by omega) (by omega) (by omega) (by omega) ?_
            exact h _ _ _ _ _ _ _ _ _ _ _ _ _ (fun _ => rfl) (fun nf' n' O' z => by rw [z] at hR; cases hR)
          · rw [pm_goU _ _ _ _ _ _ _ _ _ _ _ _ hk hn] at hR
            obtain ⟨I', mu'⟩ := pm_IU w hI hk hn
            obtain ⟨u1, u2, u3⟩ := tx_useRow w hp hk
            have hr' := w.2 (K p - 16) (Or.inl u1)
            have hl' := hr'.2.1 u2
            refine xw_openTemplate w T hH hL (by omega) (by omega) hf hp hk g6 g8 og0 og1 (nm_r (nI_1 step) ?_)
            refine ih t (step+1) (j+1+1) _ (nf+1) (pm_nF F nf f p) n O _ _ _ _ _ _ _ _ _ I' ?_ ?_ hO hR (by omega) (by omega) (by omega)
            · have eS : pm_row K s (pm_nF F nf f p) (nf+1) = K p - 16 := pm_rowS
              have eF : pm_nF F nf f p (nf+1) = (p, f, pm_org F f p, (F f).2.2.2 + 1) := pm_fs
              refine ⟨1, 24 * (K p - 16), 24 * (K p - 16) + Len (K p - 16), nf+1, st', ⟨Len (K p - 16), a, st', hr'.2.2.1 (by omega), rfl, rfl, rfl⟩, Nat.le_refl _, by rw [eS]; omega, by rw [eS]; omega, by show j + 1 + (pm_nF F nf f p (nf+1)).2.2.2 ≤ _; rw [eF]; dsimp only; omega, ?_, ?_, ?_, ?_⟩
              · rw [pk_us, eS]
                exact congrArg nI (by omega)
              · rw [pk_us, eS]
                exact congrArg nI (by omega)
              · rw [pk_us]
              · have eR : pm_row K s (pm_nF F nf f p) f = pm_row K s F f := pm_rowN hf
                have eF2 : pm_nF F nf f p f = F f := pm_fn (by omega)
                refine ⟨c, p + d, q, f, rest, k3, by omega, by rw [eR]; omega, by rw [eR]; exact g4, by show j + (pm_nF F nf f p f).2.2.2 ≤ _; rw [eF2]; omega, ?_, ?_, ?_, ?_⟩
                · rw [pk_un (by omega), pk_us, eR, een]
                · rw [pk_un (by omega), eR]; exact g7
                · rw [pk_un (by omega)]; exact g8
                · refine xs_keep (nf := nf) (fun x hx => ⟨pm_rowN hx, ?_⟩) (by omega) j rest (fun x hx => ⟨?_, ?_, ?_⟩) g9
                  · show (pm_nF F nf f p x).2.2.2 = (F x).2.2.2
                    have : pm_nF F nf f p x = F x := pm_fn (by omega)
                    rw [this]
                  · rw [pk_un (by omega), pk_un (by omega)]
                  · rw [pk_un (by omega)]
                  · rw [pk_un (by omega)]
            · intro x hx1 hx2
              by_cases e : x = nf + 1
              · subst e
                have eF : pm_nF F nf f p (nf+1) = (p, f, pm_org F f p, (F f).2.2.2 + 1) := pm_fs
                rw [eF, pk_us, pk_us, pk_us]
                dsimp only
                rw [pm_rowN hf]
                exact ⟨rfl, rfl, rfl⟩
              · have eF : pm_nF F nf f p x = F x := pm_fn e
                have x5 := (hI.2.2.2.2.1 x hx1 (by omega)).1
                rw [eF, pk_un e, pk_un e, pk_un e, pm_rowN (by omega)]
                exact hF x hx1 (by omega)
        · -- no USE
          have hk : ¬ 16 ≤ K p := fun z => hk' ⟨z, hk22⟩
          refine pk_eq (K p) 9 (fun h9 => ?_) (fun h9 => ?_)
          · rw [pm_goH _ _ _ _ _ _ _ _ _ _ _ _ h9] at hR
            obtain ⟨I', mu'⟩ := pm_IH w hI h9
            obtain ⟨o1, o2, o3, o4, o5, o6, o7, o8, o9, o10⟩ := pm_holeE w hI h9
            obtain ⟨f1, f2, f3⟩ := hF f o1 o2
            have hdp := (hI.2.2.2.2.1 f o1 o2).2.2.2.1
            have hd1 : d = 1 := by
              have x1 : gx_ok (fun i => tx_a Hn (K i)) 1 1 p := by
                rw [gx_s]
                refine ⟨by omega, ?_⟩
                rw [tx_a9 Hn (Or.inl h9)]
                exact gx_00 _ _
              exact gx_det _ _ _ _ _ k1 x1
            subst hd1
            obtain ⟨d', d1, d2, d3, d4⟩ := tx_expr w o9
            refine xw_openOperand w T hH (by omega) (by omega) hp g6 g8 o5 o4 o7 o6 f1 f2 (nm_r (nI_1 step) ?_)
            refine ih t (step+1) (j+1+1) _ nf F n O _ _ _ _ _ _ _ _ _ I' ?_ hF hO hR (by omega) (by omega) (by omega)
            refine ⟨1, _, gx_op (fun i => tx_a Hn (K i)) ((F f).1 + 1) (pm_hole V p + 1), (F f).2.1, st', ⟨d', a, st', d1, rfl, (gx_enE d1 (by omega)).symm, rfl⟩, by omega, o9.2.1, ?_, by show j + 1 + (F (F f).2.1).2.2.2 ≤ _; omega, ?_, ?_, ?_, ?_⟩
            · have : gx_op (fun i => tx_a Hn (K i)) ((F f).1 + 1) (pm_hole V p + 1) = gx_op (fun i => tx_a Hn (K i)) ((F f).1 + 1) (pm_hole V p) + d' := gx_enE d1 (by omega)
              omega
            · rw [pk_us]
            · rw [pk_us]
            · rw [pk_us]
            · refine ⟨c, p + 1, q, f, rest, k3, g2, by omega, g4, g5, ?_, ?_, ?_, ?_⟩
              · rw [pk_un (by omega), pk_us]
              · rw [pk_un (by omega)]; exact g7
              · rw [pk_un (by omega)]; exact g8
              · refine xs_keep (nf := nf) (fun x hx => ⟨rfl, rfl⟩) (Nat.le_refl _) j rest (fun x hx => ⟨?_, ?_, ?_⟩) g9
                · rw [pk_un (by omega), pk_un (by omega)]
                · rw [pk_un (by omega)]
                · rw [pk_un (by omega)]
          · by_cases hn : n = 2000
            · rw [pm_goPx _ _ _ _ _ _ _ _ _ _ _ _ hk h9 hn] at hR
              subst hn
              unfold wpX_addPlain
              refine pk_lt 2000 2000 (fun z => by omega) (fun _ => nm_r (nI_1 step) ?_)
              refine xw_loopX (by omega) (by omega) (by omega) (by omega) ?_
              exact h _ _ _ _ _ _ _ _ _ _ _ _ _ (fun _ => rfl) (fun nf' n' O' z => by rw [z] at hR; cases hR)
            · rw [pm_goP _ _ _ _ _ _ _ _ _ _ _ _ hk h9 hn] at hR
              obtain ⟨I', mu'⟩ := pm_IP w hI hk hn (n+1)
              have hn2 := hI.2.2.1
              obtain ⟨d', ed⟩ : ∃ d', d = d' + 1 := ⟨d - 1, by omega⟩
              subst ed
              have k5 := k1.2
              rw [Nat.sub_self, Nat.zero_add] at k5
              refine xw_addPlain (F := F) w T hj (by omega) hp (by omega) hk h9 g6 g8 ?_ og0 og1 (nm_r (nI_1 step) ?_)
              · intro h10
                have hr6 : pm_row K s F f < 6 := by
                  have x1 := (tx_tokE w hp).1
                  omega
                have hf1 : 1 ≤ f := by
                  rcases Nat.eq_zero_or_pos f with x0 | x0
                  · rw [x0] at hr6
                    unfold pm_row at hr6
                    rw [if_pos rfl] at hr6
                    omega
                  · exact x0
                obtain ⟨y1, y2, y3, y4, y5⟩ := hI.2.2.2.2.1 f hf1 hf
                exact ⟨_, y2, y3, (hF f hf1 hf).1⟩
              · refine ih t (step+1) (j+1) _ nf F (n+1) _ _ _ _ _ _ _ _ _ _ I' ?_ hF ?_ hR (by omega) (by omega) (by omega)
                · refine ⟨tx_a Hn (K p) + c, p + 1, q, f, rest, ?_, g2, by omega, g4, g5, ?_, g7, g8, ?_⟩
                  · refine xs_push (fun i => tx_a Hn (K i)) q f (n+1) rest (p+1) (tx_a Hn (K p)) d' c st' k5 (by omega) ?_
                    rw [show p + 1 + d' = p + (d' + 1) from by omega]
                    exact k3
                  · rw [pk_us]
                  · exact xs_keep (nf := nf) (fun x hx => ⟨rfl, rfl⟩) (Nat.le_refl _) j rest (fun x hx => ⟨pk_un (by omega), rfl, rfl⟩) g9
                · intro x hx
                  by_cases e : x = n
                  · subst e
                    have eO : pm_nO K V F x O f p a x = (pm_kind (K p), pm_val K V F f p, pm_org F f p, a) := pm_fs
                    rw [eO, pk_us, pk_us, pk_us]
                    exact ⟨rfl, rfl, rfl⟩
                  · have eO : pm_nO K V F n O f p a x = O x := pm_fn e
                    rw [eO, pk_un e, pk_un e, pk_un e]
                    exact hO x (by omega)
end
section
variable {xds xcc xmi xre xpc xpl xtl xsc xou : Int32} {xtk xtv xss xts xho xfu xfa xfo xpn xpe xpf xqk xqv xqo xqp xqs xqh xwo xsi : Nat → Int32}
/-- what the linking has laid when all tokens from q on have been linked -/
def xl_L (n : Nat) (O : pm_O) (q : Nat) (qp qs qh : Nat → Int32) : Prop :=
  (∀ m, q ≤ m → m < n → qs m = nI (tr_sp (pm_ar O) m) ∧ qh m = nI (tr_ht (pm_ar O) m)) ∧
  (∀ o, o < n → q + 1 ≤ (O o).2.2.2 → qp o = nI ((O o).2.2.2 - 1))
def xl_R (n : Nat) (O : pm_O) (qp qs qh : Nat → Int32) : Prop :=
  ∀ m, m < n → qs m = nI (tr_sp (pm_ar O) m) ∧ qh m = nI (tr_ht (pm_ar O) m) ∧ qp m = ys_i (O m).2.2.2
theorem tr_htB {n : Nat} {O : pm_O} (h : tr_G n O) {k : Nat} (hk : k < n) : tr_ht (pm_ar O) k ≤ 2000 := by
  obtain ⟨R, dj, e1, e2, e3, e4, e5, e6, e7⟩ := tr_ch h hk (j := 0) (Nat.zero_le _)
  have hd : dj = 0 := by
    rw [gx_op] at e2
    omega
  subst hd
  have h3 := h.1
  obtain ⟨s1, s2, s3, s4⟩ := tr_spE h hk
  have := tr_hfB (pm_ar O) 2500 _ _ _ e5 (by omega)
  unfold tr_ht
  rw [Nat.sub_zero, Nat.add_zero] at this
  omega
theorem xw_link32 {post : SX → Prop} {J : Int32 → (Nat → Int32) → (Nat → Int32) → (Nat → Int32) → (Nat → Int32) → (Nat → Int32) → (Nat → Int32) → (Nat → Int32) → (Nat → Int32) → (Nat → Int32) → (Nat → Int32) → (Nat → Int32) → (Nat → Int32) → (Nat → Int32) → (Nat → Int32) → (Nat → Int32) → (Nat → Int32) → (Nat → Int32) → (Nat → Int32) → (Nat → Int32) → Prop}
    {n k : Nat} {O : pm_O} (G : tr_G n O) (hk : k < n)
    (hJ : ∀ (qp qs qh : Nat → Int32), xl_L n O k qp qs qh → J (ys_i k) xtk xtv xss xts xho xfu xfa xfo xpn xpe xpf xqk xqv xqo qp qs qh xwo xsi) (L0 : ∀ m, k + 1 ≤ m → m < n → xqs m = nI (tr_sp (pm_ar O) m) ∧ xqh m = nI (tr_ht (pm_ar O) m)) :
    ∀ (m j hi : Nat) (xqp : Nat → Int32), j ≤ pm_ar O k → pm_ar O k < m + j → max hi (tr_hf (pm_ar O) 2500 (pm_ar O k - j) (gx_op (pm_ar O) (k+1) j)) = tr_hf (pm_ar O) 2500 (pm_ar O k) (k+1) →
      (∀ o, o < n → k + 2 ≤ (O o).2.2.2 → xqp o = nI ((O o).2.2.2 - 1)) → (∀ i, i < j → xqp (gx_op (pm_ar O) (k+1) i) = nI k) →
      wX_linkPlain_32 post J (nI k) (nI (pm_ar O k)) xds xcc xmi xre xpc (nI n) xtl xsc xou m (nI (gx_op (pm_ar O) (k+1) j)) (nI hi) (nI j) xtk xtv xss xts xho xfu xfa xfo xpn xpe xpf xqk xqv xqo xqp xqs xqh xwo xsi := by
  have h3 := G.1
  have ha3 : pm_ar O k ≤ 3 := tr_a3 O (G.2.2 k hk).1
  have hB := tr_htB G hk
  have hBe : tr_ht (pm_ar O) k = tr_hf (pm_ar O) 2500 (pm_ar O k) (k+1) + 1 := rfl
  intro m
  induction m with
  | zero => intro j hi xqp h1 h2; omega
  | succ m ih =>
    intro j hi xqp h1 h2 h5 h6 h7
    obtain ⟨R, dj, c1, c2, c3, c4, c5, c6, c7⟩ := tr_ch G hk h1
    refine pk_le (pm_ar O k) j (fun z => ?_) (fun z => ?_)
    · have ej : j = pm_ar O k := by omega
      subst ej
      rw [Nat.sub_self, tr_hf0] at h5
      have eh : hi = tr_hf (pm_ar O) 2500 (pm_ar O k) (k+1) := by omega
      unfold wX_linkPlain_92
      rw [nI_clamp (show k < 2 ^ 31 by omega), tr_lastE G hk, pk_sub (by omega), nI_1]
      refine ⟨pk_in k 2000 (by omega), nm_e ⟨pk_in k 2000 (by omega), nm_e (nm_r (e' := ys_i k) ?_ (hJ _ _ _ ⟨?_, ?_⟩))⟩⟩
      · cases k with
        | zero => rfl
        | succ k => exact pk_m1 k
      · intro x hx1 hx2
        by_cases e : x = k
        · subst e
          rw [pk_us, pk_us, show x + tr_sp (pm_ar O) x - x = tr_sp (pm_ar O) x from by omega, hBe, eh]
          exact ⟨rfl, rfl⟩
        · rw [pk_un e, pk_un e]
          exact L0 x (by omega) hx2
      · intro o ho1 ho2
        by_cases e : (O o).2.2.2 = k + 1
        · obtain ⟨i, i1, i2⟩ := tr_isch G hk ho1 e
          rw [e, i2]
          exact h7 i i1
        · exact h6 o ho1 (by omega)
    · obtain ⟨d1, d2⟩ := c7 z
      rw [c2]
      have hp : k + 1 + dj < n := d1
      obtain ⟨l1, l2⟩ := L0 (k+1+dj) (by omega) hp
      obtain ⟨s1, s2, s3, s4⟩ := tr_spE G hp
      have hBp := tr_htB G hp
      obtain ⟨c, ec⟩ : ∃ c, pm_ar O k - j = c + 1 := ⟨pm_ar O k - j - 1, by omega⟩
      rw [ec] at c5
      obtain ⟨sk1, sk2, sk3, sk4⟩ := tr_spE G hk
      have hS := tr_hfS c5 (by omega)
      have ec2 : pm_ar O k - (j+1) = c := by omega
      have eop : gx_op (pm_ar O) (k+1) (j+1) = gx_en (pm_ar O) (k+1+dj) := by
        show gx_en (pm_ar O) (gx_op (pm_ar O) (k+1) j) = _
        rw [c2]
      rw [ec, c2, hS] at h5
      refine pk_le n (k+1+dj) (fun y => by omega) (fun _ => ⟨vp_in_nI (by omega) (by omega), ?_⟩)
      rw [nI_clamp (show k + 1 + dj < 2 ^ 31 by omega), l2]
      have N : ∀ z0 : Nat, z0 = max hi (tr_ht (pm_ar O) (k+1+dj)) → wX_linkPlain_75 post J (wX_linkPlain_32 post J (nI k) (nI (pm_ar O k)) xds xcc xmi xre xpc (nI n) xtl xsc xou m) (nI k) (nI (pm_ar O k)) (nI (k+1+dj)) (nI j) (nI z0) xds xcc xmi xre xpc (nI n) xtl xsc xou xtk xtv xss xts xho xfu xfa xfo xpn xpe xpf xqk xqv xqo (upd xqp (k+1+dj) (nI k)) xqs xqh xwo xsi := by
        intro z0 ez
        unfold wX_linkPlain_75
        rw [nI_clamp (show k + 1 + dj < 2 ^ 31 by omega), l1]
        refine ⟨vp_in_nI (by omega) (by omega), nm_r (e' := nI (gx_op (pm_ar O) (k+1) (j+1))) ?_ (nm_r (nI_1 j) ?_)⟩
        · rw [eop, s4, nI_add]
        · refine ih (j+1) z0 _ (by omega) (by omega) ?_ ?_ ?_
          · rw [ec2, eop, ez]
            omega
          · intro o ho1 ho2
            rw [pk_un (fun y => by rw [y, d2] at ho2; omega)]
            exact h6 o ho1 ho2
          · intro i hi2
            by_cases e : i = j
            · rw [e, c2, pk_us]
            · by_cases e3 : gx_op (pm_ar O) (k+1) i = k + 1 + dj
              · rw [e3, pk_us]
              · rw [pk_un e3]
                exact h7 i (by omega)
      refine nm_e ⟨vp_in_nI (by omega) (by omega), pk_le (tr_ht (pm_ar O) (k+1+dj)) hi (fun y => N hi (by omega)) (fun y => ⟨vp_in_nI (by omega) (by omega), N _ (by omega)⟩)⟩
theorem xw_link7 {post : SX → Prop} {n : Nat} {O : pm_O} {Hn : Nat → Nat} (G : tr_G n O) (hH : ∀ c, c < 6 → xho c = nI (Hn c)) (hO : ∀ m, m < n → xqk m = nI (O m).1)
    (h : ∀ (qp qs qh : Nat → Int32), xl_R n O qp qs qh → post (xds, xcc, xmi, xre, xpc, nI n, xtl, xsc, xou, xtk, xtv, xss, xts, xho, xfu, xfa, xfo, xpn, xpe, xpf, xqk, xqv, xqo, qp, qs, qh, xwo, xsi)) :
    ∀ (m q : Nat) (xqp xqs xqh : Nat → Int32), q < m → q ≤ n → xl_L n O q xqp xqs xqh → wX_linkPlain_7 post xds xcc xmi xre xpc (nI n) xtl xsc xou m (ys_i q) xtk xtv xss xts xho xfu xfa xfo xpn xpe xpf xqk xqv xqo xqp xqs xqh xwo xsi := by
  have h3 := G.1
  intro m
  induction m with
  | zero => intro q _ _ _ hq; omega
  | succ m ih =>
    intro q xqp xqs xqh hq hqn L
    cases q with
    | zero =>
      refine br_t (by decide) (nm_e (h _ _ _ ?_))
      intro x hx
      obtain ⟨a1, a2⟩ := L.1 x (by omega) hx
      refine ⟨a1, a2, ?_⟩
      obtain ⟨R, e⟩ := (G.2.2 x hx).2.2.2
      by_cases e0 : x = 0
      · subst e0
        rw [tr_pd] at e
        have e1 : (O 0).2.2.2 = 0 := (List.cons.inj e).1.symm
        rw [e1]; rfl
      · have hpos : 0 < (O x).2.2.2 := by
          rcases Nat.eq_zero_or_pos (O x).2.2.2 with z | z
          · exfalso
            rw [z] at e
            have hm : 0 ∈ tr_pd (pm_ar O) (1 + (x - 1)) := by
              rw [show 1 + (x - 1) = x from by omega, e]
              exact List.mem_cons_self
            rcases tr_hi (pm_ar O) 1 (x-1) 0 hm with y | y
            · rw [tr_pdS, List.mem_append] at y
              rcases y with y | y
              · have := List.eq_of_mem_replicate y
                omega
              · rw [tr_pd] at y
                cases y
            · omega
          · exact z
        rw [ys_iP hpos]
        show (upd xqp 0 (-1)) x = _
        rw [pk_un e0]
        exact L.2 x hx (by omega)
    | succ k =>
      have hk : k < n := by omega
      rw [ys_iS]
      refine br_f (nI_pos (by omega)) ⟨pk_in k 2000 (by omega), ?_⟩
      have o8 := (G.2.2 k hk).1
      rw [nI_clamp (show k < 2 ^ 31 by omega), hO k hk]
      refine xw_ops (Hn := Hn) (by omega) hH (nm_r (nI_1 k) ?_)
      have ea : tx_a Hn (O k).1 = pm_ar O k := tx_aI _ _ (by omega)
      rw [ea]
      have ha3 : pm_ar O k ≤ 3 := tr_a3 O o8
      refine ⟨pm_ar O k + 1, xw_link32 (n := n) (O := O) (k := k) G hk ?_ ?_ (pm_ar O k + 1) 0 0 xqp (by omega) (by omega) ?_ ?_ ?_⟩
      · intro qp qs qh L'
        exact ih k qp qs qh (by omega) (by omega) L'
      · intro x h1 h2
        exact L.1 x h1 h2
      · rw [Nat.sub_zero, gx_op]
        omega
      · intro o ho1 ho2
        exact L.2 o ho1 (by omega)
      · intro i hi; omega
theorem xw_link {post : SX → Prop} {n : Nat} {O : pm_O} {Hn : Nat → Nat} (G : tr_G n O) (hH : ∀ c, c < 6 → xho c = nI (Hn c)) (hO : ∀ m, m < n → xqk m = nI (O m).1)
    (h : ∀ (qp qs qh : Nat → Int32), xl_R n O qp qs qh → post (xds, xcc, xmi, xre, xpc, nI n, xtl, xsc, xou, xtk, xtv, xss, xts, xho, xfu, xfa, xfo, xpn, xpe, xpf, xqk, xqv, xqo, qp, qs, qh, xwo, xsi)) : wpX_linkPlain post (xds, xcc, xmi, xre, xpc, nI n, xtl, xsc, xou, xtk, xtv, xss, xts, xho, xfu, xfa, xfo, xpn, xpe, xpf, xqk, xqv, xqo, xqp, xqs, xqh, xwo, xsi) := by
  have hn := tr_n0 G
  unfold wpX_linkPlain
  refine nm_r (e' := ys_i n) ?_ ⟨n+1, xw_link7 G hH hO h (n+1) n _ _ _ (by omega) (Nat.le_refl _) ⟨?_, ?_⟩⟩
  · rw [ys_iP hn]
    exact pk_sub (b := 1) hn
  · intro x h1 h2; omega
  · intro o h1 h2
    obtain ⟨R, e⟩ := (G.2.2 o h1).2.2.2
    have := tr_pdB (pm_ar O) o (O o).2.2.2 (by rw [e]; exact List.mem_cons_self)
    omega
theorem xw_link0 {post : SX → Prop} (h : ∀ (qp : Nat → Int32), post (xds, xcc, xmi, xre, xpc, 0, xtl, xsc, xou, xtk, xtv, xss, xts, xho, xfu, xfa, xfo, xpn, xpe, xpf, xqk, xqv, xqo, qp, xqs, xqh, xwo, xsi)) : wpX_linkPlain post (xds, xcc, xmi, xre, xpc, 0, xtl, xsc, xou, xtk, xtv, xss, xts, xho, xfu, xfa, xfo, xpn, xpe, xpf, xqk, xqv, xqo, xqp, xqs, xqh, xwo, xsi) := by
  unfold wpX_linkPlain
  exact nm_e ⟨1, br_t (by decide) (nm_e (h _))⟩
end
section
variable {xds xcc xmi xre xpc xpl xtl xsc xou : Int32} {xtk xtv xss xts xho xfu xfa xfo xpn xpe xpf xqk xqv xqo xqp xqs xqh xwo xsi : Nat → Int32}
def pm_F0 : pm_F := fun _ => (0, 0, 0, 0)
def pm_O0 : pm_O := fun _ => (0, 0, 0, 0)
def pm_s0 (Len : Nat → Nat) (s : Nat) : List pm_S := if Len (6+s) = 0 then [] else [(24 * (6+s), 0, 0)]
def pm_ex (K : Nat → Nat) (V : Nat → Int32) (Hn Len : Nat → Nat) (s : Nat) : Option (Nat × Nat × pm_O) := pm_go K V (fun i => tx_a Hn (K i)) 70000 (pm_s0 Len s) 0 pm_F0 0 pm_O0
theorem pm_ex0 {K : Nat → Nat} {V : Nat → Int32} {Hn Len : Nat → Nat} {s : Nat} (h : Len (6+s) = 0) : pm_ex K V Hn Len s = some (0, 0, pm_O0) := by
  unfold pm_ex pm_s0
  rw [if_pos h]
  exact pm_go0 K V _ 69999 0 pm_F0 0 pm_O0
theorem pm_exI {K : Nat → Nat} {V : Nat → Int32} {Hn Len : Nat → Nat} {nc s : Nat} (w : tx_WF K V Hn Len nc) (hs : s < 4) : pm_I K Len nc s (pm_s0 Len s) 0 pm_F0 0 ∧ pm_mu K s pm_F0 (pm_s0 Len s) 0 0 ≤ 60007 := by
  refine ⟨⟨hs, by omega, by omega, rfl, fun f h1 h2 => by omega, ?_⟩, ?_⟩
  · intro x hx
    unfold pm_s0 at hx
    by_cases e : Len (6+s) = 0
    · rw [if_pos e] at hx
      cases hx
    · rw [if_neg e, List.mem_singleton] at hx
      subst hx
      have er : pm_row K s pm_F0 0 = 6 + s := if_pos rfl
      refine ⟨Nat.le_refl _, ?_⟩
      dsimp only
      rw [er]
      exact ⟨Or.inr ⟨by omega, by omega⟩, Nat.le_refl _, by omega⟩
  · unfold pm_mu pm_s0
    by_cases e : Len (6+s) = 0
    · rw [if_pos e, List.map_nil, List.sum_nil]; omega
    · rw [if_neg e, List.map_cons, List.map_nil, List.sum_cons, List.sum_nil]
      have := (pm_we1 K s pm_F0 0).2
      dsimp only
      omega
theorem pm_exG {K : Nat → Nat} {V : Nat → Int32} {Hn Len : Nat → Nat} {nc s nf n : Nat} {O : pm_O} (w : tx_WF K V Hn Len nc) (hs : s < 4) (hl : Len (6+s) ≠ 0) (e : pm_ex K V Hn Len s = some (nf, n, O)) : nf ≤ 2000 ∧ tr_G n O := by
  obtain ⟨I, _⟩ := pm_exI w hs
  have J : pm_J (pm_s0 Len s) 0 pm_O0 := by
    refine ⟨?_, fun m hm => by omega⟩
    unfold pm_s0
    rw [if_neg hl]
    rfl
  obtain ⟨h1, h2, h3⟩ := pm_fin w 70000 _ _ _ _ _ I J e
  exact ⟨h1, h2, h3⟩
theorem xw_166 {post : Int32 → SX → Prop} {n : Nat} {O : pm_O} {Hn : Nat → Nat} (G : 0 < n → tr_G n O) (hH : ∀ c, c < 6 → xho c = nI (Hn c)) (hO : xs_O n O xqk xqv xqo)
    (h : ∀ (qp qs qh : Nat → Int32), (0 < n → xl_R n O qp qs qh) → post (nI n) (xds, xcc, xmi, xre, xpc, nI n, 0, xsc, xou, xtk, xtv, xss, xts, xho, xfu, xfa, xfo, xpn, xpe, xpf, xqk, xqv, xqo, qp, qs, qh, xwo, xsi)) : wX_expand_166 post xds xcc xmi xre xpc (nI n) 0 xsc xou xtk xtv xss xts xho xfu xfa xfo xpn xpe xpf xqk xqv xqo xqp xqs xqh xwo xsi := by
  unfold wX_expand_166
  refine br_t rfl ?_
  rcases Nat.eq_zero_or_pos n with e | e
  · subst e
    exact xw_link0 (fun qp => h qp _ _ (fun z => by omega))
  · exact xw_link (G e) hH (fun m hm => (hO m hm).1) (fun qp qs qh L => h qp qs qh (fun _ => L))
theorem xw_expand {post : Int32 → SX → Prop} {K : Nat → Nat} {V : Nat → Int32} {Hn Len : Nat → Nat} {nc s : Nat} (w : tx_WF K V Hn Len nc) (T : xs_T K V Len nc xtk xtv) (hH : ∀ c, c < 6 → xho c = nI (Hn c))
    (hL : ∀ c, c < 6 → xts c = nI (Len c)) (hS : ∀ c, c < 4 → xss c = nI (Len (6+c))) (hs : s < 4)
    (hN : pm_ex K V Hn Len s = none → ∀ (re pc pl tl : Int32) (fu fa fo pn pe pf qk qv qo : Nat → Int32), post (-2) (xds, xcc, xmi, re, pc, pl, tl, xsc, xou, xtk, xtv, xss, xts, xho, fu, fa, fo, pn, pe, pf, qk, qv, qo, xqp, xqs, xqh, xwo, xsi))
    (hE : ∀ nf n O, pm_ex K V Hn Len s = some (nf, n, O) → ∀ (pc : Int32) (fu fa fo pn pe pf qk qv qo qp qs qh : Nat → Int32), xs_O n O qk qv qo → (0 < n → xl_R n O qp qs qh) → post (nI n) (xds, xcc, xmi, nI nf, pc, nI n, 0, xsc, xou, xtk, xtv, xss, xts, xho, fu, fa, fo, pn, pe, pf, qk, qv, qo, qp, qs, qh, xwo, xsi)) :
    wpX_expand post (xds, xcc, xmi, xre, xpc, xpl, xtl, xsc, xou, xtk, xtv, xss, xts, xho, xfu, xfa, xfo, xpn, xpe, xpf, xqk, xqv, xqo, xqp, xqs, xqh, xwo, xsi) (nI s) := by
  have hr : tx_row nc (6+s) := Or.inr ⟨by omega, by omega⟩
  have hl24 := (w.2 (6+s) hr).1
  obtain ⟨I, mu⟩ := pm_exI w hs
  have eb : xs_b (6+s) = 24 * s := by
    unfold xs_b
    rw [if_neg (by omega)]; omega
  have er : pm_row K s pm_F0 0 = 6 + s := if_pos rfl
  unfold wpX_expand wpX_isSource
  refine br_f (nI_pos (by omega)) (pk_le 4 s (fun z => by omega) (fun _ => br_f (by decide) (nm_r (e' := nI (24 * s)) ?_ ⟨pk_in s 4 hs, ?_⟩)))
  · rw [show (24 : Int32) = nI 24 from rfl, pk_mul, Nat.mul_comm]
  rw [nI_clamp (show s < 2 ^ 31 by omega), hS s hs, nI_add]
  refine xw_openPiece (j := 0) (by omega) ⟨130000, ?_⟩
  refine xw_loop w T hH hL hs (pm_ex K V Hn Len s) ?_ 130000 70000 0 1 (pm_s0 Len s) 0 pm_F0 0 pm_O0 _ _ _ _ _ _ _ _ _ I ?_ (fun f h1 h2 => by omega) (fun m hm => by omega) rfl (by omega) (by omega) (by omega)
  · intro re pc pl tl fu fa fo pn pe pf qk qv qo h1 h2
    cases e : pm_ex K V Hn Len s with
    | none =>
      have := h1 e
      subst this
      unfold wX_expand_166
      exact br_f (by decide) (hN e _ _ _ _ _ _ _ _ _ _ _ _ _)
    | some R =>
      obtain ⟨nf, n, O⟩ := R
      obtain ⟨e1, e2, e3, e4⟩ := h2 nf n O e
      subst e1 e2 e3
      refine xw_166 (O := O) (Hn := Hn) ?_ hH e4 (fun qp qs qh L => hE nf n O e _ _ _ _ _ _ _ _ _ _ _ _ _ e4 L)
      intro hn
      by_cases hl : Len (6+s) = 0
      · rw [pm_ex0 hl] at e
        cases e
        omega
      · exact (pm_exG w hs hl e).2
  · refine ⟨if Len (6+s) = 0 then 0 else 1, 24 * (6+s), 24 * (6+s) + Len (6+s), 0, [], ?_, Nat.le_refl _, ?_, ?_, ?_, ?_, ?_, ?_, rfl⟩
    · unfold pm_s0
      by_cases hl : Len (6+s) = 0
      · rw [if_pos hl, if_pos hl]
        exact ⟨by omega, rfl⟩
      · rw [if_neg hl, if_neg hl]
        exact ⟨Len (6+s), 0, [], (w.2 (6+s) hr).2.2.1 (by omega), rfl, rfl, rfl⟩
    · rw [er]; omega
    · rw [er]; omega
    · show 0 + (pm_F0 0).2.2.2 ≤ 0
      exact Nat.le_refl _
    · rw [pk_us, er, eb]
      exact congrArg nI (by omega)
    · rw [pk_us, er, eb]
      exact congrArg nI (by omega)
    · rw [pk_us]; rfl
theorem xw_expandX {post : Int32 → SX → Prop} {v : Int32} (hv : v < 0 ∨ 4 ≤ v) (h : post (-3) (xds, xcc, xmi, xre, xpc, xpl, xtl, xsc, xou, xtk, xtv, xss, xts, xho, xfu, xfa, xfo, xpn, xpe, xpf, xqk, xqv, xqo, xqp, xqs, xqh, xwo, xsi)) : wpX_expand post (xds, xcc, xmi, xre, xpc, xpl, xtl, xsc, xou, xtk, xtv, xss, xts, xho, xfu, xfa, xfo, xpn, xpe, xpf, xqk, xqv, xqo, xqp, xqs, xqh, xwo, xsi) v := by
  unfold wpX_expand wpX_isSource
  rcases hv with hv | hv
  · exact br_t hv (br_t rfl h)
  · exact br_c (fun _ => br_t rfl h) (fun _ => br_t hv (br_t rfl h))
end
section
variable {yco ypl ysz yus yof yre ysa : Int32} {ykd ybh yln yhl yvl yks yog yvs ypa ysp ytd ywi yun ysd you yfr ylf yva ysv ywo ysi ywk yph : Nat → Int32}
theorem yw_out {post : Int32 → Prop} {v : Int32} (N : Nat) (hN : N < 2 ^ 31) (h0 : ∀ j, j < N → v = nI j → post 0) (h1 : (v < 0 ∨ nI N ≤ v) → post 1) : wpY_out post v (nI N) := by
  unfold wpY_out
  rcases pk_ix v hN with h | h | ⟨j, hj, rfl⟩
  · exact br_t h (h1 (Or.inl h))
  · refine br_c (fun _ => h1 (Or.inr h)) (fun _ => br_f (Int32.not_lt.mpr h) (h1 (Or.inr h)))
  · exact br_f (nI_pos (by omega)) (br_t (nI_lt hj hN) (h0 j hj rfl))
theorem yw_ops {post : Int32 → Prop} {Hn : Nat → Nat} {k : Nat} (hk : k < 22) (hH : ∀ c, c < 6 → yhl c = nI (Hn c)) (h : post (nI (tx_a Hn k))) : wpY_operands post (yco, ypl, ysz, yus, yof, yre, ysa, ykd, ybh, yln, yhl, yvl, yks, yog, yvs, ypa, ysp, ytd, ywi, yun, ysd, you, yfr, ylf, yva, ysv, ywo, ysi, ywk, yph) (nI k) := by
  unfold wpY_operands
  unfold tx_a at h
  refine pk_lt k 16 (fun h1 => ?_) (fun h1 => ?_)
  · rw [if_neg (by omega)] at h
    unfold wY_operands_37
    refine pk_eq k 6 (fun e => by rw [if_pos e] at h; exact h) (fun e6 => ?_)
    rw [if_neg e6] at h
    have H : k ≤ 1 ∨ 7 ≤ k → (nI k = 7 → post 2) ∧ (¬ nI k = 7 → (nI k = 8 → post 1) ∧ (¬ nI k = 8 → post 0)) := by
      intro hk2
      refine pk_eq k 7 (fun e7 => ?_) (fun e7 => pk_eq k 8 (fun e8 => ?_) (fun e8 => ?_))
      · rw [if_neg (by omega), if_pos (by omega)] at h; exact h
      · rw [if_pos e8] at h; exact h
      · rw [if_neg e8, if_neg (by omega)] at h; exact h
    refine pk_le k 1 (fun e1 => H (Or.inl e1)) (fun e1 => pk_lt k 7 (fun e7 => ?_) (fun e7 => H (Or.inr e7)))
    rw [if_neg (by omega), if_pos (by omega)] at h; exact h
  · rw [if_pos h1] at h
    have e : nI k - 16 = nI (k - 16) := pk_sub (b := 16) h1
    rw [e, nI_clamp (by omega), hH _ (by omega)]
    exact ⟨pk_in (k - 16) 6 (by omega), h⟩
theorem yw_later {post : Int32 → SY → Prop} {t i f a : Nat} (ht : t < 4100) (hi : i < 32768) (hf : f < 32768) (ha : a < 32768) (h : post (nI (t+1)) (yco, ypl, ysz, yus, yof, yre, ysa, ykd, ybh, yln, yhl, yvl, yks, yog, yvs, ypa, ysp, upd ytd t (nI i), upd ywi t (ys_i f), upd yun t (ys_i a), ysd, you, yfr, ylf, yva, ysv, ywo, ysi, ywk, yph)) : wpY_later post (yco, ypl, ysz, yus, yof, yre, ysa, ykd, ybh, yln, yhl, yvl, yks, yog, yvs, ypa, ysp, ytd, ywi, yun, ysd, you, yfr, ylf, yva, ysv, ywo, ysi, ywk, yph) (nI t) (nI i) (ys_i f) (ys_i a) := by
  unfold wpY_later
  dsimp only
  rw [nI_clamp (show t < 2 ^ 31 by omega), nu_16 hi, nu_v16 hi, ys_i16 hf, ys_v16 hf, ys_i16 ha, ys_v16 ha, nI_1]
  exact ⟨pk_in t 4100 ht, nm_e ⟨pk_in t 4100 ht, nm_e ⟨pk_in t 4100 ht, nm_e h⟩⟩⟩
theorem yw_operand {post : Int32 → Prop} {K : Nat → Nat} {V : Nat → Int32} {Hn Len : Nat → Nat} {nc r i o : Nat} (w : tx_WF K V Hn Len nc) (T : ys_T K V Hn Len nc ykd ybh yvl) (hp : tx_pos Len nc r i) (ho : o < tx_a Hn (K i)) (h2 : o < 2 ^ 31)
    (h : post (nI (gx_op (fun i => tx_a Hn (K i)) (i+1) o))) : wpY_operand post (yco, ypl, ysz, yus, yof, yre, ysa, ykd, ybh, yln, yhl, yvl, yks, yog, yvs, ypa, ysp, ytd, ywi, yun, ysd, you, yfr, ylf, yva, ysv, ywo, ysi, ywk, yph) (nI i) (nI o) := by
  have hl := (w.2 r hp.1).1
  have p2 := hp.2.1
  have p3 := hp.2.2
  have hr : r < 10 := by
    have := w.1
    have h1 := hp.1
    unfold tx_row at h1
    omega
  unfold wpY_operand
  refine ⟨by decide, nm_r (e' := nI (24 * r)) ?_ (nm_r (nI_1 i) ⟨o+1, ?_⟩)⟩
  · rw [show (24 : Int32) = nI 24 from rfl, pk_div (by omega) (by omega) (by omega), pk_mul]
    exact congrArg nI (by omega)
  have L : ∀ (n k : Nat), k ≤ o → o < n + k → wY_operand_16 post (nI o) (nI (24 * r)) yco ypl ysz yus yof yre ysa ykd ybh yln yhl yvl yks yog yvs ypa ysp ytd ywi yun ysd you yfr ylf yva ysv ywo ysi ywk yph n (nI (gx_op (fun i => tx_a Hn (K i)) (i+1) k)) (nI k) := by
    intro n
    induction n with
    | zero => intro k h1 h2; omega
    | succ n ih =>
      intro k h1 h2
      refine pk_le o k (fun y => ?_) (fun y => ?_)
      · have e : k = o := by omega
        rw [e]; exact h
      · obtain ⟨s1, s2, s3, s4⟩ := ys_opS w T hp (o := k) (by omega)
        have s5 := s1.2.2
        refine ⟨vp_in_nI (by omega) (by omega), ?_⟩
        rw [nI_clamp (by omega), s2, nI_add, nI_1]
        refine nm_r (e' := nI (gx_op (fun i => tx_a Hn (K i)) (i+1) (k+1))) (congrArg nI (by omega)) (nm_e ?_)
        exact ih (k+1) (by omega) (by omega)
  exact L (o+1) 0 (by omega) (by omega)
theorem yw_push {post : Int32 → SY → Prop} {J : Int32 → Int32 → Int32 → Int32 → Int32 → Int32 → Int32 → Int32 → (Nat → Int32) → (Nat → Int32) → (Nat → Int32) → (Nat → Int32) → (Nat → Int32) → (Nat → Int32) → (Nat → Int32) → (Nat → Int32) → (Nat → Int32) → (Nat → Int32) → (Nat → Int32) → (Nat → Int32) → (Nat → Int32) → (Nat → Int32) → (Nat → Int32) → (Nat → Int32) → (Nat → Int32) → (Nat → Int32) → (Nat → Int32) → (Nat → Int32) → (Nat → Int32) → (Nat → Int32) → (Nat → Int32) → Prop}
    {K : Nat → Nat} {V : Nat → Int32} {Hn Len : Nat → Nat} {nc r i f n : Nat} (w : tx_WF K V Hn Len nc) (T : ys_T K V Hn Len nc ykd ybh yvl) (hp : tx_pos Len nc r i) (hf : f < 32768) (hn : n + 1 < 32768) :
    ∀ (o m top : Nat) (st : List pm_S) (ytd ywi yun : Nat → Int32), o ≤ tx_a Hn (K i) → o ≤ 3 → o < m → top + o ≤ 4100 → ys_P ytd ywi yun top st →
      (∀ (td wi un : Nat → Int32), ys_P td wi un (top + o) (gx_push (fun o => (gx_op (fun i => tx_a Hn (K i)) (i+1) o, f, n+1)) o st) → J (nI (top + o)) yco ypl ysz yus yof yre ysa ykd ybh yln yhl yvl yks yog yvs ypa ysp td wi un ysd you yfr ylf yva ysv ywo ysi ywk yph) →
      wY_expanded_499 post J (nI i) (ys_i f) (nI n) m (nI top) (ys_i o) yco ypl ysz yus yof yre ysa ykd ybh yln yhl yvl yks yog yvs ypa ysp ytd ywi yun ysd you yfr ylf yva ysv ywo ysi ywk yph := by
  intro o
  induction o with
  | zero =>
    intro m top st ytd ywi yun h1 h2 h3 h4 h5 h6
    obtain ⟨m', rfl⟩ : ∃ m', m = m' + 1 := ⟨m - 1, by omega⟩
    exact br_t (by decide) (h6 ytd ywi yun h5)
  | succ o ih =>
    intro m top st ytd ywi yun h1 h2 h3 h4 h5 h6
    obtain ⟨m', rfl⟩ : ∃ m', m = m' + 1 := ⟨m - 1, by omega⟩
    have hq := pm_opE w hp (o := o) (by omega)
    have hl := (w.2 r hp.1).1
    have q3 := hq.2.2
    have hr : r < 10 := by
      have := w.1
      have h1 := hp.1
      unfold tx_row at h1
      omega
    rw [ys_iS]
    refine br_f (nI_pos (by omega)) ?_
    refine yw_operand w T hp (by omega) (by omega) ?_
    refine yw_later (a := n+1) (by omega) (by omega) hf hn (nm_r (e' := ys_i o) ?_ ?_)
    · cases o with
      | zero => rfl
      | succ o => exact pk_m1 o
    · refine ih m' (top+1) ((gx_op (fun i => tx_a Hn (K i)) (i+1) o, f, n+1) :: st) _ _ _ (by omega) (by omega) (by omega) (by omega) (ys_put h5 rfl rfl rfl) ?_
      intro td wi un hP
      have e : top + 1 + o = top + (o+1) := by omega
      rw [e] at hP ⊢
      exact h6 td wi un hP
end
section
variable {yco ypl ysz yus yof yre ysa : Int32} {ykd ybh yln yhl yvl yks yog yvs ypa ysp ytd ywi yun ysd you yfr ylf yva ysv ywo ysi ywk yph : Nat → Int32}
theorem nu_g1 {f : Nat} (h : 0 < f) : (99 + (2 * ys_i f)) - (-1) = nI (98 + 2 * f) := by
  obtain ⟨f, rfl⟩ : ∃ g, f = g + 1 := ⟨f - 1, by omega⟩
  rw [ys_iS, show 98 + 2 * (f + 1) = 100 + 2 * f from by omega, ← nI_add, ← pk_mul]
  show _ = (100 : Int32) + 2 * nI f
  generalize nI f = x
  grind
theorem nu_g2 {f : Nat} (h : 0 < f) : (99 + (2 * ys_i f)) - (-2) = nI (99 + 2 * f) := by
  obtain ⟨f, rfl⟩ : ∃ g, f = g + 1 := ⟨f - 1, by omega⟩
  rw [ys_iS, show 99 + 2 * (f + 1) = 101 + 2 * f from by omega, ← nI_add, ← pk_mul]
  show _ = (101 : Int32) + 2 * nI f
  generalize nI f = x
  grind
theorem nu_r24 {i : Nat} (h : i < 2 ^ 31) : (nI i - nI i / 24 * 24).toInt8.toInt32 = nI (i % 24) := by
  rw [show (24 : Int32) = nI 24 from rfl, pk_rem h (by omega) (by omega), nu_8 (by omega)]
theorem nu_y0 {f : Nat} (h : 0 < f) (h2 : f < 2 ^ 31) : 0 ≤ ys_i f := by
  rw [ys_iP h]
  exact nI_pos' (by omega)
theorem yw_plain {post : Int32 → SY → Prop} {J : Int32 → Int32 → Int32 → Int32 → Int32 → Int32 → Int32 → Int32 → (Nat → Int32) → (Nat → Int32) → (Nat → Int32) → (Nat → Int32) → (Nat → Int32) → (Nat → Int32) → (Nat → Int32) → (Nat → Int32) → (Nat → Int32) → (Nat → Int32) → (Nat → Int32) → (Nat → Int32) → (Nat → Int32) → (Nat → Int32) → (Nat → Int32) → (Nat → Int32) → (Nat → Int32) → (Nat → Int32) → (Nat → Int32) → (Nat → Int32) → (Nat → Int32) → (Nat → Int32) → (Nat → Int32) → Prop}
    {K : Nat → Nat} {V : Nat → Int32} {Hn Len : Nat → Nat} {nc s i f a nf n top : Nat} {F : pm_F} {st : List pm_S} (w : tx_WF K V Hn Len nc) (T : ys_T K V Hn Len nc ykd ybh yvl) (hH : ∀ c, c < 6 → yhl c = nI (Hn c))
    (I : pm_I K Len nc s ((i, f, a) :: st) nf F n) (hk : ¬ 16 ≤ K i) (h9 : K i ≠ 9) (hn : n < 2000) (ha : a < 32768) (htop : top ≤ 1 + 2 * n) (hP : ys_P ytd ywi yun top st) (hF : ys_F F nf ysd you yfr)
    (h : ∀ (td wi un : Nat → Int32), ys_P td wi un (top + tx_a Hn (K i)) (gx_push (fun o => (gx_op (fun i => tx_a Hn (K i)) (i+1) o, f, n+1)) (tx_a Hn (K i)) st) →
      J (nI (top + tx_a Hn (K i))) yco ypl (nI (n+1)) yus yof yre ysa ykd ybh yln yhl yvl (upd yks n (nI (pm_kind (K i)))) (upd yog n (nI (pm_org F f i))) (upd yvs n (pm_val K V F f i)) (upd ypa n (ys_i a)) ysp td wi un ysd you yfr ylf yva ysv ywo ysi ywk yph) :
    wY_expanded_354 post J (nI top) (nI i) (ys_i f) (ys_i a) (nI (K i)) (nI n) (nI (pm_kind (K i))) (nI n) yco ypl (nI (n+1)) yus yof yre ysa ykd ybh yln yhl yvl yks yog yvs ypa ysp ytd ywi yun ysd you yfr ylf yva ysv ywo ysi ywk yph := by
  obtain ⟨hf, hp⟩ := pm_head I
  have hnf := I.2.1
  have tk := tx_tokE w hp
  have tk1 := tk.1
  have hl := (w.2 _ hp.1).1
  have p2 := hp.2.1
  have p3 := hp.2.2
  have hr : pm_row K s F f < 10 := by
    have := w.1
    have h1 := hp.1
    unfold tx_row at h1
    omega
  have hf6 : pm_row K s F f < 6 → 0 < f := by
    intro h6
    rcases Nat.eq_zero_or_pos f with x0 | x0
    · rw [x0] at h6
      unfold pm_row at h6
      rw [if_pos rfl] at h6
      omega
    · exact x0
  obtain ⟨y1, y2, y3⟩ := T _ hp.1 i p2 p3
  have hkk : pm_kind (K i) < 128 := by
    unfold pm_kind
    split <;> omega
  have hog := pm_org24 I (i := i) hf
  have i1 : vp_in (nI n) 2001 := pk_in n 2001 (by omega)
  have ha3 := tx_a3 Hn (k := K i) (by omega)
  have H474 : ∀ (vs : Nat → Int32) (z0 : Int32), z0 = nI (pm_org F f i) → vs = upd yvs n (pm_val K V F f i) → wY_expanded_474 post J (nI top) (nI i) (ys_i f) (ys_i a) (nI (K i)) (nI n) z0 (nI n) yco ypl (nI (n+1)) yus yof yre ysa ykd ybh yln yhl yvl (upd yks n (nI (pm_kind (K i)))) yog vs ypa ysp ytd ywi yun ysd you yfr ylf yva ysv ywo ysi ywk yph := by
    intro vs z0 e1 e2
    subst e1 e2
    unfold wY_expanded_474
    rw [nI_clamp (show n < 2 ^ 31 by omega), nu_v8 (by omega), ys_i16 ha, ys_v16 ha]
    refine ⟨i1, nm_e ⟨i1, nm_e ?_⟩⟩
    refine yw_ops (Hn := Hn) (by omega) hH (nm_r (e' := ys_i (tx_a Hn (K i))) ?_ ⟨tx_a Hn (K i) + 1, ?_⟩)
    · rcases Nat.eq_zero_or_pos (tx_a Hn (K i)) with z | z
      · rw [z]; rfl
      · rw [ys_iP z]
        exact pk_sub (b := 1) z
    · exact yw_push w T hp (by omega) (by omega) (tx_a Hn (K i)) _ top st _ _ _ (Nat.le_refl _) ha3 (by omega) (by omega) hP h
  have H447 : ∀ (z0 : Int32), z0 = pm_val K V F f i → wY_expanded_447 post J (nI top) (nI i) (ys_i f) (ys_i a) (nI (K i)) (nI n) z0 (nI n) yco ypl (nI (n+1)) yus yof yre ysa ykd ybh yln yhl yvl (upd yks n (nI (pm_kind (K i)))) yog yvs ypa ysp ytd ywi yun ysd you yfr ylf yva ysv ywo ysi ywk yph := by
    intro z0 e1
    subst e1
    unfold wY_expanded_447
    rw [nI_clamp (show n < 2 ^ 31 by omega)]
    refine ⟨i1, nm_e ?_⟩
    rcases Nat.eq_zero_or_pos f with f0 | f0
    · have e0 : ¬ 0 ≤ ys_i f := by rw [f0]; decide
      refine br_f e0 ⟨by decide, H474 _ _ ?_ rfl⟩
      rw [nu_r24 (by omega)]
      unfold pm_org
      rw [if_pos f0]
    · refine br_t (nu_y0 f0 (by omega)) ?_
      rw [ys_iP f0, nI_clamp (show f - 1 < 2 ^ 31 by omega)]
      refine ⟨pk_in (f-1) 2001 (by omega), ?_⟩
      have hF1 := (hF (f-1) (by omega)).2.2
      rw [show f - 1 + 1 = f from by omega] at hF1
      rw [← ys_iP f0]
      refine H474 _ _ ?_ rfl
      rw [hF1]
      unfold pm_org
      rw [if_neg (by omega)]
  have H423 : ∀ (x8 : Int32), ((K i = 0 ∨ K i = 1 ∨ K i = 7) → x8 = pm_val K V F f i) → (¬ (K i = 0 ∨ K i = 1 ∨ K i = 7) → K i ≠ 10) → wY_expanded_423 post J (nI top) (nI i) (ys_i f) (ys_i a) (nI (K i)) (nI n) x8 (nI n) yco ypl (nI (n+1)) yus yof yre ysa ykd ybh yln yhl yvl (upd yks n (nI (pm_kind (K i)))) yog yvs ypa ysp ytd ywi yun ysd you yfr ylf yva ysv ywo ysi ywk yph := by
    intro x8 e1 e2
    unfold wY_expanded_423 wY_expanded_441
    refine pk_eq (K i) 0 (fun e => H447 _ (e1 (Or.inl e))) (fun n0 => pk_eq (K i) 1 (fun e => H447 _ (e1 (Or.inr (Or.inl e)))) (fun n1 => pk_eq (K i) 7 (fun e => H447 _ (e1 (Or.inr (Or.inr e)))) (fun n7 => H447 _ ?_)))
    have n10 := e2 (by omega)
    unfold pm_val
    rw [if_neg n10, if_neg n0, if_neg (by omega)]
  have H405 : (K i = 1 ∨ K i = 7) → wY_expanded_405 post J (nI top) (nI i) (ys_i f) (ys_i a) (nI (K i)) (nI n) (V i) (nI n) yco ypl (nI (n+1)) yus yof yre ysa ykd ybh yln yhl yvl (upd yks n (nI (pm_kind (K i)))) yog yvs ypa ysp ytd ywi yun ysd you yfr ylf yva ysv ywo ysi ywk yph := by
    intro h17
    have ev : pm_val K V F f i = (if V i = -1 then nI (98 + 2 * f) else if V i = -2 then nI (99 + 2 * f) else V i) := by
      unfold pm_val
      rw [if_neg (by omega), if_neg (by omega), if_pos h17]
    unfold wY_expanded_405
    refine br_c (fun hv => H423 _ (fun _ => ?_) (fun _ => by omega)) (fun hv => H447 _ ?_)
    · rw [ev, if_neg (fun y => by rw [y] at hv; exact absurd hv (by decide)), if_neg (fun y => by rw [y] at hv; exact absurd hv (by decide))]
    · rw [ev]
      rcases tk.2.2.1 h17 with ⟨x, x1, x2⟩ | ⟨h6, y | y⟩
      · rw [x2] at hv
        exact absurd (nI_pos' (by omega)) hv
      · rw [if_pos y, y]; exact nu_g1 (hf6 h6)
      · rw [if_neg (by rw [y]; decide), if_pos y, y]; exact nu_g2 (hf6 h6)
  unfold wY_expanded_354
  rw [nI_clamp (show n < 2 ^ 31 by omega), nI_clamp (show i < 2 ^ 31 by omega), nu_8 hkk, nu_v8 hkk]
  refine ⟨i1, nm_e ⟨pk_in i 264 (by omega), nm_e ?_⟩⟩
  refine pk_eq (K i) 10 (fun e => ?_) (fun n10 => pk_eq (K i) 1 (fun e => ?_) (fun n1 => pk_eq (K i) 7 (fun e => ?_) (fun n7 => H423 _ (fun h0 => ?_) (fun _ => n10))))
  · have f0 : 0 < f := hf6 (by omega)
    obtain ⟨z1, z2, z3, z4, z5⟩ := I.2.2.2.2.1 f (by omega) hf
    have hF1 := (hF (f-1) (by omega)).1
    rw [show f - 1 + 1 = f from by omega] at hF1
    have w3 := z2.2.2
    have w4 := (w.2 _ z2.1).1
    have w5 : pm_row K s F (F f).2.1 < 10 := by
      have := w.1
      have h1 := z2.1
      unfold tx_row at h1
      omega
    rw [ys_iP f0, nI_clamp (show f - 1 < 2 ^ 31 by omega), hF1, nI_clamp (show (F f).1 < 2 ^ 31 by omega), ← ys_iP f0]
    refine ⟨?_, ⟨vp_in_nI (by omega) (by omega), H447 _ ?_⟩⟩
    · rw [ys_iP f0]
      exact pk_in (f-1) 2001 (by omega)
    · rw [(T _ z2.1 _ z2.2.1 z2.2.2).2.1 (by unfold tx_hv; omega)]
      unfold pm_val
      rw [if_pos e]
  · rw [y2 (by unfold tx_hv; omega)]
    exact H405 (Or.inl e)
  · rw [y2 (by unfold tx_hv; omega)]
    exact H405 (Or.inr e)
  · have e0 : K i = 0 := by omega
    rw [y2 (by unfold tx_hv; omega)]
    unfold pm_val
    rw [if_neg n10, if_pos e0]
end
section
variable {yco ypl ysz yus yof yre ysa : Int32} {ykd ybh yln yhl yvl yks yog yvs ypa ysp ytd ywi yun ysd you yfr ylf yva ysv ywo ysi ywk yph : Nat → Int32}
theorem yw_loopX {post : Int32 → SY → Prop} {m : Nat} {x2 : Int32} (hm : 0 < m) (hz : 2000 < ysz ∨ 2000 < yus) (h : wY_expanded_534 post yco ypl ysz yus yof yre ysa ykd ybh yln yhl yvl yks yog yvs ypa ysp ytd ywi yun ysd you yfr ylf yva ysv ywo ysi ywk yph) : wY_expanded_80 post m x2 yco ypl ysz yus yof yre ysa ykd ybh yln yhl yvl yks yog yvs ypa ysp ytd ywi yun ysd you yfr ylf yva ysv ywo ysi ywk yph := by
  obtain ⟨m', rfl⟩ : ∃ m', m = m' + 1 := ⟨m - 1, by omega⟩
  exact br_c (fun _ => h) (fun _ => br_c (fun _ => h) (fun n1 => br_t (hz.resolve_left n1) h))
theorem yw_219 {post : Int32 → SY → Prop} {J : Int32 → Int32 → Int32 → Int32 → Int32 → Int32 → Int32 → Int32 → (Nat → Int32) → (Nat → Int32) → (Nat → Int32) → (Nat → Int32) → (Nat → Int32) → (Nat → Int32) → (Nat → Int32) → (Nat → Int32) → (Nat → Int32) → (Nat → Int32) → (Nat → Int32) → (Nat → Int32) → (Nat → Int32) → (Nat → Int32) → (Nat → Int32) → (Nat → Int32) → (Nat → Int32) → (Nat → Int32) → (Nat → Int32) → (Nat → Int32) → (Nat → Int32) → (Nat → Int32) → (Nat → Int32) → Prop}
    {j a k nf og : Nat} (hj : j < 4100) (ha : a < 32768) (hk : 16 ≤ k) (hk2 : k < 22) (hnf : nf < 2000) (hog : og < 24)
    (h : J (nI (j+1)) yco ypl ysz (nI (nf+1)) yof yre ysa ykd ybh yln yhl yvl yks yog yvs ypa ysp (upd ytd j (nI (24 * (k - 16)))) (upd ywi j (ys_i (nf+1))) (upd yun j (ys_i a)) ysd you (upd yfr nf (nI og)) ylf yva ysv ywo ysi ywk yph) : wY_expanded_219 post J (nI j) (ys_i a) (nI k) (nI og) (nI nf) yco ypl ysz (nI nf) yof yre ysa ykd ybh yln yhl yvl yks yog yvs ypa ysp ytd ywi yun ysd you yfr ylf yva ysv ywo ysi ywk yph := by
  unfold wY_expanded_219
  rw [nI_clamp (show nf < 2 ^ 31 by omega), nu_v8 (by omega), show nI k - 16 = nI (k - 16) from pk_sub (b := 16) hk, show (24 : Int32) * nI (k - 16) = nI (24 * (k - 16)) from pk_mul 24 (k - 16)]
  exact ⟨pk_in nf 2001 (by omega), nm_e (yw_later (f := nf+1) hj (by omega) (by omega) ha (nm_r (nI_1 nf) h))⟩
theorem yw_loop {post : Int32 → SY → Prop} {K : Nat → Nat} {V : Nat → Int32} {Hn Len : Nat → Nat} {nc s : Nat} (w : tx_WF K V Hn Len nc) (T : ys_T K V Hn Len nc ykd ybh yvl) (hH : ∀ c, c < 6 → yhl c = nI (Hn c))
    (R : Option (Nat × Nat × pm_O))
    (h : ∀ (sz us : Int32) (ks og vs pa td wi un sd ou fr : Nat → Int32), (R = none → (2000 < sz ∨ 2000 < us)) → (∀ nf' n' O', R = some (nf', n', O') → sz = nI n' ∧ us = nI nf' ∧ ys_O n' O' ks vs og pa) →
      wY_expanded_534 post yco ypl sz us yof yre ysa ykd ybh yln yhl yvl ks og vs pa ysp td wi un sd ou fr ylf yva ysv ywo ysi ywk yph) :
    ∀ (m t top : Nat) (st : List pm_S) (nf : Nat) (F : pm_F) (n : Nat) (O : pm_O) (yks yog yvs ypa ytd ywi yun ysd you yfr : Nat → Int32), pm_I K Len nc s st nf F n → (∀ x, x ∈ st → x.2.2 ≤ n) → top ≤ 1 + 2 * n →
      ys_P ytd ywi yun top st → ys_F F nf ysd you yfr → ys_O n O yks yvs yog ypa →
      pm_go K V (fun i => tx_a Hn (K i)) t st nf F n O = R → pm_mu K s F st nf n < t → pm_mu K s F st nf n + 1 < m →
      wY_expanded_80 post m (nI top) yco ypl (nI n) (nI nf) yof yre ysa ykd ybh yln yhl yvl yks yog yvs ypa ysp ytd ywi yun ysd you yfr ylf yva ysv ywo ysi ywk yph := by
  intro m
  induction m with
  | zero => intro t top st nf F n O yks yog yvs ypa ytd ywi yun ysd you yfr _ _ _ _ _ _ _ _ hm; omega
  | succ m ih =>
    intro t top st nf F n O yks yog yvs ypa ytd ywi yun ysd you yfr hI hA htop hP hF hO hR ht hm
    obtain ⟨t, rfl⟩ : ∃ t', t = t' + 1 := ⟨t - 1, by omega⟩
    cases top with
    | zero =>
      have e : st = [] := hP
      subst e
      rw [pm_go0] at hR
      refine pk_le 0 0 (fun _ => ?_) (fun z => by omega)
      refine h _ _ _ _ _ _ _ _ _ _ _ _ (fun z => by rw [z] at hR; cases hR) (fun nf' n' O' z => ?_)
      rw [z] at hR
      cases hR
      exact ⟨rfl, rfl, hO⟩
    | succ j =>
      obtain ⟨i, f, a, rest, e, g1, g2, g3, g4⟩ := hP
      subst e
      have hnf := hI.2.1
      have hn2 := hI.2.2.1
      obtain ⟨hf, hp⟩ := pm_head hI
      have p2 := hp.2.1
      have p3 := hp.2.2
      have hl := (w.2 _ hp.1).1
      have hr : pm_row K s F f < 10 := by
        have := w.1
        have h1 := hp.1
        unfold tx_row at h1
        omega
      have ha : a ≤ n := hA (i, f, a) List.mem_cons_self
      have hA' : ∀ x, x ∈ rest → x.2.2 ≤ n := fun x hx => hA x (List.mem_cons_of_mem _ hx)
      obtain ⟨y1, y2, y3⟩ := T _ hp.1 i p2 p3
      have i1 : vp_in (nI j) 4100 := pk_in j 4100 (by omega)
      have hk22 : K i < 22 := by
        have x1 := (tx_tokE w hp).1
        have x2 := w.1
        unfold tx_lim at x1
        split at x1 <;> omega
      refine pk_le (j+1) 0 (fun z => by omega) (fun _ => pk_lt 2000 n (fun z => by omega) (fun _ => pk_lt 2000 nf (fun z => by omega) (fun _ => nm_r (pk_m1 j) ⟨i1, ?_⟩)))
      rw [nI_clamp (show j < 2 ^ 31 by omega)]
      refine nm_r g1 ⟨i1, nm_r g2 ⟨i1, nm_r g3 ⟨pk_in i 264 (by omega), ?_⟩⟩⟩
      rw [nI_clamp (show i < 2 ^ 31 by omega)]
      refine nm_r y1 (pk_lt (K i) 16 (fun hk => ?_) (fun hk => ?_))
      · have hk' : ¬ 16 ≤ K i := by omega
        refine pk_eq (K i) 9 (fun h9 => ?_) (fun h9 => ?_)
        · rw [pm_goH _ _ _ _ _ _ _ _ _ _ _ _ h9] at hR
          obtain ⟨I', mu'⟩ := pm_IH w hI h9
          obtain ⟨o1, o2, o3, o4, o5, o6, o7, o8, o9, o10⟩ := pm_holeE w hI h9
          obtain ⟨f1, f2, f3⟩ := hF (f-1) (by omega)
          rw [show f - 1 + 1 = f from by omega] at f1 f2 f3
          have o93 := o9.2.2
          have hl' := (w.2 _ o9.1).1
          have hr' : pm_row K s F (F f).2.1 < 10 := by
            have := w.1
            have h1 := o9.1
            unfold tx_row at h1
            omega
          rw [ys_iP (show 0 < f by omega), nI_clamp (show f - 1 < 2 ^ 31 by omega), f1, f2, y2 (by unfold tx_hv; omega), o5]
          have i2 : vp_in (nI (f-1)) 2001 := pk_in (f-1) 2001 (by omega)
          refine ⟨i2, ⟨pk_in i 264 (by omega), ?_⟩⟩
          refine yw_operand w T o4 o7 (by omega) ⟨i2, ?_⟩
          refine yw_later (by omega) (by omega) (by omega) (by omega) ?_
          refine ih t (j+1) _ nf F n O _ _ _ _ _ _ _ _ _ _ I' ?_ htop (ys_put g4 rfl rfl rfl) hF hO hR (by omega) (by omega)
          intro x hx
          rcases List.mem_cons.mp hx with rfl | hx
          · exact ha
          · exact hA' x hx
        · refine pk_eq n 2000 (fun hn => ?_) (fun hn => ?_)
          · rw [pm_goPx _ _ _ _ _ _ _ _ _ _ _ _ hk' h9 hn] at hR
            refine nm_r (nI_1 n) (yw_loopX (by omega) (Or.inl ?_) ?_)
            · rw [hn]; decide
            · refine h _ _ _ _ _ _ _ _ _ _ _ _ (fun _ => Or.inl (by rw [hn]; decide)) (fun nf' n' O' z => by rw [z] at hR; cases hR)
          · rw [pm_goP _ _ _ _ _ _ _ _ _ _ _ _ hk' h9 hn] at hR
            obtain ⟨I', mu'⟩ := pm_IP w hI hk' hn (n+1)
            have ha3 := tx_a3 Hn (k := K i) (by omega)
            have N : wY_expanded_354 post (wY_expanded_80 post m) (nI j) (nI i) (ys_i f) (ys_i a) (nI (K i)) (nI n) (nI (pm_kind (K i))) (nI n) yco ypl (nI (n+1)) (nI nf) yof yre ysa ykd ybh yln yhl yvl yks yog yvs ypa ysp ytd ywi yun ysd you yfr ylf yva ysv ywo ysi ywk yph := by
              refine yw_plain w T hH hI hk' h9 (by omega) (by omega) (by omega) g4 hF ?_
              intro td wi un hP'
              refine ih t _ _ nf F (n+1) (pm_nO K V F n O f i a) _ _ _ _ _ _ _ _ _ _ I' ?_ (by omega) hP' hF ?_ hR (by omega) (by omega)
              · refine gx_push_all _ (fun x : pm_S => x.2.2 ≤ n + 1) _ _ (fun o _ => Nat.le_refl _) (fun x hx => ?_)
                have := hA' x hx
                omega
              · intro x hx
                by_cases e : x = n
                · subst e
                  have eO : pm_nO K V F x O f i a x = (pm_kind (K i), pm_val K V F f i, pm_org F f i, a) := pm_fs
                  rw [eO, pk_us, pk_us, pk_us, pk_us]
                  exact ⟨rfl, rfl, rfl, rfl⟩
                · have eO : pm_nO K V F n O f i a x = O x := pm_fn e
                  rw [eO, pk_un e, pk_un e, pk_un e, pk_un e]
                  exact hO x (by omega)
            refine nm_r (nI_1 n) (pk_eq (K i) 10 (fun e => ?_) (fun e => ?_))
            · have ek : pm_kind (K i) = 0 := if_pos e
              rw [ek] at N
              exact N
            · have ek : pm_kind (K i) = K i := if_neg e
              rw [ek] at N
              exact N
      · refine pk_eq nf 2000 (fun hn => ?_) (fun hn => ?_)
        · rw [pm_goUx _ _ _ _ _ _ _ _ _ _ _ _ hk hn] at hR
          refine nm_r (nI_1 nf) (yw_loopX (by omega) (Or.inr ?_) ?_)
          · rw [hn]; decide
          · refine h _ _ _ _ _ _ _ _ _ _ _ _ (fun _ => Or.inr (by rw [hn]; decide)) (fun nf' n' O' z => by rw [z] at hR; cases hR)
        · rw [pm_goU _ _ _ _ _ _ _ _ _ _ _ _ hk hn] at hR
          obtain ⟨I', mu'⟩ := pm_IU w hI hk hn
          have hog := pm_org24 hI (i := i) hf
          have i2 : vp_in (nI nf) 2001 := pk_in nf 2001 (by omega)
          rw [nI_clamp (show nf < 2 ^ 31 by omega), nu_16 (show i < 32768 by omega), nu_v16 (show i < 32768 by omega), ys_i16 (show f < 32768 by omega), ys_v16 (show f < 32768 by omega)]
          have N : ∀ z0 : Int32, z0 = nI (pm_org F f i) → wY_expanded_219 post (wY_expanded_80 post m) (nI j) (ys_i a) (nI (K i)) z0 (nI nf) yco ypl (nI n) (nI nf) yof yre ysa ykd ybh yln yhl yvl yks yog yvs ypa ysp ytd ywi yun (upd ysd nf (nI i)) (upd you nf (ys_i f)) yfr ylf yva ysv ywo ysi ywk yph := by
            intro z0 ez
            subst ez
            refine yw_219 (by omega) (by omega) hk hk22 (by omega) hog ?_
            refine ih t (j+1) _ (nf+1) (pm_nF F nf f i) n O _ _ _ _ _ _ _ _ _ _ I' ?_ htop (ys_put g4 rfl rfl rfl) ?_ hO hR (by omega) (by omega)
            · intro x hx
              rcases List.mem_cons.mp hx with rfl | hx
              · exact ha
              · exact hA' x hx
            · intro x hx
              by_cases e : x = nf
              · subst e
                have eF : pm_nF F x f i (x+1) = (i, f, pm_org F f i, (F f).2.2.2 + 1) := pm_fs
                rw [eF, pk_us, pk_us, pk_us]
                exact ⟨rfl, rfl, rfl⟩
              · have eF : pm_nF F nf f i (x+1) = F (x+1) := pm_fn (by omega)
                rw [eF, pk_un e, pk_un e, pk_un e]
                exact hF x (by omega)
          refine ⟨i2, nm_e ⟨i2, nm_e ?_⟩⟩
          rcases Nat.eq_zero_or_pos f with f0 | f0
          · have e0 : ¬ 0 ≤ ys_i f := by rw [f0]; decide
            refine br_f e0 ⟨by decide, N _ ?_⟩
            rw [nu_r24 (by omega)]
            unfold pm_org
            rw [if_pos f0]
          · refine br_t (nu_y0 f0 (by omega)) ?_
            have hF1 := (hF (f-1) (by omega)).2.2
            rw [show f - 1 + 1 = f from by omega] at hF1
            refine ⟨?_, N _ ?_⟩
            · rw [ys_iP f0]
              exact pk_in (f-1) 2001 (by omega)
            · rw [ys_iP f0, nI_clamp (show f - 1 < 2 ^ 31 by omega), hF1]
              unfold pm_org
              rw [if_neg (by omega)]
end
section
variable {yco ypl ysz yus yof yre ysa : Int32} {ykd ybh yln yhl yvl yks yog yvs ypa ysp ytd ywi yun ysd you yfr ylf yva ysv ywo ysi ywk yph : Nat → Int32}
theorem tr_VB {n : Nat} {O : pm_O} (h : tr_G n O) {i : Nat} : ∀ d, i + d ≤ n → tr_V O (i+d) i ≤ tr_sp (pm_ar O) i
  | 0, _ => by
    unfold tr_V
    rw [if_neg (by omega)]
    exact Nat.le_refl _
  | d+1, hd => by
    have h1 := tr_VB h (i := i) d (by omega)
    have h2 := tr_Vs h (k := i+d) (i := i) (by omega)
    rw [show i + (d+1) = i + d + 1 from by omega]
    split at h2 <;> omega
theorem tr_VB2 {n : Nat} {O : pm_O} (h : tr_G n O) {q i : Nat} (hq : q ≤ n) (hi : i < n) : tr_V O q i ≤ 2000 := by
  have h3 := h.1
  obtain ⟨s1, s2, s3, s4⟩ := tr_spE h hi
  by_cases e : i ≤ q
  · have := tr_VB h (i := i) (q - i) (by omega)
    rw [show i + (q - i) = q from by omega] at this
    omega
  · unfold tr_V
    rw [if_neg (by omega)]
    omega
theorem tr_par0 {n : Nat} {O : pm_O} (h : tr_G n O) {k : Nat} (hk : k < n) (h0 : 0 < k) : 0 < (O k).2.2.2 ∧ (O k).2.2.2 ≤ k := by
  obtain ⟨R, e⟩ := (h.2.2 k hk).2.2.2
  refine ⟨?_, tr_pdB (pm_ar O) k _ (by rw [e]; exact List.mem_cons_self)⟩
  rcases Nat.eq_zero_or_pos (O k).2.2.2 with z | z
  · exfalso
    rw [z] at e
    have hm : 0 ∈ tr_pd (pm_ar O) (1 + (k - 1)) := by
      rw [show 1 + (k - 1) = k from by omega, e]
      exact List.mem_cons_self
    rcases tr_hi (pm_ar O) 1 (k-1) 0 hm with y | y
    · rw [tr_pdS, List.mem_append] at y
      rcases y with y | y
      · have := List.eq_of_mem_replicate y
        omega
      · rw [tr_pd] at y
        cases y
    · omega
  · exact z
theorem yw_meas30 {post : SY → Prop} {n : Nat} {O : pm_O} (G : tr_G n O) (hO : ∀ m, m < n → ypa m = ys_i (O m).2.2.2)
    (h : ∀ (sp : Nat → Int32), (∀ i, i < n → sp i = nI (tr_sp (pm_ar O) i)) → post (yco, ypl, nI n, yus, yof, yre, ysa, ykd, ybh, yln, yhl, yvl, yks, yog, yvs, ypa, sp, ytd, ywi, yun, ysd, you, yfr, ylf, yva, ysv, ywo, ysi, ywk, yph)) :
    ∀ (m q : Nat) (ysp : Nat → Int32), q < m → 1 ≤ q → q ≤ n → (∀ i, i < n → ysp i = nI (tr_V O q i)) → wY_measure_30 post yco ypl (nI n) yus yof yre ysa m (ys_i q) ykd ybh yln yhl yvl yks yog yvs ypa ysp ytd ywi yun ysd you yfr ylf yva ysv ywo ysi ywk yph := by
  have h3 := G.1
  intro m
  induction m with
  | zero => intro q _ hq; omega
  | succ m ih =>
    intro q ysp hq h1 hqn L
    obtain ⟨k, rfl⟩ : ∃ k, q = k + 1 := ⟨q - 1, by omega⟩
    rw [ys_iS]
    refine pk_le k 0 (fun z => ?_) (fun z => ?_)
    · have e : k = 0 := by omega
      subst e
      refine h _ (fun i hi => ?_)
      rw [L i hi]
      by_cases e : i = 0
      · subst e
        rw [tr_Vk G hi]
      · unfold tr_V
        rw [if_neg (by omega)]
    · have hk : k < n := by omega
      obtain ⟨p1, p2⟩ := tr_par0 G hk z
      have i1 : vp_in (nI k) 2001 := pk_in k 2001 (by omega)
      have i2 : vp_in (nI ((O k).2.2.2 - 1)) 2001 := pk_in _ 2001 (by omega) rfl
      have e1 := L k hk
      rw [tr_Vk G hk] at e1
      have e2 := L ((O k).2.2.2 - 1) (by omega)
      have e3 := tr_Vs G (k := k) (i := (O k).2.2.2 - 1) hk
      rw [if_pos (by omega)] at e3
      have e4 := tr_VB2 G (q := k) (i := (O k).2.2.2 - 1) (by omega) (by omega)
      rw [nI_clamp (show k < 2 ^ 31 by omega), hO k hk, ys_iP p1, nI_clamp (show (O k).2.2.2 - 1 < 2 ^ 31 by omega), e1, e2, nI_add, nu_16 (by omega), nu_v16 (by omega)]
      refine ⟨i1, ⟨i2, ⟨i1, ⟨i2, nm_e (nm_r (e' := ys_i k) ?_ ?_)⟩⟩⟩⟩
      · rw [ys_iP z]
        obtain ⟨k', rfl⟩ : ∃ k', k = k' + 1 := ⟨k - 1, by omega⟩
        exact pk_m1 k'
      · refine ih k _ (by omega) (by omega) (by omega) ?_
        intro i hi
        by_cases e : i = (O k).2.2.2 - 1
        · subst e
          rw [pk_us, ← e3]
        · rw [pk_un e, L i hi, tr_Vs G hk, if_neg (by omega)]
theorem yw_meas2 {post : SY → Prop} {n : Nat} (h3 : n ≤ 2000) (h : ∀ (sp : Nat → Int32), (∀ i, i < n → sp i = 1) → ∃ n30, wY_measure_30 post yco ypl (nI n) yus yof yre ysa n30 (nI n - 1) ykd ybh yln yhl yvl yks yog yvs ypa sp ytd ywi yun ysd you yfr ylf yva ysv ywo ysi ywk yph) :
    ∀ (m k : Nat) (ysp : Nat → Int32), n < m + k → k ≤ n → (∀ i, i < k → ysp i = 1) → wY_measure_2 post yco ypl (nI n) yus yof yre ysa m (nI k) ykd ybh yln yhl yvl yks yog yvs ypa ysp ytd ywi yun ysd you yfr ylf yva ysv ywo ysi ywk yph := by
  intro m
  induction m with
  | zero => intro k _ hq; omega
  | succ m ih =>
    intro k ysp h1 h2 L
    refine pk_le n k (fun z => nm_e (h _ (fun i hi => L i (by omega)))) (fun z => ?_)
    rw [nI_clamp (show k < 2 ^ 31 by omega)]
    refine ⟨pk_in k 2001 (by omega), nm_e (nm_r (nI_1 k) (ih (k+1) _ (by omega) (by omega) ?_))⟩
    intro i hi
    by_cases e : i = k
    · subst e
      rw [pk_us]
      exact nu_v16 (n := 1) (by omega)
    · rw [pk_un e]
      exact L i (by omega)
theorem yw_measure {post : SY → Prop} {n : Nat} {O : pm_O} (G : 0 < n → tr_G n O) (h3 : n ≤ 2000) (hO : ∀ m, m < n → ypa m = ys_i (O m).2.2.2)
    (h : ∀ (sp : Nat → Int32), (∀ i, i < n → sp i = nI (tr_sp (pm_ar O) i)) → post (yco, ypl, nI n, yus, yof, yre, ysa, ykd, ybh, yln, yhl, yvl, yks, yog, yvs, ypa, sp, ytd, ywi, yun, ysd, you, yfr, ylf, yva, ysv, ywo, ysi, ywk, yph)) : wpY_measure post (yco, ypl, nI n, yus, yof, yre, ysa, ykd, ybh, yln, yhl, yvl, yks, yog, yvs, ypa, ysp, ytd, ywi, yun, ysd, you, yfr, ylf, yva, ysv, ywo, ysi, ywk, yph) := by
  unfold wpY_measure
  refine ⟨n+1, yw_meas2 h3 (fun sp L => ?_) (n+1) 0 _ (by omega) (by omega) (fun i hi => by omega)⟩
  rcases Nat.eq_zero_or_pos n with e | e
  · subst e
    exact ⟨1, br_t (by decide) (h _ (fun i hi => by omega))⟩
  · refine ⟨n+1, ?_⟩
    have e1 : nI n - 1 = ys_i n := by
      rw [ys_iP e]
      exact pk_sub (b := 1) e
    rw [e1]
    refine yw_meas30 (G e) hO h (n+1) n sp (by omega) (by omega) (Nat.le_refl _) ?_
    intro i hi
    rw [L i hi, tr_Vn (G e) hi]
    rfl
def yc_C (R : Option (Nat × Nat × pm_O)) (sz us : Int32) (ks og vs pa sp : Nat → Int32) : Prop :=
  (R = none → (2000 < sz ∨ 2000 < us)) ∧ (∀ nf n O, R = some (nf, n, O) → sz = nI n ∧ us = nI nf ∧ ys_O n O ks vs og pa ∧ ∀ i, i < n → sp i = nI (tr_sp (pm_ar O) i))
theorem pm_exB {K : Nat → Nat} {V : Nat → Int32} {Hn Len : Nat → Nat} {nc s nf n : Nat} {O : pm_O} (w : tx_WF K V Hn Len nc) (hs : s < 4) (e : pm_ex K V Hn Len s = some (nf, n, O)) : nf ≤ 2000 ∧ n ≤ 2000 ∧ (Len (6+s) = 0 → n = 0 ∧ nf = 0) ∧ (Len (6+s) ≠ 0 → tr_G n O) ∧ (0 < n → tr_G n O) := by
  by_cases hl : Len (6+s) = 0
  · rw [pm_ex0 hl] at e
    cases e
    exact ⟨by omega, by omega, fun _ => ⟨rfl, rfl⟩, fun z => absurd hl z, fun z => by omega⟩
  · obtain ⟨h1, h2⟩ := pm_exG w hs hl e
    exact ⟨h1, h2.1, fun z => absurd z hl, fun _ => h2, fun _ => h2⟩
theorem yw_expanded {post : Int32 → SY → Prop} {K : Nat → Nat} {V : Nat → Int32} {Hn Len : Nat → Nat} {nc s : Nat} (w : tx_WF K V Hn Len nc) (T : ys_T K V Hn Len nc ykd ybh yvl) (hH : ∀ c, c < 6 → yhl c = nI (Hn c))
    (hS : ∀ c, c < 4 → yln (6+c) = nI (Len (6+c))) (hs : s < 4) (hC : yof = nI s → yc_C (pm_ex K V Hn Len s) ysz yus yks yog yvs ypa ysp)
    (h0 : pm_ex K V Hn Len s = none → ∀ (sz us : Int32) (ks og vs pa td wi un sd ou fr : Nat → Int32), (2000 < sz ∨ 2000 < us) → post 0 (yco, ypl, sz, us, nI s, yre, ysa, ykd, ybh, yln, yhl, yvl, ks, og, vs, pa, ysp, td, wi, un, sd, ou, fr, ylf, yva, ysv, ywo, ysi, ywk, yph))
    (h1 : ∀ nf n O, pm_ex K V Hn Len s = some (nf, n, O) → ∀ (ks og vs pa sp td wi un sd ou fr : Nat → Int32), ys_O n O ks vs og pa → (∀ i, i < n → sp i = nI (tr_sp (pm_ar O) i)) → post 1 (yco, ypl, nI n, nI nf, nI s, yre, ysa, ykd, ybh, yln, yhl, yvl, ks, og, vs, pa, sp, td, wi, un, sd, ou, fr, ylf, yva, ysv, ywo, ysi, ywk, yph)) :
    wpY_expanded post (yco, ypl, ysz, yus, yof, yre, ysa, ykd, ybh, yln, yhl, yvl, yks, yog, yvs, ypa, ysp, ytd, ywi, yun, ysd, you, yfr, ylf, yva, ysv, ywo, ysi, ywk, yph) (nI s) := by
  have hr : tx_row nc (6+s) := Or.inr ⟨by omega, by omega⟩
  have hl24 := (w.2 (6+s) hr).1
  obtain ⟨I, mu⟩ := pm_exI w hs
  have H534 : ∀ (sz us : Int32) (ks og vs pa td wi un sd ou fr : Nat → Int32), (pm_ex K V Hn Len s = none → (2000 < sz ∨ 2000 < us)) → (∀ nf' n' O', pm_ex K V Hn Len s = some (nf', n', O') → sz = nI n' ∧ us = nI nf' ∧ ys_O n' O' ks vs og pa) →
      wY_expanded_534 post yco ypl sz us (nI s) yre ysa ykd ybh yln yhl yvl ks og vs pa ysp td wi un sd ou fr ylf yva ysv ywo ysi ywk yph := by
    intro sz us ks og vs pa td wi un sd ou fr a1 a2
    unfold wY_expanded_534 wY_expanded_558 wY_expanded_559
    cases e : pm_ex K V Hn Len s with
    | none =>
      have hz := a1 e
      have A := h0 e sz us ks og vs pa td wi un sd ou fr hz
      exact br_c (fun _ => br_t rfl ⟨rfl, A⟩) (fun n1 => br_t (hz.resolve_left n1) (br_t rfl ⟨rfl, A⟩))
    | some R =>
      obtain ⟨nf, n, O⟩ := R
      obtain ⟨e1, e2, e3⟩ := a2 nf n O e
      subst e1 e2
      obtain ⟨b1, b2, b3, b4, b5⟩ := pm_exB w hs e
      refine pk_lt 2000 n (fun z => by omega) (fun _ => pk_lt 2000 nf (fun z => by omega) (fun _ => br_f (by decide) ?_))
      refine yw_measure (O := O) b5 b2 (fun m hm => (e3 m hm).2.2.2) (fun sp L => ⟨rfl, ?_⟩)
      exact h1 nf n O e _ _ _ _ sp _ _ _ _ _ _ e3 L
  unfold wpY_expanded
  refine br_c (fun eo => ?_) (fun _ => ?_)
  · subst eo
    obtain ⟨c1, c2⟩ := hC rfl
    cases e : pm_ex K V Hn Len s with
    | none =>
      have hz := c1 e
      have A := h0 e ysz yus yks yog yvs ypa ytd ywi yun ysd you yfr hz
      exact br_c (fun _ => A) (fun n1 => br_t (hz.resolve_left n1) A)
    | some R =>
      obtain ⟨nf, n, O⟩ := R
      obtain ⟨e1, e2, e3, e4⟩ := c2 nf n O e
      subst e1 e2
      obtain ⟨b1, b2, b3, b4, b5⟩ := pm_exB w hs e
      refine pk_lt 2000 n (fun z => by omega) (fun _ => pk_lt 2000 nf (fun z => by omega) (fun _ => ?_))
      exact h1 nf n O e _ _ _ _ _ _ _ _ _ _ _ e3 e4
  · rw [show (6 : Int32) + nI s = nI (6+s) from nI_add 6 s, nI_clamp (show 6 + s < 2 ^ 31 by omega), hS s hs]
    refine ⟨pk_in (6+s) 11 (by omega), pk_eq (Len (6+s)) 0 (fun hl => ⟨70000, ?_⟩) (fun hl => ?_)⟩
    · have eS : pm_s0 Len s = [] := if_pos hl
      have I' := I
      rw [eS] at I' mu
      refine yw_loop w T hH (pm_ex K V Hn Len s) H534 70000 70000 0 [] 0 pm_F0 0 pm_O0 _ _ _ _ _ _ _ _ _ _ I' (fun x hx => by cases hx) (by omega) rfl (fun x hx => by omega) (fun x hx => by omega) ?_ (by omega) (by omega)
      unfold pm_ex
      rw [eS]
    · have eS : pm_s0 Len s = [(24 * (6+s), 0, 0)] := if_neg hl
      have I' := I
      rw [eS] at I' mu
      rw [show (24 : Int32) * nI (6+s) = nI (24 * (6+s)) from pk_mul 24 (6+s)]
      refine yw_later (t := 0) (f := 0) (a := 0) (by omega) (by omega) (by omega) (by omega) ⟨70000, ?_⟩
      refine yw_loop w T hH (pm_ex K V Hn Len s) H534 70000 70000 1 [(24 * (6+s), 0, 0)] 0 pm_F0 0 pm_O0 _ _ _ _ _ _ _ _ _ _ I' (fun x hx => ?_) (by omega) (ys_put (j := 0) rfl rfl rfl rfl) (fun x hx => by omega) (fun x hx => by omega) ?_ (by omega) (by omega)
      · rw [List.mem_singleton] at hx
        rw [hx]
        exact Nat.le_refl _
      · unfold pm_ex
        rw [eS]
end
section
variable {xds xcc xmi xre xpc xpl xtl xsc xou : Int32} {xtk xtv xss xts xho xfu xfa xfo xpn xpe xpf xqk xqv xqo xqp xqs xqh xwo xsi : Nat → Int32} {yco ypl ysz yus yof yre ysa : Int32} {ykd ybh yln yhl yvl yks yog yvs ypa ysp ytd ywi yun ysd you yfr ylf yva ysv ywo ysi ywk yph : Nat → Int32}
def rl_B (K : Nat → Nat) (V : Nat → Int32) (Hn Len : Nat → Nat) (nc : Nat) (DK : Nat → Nat) (DV : Nat → Int32) (dn : Nat) (xds xcc : Int32) (xtk xtv xss xts xho : Nat → Int32) (yco : Int32) (ykd ybh yln yhl yvl : Nat → Int32) : Prop :=
  tx_WF K V Hn Len nc ∧ dr_D DK DV dn ∧ xds = nI dn ∧ xcc = nI nc ∧ xs_T K V Len nc xtk xtv ∧ (∀ i, i < dn → xtk (96 + i) = nI (DK i) ∧ xtv (96 + i) = DV i) ∧
  (∀ c, c < 4 → xss c = nI (Len (6+c))) ∧ (∀ c, c < 6 → xts c = nI (Len c)) ∧ (∀ c, c < 6 → xho c = nI (Hn c)) ∧
  yco = nI nc ∧ ys_T K V Hn Len nc ykd ybh yvl ∧ (∀ i, i < dn → ykd (240 + i) = nI (DK i) ∧ (tx_hv (DK i) → yvl (240 + i) = DV i)) ∧ yln 10 = nI dn ∧ (∀ c, c < 10 → yln c = nI (Len c)) ∧ (∀ c, c < 6 → yhl c = nI (Hn c))
def rl_C (K : Nat → Nat) (V : Nat → Int32) (Hn Len : Nat → Nat) (ysz yus yof : Int32) (yks yog yvs ypa ysp : Nat → Int32) : Prop :=
  ∀ s, s < 4 → yof = nI s → yc_C (pm_ex K V Hn Len s) ysz yus yks yog yvs ypa ysp
def rl_R (K : Nat → Nat) (V : Nat → Int32) (Hn Len : Nat → Nat) (nc : Nat) (DK : Nat → Nat) (DV : Nat → Int32) (dn : Nat) (u : SX) (v : SY) : Prop :=
  match u, v with
  | (xds, xcc, xmi, xre, xpc, xpl, xtl, xsc, xou, xtk, xtv, xss, xts, xho, xfu, xfa, xfo, xpn, xpe, xpf, xqk, xqv, xqo, xqp, xqs, xqh, xwo, xsi), (yco, ypl, ysz, yus, yof, yre, ysa, ykd, ybh, yln, yhl, yvl, yks, yog, yvs, ypa, ysp, ytd, ywi, yun, ysd, you, yfr, ylf, yva, ysv, ywo, ysi, ywk, yph) => rl_B K V Hn Len nc DK DV dn xds xcc xtk xtv xss xts xho yco ykd ybh yln yhl yvl ∧ rl_C K V Hn Len ysz yus yof yks yog yvs ypa ysp ∧ xmi = ypl ∧ xsc = ysa ∧ xou = yre ∧ xsi = ysi
def i_Rel (k : Nat) (u : SX) (v : SY) : Prop := ∃ K V Hn Len nc DK DV dn, rl_R K V Hn Len nc DK DV dn u v
theorem i_up {k : Nat} {u : SX} {v : SY} (h : i_Rel k u v) : i_Rel (k + 5) u v := h
theorem rl_mk {k : Nat} {K : Nat → Nat} {V : Nat → Int32} {Hn Len : Nat → Nat} {nc : Nat} {DK : Nat → Nat} {DV : Nat → Int32} {dn : Nat}
    (B : rl_B K V Hn Len nc DK DV dn xds xcc xtk xtv xss xts xho yco ykd ybh yln yhl yvl) (C : rl_C K V Hn Len ysz yus yof yks yog yvs ypa ysp) (e1 : xmi = ypl) (e2 : xsc = ysa) (e3 : xou = yre) (e4 : xsi = ysi) : i_Rel k (xds, xcc, xmi, xre, xpc, xpl, xtl, xsc, xou, xtk, xtv, xss, xts, xho, xfu, xfa, xfo, xpn, xpe, xpf, xqk, xqv, xqo, xqp, xqs, xqh, xwo, xsi) (yco, ypl, ysz, yus, yof, yre, ysa, ykd, ybh, yln, yhl, yvl, yks, yog, yvs, ypa, ysp, ytd, ywi, yun, ysd, you, yfr, ylf, yva, ysv, ywo, ysi, ywk, yph) :=
  ⟨K, V, Hn, Len, nc, DK, DV, dn, B, C, e1, e2, e3, e4⟩
theorem rl_C1 {K : Nat → Nat} {V : Nat → Int32} {Hn Len : Nat → Nat} {s : Nat} (hs : s < 4) (h : yc_C (pm_ex K V Hn Len s) ysz yus yks yog yvs ypa ysp) : rl_C K V Hn Len ysz yus (nI s) yks yog yvs ypa ysp := by
  intro s' hs' e
  have : s = s' := (nI_eq (by omega) (by omega)).mp e
  subst this
  exact h
theorem rl_Cm {K : Nat → Nat} {V : Nat → Int32} {Hn Len : Nat → Nat} : rl_C K V Hn Len ysz yus (-1) yks yog yvs ypa ysp := by
  intro s' hs' e
  have h1 : (nI s').toInt = s' := nI_toInt (by omega)
  rw [← e] at h1
  have h2 : ((-1 : Int32)).toInt = -1 := by decide
  omega
theorem i_vc0 : wpX_init (fun u => wpY_init (fun v => i_Rel 0 u v)) := by
  refine rl_mk (k := 0) (K := fun _ => 0) (V := fun _ => 0) (Hn := fun _ => 0) (Len := fun _ => 0) (nc := 0) (DK := fun _ => 0) (DV := fun _ => 0) (dn := 0) ?_ rl_Cm rfl rfl rfl rfl
  refine ⟨⟨by omega, ?_⟩, ⟨by omega, fun i hi => by omega⟩, rfl, rfl, ?_, fun i hi => by omega, fun c _ => rfl, fun c _ => rfl, fun c _ => rfl, rfl, ?_, fun i hi => by omega, rfl, fun c _ => rfl, fun c _ => rfl⟩
  · intro r hr
    have h6 : 6 ≤ r := by
      unfold tx_row at hr
      omega
    exact ⟨Nat.zero_le _, fun z => by omega, fun z => absurd z (Nat.lt_irrefl 0), fun i h1 h2 => absurd h2 (Nat.not_lt.mpr h1)⟩
  · intro r hr j hj
    exact absurd hj (Nat.not_lt_zero j)
  · intro r hr i h1 h2
    exact absurd h2 (Nat.not_lt.mpr h1)
/-! the two expansions, over the relation's parts -/
theorem xq {post : Int32 → SX → Prop} {K : Nat → Nat} {V : Nat → Int32} {Hn Len : Nat → Nat} {nc : Nat} {DK : Nat → Nat} {DV : Nat → Int32} {dn s : Nat}
    (B : rl_B K V Hn Len nc DK DV dn xds xcc xtk xtv xss xts xho yco ykd ybh yln yhl yvl) (hs : s < 4)
    (hN : pm_ex K V Hn Len s = none → ∀ (re pc pl tl : Int32) (fu fa fo pn pe pf qk qv qo : Nat → Int32), post (-2) (xds, xcc, xmi, re, pc, pl, tl, xsc, xou, xtk, xtv, xss, xts, xho, fu, fa, fo, pn, pe, pf, qk, qv, qo, xqp, xqs, xqh, xwo, xsi))
    (hE : ∀ nf n O, pm_ex K V Hn Len s = some (nf, n, O) → ∀ (pc : Int32) (fu fa fo pn pe pf qk qv qo qp qs qh : Nat → Int32), xs_O n O qk qv qo → (0 < n → xl_R n O qp qs qh) → post (nI n) (xds, xcc, xmi, nI nf, pc, nI n, 0, xsc, xou, xtk, xtv, xss, xts, xho, fu, fa, fo, pn, pe, pf, qk, qv, qo, qp, qs, qh, xwo, xsi)) :
    wpX_expand post (xds, xcc, xmi, xre, xpc, xpl, xtl, xsc, xou, xtk, xtv, xss, xts, xho, xfu, xfa, xfo, xpn, xpe, xpf, xqk, xqv, xqo, xqp, xqs, xqh, xwo, xsi) (nI s) := by
  obtain ⟨w, D, e1, e2, T, d1, s1, t1, h1, rest⟩ := B
  exact xw_expand w T h1 t1 s1 hs hN hE
theorem yq {post : Int32 → SY → Prop} {K : Nat → Nat} {V : Nat → Int32} {Hn Len : Nat → Nat} {nc : Nat} {DK : Nat → Nat} {DV : Nat → Int32} {dn s : Nat}
    (B : rl_B K V Hn Len nc DK DV dn xds xcc xtk xtv xss xts xho yco ykd ybh yln yhl yvl) (C : rl_C K V Hn Len ysz yus yof yks yog yvs ypa ysp) (hs : s < 4)
    (h0 : pm_ex K V Hn Len s = none → ∀ (sz us : Int32) (ks og vs pa sp td wi un sd ou fr : Nat → Int32), rl_C K V Hn Len sz us (nI s) ks og vs pa sp → post 0 (yco, ypl, sz, us, nI s, yre, ysa, ykd, ybh, yln, yhl, yvl, ks, og, vs, pa, sp, td, wi, un, sd, ou, fr, ylf, yva, ysv, ywo, ysi, ywk, yph))
    (h1 : ∀ nf n O, pm_ex K V Hn Len s = some (nf, n, O) → ∀ (ks og vs pa sp td wi un sd ou fr : Nat → Int32), rl_C K V Hn Len (nI n) (nI nf) (nI s) ks og vs pa sp → ys_O n O ks vs og pa → (∀ i, i < n → sp i = nI (tr_sp (pm_ar O) i)) → post 1 (yco, ypl, nI n, nI nf, nI s, yre, ysa, ykd, ybh, yln, yhl, yvl, ks, og, vs, pa, sp, td, wi, un, sd, ou, fr, ylf, yva, ysv, ywo, ysi, ywk, yph)) :
    wpY_expanded post (yco, ypl, ysz, yus, yof, yre, ysa, ykd, ybh, yln, yhl, yvl, yks, yog, yvs, ypa, ysp, ytd, ywi, yun, ysd, you, yfr, ylf, yva, ysv, ywo, ysi, ywk, yph) (nI s) := by
  obtain ⟨w, D, e1, e2, T, d1, s1, t1, hh1, e3, T2, d2, l10, l, h2⟩ := B
  refine yw_expanded w T2 h2 (fun c hc => l (6+c) (by omega)) hs (fun e => C s hs e) ?_ ?_
  · intro e sz us ks og vs pa td wi un sd ou fr hz
    refine h0 e sz us ks og vs pa ysp td wi un sd ou fr (rl_C1 hs ⟨fun _ => hz, fun nf n O e' => ?_⟩)
    rw [e] at e'
    cases e'
  · intro nf n O e ks og vs pa sp td wi un sd ou fr hO hsp
    refine h1 nf n O e ks og vs pa sp td wi un sd ou fr (rl_C1 hs ⟨fun e' => ?_, fun nf' n' O' e' => ?_⟩) hO hsp
    · rw [e] at e'
      cases e'
    · rw [e] at e'
      cases e'
      exact ⟨rfl, rfl, hO, hsp⟩
theorem yq_asked {post : Int32 → SY → Prop} {K : Nat → Nat} {V : Nat → Int32} {Hn Len : Nat → Nat} {nc : Nat} {DK : Nat → Nat} {DV : Nat → Int32} {dn s : Nat} {x : Int32}
    (B : rl_B K V Hn Len nc DK DV dn xds xcc xtk xtv xss xts xho yco ykd ybh yln yhl yvl) (C : rl_C K V Hn Len ysz yus yof yks yog yvs ypa ysp) (hs : s < 4)
    (h0 : pm_ex K V Hn Len s = none → ∀ (sz us : Int32) (ks og vs pa sp td wi un sd ou fr : Nat → Int32), rl_C K V Hn Len sz us (nI s) ks og vs pa sp → post (-2) (yco, ypl, sz, us, nI s, yre, ysa, ykd, ybh, yln, yhl, yvl, ks, og, vs, pa, sp, td, wi, un, sd, ou, fr, ylf, yva, ysv, ywo, ysi, ywk, yph))
    (h1 : ∀ nf n O, pm_ex K V Hn Len s = some (nf, n, O) → ∀ (ks og vs pa sp td wi un sd ou fr : Nat → Int32), rl_C K V Hn Len (nI n) (nI nf) (nI s) ks og vs pa sp → post (if n = 0 then 0 else x) (yco, ypl, nI n, nI nf, nI s, yre, ysa, ykd, ybh, yln, yhl, yvl, ks, og, vs, pa, sp, td, wi, un, sd, ou, fr, ylf, yva, ysv, ywo, ysi, ywk, yph)) :
    wpY_asked post (yco, ypl, ysz, yus, yof, yre, ysa, ykd, ybh, yln, yhl, yvl, yks, yog, yvs, ypa, ysp, ytd, ywi, yun, ysd, you, yfr, ylf, yva, ysv, ywo, ysi, ywk, yph) (nI s) x := by
  have B' := B
  obtain ⟨w, D, e1, e2, T, d1, s1, t1, hh1, e3, T2, d2, l10, l, h2⟩ := B
  have hr : tx_row nc (6+s) := Or.inr ⟨by omega, by omega⟩
  have hl24 := (w.2 (6+s) hr).1
  unfold wpY_asked
  refine yq B' C hs ?_ ?_
  · intro e sz us ks og vs pa sp td wi un sd ou fr C'
    dsimp only
    rw [show (6 : Int32) + nI s = nI (6+s) from nI_add 6 s, nI_clamp (show 6 + s < 2 ^ 31 by omega), l (6+s) (by omega)]
    refine ⟨pk_in (6+s) 11 (by omega), pk_eq (Len (6+s)) 0 (fun hl => ?_) (fun hl => br_t rfl (h0 e _ _ _ _ _ _ _ _ _ _ _ _ _ C'))⟩
    rw [pm_ex0 hl] at e
    cases e
  · intro nf n O e ks og vs pa sp td wi un sd ou fr C' hO hsp
    obtain ⟨b1, b2, b3, b4, b5⟩ := pm_exB w hs e
    have A := h1 nf n O e ks og vs pa sp td wi un sd ou fr C'
    dsimp only
    rw [show (6 : Int32) + nI s = nI (6+s) from nI_add 6 s, nI_clamp (show 6 + s < 2 ^ 31 by omega), l (6+s) (by omega)]
    refine ⟨pk_in (6+s) 11 (by omega), pk_eq (Len (6+s)) 0 (fun hl => ?_) (fun hl => br_f (by decide) ?_)⟩
    · rw [if_pos (b3 hl).1] at A
      exact A
    · have := tr_n0 (b4 hl)
      rw [if_neg (by omega)] at A
      exact A
end
section
variable {xds xcc xmi xre xpc xpl xtl xsc xou : Int32} {xtk xtv xss xts xho xfu xfa xfo xpn xpe xpf xqk xqv xqo xqp xqs xqh xwo xsi : Nat → Int32} {yco ypl ysz yus yof yre ysa : Int32} {ykd ybh yln yhl yvl yks yog yvs ypa ysp ytd ywi yun ysd you yfr ylf yva ysv ywo ysi ywk yph : Nat → Int32}
theorem yo_in {post : Int32 → Prop} {s N : Nat} (hs : s < N) (hN : N < 2 ^ 31) (h : post 0) : wpY_out post (nI s) (nI N) :=
  yw_out N hN (fun _ _ _ => h) (fun z => absurd z (by rw [not_or]; exact ⟨nI_pos (by omega), nI_ge hs hN⟩))
theorem yo_ex {post : Int32 → Prop} {v : Int32} {N : Nat} (hv : v < 0 ∨ nI N ≤ v) (hN : N < 2 ^ 31) (h : post 1) : wpY_out post v (nI N) :=
  yw_out N hN (fun j hj e => by
    rw [e] at hv
    exact absurd hv (by rw [not_or]; exact ⟨nI_pos (by omega), nI_ge hj hN⟩)) (fun _ => h)
theorem yq_size {post : Int32 → SY → Prop} {K : Nat → Nat} {V : Nat → Int32} {Hn Len : Nat → Nat} {nc : Nat} {DK : Nat → Nat} {DV : Nat → Int32} {dn s : Nat}
    (B : rl_B K V Hn Len nc DK DV dn xds xcc xtk xtv xss xts xho yco ykd ybh yln yhl yvl) (C : rl_C K V Hn Len ysz yus yof yks yog yvs ypa ysp) (hs : s < 4)
    (h0 : pm_ex K V Hn Len s = none → ∀ (sz us : Int32) (ks og vs pa sp td wi un sd ou fr : Nat → Int32), rl_C K V Hn Len sz us (nI s) ks og vs pa sp → post (-2) (yco, ypl, sz, us, nI s, yre, ysa, ykd, ybh, yln, yhl, yvl, ks, og, vs, pa, sp, td, wi, un, sd, ou, fr, ylf, yva, ysv, ywo, ysi, ywk, yph))
    (h1 : ∀ nf n O, pm_ex K V Hn Len s = some (nf, n, O) → ∀ (ks og vs pa sp td wi un sd ou fr : Nat → Int32), rl_C K V Hn Len (nI n) (nI nf) (nI s) ks og vs pa sp → post (nI n) (yco, ypl, nI n, nI nf, nI s, yre, ysa, ykd, ybh, yln, yhl, yvl, ks, og, vs, pa, sp, td, wi, un, sd, ou, fr, ylf, yva, ysv, ywo, ysi, ywk, yph)) :
    wpY_size post (yco, ypl, ysz, yus, yof, yre, ysa, ykd, ybh, yln, yhl, yvl, yks, yog, yvs, ypa, ysp, ytd, ywi, yun, ysd, you, yfr, ylf, yva, ysv, ywo, ysi, ywk, yph) (nI s) := by
  unfold wpY_size
  refine yo_in (N := 4) hs (by omega) (br_t rfl ?_)
  refine yq B C hs ?_ ?_
  · intro e sz us ks og vs pa sp td wi un sd ou fr C'
    exact yq_asked B C' hs (fun _ sz us ks og vs pa sp td wi un sd ou fr C'' => h0 e _ _ _ _ _ _ _ _ _ _ _ _ _ C'') (fun nf n O e' => by rw [e] at e'; cases e')
  · intro nf n O e ks og vs pa sp td wi un sd ou fr C' yO hsp
    refine yq_asked B C' hs (fun e' => by rw [e] at e'; cases e') ?_
    intro nf' n' O' e' ks og vs pa sp td wi un sd ou fr C''
    rw [e] at e'
    cases e'
    have A := h1 nf n O e ks og vs pa sp td wi un sd ou fr C''
    by_cases z : n = 0
    · rw [if_pos z]
      subst z
      exact A
    · rw [if_neg z]
      exact A
theorem yq_uses {post : Int32 → SY → Prop} {K : Nat → Nat} {V : Nat → Int32} {Hn Len : Nat → Nat} {nc : Nat} {DK : Nat → Nat} {DV : Nat → Int32} {dn s : Nat}
    (B : rl_B K V Hn Len nc DK DV dn xds xcc xtk xtv xss xts xho yco ykd ybh yln yhl yvl) (C : rl_C K V Hn Len ysz yus yof yks yog yvs ypa ysp) (hs : s < 4)
    (h0 : pm_ex K V Hn Len s = none → ∀ (sz us : Int32) (ks og vs pa sp td wi un sd ou fr : Nat → Int32), rl_C K V Hn Len sz us (nI s) ks og vs pa sp → post (-2) (yco, ypl, sz, us, nI s, yre, ysa, ykd, ybh, yln, yhl, yvl, ks, og, vs, pa, sp, td, wi, un, sd, ou, fr, ylf, yva, ysv, ywo, ysi, ywk, yph))
    (h1 : ∀ nf n O, pm_ex K V Hn Len s = some (nf, n, O) → ∀ (ks og vs pa sp td wi un sd ou fr : Nat → Int32), rl_C K V Hn Len (nI n) (nI nf) (nI s) ks og vs pa sp → post (if n = 0 then 0 else nI nf) (yco, ypl, nI n, nI nf, nI s, yre, ysa, ykd, ybh, yln, yhl, yvl, ks, og, vs, pa, sp, td, wi, un, sd, ou, fr, ylf, yva, ysv, ywo, ysi, ywk, yph)) :
    wpY_uses post (yco, ypl, ysz, yus, yof, yre, ysa, ykd, ybh, yln, yhl, yvl, yks, yog, yvs, ypa, ysp, ytd, ywi, yun, ysd, you, yfr, ylf, yva, ysv, ywo, ysi, ywk, yph) (nI s) := by
  unfold wpY_uses
  refine yo_in (N := 4) hs (by omega) (br_t rfl ?_)
  refine yq B C hs ?_ ?_
  · intro e sz us ks og vs pa sp td wi un sd ou fr C'
    exact yq_asked B C' hs (fun _ sz us ks og vs pa sp td wi un sd ou fr C'' => h0 e _ _ _ _ _ _ _ _ _ _ _ _ _ C'') (fun nf n O e' => by rw [e] at e'; cases e')
  · intro nf n O e ks og vs pa sp td wi un sd ou fr C' yO hsp
    refine yq_asked B C' hs (fun e' => by rw [e] at e'; cases e') ?_
    intro nf' n' O' e' ks og vs pa sp td wi un sd ou fr C''
    rw [e] at e'
    cases e'
    exact h1 nf n O e ks og vs pa sp td wi un sd ou fr C''
theorem i_vc_size {k : Nat} {u : SX} {v : SY} (I : i_Rel k u v) (hk : k + 5 ≤ 2560) (v1 : Int32) : wpX_size (fun r u' => wpY_size (fun r' v' => r' = r ∧ i_Rel (k + 5) u' v') v v1) u v1 := by
  obtain ⟨xds, xcc, xmi, xre, xpc, xpl, xtl, xsc, xou, xtk, xtv, xss, xts, xho, xfu, xfa, xfo, xpn, xpe, xpf, xqk, xqv, xqo, xqp, xqs, xqh, xwo, xsi⟩ := u
  obtain ⟨yco, ypl, ysz, yus, yof, yre, ysa, ykd, ybh, yln, yhl, yvl, yks, yog, yvs, ypa, ysp, ytd, ywi, yun, ysd, you, yfr, ylf, yva, ysv, ywo, ysi, ywk, yph⟩ := v
  obtain ⟨K, V, Hn, Len, nc, DK, DV, dn, B, C, m1, m2, m3, m4⟩ := I
  have HX : (v1 < 0 ∨ nI 4 ≤ v1) → wpY_size (fun r' v' => r' = -3 ∧ i_Rel (k + 5) (xds, xcc, xmi, xre, xpc, xpl, xtl, xsc, xou, xtk, xtv, xss, xts, xho, xfu, xfa, xfo, xpn, xpe, xpf, xqk, xqv, xqo, xqp, xqs, xqh, xwo, xsi) v') (yco, ypl, ysz, yus, yof, yre, ysa, ykd, ybh, yln, yhl, yvl, yks, yog, yvs, ypa, ysp, ytd, ywi, yun, ysd, you, yfr, ylf, yva, ysv, ywo, ysi, ywk, yph) v1 := by
    intro h
    unfold wpY_size
    exact yo_ex (N := 4) h (by omega) (br_f (by decide) ⟨rfl, rl_mk B C m1 m2 m3 m4⟩)
  unfold wpX_size
  rcases pk_ix v1 (n := 4) (by omega) with h | h | ⟨s, hs, rfl⟩
  · exact xw_expandX (Or.inl h) (HX (Or.inl h))
  · exact xw_expandX (Or.inr h) (HX (Or.inr h))
  · refine xq B hs ?_ ?_
    · intro e re pc pl tl fu fa fo pn pe pf qk qv qo
      exact yq_size B C hs (fun _ sz us ks og vs pa sp td wi un sd ou fr C' => ⟨rfl, rl_mk B C' m1 m2 m3 m4⟩) (fun nf n O e' => by rw [e] at e'; cases e')
    · intro nf n O e pc fu fa fo pn pe pf qk qv qo qp qs qh hO hL
      refine yq_size B C hs (fun e' => by rw [e] at e'; cases e') ?_
      intro nf' n' O' e' ks og vs pa sp td wi un sd ou fr C'
      rw [e] at e'
      cases e'
      exact ⟨rfl, rl_mk B C' m1 m2 m3 m4⟩
theorem i_vc_uses {k : Nat} {u : SX} {v : SY} (I : i_Rel k u v) (hk : k + 5 ≤ 2560) (v1 : Int32) : wpX_uses (fun r u' => wpY_uses (fun r' v' => r' = r ∧ i_Rel (k + 5) u' v') v v1) u v1 := by
  obtain ⟨xds, xcc, xmi, xre, xpc, xpl, xtl, xsc, xou, xtk, xtv, xss, xts, xho, xfu, xfa, xfo, xpn, xpe, xpf, xqk, xqv, xqo, xqp, xqs, xqh, xwo, xsi⟩ := u
  obtain ⟨yco, ypl, ysz, yus, yof, yre, ysa, ykd, ybh, yln, yhl, yvl, yks, yog, yvs, ypa, ysp, ytd, ywi, yun, ysd, you, yfr, ylf, yva, ysv, ywo, ysi, ywk, yph⟩ := v
  obtain ⟨K, V, Hn, Len, nc, DK, DV, dn, B, C, m1, m2, m3, m4⟩ := I
  have HX : (v1 < 0 ∨ nI 4 ≤ v1) → wpY_uses (fun r' v' => r' = -3 ∧ i_Rel (k + 5) (xds, xcc, xmi, xre, xpc, xpl, xtl, xsc, xou, xtk, xtv, xss, xts, xho, xfu, xfa, xfo, xpn, xpe, xpf, xqk, xqv, xqo, xqp, xqs, xqh, xwo, xsi) v') (yco, ypl, ysz, yus, yof, yre, ysa, ykd, ybh, yln, yhl, yvl, yks, yog, yvs, ypa, ysp, ytd, ywi, yun, ysd, you, yfr, ylf, yva, ysv, ywo, ysi, ywk, yph) v1 := by
    intro h
    unfold wpY_uses
    exact yo_ex (N := 4) h (by omega) (br_f (by decide) ⟨rfl, rl_mk B C m1 m2 m3 m4⟩)
  unfold wpX_uses
  rcases pk_ix v1 (n := 4) (by omega) with h | h | ⟨s, hs, rfl⟩
  · exact xw_expandX (Or.inl h) (br_t (by decide) (HX (Or.inl h)))
  · exact xw_expandX (Or.inr h) (br_t (by decide) (HX (Or.inr h)))
  · refine xq B hs ?_ ?_
    · intro e re pc pl tl fu fa fo pn pe pf qk qv qo
      exact br_t (by decide) (yq_uses B C hs (fun _ sz us ks og vs pa sp td wi un sd ou fr C' => ⟨rfl, rl_mk B C' m1 m2 m3 m4⟩) (fun nf n O e' => by rw [e] at e'; cases e'))
    · intro nf n O e pc fu fa fo pn pe pf qk qv qo qp qs qh hO hL
      have b2 := (pm_exB B.1 hs e).2.1
      refine pk_le n 0 (fun z => ?_) (fun z => ?_)
      · refine yq_uses B C hs (fun e' => by rw [e] at e'; cases e') ?_
        intro nf' n' O' e' ks og vs pa sp td wi un sd ou fr C'
        rw [e] at e'
        cases e'
        have z0 : n = 0 := by omega
        refine ⟨?_, rl_mk B C' m1 m2 m3 m4⟩
        rw [if_pos z0, z0]
        rfl
      · refine yq_uses B C hs (fun e' => by rw [e] at e'; cases e') ?_
        intro nf' n' O' e' ks og vs pa sp td wi un sd ou fr C'
        rw [e] at e'
        cases e'
        refine ⟨?_, rl_mk B C' m1 m2 m3 m4⟩
        rw [if_neg (by omega)]
end
section
variable {xds xcc xmi xre xpc xpl xtl xsc xou : Int32} {xtk xtv xss xts xho xfu xfa xfo xpn xpe xpf xqk xqv xqo xqp xqs xqh xwo xsi : Nat → Int32} {yco ypl ysz yus yof yre ysa : Int32} {ykd ybh yln yhl yvl yks yog yvs ypa ysp ytd ywi yun ysd you yfr ylf yva ysv ywo ysi ywk yph : Nat → Int32}
def kn_c (O : pm_O) (v : Nat) : Nat → Nat
  | 0 => 0
  | m+1 => kn_c O v m + (if (O m).1 = v then 1 else 0)
theorem kn_cB (O : pm_O) (v : Nat) : ∀ m, kn_c O v m ≤ m
  | 0 => Nat.le_refl _
  | m+1 => by
    have := kn_cB O v m
    rw [kn_c]
    split <;> omega
theorem xw_kinds {post : Int32 → SX → Prop} {n kd : Nat} {O : pm_O} (hn : n ≤ 2000) (hkd : kd < 9) (h8 : ∀ m, m < n → (O m).1 ≤ 8) (hO : ∀ m, m < n → xqk m = nI (O m).1) (h : post (nI (kn_c O kd n)) (xds, xcc, xmi, xre, xpc, xpl, xtl, xsc, xou, xtk, xtv, xss, xts, xho, xfu, xfa, xfo, xpn, xpe, xpf, xqk, xqv, xqo, xqp, xqs, xqh, xwo, xsi)) :
    ∀ (m k : Nat), k ≤ n → n < m + k → wX_kinds_31 post (nI kd) (nI n) xds xcc xmi xre xpc xpl xtl xsc xou xtk xtv xss xts xho xfu xfa xfo xpn xpe xpf xqk xqv xqo xqp xqs xqh xwo xsi m (nI (kn_c O kd k)) (nI k) := by
  intro m
  induction m with
  | zero => intro k h1 h2; omega
  | succ m ih =>
    intro k h1 h2
    refine pk_le n k (fun z => ?_) (fun z => ⟨pk_in k 2000 (by omega), ?_⟩)
    · have e : k = n := by omega
      rw [e]; exact h
    · have h9 := h8 k (by omega)
      rw [nI_clamp (show k < 2 ^ 31 by omega), hO k (by omega)]
      have A := ih (k+1) (by omega) (by omega)
      rw [kn_c] at A
      refine pk_eq (O k).1 kd (fun e => ?_) (fun e => ?_)
      · rw [if_pos e] at A
        exact nm_r (nI_1 _) (nm_r (nI_1 k) A)
      · rw [if_neg e] at A
        exact nm_r (nI_1 k) A
theorem yw_kinds {post : Int32 → SY → Prop} {n kd : Nat} {x1 : Int32} {O : pm_O} (hn : n ≤ 2000) (hkd : kd < 9) (h8 : ∀ m, m < n → (O m).1 ≤ 8) (hO : ∀ m, m < n → yks m = nI (O m).1) (h : wY_kinds_65 post x1 (nI (kn_c O kd n)) yco ypl (nI n) yus yof yre ysa ykd ybh yln yhl yvl yks yog yvs ypa ysp ytd ywi yun ysd you yfr ylf yva ysv ywo ysi ywk yph) :
    ∀ (m k : Nat), k ≤ n → n < m + k → wY_kinds_32 post x1 (nI kd) 1 yco ypl (nI n) yus yof yre ysa ykd ybh yln yhl yvl yks yog yvs ypa ysp ytd ywi yun ysd you yfr ylf yva ysv ywo ysi ywk yph m (nI (kn_c O kd k)) (nI k) := by
  intro m
  induction m with
  | zero => intro k h1 h2; omega
  | succ m ih =>
    intro k h1 h2
    refine pk_le n k (fun z => ?_) (fun z => br_f (by decide) ⟨pk_in k 2001 (by omega), ?_⟩)
    · have e : k = n := by omega
      rw [e]; exact h
    · have h9 := h8 k (by omega)
      rw [nI_clamp (show k < 2 ^ 31 by omega), hO k (by omega)]
      have A := ih (k+1) (by omega) (by omega)
      rw [kn_c] at A
      refine pk_eq (O k).1 kd (fun e => ?_) (fun e => ?_)
      · rw [if_pos e] at A
        exact nm_r (nI_1 _) (nm_r (nI_1 k) A)
      · rw [if_neg e] at A
        exact nm_r (nI_1 k) A
theorem tr_k8 {n : Nat} {O : pm_O} (G : 0 < n → tr_G n O) : ∀ m, m < n → (O m).1 ≤ 8 := fun m hm => ((G (by omega)).2.2 m hm).1
theorem yq_kinds {post : Int32 → SY → Prop} {K : Nat → Nat} {V : Nat → Int32} {Hn Len : Nat → Nat} {nc : Nat} {DK : Nat → Nat} {DV : Nat → Int32} {dn s kd : Nat}
    (B : rl_B K V Hn Len nc DK DV dn xds xcc xtk xtv xss xts xho yco ykd ybh yln yhl yvl) (C : rl_C K V Hn Len ysz yus yof yks yog yvs ypa ysp) (hs : s < 4) (hkd : kd < 9)
    (h0 : pm_ex K V Hn Len s = none → ∀ (sz us : Int32) (ks og vs pa sp td wi un sd ou fr : Nat → Int32), rl_C K V Hn Len sz us (nI s) ks og vs pa sp → post (-2) (yco, ypl, sz, us, nI s, yre, ysa, ykd, ybh, yln, yhl, yvl, ks, og, vs, pa, sp, td, wi, un, sd, ou, fr, ylf, yva, ysv, ywo, ysi, ywk, yph))
    (h1 : ∀ nf n O, pm_ex K V Hn Len s = some (nf, n, O) → ∀ (ks og vs pa sp td wi un sd ou fr : Nat → Int32), rl_C K V Hn Len (nI n) (nI nf) (nI s) ks og vs pa sp → post (nI (kn_c O kd n)) (yco, ypl, nI n, nI nf, nI s, yre, ysa, ykd, ybh, yln, yhl, yvl, ks, og, vs, pa, sp, td, wi, un, sd, ou, fr, ylf, yva, ysv, ywo, ysi, ywk, yph)) :
    wpY_kinds post (yco, ypl, ysz, yus, yof, yre, ysa, ykd, ybh, yln, yhl, yvl, yks, yog, yvs, ypa, ysp, ytd, ywi, yun, ysd, you, yfr, ylf, yva, ysv, ywo, ysi, ywk, yph) (nI s) (nI kd) := by
  unfold wpY_kinds
  refine yo_in (N := 4) hs (by omega) (br_t rfl (yo_in (N := 9) hkd (by omega) (br_t rfl ?_)))
  refine yq B C hs ?_ ?_
  · intro e sz us ks og vs pa sp td wi un sd ou fr C'
    have A : wY_kinds_65 post (nI s) 0 yco ypl sz us (nI s) yre ysa ykd ybh yln yhl yvl ks og vs pa sp td wi un sd ou fr ylf yva ysv ywo ysi ywk yph := by
      unfold wY_kinds_65
      exact yq_asked B C' hs (fun _ sz us ks og vs pa sp td wi un sd ou fr C'' => h0 e _ _ _ _ _ _ _ _ _ _ _ _ _ C'') (fun nf n O e' => by rw [e] at e'; cases e')
    exact ⟨1, br_c (fun _ => A) (fun _ => br_t rfl A)⟩
  · intro nf n O e ks og vs pa sp td wi un sd ou fr C' yO hsp
    obtain ⟨b1, b2, b3, b4, b5⟩ := pm_exB B.1 hs e
    refine ⟨n+1, yw_kinds (O := O) b2 hkd (tr_k8 b5) (fun m hm => (yO m hm).1) ?_ (n+1) 0 (by omega) (by omega)⟩
    unfold wY_kinds_65
    refine yq_asked B C' hs (fun e' => by rw [e] at e'; cases e') ?_
    intro nf' n' O' e' ks og vs pa sp td wi un sd ou fr C''
    rw [e] at e'
    cases e'
    have A := h1 nf n O e ks og vs pa sp td wi un sd ou fr C''
    by_cases z : n = 0
    · rw [if_pos z]
      subst z
      exact A
    · rw [if_neg z]
      exact A
theorem i_vc_kinds {k : Nat} {u : SX} {v : SY} (I : i_Rel k u v) (hk : k + 5 ≤ 2560) (v1 : Int32) (v2 : Int32) : wpX_kinds (fun r u' => wpY_kinds (fun r' v' => r' = r ∧ i_Rel (k + 5) u' v') v v1 v2) u v1 v2 := by
  obtain ⟨xds, xcc, xmi, xre, xpc, xpl, xtl, xsc, xou, xtk, xtv, xss, xts, xho, xfu, xfa, xfo, xpn, xpe, xpf, xqk, xqv, xqo, xqp, xqs, xqh, xwo, xsi⟩ := u
  obtain ⟨yco, ypl, ysz, yus, yof, yre, ysa, ykd, ybh, yln, yhl, yvl, yks, yog, yvs, ypa, ysp, ytd, ywi, yun, ysd, you, yfr, ylf, yva, ysv, ywo, ysi, ywk, yph⟩ := v
  obtain ⟨K, V, Hn, Len, nc, DK, DV, dn, B, C, m1, m2, m3, m4⟩ := I
  have HK : (v2 < 0 ∨ nI 9 ≤ v2) → wpY_kinds (fun r' v' => r' = -3 ∧ i_Rel (k + 5) (xds, xcc, xmi, xre, xpc, xpl, xtl, xsc, xou, xtk, xtv, xss, xts, xho, xfu, xfa, xfo, xpn, xpe, xpf, xqk, xqv, xqo, xqp, xqs, xqh, xwo, xsi) v') (yco, ypl, ysz, yus, yof, yre, ysa, ykd, ybh, yln, yhl, yvl, yks, yog, yvs, ypa, ysp, ytd, ywi, yun, ysd, you, yfr, ylf, yva, ysv, ywo, ysi, ywk, yph) v1 v2 := by
    intro h
    unfold wpY_kinds
    exact yw_out 4 (by omega) (fun _ _ _ => br_t rfl (yo_ex (N := 9) h (by omega) (br_f (by decide) ⟨rfl, rl_mk B C m1 m2 m3 m4⟩))) (fun _ => br_f (by decide) ⟨rfl, rl_mk B C m1 m2 m3 m4⟩)
  have HX : (v1 < 0 ∨ nI 4 ≤ v1) → wpY_kinds (fun r' v' => r' = -3 ∧ i_Rel (k + 5) (xds, xcc, xmi, xre, xpc, xpl, xtl, xsc, xou, xtk, xtv, xss, xts, xho, xfu, xfa, xfo, xpn, xpe, xpf, xqk, xqv, xqo, xqp, xqs, xqh, xwo, xsi) v') (yco, ypl, ysz, yus, yof, yre, ysa, ykd, ybh, yln, yhl, yvl, yks, yog, yvs, ypa, ysp, ytd, ywi, yun, ysd, you, yfr, ylf, yva, ysv, ywo, ysi, ywk, yph) v1 v2 := by
    intro h
    unfold wpY_kinds
    exact yo_ex (N := 4) h (by omega) (br_f (by decide) ⟨rfl, rl_mk B C m1 m2 m3 m4⟩)
  unfold wpX_kinds
  rcases pk_ix v2 (n := 9) (by omega) with h | h | ⟨kd, hkd, rfl⟩
  · exact br_t h (HK (Or.inl h))
  · have h8 : ¬ v2 ≤ 8 := Int32.not_le.mpr (Int32.lt_of_lt_of_le (show (8 : Int32) < nI 9 by decide) h)
    exact br_c (fun _ => HK (Or.inr h)) (fun _ => br_f h8 (HK (Or.inr h)))
  · refine br_f (nI_pos (by omega)) (pk_le kd 8 (fun _ => ?_) (fun z => by omega))
    rcases pk_ix v1 (n := 4) (by omega) with h | h | ⟨s, hs, rfl⟩
    · exact xw_expandX (Or.inl h) (br_f (by decide) (HX (Or.inl h)))
    · exact xw_expandX (Or.inr h) (br_f (by decide) (HX (Or.inr h)))
    · refine xq B hs ?_ ?_
      · intro e re pc pl tl fu fa fo pn pe pf qk qv qo
        exact br_f (by decide) (yq_kinds B C hs hkd (fun _ sz us ks og vs pa sp td wi un sd ou fr C' => ⟨rfl, rl_mk B C' m1 m2 m3 m4⟩) (fun nf n O e' => by rw [e] at e'; cases e'))
      · intro nf n O e pc fu fa fo pn pe pf qk qv qo qp qs qh hO hL
        obtain ⟨b1, b2, b3, b4, b5⟩ := pm_exB B.1 hs e
        have A : ∀ r : Int32, r = nI (kn_c O kd n) → wpY_kinds (fun r' v' => r' = r ∧ i_Rel (k + 5) (xds, xcc, xmi, nI nf, pc, nI n, 0, xsc, xou, xtk, xtv, xss, xts, xho, fu, fa, fo, pn, pe, pf, qk, qv, qo, qp, qs, qh, xwo, xsi) v') (yco, ypl, ysz, yus, yof, yre, ysa, ykd, ybh, yln, yhl, yvl, yks, yog, yvs, ypa, ysp, ytd, ywi, yun, ysd, you, yfr, ylf, yva, ysv, ywo, ysi, ywk, yph) (nI s) (nI kd) := by
          intro r er
          refine yq_kinds B C hs hkd (fun e' => by rw [e] at e'; cases e') ?_
          intro nf' n' O' e' ks og vs pa sp td wi un sd ou fr C'
          rw [e] at e'
          cases e'
          exact ⟨er.symm, rl_mk B C' m1 m2 m3 m4⟩
        refine pk_lt 0 n (fun z => ⟨n+1, ?_⟩) (fun z => ?_)
        · exact xw_kinds (O := O) b2 hkd (tr_k8 b5) (fun m hm => (hO m hm).1) (A _ rfl) (n+1) 0 (by omega) (by omega)
        · have z0 : n = 0 := by omega
          exact A _ (by rw [z0]; rfl)
/-! depth -/
def kn_d (O : pm_O) : Nat → Nat → Nat
  | 0, _ => 1
  | t+1, m => if m = 0 then 1 else kn_d O t ((O m).2.2.2 - 1) + 1
theorem kn_dI {n : Nat} {O : pm_O} (G : tr_G n O) : ∀ (t t' m : Nat), m < n → m ≤ t → m ≤ t' → kn_d O t m = kn_d O t' m
  | 0, 0, m, _, _, _ => rfl
  | 0, t'+1, m, _, h1, _ => by
    have e : m = 0 := by omega
    rw [kn_d, kn_d, if_pos e]
  | t+1, 0, m, _, _, h2 => by
    have e : m = 0 := by omega
    rw [kn_d, kn_d, if_pos e]
  | t+1, t'+1, m, hm, h1, h2 => by
    rw [kn_d, kn_d]
    by_cases e : m = 0
    · rw [if_pos e, if_pos e]
    · rw [if_neg e, if_neg e]
      obtain ⟨p1, p2⟩ := tr_par0 G hm (by omega)
      rw [kn_dI G t t' _ (by omega) (by omega) (by omega)]
theorem kn_dB {n : Nat} {O : pm_O} (G : tr_G n O) : ∀ (t m : Nat), m < n → kn_d O t m ≤ m + 1
  | 0, m, _ => by rw [kn_d]; omega
  | t+1, m, hm => by
    rw [kn_d]
    by_cases e : m = 0
    · rw [if_pos e]; omega
    · rw [if_neg e]
      obtain ⟨p1, p2⟩ := tr_par0 G hm (by omega)
      have := kn_dB G t ((O m).2.2.2 - 1) (by omega)
      omega
theorem kn_dS {n : Nat} {O : pm_O} (G : tr_G n O) {m : Nat} (hm : m < n) (h0 : 0 < m) : kn_d O 2500 m = kn_d O 2500 ((O m).2.2.2 - 1) + 1 := by
  obtain ⟨p1, p2⟩ := tr_par0 G hm h0
  have h3 := G.1
  have e : kn_d O 2500 m = kn_d O 2499 ((O m).2.2.2 - 1) + 1 := by
    show (if m = 0 then 1 else kn_d O 2499 ((O m).2.2.2 - 1) + 1) = _
    rw [if_neg (by omega)]
  rw [e, kn_dI G 2499 2500 _ (by omega) (by omega) (by omega)]
theorem kn_mxB {D : Nat → Nat} {n : Nat} (h : ∀ m, m < n → D m ≤ 2001) : ∀ k, k ≤ n → tr_mx D 0 k ≤ 2001
  | 0, _ => Nat.zero_le _
  | k+1, hk => by
    have h1 := kn_mxB h k (by omega)
    have h2 := h k (by omega)
    rw [tr_mxS, Nat.zero_add]
    omega
theorem yw_depth {post : Int32 → SY → Prop} {n : Nat} {x1 : Int32} {O : pm_O} (G : 0 < n → tr_G n O) (hn : n ≤ 2000) (hO : ∀ m, m < n → ypa m = ys_i (O m).2.2.2)
    (h : ∀ (sv : Nat → Int32), wY_depth_90 post x1 (nI (tr_mx (kn_d O 2500) 0 n)) yco ypl (nI n) yus yof yre ysa ykd ybh yln yhl yvl yks yog yvs ypa ysp ytd ywi yun ysd you yfr ylf yva sv ywo ysi ywk yph) :
    ∀ (m k : Nat) (ysv : Nat → Int32), k ≤ n → n < m + k → (∀ i, i < k → ysv i = nI (kn_d O 2500 i)) → wY_depth_22 post x1 1 yco ypl (nI n) yus yof yre ysa m (nI (tr_mx (kn_d O 2500) 0 k)) (nI k) ykd ybh yln yhl yvl yks yog yvs ypa ysp ytd ywi yun ysd you yfr ylf yva ysv ywo ysi ywk yph := by
  intro m
  induction m with
  | zero => intro k ysv h1 h2; omega
  | succ m ih =>
    intro k ysv h1 h2 L
    refine pk_le n k (fun z => ?_) (fun z => br_f (by decide) ?_)
    · have e : k = n := by omega
      rw [e]; exact h ysv
    · have G' := G (by omega)
      have hB : ∀ m, m < n → kn_d O 2500 m ≤ 2001 := fun m hm => by have := kn_dB G' 2500 m hm; omega
      have hM := kn_mxB hB k h1
      have hk1 := hB k z
      have N : wY_depth_64 post (wY_depth_22 post x1 1 yco ypl (nI n) yus yof yre ysa m) x1 1 (nI (tr_mx (kn_d O 2500) 0 k)) (nI k) (nI (kn_d O 2500 k)) (nI k) yco ypl (nI n) yus yof yre ysa ykd ybh yln yhl yvl yks yog yvs ypa ysp ytd ywi yun ysd you yfr ylf yva ysv ywo ysi ywk yph := by
        unfold wY_depth_64
        rw [nI_clamp (show k < 2 ^ 31 by omega)]
        have i1 : vp_in (nI k) 2001 := pk_in k 2001 (by omega)
        have L' : ∀ i, i < k + 1 → (upd ysv k (nI (kn_d O 2500 k))) i = nI (kn_d O 2500 i) := by
          intro i hi
          by_cases e : i = k
          · subst e
            exact pk_us
          · rw [pk_un e]
            exact L i (by omega)
        have A := ih (k+1) _ (by omega) (by omega) L'
        rw [tr_mxS, Nat.zero_add] at A
        refine ⟨i1, nm_e ⟨i1, ?_⟩⟩
        rw [pk_us]
        refine pk_le (kn_d O 2500 k) (tr_mx (kn_d O 2500) 0 k) (fun y => nm_r (nI_1 k) ?_) (fun y => ⟨i1, nm_e (nm_r (nI_1 k) ?_)⟩)
        · rw [Nat.max_eq_left y] at A
          exact A
        · rw [Nat.max_eq_right (by omega)] at A
          exact A
      refine pk_eq k 0 (fun e => ?_) (fun e => ?_)
      · subst e
        exact N
      · obtain ⟨p1, p2⟩ := tr_par0 G' z (by omega)
        rw [nI_clamp (show k < 2 ^ 31 by omega), hO k z, ys_iP p1, nI_clamp (show (O k).2.2.2 - 1 < 2 ^ 31 by omega), L _ (by omega), nI_1, ← kn_dS G' z (by omega)]
        exact ⟨pk_in k 2001 (by omega), ⟨vp_in_nI (by omega) (by omega), N⟩⟩
theorem yq_depth {post : Int32 → SY → Prop} {K : Nat → Nat} {V : Nat → Int32} {Hn Len : Nat → Nat} {nc : Nat} {DK : Nat → Nat} {DV : Nat → Int32} {dn s : Nat}
    (B : rl_B K V Hn Len nc DK DV dn xds xcc xtk xtv xss xts xho yco ykd ybh yln yhl yvl) (C : rl_C K V Hn Len ysz yus yof yks yog yvs ypa ysp) (hs : s < 4)
    (h0 : pm_ex K V Hn Len s = none → ∀ (sz us : Int32) (ks og vs pa sp td wi un sd ou fr sv : Nat → Int32), rl_C K V Hn Len sz us (nI s) ks og vs pa sp → post (-2) (yco, ypl, sz, us, nI s, yre, ysa, ykd, ybh, yln, yhl, yvl, ks, og, vs, pa, sp, td, wi, un, sd, ou, fr, ylf, yva, sv, ywo, ysi, ywk, yph))
    (h1 : ∀ nf n O, pm_ex K V Hn Len s = some (nf, n, O) → ∀ (ks og vs pa sp td wi un sd ou fr sv : Nat → Int32), rl_C K V Hn Len (nI n) (nI nf) (nI s) ks og vs pa sp → post (if n = 0 then 0 else nI (tr_ht (pm_ar O) 0)) (yco, ypl, nI n, nI nf, nI s, yre, ysa, ykd, ybh, yln, yhl, yvl, ks, og, vs, pa, sp, td, wi, un, sd, ou, fr, ylf, yva, sv, ywo, ysi, ywk, yph)) :
    wpY_depth post (yco, ypl, ysz, yus, yof, yre, ysa, ykd, ybh, yln, yhl, yvl, yks, yog, yvs, ypa, ysp, ytd, ywi, yun, ysd, you, yfr, ylf, yva, ysv, ywo, ysi, ywk, yph) (nI s) := by
  unfold wpY_depth
  refine yo_in (N := 4) hs (by omega) (br_t rfl ?_)
  refine yq B C hs ?_ ?_
  · intro e sz us ks og vs pa sp td wi un sd ou fr C'
    have A : wY_depth_90 post (nI s) 0 yco ypl sz us (nI s) yre ysa ykd ybh yln yhl yvl ks og vs pa sp td wi un sd ou fr ylf yva ysv ywo ysi ywk yph := by
      unfold wY_depth_90
      exact yq_asked B C' hs (fun _ sz us ks og vs pa sp td wi un sd ou fr C'' => h0 e _ _ _ _ _ _ _ _ _ _ _ _ _ _ C'') (fun nf n O e' => by rw [e] at e'; cases e')
    exact ⟨1, br_c (fun _ => A) (fun _ => br_t rfl A)⟩
  · intro nf n O e ks og vs pa sp td wi un sd ou fr C' yO hsp
    obtain ⟨b1, b2, b3, b4, b5⟩ := pm_exB B.1 hs e
    refine ⟨n+1, yw_depth (O := O) b5 b2 (fun m hm => (yO m hm).2.2.2) ?_ (n+1) 0 _ (by omega) (by omega) (fun i hi => by omega)⟩
    intro sv
    unfold wY_depth_90
    refine yq_asked B C' hs (fun e' => by rw [e] at e'; cases e') ?_
    intro nf' n' O' e' ks og vs pa sp td wi un sd ou fr C''
    rw [e] at e'
    cases e'
    have A := h1 nf n O e ks og vs pa sp td wi un sd ou fr sv C''
    by_cases z : n = 0
    · rw [if_pos z] at A ⊢
      exact A
    · rw [if_neg z] at A ⊢
      have G := b5 (by omega)
      rw [tr_depth G (kn_d O 2500) rfl (fun m h0 hm => kn_dS G hm h0)]
      exact A
theorem i_vc_depth {k : Nat} {u : SX} {v : SY} (I : i_Rel k u v) (hk : k + 5 ≤ 2560) (v1 : Int32) : wpX_depth (fun r u' => wpY_depth (fun r' v' => r' = r ∧ i_Rel (k + 5) u' v') v v1) u v1 := by
  obtain ⟨xds, xcc, xmi, xre, xpc, xpl, xtl, xsc, xou, xtk, xtv, xss, xts, xho, xfu, xfa, xfo, xpn, xpe, xpf, xqk, xqv, xqo, xqp, xqs, xqh, xwo, xsi⟩ := u
  obtain ⟨yco, ypl, ysz, yus, yof, yre, ysa, ykd, ybh, yln, yhl, yvl, yks, yog, yvs, ypa, ysp, ytd, ywi, yun, ysd, you, yfr, ylf, yva, ysv, ywo, ysi, ywk, yph⟩ := v
  obtain ⟨K, V, Hn, Len, nc, DK, DV, dn, B, C, m1, m2, m3, m4⟩ := I
  have HX : (v1 < 0 ∨ nI 4 ≤ v1) → wpY_depth (fun r' v' => r' = -3 ∧ i_Rel (k + 5) (xds, xcc, xmi, xre, xpc, xpl, xtl, xsc, xou, xtk, xtv, xss, xts, xho, xfu, xfa, xfo, xpn, xpe, xpf, xqk, xqv, xqo, xqp, xqs, xqh, xwo, xsi) v') (yco, ypl, ysz, yus, yof, yre, ysa, ykd, ybh, yln, yhl, yvl, yks, yog, yvs, ypa, ysp, ytd, ywi, yun, ysd, you, yfr, ylf, yva, ysv, ywo, ysi, ywk, yph) v1 := by
    intro h
    unfold wpY_depth
    exact yo_ex (N := 4) h (by omega) (br_f (by decide) ⟨rfl, rl_mk B C m1 m2 m3 m4⟩)
  unfold wpX_depth
  rcases pk_ix v1 (n := 4) (by omega) with h | h | ⟨s, hs, rfl⟩
  · exact xw_expandX (Or.inl h) (br_t (by decide) (HX (Or.inl h)))
  · exact xw_expandX (Or.inr h) (br_t (by decide) (HX (Or.inr h)))
  · refine xq B hs ?_ ?_
    · intro e re pc pl tl fu fa fo pn pe pf qk qv qo
      exact br_t (by decide) (yq_depth B C hs (fun _ sz us ks og vs pa sp td wi un sd ou fr sv C' => ⟨rfl, rl_mk B C' m1 m2 m3 m4⟩) (fun nf n O e' => by rw [e] at e'; cases e'))
    · intro nf n O e pc fu fa fo pn pe pf qk qv qo qp qs qh hO hL
      have b2 := (pm_exB B.1 hs e).2.1
      refine pk_le n 0 (fun z => ?_) (fun z => ?_)
      · refine yq_depth B C hs (fun e' => by rw [e] at e'; cases e') ?_
        intro nf' n' O' e' ks og vs pa sp td wi un sd ou fr sv C'
        rw [e] at e'
        cases e'
        have z0 : n = 0 := by omega
        refine ⟨?_, rl_mk B C' m1 m2 m3 m4⟩
        rw [if_pos z0, z0]
        rfl
      · refine yq_depth B C hs (fun e' => by rw [e] at e'; cases e') ?_
        intro nf' n' O' e' ks og vs pa sp td wi un sd ou fr sv C'
        rw [e] at e'
        cases e'
        refine ⟨?_, rl_mk B C' m1 m2 m3 m4⟩
        rw [if_neg (by omega), (hL z 0 z).2.1]
end
section
variable {xds xcc xmi xre xpc xpl xtl xsc xou : Int32} {xtk xtv xss xts xho xfu xfa xfo xpn xpe xpf xqk xqv xqo xqp xqs xqh xwo xsi : Nat → Int32} {yco ypl ysz yus yof yre ysa : Int32} {ykd ybh yln yhl yvl yks yog yvs ypa ysp ytd ywi yun ysd you yfr ylf yva ysv ywo ysi ywk yph : Nat → Int32}
theorem yq_has {post : Int32 → SY → Prop} {K : Nat → Nat} {V : Nat → Int32} {Hn Len : Nat → Nat} {nc : Nat} {DK : Nat → Nat} {DV : Nat → Int32} {dn s : Nat} {v2 : Int32}
    (B : rl_B K V Hn Len nc DK DV dn xds xcc xtk xtv xss xts xho yco ykd ybh yln yhl yvl) (C : rl_C K V Hn Len ysz yus yof yks yog yvs ypa ysp) (hs : s < 4)
    (h0 : pm_ex K V Hn Len s = none → ∀ (sz us : Int32) (ks og vs pa sp td wi un sd ou fr : Nat → Int32), rl_C K V Hn Len sz us (nI s) ks og vs pa sp → post 0 (yco, ypl, sz, us, nI s, yre, ysa, ykd, ybh, yln, yhl, yvl, ks, og, vs, pa, sp, td, wi, un, sd, ou, fr, ylf, yva, ysv, ywo, ysi, ywk, yph))
    (h1 : ∀ nf n O, pm_ex K V Hn Len s = some (nf, n, O) → ∀ (ks og vs pa sp td wi un sd ou fr : Nat → Int32), rl_C K V Hn Len (nI n) (nI nf) (nI s) ks og vs pa sp → ys_O n O ks vs og pa → (∀ i, i < n → sp i = nI (tr_sp (pm_ar O) i)) →
      (∀ j, j < n → v2 = nI j → post 1 (yco, ypl, nI n, nI nf, nI s, yre, ysa, ykd, ybh, yln, yhl, yvl, ks, og, vs, pa, sp, td, wi, un, sd, ou, fr, ylf, yva, ysv, ywo, ysi, ywk, yph)) ∧
      ((v2 < 0 ∨ nI n ≤ v2) → post 0 (yco, ypl, nI n, nI nf, nI s, yre, ysa, ykd, ybh, yln, yhl, yvl, ks, og, vs, pa, sp, td, wi, un, sd, ou, fr, ylf, yva, ysv, ywo, ysi, ywk, yph))) :
    wpY_has post (yco, ypl, ysz, yus, yof, yre, ysa, ykd, ybh, yln, yhl, yvl, yks, yog, yvs, ypa, ysp, ytd, ywi, yun, ysd, you, yfr, ylf, yva, ysv, ywo, ysi, ywk, yph) (nI s) v2 := by
  unfold wpY_has
  refine yo_in (N := 4) hs (by omega) (br_t rfl ?_)
  refine yq B C hs ?_ ?_
  · intro e sz us ks og vs pa sp td wi un sd ou fr C'
    exact br_t rfl (h0 e _ _ _ _ _ _ _ _ _ _ _ _ _ C')
  · intro nf n O e ks og vs pa sp td wi un sd ou fr C' yO hsp
    obtain ⟨b1, b2, b3, b4, b5⟩ := pm_exB B.1 hs e
    obtain ⟨A1, A2⟩ := h1 nf n O e ks og vs pa sp td wi un sd ou fr C' yO hsp
    exact br_f (by decide) (yw_out n (by omega) (fun j hj ej => br_t rfl (A1 j hj ej)) (fun hz => br_f (by decide) (A2 hz)))
theorem yq_hasX {post : Int32 → SY → Prop} {v1 v2 : Int32} (hv : v1 < 0 ∨ nI 4 ≤ v1) (h : post 0 (yco, ypl, ysz, yus, yof, yre, ysa, ykd, ybh, yln, yhl, yvl, yks, yog, yvs, ypa, ysp, ytd, ywi, yun, ysd, you, yfr, ylf, yva, ysv, ywo, ysi, ywk, yph)) : wpY_has post (yco, ypl, ysz, yus, yof, yre, ysa, ykd, ybh, yln, yhl, yvl, yks, yog, yvs, ypa, ysp, ytd, ywi, yun, ysd, you, yfr, ylf, yva, ysv, ywo, ysi, ywk, yph) v1 v2 := by
  unfold wpY_has
  exact yo_ex (N := 4) hv (by omega) (br_f (by decide) h)
theorem nu_neg {v : Int32} (h : ¬ v < 0) (a : Int32) (ha : a < 0) : ¬ v < a := by
  rw [Int32.not_lt] at h ⊢
  exact Int32.le_trans (Int32.le_of_lt ha) h
theorem i_vc_at {k : Nat} {u : SX} {v : SY} (I : i_Rel k u v) (hk : k + 5 ≤ 2560) (v1 : Int32) (v2 : Int32) : wpX_at (fun r u' => wpY_at (fun r' v' => r' = r ∧ i_Rel (k + 5) u' v') v v1 v2) u v1 v2 := by
  obtain ⟨xds, xcc, xmi, xre, xpc, xpl, xtl, xsc, xou, xtk, xtv, xss, xts, xho, xfu, xfa, xfo, xpn, xpe, xpf, xqk, xqv, xqo, xqp, xqs, xqh, xwo, xsi⟩ := u
  obtain ⟨yco, ypl, ysz, yus, yof, yre, ysa, ykd, ybh, yln, yhl, yvl, yks, yog, yvs, ypa, ysp, ytd, ywi, yun, ysd, you, yfr, ylf, yva, ysv, ywo, ysi, ywk, yph⟩ := v
  obtain ⟨K, V, Hn, Len, nc, DK, DV, dn, B, C, m1, m2, m3, m4⟩ := I
  have HX : (v1 < 0 ∨ nI 4 ≤ v1) → wpY_at (fun r' v' => r' = (100000000000 : Int64) ∧ i_Rel (k + 5) (xds, xcc, xmi, xre, xpc, xpl, xtl, xsc, xou, xtk, xtv, xss, xts, xho, xfu, xfa, xfo, xpn, xpe, xpf, xqk, xqv, xqo, xqp, xqs, xqh, xwo, xsi) v') (yco, ypl, ysz, yus, yof, yre, ysa, ykd, ybh, yln, yhl, yvl, yks, yog, yvs, ypa, ysp, ytd, ywi, yun, ysd, you, yfr, ylf, yva, ysv, ywo, ysi, ywk, yph) v1 v2 := by
    intro h
    unfold wpY_at
    exact yq_hasX h (br_t rfl ⟨rfl, rl_mk B C m1 m2 m3 m4⟩)
  have HX2 : (v1 < 0 ∨ nI 4 ≤ v1) → wpX_at (fun r u' => wpY_at (fun r' v' => r' = r ∧ i_Rel (k + 5) u' v') (yco, ypl, ysz, yus, yof, yre, ysa, ykd, ybh, yln, yhl, yvl, yks, yog, yvs, ypa, ysp, ytd, ywi, yun, ysd, you, yfr, ylf, yva, ysv, ywo, ysi, ywk, yph) v1 v2) (xds, xcc, xmi, xre, xpc, xpl, xtl, xsc, xou, xtk, xtv, xss, xts, xho, xfu, xfa, xfo, xpn, xpe, xpf, xqk, xqv, xqo, xqp, xqs, xqh, xwo, xsi) v1 v2 := by
    intro h
    unfold wpX_at
    refine xw_expandX h (br_c (fun _ => HX h) (fun h0 => ?_))
    exact br_f (nu_neg h0 (-3) (by decide)) (HX h)
  rcases pk_ix v1 (n := 4) (by omega) with h | h | ⟨s, hs, rfl⟩
  · exact HX2 (Or.inl h)
  · exact HX2 (Or.inr h)
  · unfold wpX_at
    refine xq B hs ?_ ?_
    · intro e re pc pl tl fu fa fo pn pe pf qk qv qo
      have A : wpY_at (fun r' v' => r' = (100000000000 : Int64) ∧ i_Rel (k + 5) (xds, xcc, xmi, re, pc, pl, tl, xsc, xou, xtk, xtv, xss, xts, xho, fu, fa, fo, pn, pe, pf, qk, qv, qo, xqp, xqs, xqh, xwo, xsi) v') (yco, ypl, ysz, yus, yof, yre, ysa, ykd, ybh, yln, yhl, yvl, yks, yog, yvs, ypa, ysp, ytd, ywi, yun, ysd, you, yfr, ylf, yva, ysv, ywo, ysi, ywk, yph) (nI s) v2 := by
        unfold wpY_at
        exact yq_has B C hs (fun _ sz us ks og vs pa sp td wi un sd ou fr C' => br_t rfl ⟨rfl, rl_mk B C' m1 m2 m3 m4⟩) (fun nf n O e' => by rw [e] at e'; cases e')
      refine br_c (fun _ => A) (fun h0 => ?_)
      exact br_f (nu_neg h0 (-2) (by decide)) A
    · intro nf n O e pc fu fa fo pn pe pf qk qv qo qp qs qh hO hL
      obtain ⟨b1, b2, b3, b4, b5⟩ := pm_exB B.1 hs e
      have A : (v2 < 0 ∨ nI n ≤ v2) → wpY_at (fun r' v' => r' = (100000000000 : Int64) ∧ i_Rel (k + 5) (xds, xcc, xmi, nI nf, pc, nI n, 0, xsc, xou, xtk, xtv, xss, xts, xho, fu, fa, fo, pn, pe, pf, qk, qv, qo, qp, qs, qh, xwo, xsi) v') (yco, ypl, ysz, yus, yof, yre, ysa, ykd, ybh, yln, yhl, yvl, yks, yog, yvs, ypa, ysp, ytd, ywi, yun, ysd, you, yfr, ylf, yva, ysv, ywo, ysi, ywk, yph) (nI s) v2 := by
        intro hz
        unfold wpY_at
        refine yq_has B C hs (fun e' => by rw [e] at e'; cases e') ?_
        intro nf' n' O' e' ks og vs pa sp td wi un sd ou fr C' yO hsp
        rw [e] at e'
        cases e'
        refine ⟨fun j hj ej => ?_, fun _ => br_t rfl ⟨rfl, rl_mk B C' m1 m2 m3 m4⟩⟩
        rw [ej] at hz
        exact absurd hz (by rw [not_or]; exact ⟨nI_pos (by omega), nI_ge hj (by omega)⟩)
      rcases pk_ix v2 (n := n) (by omega) with h2 | h2 | ⟨j, hj, rfl⟩
      · exact br_t h2 (A (Or.inl h2))
      · refine br_c (fun _ => A (Or.inr h2)) (fun h0 => ?_)
        exact br_f (Int32.not_lt.mpr h2) (A (Or.inr h2))
      · refine br_f (nI_pos (by omega)) ?_
        refine br_t (nI_lt hj (by omega)) ⟨pk_in j 2000 (by omega), ⟨pk_in j 2000 (by omega), ?_⟩⟩
        rw [nI_clamp (show j < 2 ^ 31 by omega)]
        unfold wpY_at
        refine yq_has B C hs (fun e' => by rw [e] at e'; cases e') ?_
        intro nf' n' O' e' ks og vs pa sp td wi un sd ou fr C' yO hsp
        rw [e] at e'
        cases e'
        refine ⟨fun j' hj' ej => br_f (by decide) ?_, fun hz => absurd hz (by rw [not_or]; exact ⟨nI_pos (by omega), nI_ge hj (by omega)⟩)⟩
        dsimp only
        rw [nI_clamp (show j < 2 ^ 31 by omega)]
        obtain ⟨o1, o2, o3⟩ := hO j hj
        obtain ⟨l1, l2, l3⟩ := hL (by omega) j hj
        obtain ⟨z1, z2, z3, z4⟩ := yO j hj
        refine ⟨pk_in j 2001 (by omega), ⟨pk_in j 2001 (by omega), ?_, rl_mk B C' m1 m2 m3 m4⟩⟩
        rw [o1, o2, z1, z2]
theorem i_vc_origin {k : Nat} {u : SX} {v : SY} (I : i_Rel k u v) (hk : k + 5 ≤ 2560) (v1 : Int32) (v2 : Int32) : wpX_origin (fun r u' => wpY_origin (fun r' v' => r' = r ∧ i_Rel (k + 5) u' v') v v1 v2) u v1 v2 := by
  obtain ⟨xds, xcc, xmi, xre, xpc, xpl, xtl, xsc, xou, xtk, xtv, xss, xts, xho, xfu, xfa, xfo, xpn, xpe, xpf, xqk, xqv, xqo, xqp, xqs, xqh, xwo, xsi⟩ := u
  obtain ⟨yco, ypl, ysz, yus, yof, yre, ysa, ykd, ybh, yln, yhl, yvl, yks, yog, yvs, ypa, ysp, ytd, ywi, yun, ysd, you, yfr, ylf, yva, ysv, ywo, ysi, ywk, yph⟩ := v
  obtain ⟨K, V, Hn, Len, nc, DK, DV, dn, B, C, m1, m2, m3, m4⟩ := I
  have HX : (v1 < 0 ∨ nI 4 ≤ v1) → wpY_origin (fun r' v' => r' = (-3 : Int32) ∧ i_Rel (k + 5) (xds, xcc, xmi, xre, xpc, xpl, xtl, xsc, xou, xtk, xtv, xss, xts, xho, xfu, xfa, xfo, xpn, xpe, xpf, xqk, xqv, xqo, xqp, xqs, xqh, xwo, xsi) v') (yco, ypl, ysz, yus, yof, yre, ysa, ykd, ybh, yln, yhl, yvl, yks, yog, yvs, ypa, ysp, ytd, ywi, yun, ysd, you, yfr, ylf, yva, ysv, ywo, ysi, ywk, yph) v1 v2 := by
    intro h
    unfold wpY_origin
    exact yq_hasX h (br_t rfl ⟨rfl, rl_mk B C m1 m2 m3 m4⟩)
  have HX2 : (v1 < 0 ∨ nI 4 ≤ v1) → wpX_origin (fun r u' => wpY_origin (fun r' v' => r' = r ∧ i_Rel (k + 5) u' v') (yco, ypl, ysz, yus, yof, yre, ysa, ykd, ybh, yln, yhl, yvl, yks, yog, yvs, ypa, ysp, ytd, ywi, yun, ysd, you, yfr, ylf, yva, ysv, ywo, ysi, ywk, yph) v1 v2) (xds, xcc, xmi, xre, xpc, xpl, xtl, xsc, xou, xtk, xtv, xss, xts, xho, xfu, xfa, xfo, xpn, xpe, xpf, xqk, xqv, xqo, xqp, xqs, xqh, xwo, xsi) v1 v2 := by
    intro h
    unfold wpX_origin
    refine xw_expandX h (br_c (fun _ => HX h) (fun h0 => ?_))
    exact br_t (Int32.le_trans (Int32.le_of_lt (show (-3 : Int32) < 0 by decide)) (Int32.not_lt.mp h0)) (HX h)
  rcases pk_ix v1 (n := 4) (by omega) with h | h | ⟨s, hs, rfl⟩
  · exact HX2 (Or.inl h)
  · exact HX2 (Or.inr h)
  · unfold wpX_origin
    refine xq B hs ?_ ?_
    · intro e re pc pl tl fu fa fo pn pe pf qk qv qo
      have A : wpY_origin (fun r' v' => r' = (-3 : Int32) ∧ i_Rel (k + 5) (xds, xcc, xmi, re, pc, pl, tl, xsc, xou, xtk, xtv, xss, xts, xho, fu, fa, fo, pn, pe, pf, qk, qv, qo, xqp, xqs, xqh, xwo, xsi) v') (yco, ypl, ysz, yus, yof, yre, ysa, ykd, ybh, yln, yhl, yvl, yks, yog, yvs, ypa, ysp, ytd, ywi, yun, ysd, you, yfr, ylf, yva, ysv, ywo, ysi, ywk, yph) (nI s) v2 := by
        unfold wpY_origin
        exact yq_has B C hs (fun _ sz us ks og vs pa sp td wi un sd ou fr C' => br_t rfl ⟨rfl, rl_mk B C' m1 m2 m3 m4⟩) (fun nf n O e' => by rw [e] at e'; cases e')
      refine br_c (fun _ => A) (fun h0 => ?_)
      exact br_t (Int32.le_trans (Int32.le_of_lt (show (-2 : Int32) < 0 by decide)) (Int32.not_lt.mp h0)) A
    · intro nf n O e pc fu fa fo pn pe pf qk qv qo qp qs qh hO hL
      obtain ⟨b1, b2, b3, b4, b5⟩ := pm_exB B.1 hs e
      have A : (v2 < 0 ∨ nI n ≤ v2) → wpY_origin (fun r' v' => r' = (-3 : Int32) ∧ i_Rel (k + 5) (xds, xcc, xmi, nI nf, pc, nI n, 0, xsc, xou, xtk, xtv, xss, xts, xho, fu, fa, fo, pn, pe, pf, qk, qv, qo, qp, qs, qh, xwo, xsi) v') (yco, ypl, ysz, yus, yof, yre, ysa, ykd, ybh, yln, yhl, yvl, yks, yog, yvs, ypa, ysp, ytd, ywi, yun, ysd, you, yfr, ylf, yva, ysv, ywo, ysi, ywk, yph) (nI s) v2 := by
        intro hz
        unfold wpY_origin
        refine yq_has B C hs (fun e' => by rw [e] at e'; cases e') ?_
        intro nf' n' O' e' ks og vs pa sp td wi un sd ou fr C' yO hsp
        rw [e] at e'
        cases e'
        refine ⟨fun j hj ej => ?_, fun _ => br_t rfl ⟨rfl, rl_mk B C' m1 m2 m3 m4⟩⟩
        rw [ej] at hz
        exact absurd hz (by rw [not_or]; exact ⟨nI_pos (by omega), nI_ge hj (by omega)⟩)
      rcases pk_ix v2 (n := n) (by omega) with h2 | h2 | ⟨j, hj, rfl⟩
      · exact br_t h2 (A (Or.inl h2))
      · refine br_c (fun _ => A (Or.inr h2)) (fun h0 => ?_)
        exact br_t h2 (A (Or.inr h2))
      · refine br_f (nI_pos (by omega)) ?_
        refine br_f (nI_ge hj (by omega)) ⟨pk_in j 2000 (by omega), ?_⟩
        rw [nI_clamp (show j < 2 ^ 31 by omega)]
        unfold wpY_origin
        refine yq_has B C hs (fun e' => by rw [e] at e'; cases e') ?_
        intro nf' n' O' e' ks og vs pa sp td wi un sd ou fr C' yO hsp
        rw [e] at e'
        cases e'
        refine ⟨fun j' hj' ej => br_f (by decide) ?_, fun hz => absurd hz (by rw [not_or]; exact ⟨nI_pos (by omega), nI_ge hj (by omega)⟩)⟩
        dsimp only
        rw [nI_clamp (show j < 2 ^ 31 by omega)]
        obtain ⟨o1, o2, o3⟩ := hO j hj
        obtain ⟨l1, l2, l3⟩ := hL (by omega) j hj
        obtain ⟨z1, z2, z3, z4⟩ := yO j hj
        refine ⟨pk_in j 2001 (by omega), ?_, rl_mk B C' m1 m2 m3 m4⟩
        rw [o3, z3]
theorem i_vc_parent {k : Nat} {u : SX} {v : SY} (I : i_Rel k u v) (hk : k + 5 ≤ 2560) (v1 : Int32) (v2 : Int32) : wpX_parent (fun r u' => wpY_parent (fun r' v' => r' = r ∧ i_Rel (k + 5) u' v') v v1 v2) u v1 v2 := by
  obtain ⟨xds, xcc, xmi, xre, xpc, xpl, xtl, xsc, xou, xtk, xtv, xss, xts, xho, xfu, xfa, xfo, xpn, xpe, xpf, xqk, xqv, xqo, xqp, xqs, xqh, xwo, xsi⟩ := u
  obtain ⟨yco, ypl, ysz, yus, yof, yre, ysa, ykd, ybh, yln, yhl, yvl, yks, yog, yvs, ypa, ysp, ytd, ywi, yun, ysd, you, yfr, ylf, yva, ysv, ywo, ysi, ywk, yph⟩ := v
  obtain ⟨K, V, Hn, Len, nc, DK, DV, dn, B, C, m1, m2, m3, m4⟩ := I
  have HX : (v1 < 0 ∨ nI 4 ≤ v1) → wpY_parent (fun r' v' => r' = (-3 : Int32) ∧ i_Rel (k + 5) (xds, xcc, xmi, xre, xpc, xpl, xtl, xsc, xou, xtk, xtv, xss, xts, xho, xfu, xfa, xfo, xpn, xpe, xpf, xqk, xqv, xqo, xqp, xqs, xqh, xwo, xsi) v') (yco, ypl, ysz, yus, yof, yre, ysa, ykd, ybh, yln, yhl, yvl, yks, yog, yvs, ypa, ysp, ytd, ywi, yun, ysd, you, yfr, ylf, yva, ysv, ywo, ysi, ywk, yph) v1 v2 := by
    intro h
    unfold wpY_parent
    exact yq_hasX h (br_t rfl ⟨rfl, rl_mk B C m1 m2 m3 m4⟩)
  have HX2 : (v1 < 0 ∨ nI 4 ≤ v1) → wpX_parent (fun r u' => wpY_parent (fun r' v' => r' = r ∧ i_Rel (k + 5) u' v') (yco, ypl, ysz, yus, yof, yre, ysa, ykd, ybh, yln, yhl, yvl, yks, yog, yvs, ypa, ysp, ytd, ywi, yun, ysd, you, yfr, ylf, yva, ysv, ywo, ysi, ywk, yph) v1 v2) (xds, xcc, xmi, xre, xpc, xpl, xtl, xsc, xou, xtk, xtv, xss, xts, xho, xfu, xfa, xfo, xpn, xpe, xpf, xqk, xqv, xqo, xqp, xqs, xqh, xwo, xsi) v1 v2 := by
    intro h
    unfold wpX_parent
    refine xw_expandX h (br_c (fun _ => HX h) (fun h0 => ?_))
    exact br_t (Int32.le_trans (Int32.le_of_lt (show (-3 : Int32) < 0 by decide)) (Int32.not_lt.mp h0)) (HX h)
  rcases pk_ix v1 (n := 4) (by omega) with h | h | ⟨s, hs, rfl⟩
  · exact HX2 (Or.inl h)
  · exact HX2 (Or.inr h)
  · unfold wpX_parent
    refine xq B hs ?_ ?_
    · intro e re pc pl tl fu fa fo pn pe pf qk qv qo
      have A : wpY_parent (fun r' v' => r' = (-3 : Int32) ∧ i_Rel (k + 5) (xds, xcc, xmi, re, pc, pl, tl, xsc, xou, xtk, xtv, xss, xts, xho, fu, fa, fo, pn, pe, pf, qk, qv, qo, xqp, xqs, xqh, xwo, xsi) v') (yco, ypl, ysz, yus, yof, yre, ysa, ykd, ybh, yln, yhl, yvl, yks, yog, yvs, ypa, ysp, ytd, ywi, yun, ysd, you, yfr, ylf, yva, ysv, ywo, ysi, ywk, yph) (nI s) v2 := by
        unfold wpY_parent
        exact yq_has B C hs (fun _ sz us ks og vs pa sp td wi un sd ou fr C' => br_t rfl ⟨rfl, rl_mk B C' m1 m2 m3 m4⟩) (fun nf n O e' => by rw [e] at e'; cases e')
      refine br_c (fun _ => A) (fun h0 => ?_)
      exact br_t (Int32.le_trans (Int32.le_of_lt (show (-2 : Int32) < 0 by decide)) (Int32.not_lt.mp h0)) A
    · intro nf n O e pc fu fa fo pn pe pf qk qv qo qp qs qh hO hL
      obtain ⟨b1, b2, b3, b4, b5⟩ := pm_exB B.1 hs e
      have A : (v2 < 0 ∨ nI n ≤ v2) → wpY_parent (fun r' v' => r' = (-3 : Int32) ∧ i_Rel (k + 5) (xds, xcc, xmi, nI nf, pc, nI n, 0, xsc, xou, xtk, xtv, xss, xts, xho, fu, fa, fo, pn, pe, pf, qk, qv, qo, qp, qs, qh, xwo, xsi) v') (yco, ypl, ysz, yus, yof, yre, ysa, ykd, ybh, yln, yhl, yvl, yks, yog, yvs, ypa, ysp, ytd, ywi, yun, ysd, you, yfr, ylf, yva, ysv, ywo, ysi, ywk, yph) (nI s) v2 := by
        intro hz
        unfold wpY_parent
        refine yq_has B C hs (fun e' => by rw [e] at e'; cases e') ?_
        intro nf' n' O' e' ks og vs pa sp td wi un sd ou fr C' yO hsp
        rw [e] at e'
        cases e'
        refine ⟨fun j hj ej => ?_, fun _ => br_t rfl ⟨rfl, rl_mk B C' m1 m2 m3 m4⟩⟩
        rw [ej] at hz
        exact absurd hz (by rw [not_or]; exact ⟨nI_pos (by omega), nI_ge hj (by omega)⟩)
      rcases pk_ix v2 (n := n) (by omega) with h2 | h2 | ⟨j, hj, rfl⟩
      · exact br_t h2 (A (Or.inl h2))
      · refine br_c (fun _ => A (Or.inr h2)) (fun h0 => ?_)
        exact br_t h2 (A (Or.inr h2))
      · refine br_f (nI_pos (by omega)) ?_
        refine br_f (nI_ge hj (by omega)) ⟨pk_in j 2000 (by omega), ?_⟩
        rw [nI_clamp (show j < 2 ^ 31 by omega)]
        unfold wpY_parent
        refine yq_has B C hs (fun e' => by rw [e] at e'; cases e') ?_
        intro nf' n' O' e' ks og vs pa sp td wi un sd ou fr C' yO hsp
        rw [e] at e'
        cases e'
        refine ⟨fun j' hj' ej => br_f (by decide) ?_, fun hz => absurd hz (by rw [not_or]; exact ⟨nI_pos (by omega), nI_ge hj (by omega)⟩)⟩
        dsimp only
        rw [nI_clamp (show j < 2 ^ 31 by omega)]
        obtain ⟨o1, o2, o3⟩ := hO j hj
        obtain ⟨l1, l2, l3⟩ := hL (by omega) j hj
        obtain ⟨z1, z2, z3, z4⟩ := yO j hj
        refine ⟨pk_in j 2001 (by omega), ?_, rl_mk B C' m1 m2 m3 m4⟩
        rw [l3, z4]
theorem i_vc_span {k : Nat} {u : SX} {v : SY} (I : i_Rel k u v) (hk : k + 5 ≤ 2560) (v1 : Int32) (v2 : Int32) : wpX_span (fun r u' => wpY_span (fun r' v' => r' = r ∧ i_Rel (k + 5) u' v') v v1 v2) u v1 v2 := by
  obtain ⟨xds, xcc, xmi, xre, xpc, xpl, xtl, xsc, xou, xtk, xtv, xss, xts, xho, xfu, xfa, xfo, xpn, xpe, xpf, xqk, xqv, xqo, xqp, xqs, xqh, xwo, xsi⟩ := u
  obtain ⟨yco, ypl, ysz, yus, yof, yre, ysa, ykd, ybh, yln, yhl, yvl, yks, yog, yvs, ypa, ysp, ytd, ywi, yun, ysd, you, yfr, ylf, yva, ysv, ywo, ysi, ywk, yph⟩ := v
  obtain ⟨K, V, Hn, Len, nc, DK, DV, dn, B, C, m1, m2, m3, m4⟩ := I
  have HX : (v1 < 0 ∨ nI 4 ≤ v1) → wpY_span (fun r' v' => r' = (-3 : Int32) ∧ i_Rel (k + 5) (xds, xcc, xmi, xre, xpc, xpl, xtl, xsc, xou, xtk, xtv, xss, xts, xho, xfu, xfa, xfo, xpn, xpe, xpf, xqk, xqv, xqo, xqp, xqs, xqh, xwo, xsi) v') (yco, ypl, ysz, yus, yof, yre, ysa, ykd, ybh, yln, yhl, yvl, yks, yog, yvs, ypa, ysp, ytd, ywi, yun, ysd, you, yfr, ylf, yva, ysv, ywo, ysi, ywk, yph) v1 v2 := by
    intro h
    unfold wpY_span
    exact yq_hasX h (br_t rfl ⟨rfl, rl_mk B C m1 m2 m3 m4⟩)
  have HX2 : (v1 < 0 ∨ nI 4 ≤ v1) → wpX_span (fun r u' => wpY_span (fun r' v' => r' = r ∧ i_Rel (k + 5) u' v') (yco, ypl, ysz, yus, yof, yre, ysa, ykd, ybh, yln, yhl, yvl, yks, yog, yvs, ypa, ysp, ytd, ywi, yun, ysd, you, yfr, ylf, yva, ysv, ywo, ysi, ywk, yph) v1 v2) (xds, xcc, xmi, xre, xpc, xpl, xtl, xsc, xou, xtk, xtv, xss, xts, xho, xfu, xfa, xfo, xpn, xpe, xpf, xqk, xqv, xqo, xqp, xqs, xqh, xwo, xsi) v1 v2 := by
    intro h
    unfold wpX_span
    refine xw_expandX h (br_c (fun _ => HX h) (fun h0 => ?_))
    exact br_t (Int32.le_trans (Int32.le_of_lt (show (-3 : Int32) < 0 by decide)) (Int32.not_lt.mp h0)) (HX h)
  rcases pk_ix v1 (n := 4) (by omega) with h | h | ⟨s, hs, rfl⟩
  · exact HX2 (Or.inl h)
  · exact HX2 (Or.inr h)
  · unfold wpX_span
    refine xq B hs ?_ ?_
    · intro e re pc pl tl fu fa fo pn pe pf qk qv qo
      have A : wpY_span (fun r' v' => r' = (-3 : Int32) ∧ i_Rel (k + 5) (xds, xcc, xmi, re, pc, pl, tl, xsc, xou, xtk, xtv, xss, xts, xho, fu, fa, fo, pn, pe, pf, qk, qv, qo, xqp, xqs, xqh, xwo, xsi) v') (yco, ypl, ysz, yus, yof, yre, ysa, ykd, ybh, yln, yhl, yvl, yks, yog, yvs, ypa, ysp, ytd, ywi, yun, ysd, you, yfr, ylf, yva, ysv, ywo, ysi, ywk, yph) (nI s) v2 := by
        unfold wpY_span
        exact yq_has B C hs (fun _ sz us ks og vs pa sp td wi un sd ou fr C' => br_t rfl ⟨rfl, rl_mk B C' m1 m2 m3 m4⟩) (fun nf n O e' => by rw [e] at e'; cases e')
      refine br_c (fun _ => A) (fun h0 => ?_)
      exact br_t (Int32.le_trans (Int32.le_of_lt (show (-2 : Int32) < 0 by decide)) (Int32.not_lt.mp h0)) A
    · intro nf n O e pc fu fa fo pn pe pf qk qv qo qp qs qh hO hL
      obtain ⟨b1, b2, b3, b4, b5⟩ := pm_exB B.1 hs e
      have A : (v2 < 0 ∨ nI n ≤ v2) → wpY_span (fun r' v' => r' = (-3 : Int32) ∧ i_Rel (k + 5) (xds, xcc, xmi, nI nf, pc, nI n, 0, xsc, xou, xtk, xtv, xss, xts, xho, fu, fa, fo, pn, pe, pf, qk, qv, qo, qp, qs, qh, xwo, xsi) v') (yco, ypl, ysz, yus, yof, yre, ysa, ykd, ybh, yln, yhl, yvl, yks, yog, yvs, ypa, ysp, ytd, ywi, yun, ysd, you, yfr, ylf, yva, ysv, ywo, ysi, ywk, yph) (nI s) v2 := by
        intro hz
        unfold wpY_span
        refine yq_has B C hs (fun e' => by rw [e] at e'; cases e') ?_
        intro nf' n' O' e' ks og vs pa sp td wi un sd ou fr C' yO hsp
        rw [e] at e'
        cases e'
        refine ⟨fun j hj ej => ?_, fun _ => br_t rfl ⟨rfl, rl_mk B C' m1 m2 m3 m4⟩⟩
        rw [ej] at hz
        exact absurd hz (by rw [not_or]; exact ⟨nI_pos (by omega), nI_ge hj (by omega)⟩)
      rcases pk_ix v2 (n := n) (by omega) with h2 | h2 | ⟨j, hj, rfl⟩
      · exact br_t h2 (A (Or.inl h2))
      · refine br_c (fun _ => A (Or.inr h2)) (fun h0 => ?_)
        exact br_t h2 (A (Or.inr h2))
      · refine br_f (nI_pos (by omega)) ?_
        refine br_f (nI_ge hj (by omega)) ⟨pk_in j 2000 (by omega), ?_⟩
        rw [nI_clamp (show j < 2 ^ 31 by omega)]
        unfold wpY_span
        refine yq_has B C hs (fun e' => by rw [e] at e'; cases e') ?_
        intro nf' n' O' e' ks og vs pa sp td wi un sd ou fr C' yO hsp
        rw [e] at e'
        cases e'
        refine ⟨fun j' hj' ej => br_f (by decide) ?_, fun hz => absurd hz (by rw [not_or]; exact ⟨nI_pos (by omega), nI_ge hj (by omega)⟩)⟩
        dsimp only
        rw [nI_clamp (show j < 2 ^ 31 by omega)]
        obtain ⟨o1, o2, o3⟩ := hO j hj
        obtain ⟨l1, l2, l3⟩ := hL (by omega) j hj
        obtain ⟨z1, z2, z3, z4⟩ := yO j hj
        refine ⟨pk_in j 2001 (by omega), ?_, rl_mk B C' m1 m2 m3 m4⟩
        rw [l1, hsp j hj]
end
section
variable {xds xcc xmi xre xpc xpl xtl xsc xou : Int32} {xtk xtv xss xts xho xfu xfa xfo xpn xpe xpf xqk xqv xqo xqp xqs xqh xwo xsi : Nat → Int32} {yco ypl ysz yus yof yre ysa : Int32} {ykd ybh yln yhl yvl yks yog yvs ypa ysp ytd ywi yun ysd you yfr ylf yva ysv ywo ysi ywk yph : Nat → Int32}
theorem i_vc_place {k : Nat} {u : SX} {v : SY} (I : i_Rel k u v) (hk : k + 5 ≤ 2560) : wpX_place (fun r => wpY_place (fun r' => r' = r ∧ i_Rel (k + 5) u v) v) u := by
  obtain ⟨xds, xcc, xmi, xre, xpc, xpl, xtl, xsc, xou, xtk, xtv, xss, xts, xho, xfu, xfa, xfo, xpn, xpe, xpf, xqk, xqv, xqo, xqp, xqs, xqh, xwo, xsi⟩ := u
  obtain ⟨yco, ypl, ysz, yus, yof, yre, ysa, ykd, ybh, yln, yhl, yvl, yks, yog, yvs, ypa, ysp, ytd, ywi, yun, ysd, you, yfr, ylf, yva, ysv, ywo, ysi, ywk, yph⟩ := v
  have I' := I
  obtain ⟨K, V, Hn, Len, nc, DK, DV, dn, B, C, m1, m2, m3, m4⟩ := I
  exact ⟨m1.symm, I'⟩
theorem i_vc_result {k : Nat} {u : SX} {v : SY} (I : i_Rel k u v) (hk : k + 5 ≤ 2560) : wpX_result (fun r => wpY_result (fun r' => r' = r ∧ i_Rel (k + 5) u v) v) u := by
  obtain ⟨xds, xcc, xmi, xre, xpc, xpl, xtl, xsc, xou, xtk, xtv, xss, xts, xho, xfu, xfa, xfo, xpn, xpe, xpf, xqk, xqv, xqo, xqp, xqs, xqh, xwo, xsi⟩ := u
  obtain ⟨yco, ypl, ysz, yus, yof, yre, ysa, ykd, ybh, yln, yhl, yvl, yks, yog, yvs, ypa, ysp, ytd, ywi, yun, ysd, you, yfr, ylf, yva, ysv, ywo, ysi, ywk, yph⟩ := v
  have I' := I
  obtain ⟨K, V, Hn, Len, nc, DK, DV, dn, B, C, m1, m2, m3, m4⟩ := I
  exact ⟨m3.symm, I'⟩
theorem i_vc_says {k : Nat} {u : SX} {v : SY} (I : i_Rel k u v) (hk : k + 5 ≤ 2560) : wpX_says (fun r => wpY_says (fun r' => r' = r ∧ i_Rel (k + 5) u v) v) u := by
  obtain ⟨xds, xcc, xmi, xre, xpc, xpl, xtl, xsc, xou, xtk, xtv, xss, xts, xho, xfu, xfa, xfo, xpn, xpe, xpf, xqk, xqv, xqo, xqp, xqs, xqh, xwo, xsi⟩ := u
  obtain ⟨yco, ypl, ysz, yus, yof, yre, ysa, ykd, ybh, yln, yhl, yvl, yks, yog, yvs, ypa, ysp, ytd, ywi, yun, ysd, you, yfr, ylf, yva, ysv, ywo, ysi, ywk, yph⟩ := v
  have I' := I
  obtain ⟨K, V, Hn, Len, nc, DK, DV, dn, B, C, m1, m2, m3, m4⟩ := I
  exact ⟨m2.symm, I'⟩
theorem i_vc_said {k : Nat} {u : SX} {v : SY} (I : i_Rel k u v) (hk : k + 5 ≤ 2560) (v1 : Int32) : wpX_said (fun r => wpY_said (fun r' => r' = r ∧ i_Rel (k + 5) u v) v v1) u v1 := by
  obtain ⟨xds, xcc, xmi, xre, xpc, xpl, xtl, xsc, xou, xtk, xtv, xss, xts, xho, xfu, xfa, xfo, xpn, xpe, xpf, xqk, xqv, xqo, xqp, xqs, xqh, xwo, xsi⟩ := u
  obtain ⟨yco, ypl, ysz, yus, yof, yre, ysa, ykd, ybh, yln, yhl, yvl, yks, yog, yvs, ypa, ysp, ytd, ywi, yun, ysd, you, yfr, ylf, yva, ysv, ywo, ysi, ywk, yph⟩ := v
  have I' := I
  obtain ⟨K, V, Hn, Len, nc, DK, DV, dn, B, C, m1, m2, m3, m4⟩ := I
  have HX : (v1 < 0 ∨ nI 20 ≤ v1) → wpY_said (fun r' => r' = 0 ∧ i_Rel (k + 5) (xds, xcc, xmi, xre, xpc, xpl, xtl, xsc, xou, xtk, xtv, xss, xts, xho, xfu, xfa, xfo, xpn, xpe, xpf, xqk, xqv, xqo, xqp, xqs, xqh, xwo, xsi) (yco, ypl, ysz, yus, yof, yre, ysa, ykd, ybh, yln, yhl, yvl, yks, yog, yvs, ypa, ysp, ytd, ywi, yun, ysd, you, yfr, ylf, yva, ysv, ywo, ysi, ywk, yph)) (yco, ypl, ysz, yus, yof, yre, ysa, ykd, ybh, yln, yhl, yvl, yks, yog, yvs, ypa, ysp, ytd, ywi, yun, ysd, you, yfr, ylf, yva, ysv, ywo, ysi, ywk, yph) v1 := by
    intro h
    unfold wpY_said
    exact yo_ex (N := 20) h (by omega) (br_f (by decide) ⟨rfl, I'⟩)
  unfold wpX_said
  rcases pk_ix v1 (n := 20) (by omega) with h | h | ⟨s, hs, rfl⟩
  · exact br_t h (HX (Or.inl h))
  · exact br_c (fun _ => HX (Or.inr h)) (fun _ => br_t h (HX (Or.inr h)))
  · refine br_f (nI_pos (by omega)) (pk_le 20 s (fun z => by omega) (fun _ => ?_))
    subst m2 m4
    unfold wpY_said
    refine br_c (fun h => ?_) (fun h => ⟨pk_in s 20 hs, ?_⟩)
    · exact yo_in (N := 20) hs (by omega) (br_t rfl (br_f (Int32.not_lt.mpr h) ⟨rfl, I'⟩))
    · exact yo_in (N := 20) hs (by omega) (br_t rfl (br_t (Int32.not_le.mp h) ⟨pk_in s 20 hs, rfl, I'⟩))
/-! token -/
def tk_ok (k : Nat) (v : Int32) : Prop := (k ≤ 10 ∨ 16 ≤ k) ∧ ((k = 1 ∨ k = 7) → ¬ v < -2 ∧ ¬ 9 < v) ∧ (k = 9 → ¬ v < 0 ∧ ¬ 3 ≤ v)
theorem tk_var {v : Int32} (h1 : ¬ v < -2) (h2 : ¬ 9 < v) : (∃ w, w < 10 ∧ v = nI w) ∨ v = -1 ∨ v = -2 := by
  by_cases h0 : v < 0
  · rw [Int32.lt_iff_toInt_lt] at h0 h1
    have e0 : (0 : Int32).toInt = 0 := by decide
    have e2 : ((-2 : Int32)).toInt = -2 := by decide
    have e1 : ((-1 : Int32)).toInt = -1 := by decide
    have : v.toInt = -1 ∨ v.toInt = -2 := by omega
    rcases this with h | h
    · exact Or.inr (Or.inl (Int32.toInt_inj.mp (by omega)))
    · exact Or.inr (Or.inr (Int32.toInt_inj.mp (by omega)))
  · obtain ⟨j, hj, rfl⟩ := nI_of h0
    refine Or.inl ⟨j, ?_, rfl⟩
    rw [show (9 : Int32) = nI 9 from rfl, nI_ltI (by omega) hj] at h2
    omega
theorem tk_hole {v : Int32} (h1 : ¬ v < 0) (h2 : ¬ 3 ≤ v) : ∃ w, w < 3 ∧ v = nI w := by
  obtain ⟨j, hj, rfl⟩ := nI_of h1
  refine ⟨j, ?_, rfl⟩
  rw [show (3 : Int32) = nI 3 from rfl, nI_leI (by omega) hj] at h2
  omega
theorem xw_isToken {post : Int32 → Prop} {k : Nat} {v : Int32} (hk : k < 22) (h1 : tk_ok k v → post 1) (h0 : ¬ tk_ok k v → post 0) : wpX_isToken post (nI k) v := by
  have H : (k = 1 ∨ k = 7) → wX_isToken_11 post v := by
    intro e
    unfold wX_isToken_11
    exact br_c (fun a => h0 (fun z => (z.2.1 e).1 a)) (fun a => br_c (fun b => h0 (fun z => (z.2.1 e).2 b)) (fun b => h1 ⟨by omega, fun _ => ⟨a, b⟩, fun y => by omega⟩))
  unfold wpX_isToken
  refine pk_eq k 1 (fun e => H (Or.inl e)) (fun n1 => pk_eq k 7 (fun e => H (Or.inr e)) (fun n7 => pk_eq k 9 (fun e => ?_) (fun n9 => ?_)))
  · exact br_c (fun a => h0 (fun z => (z.2.2 e).1 a)) (fun a => br_c (fun b => h0 (fun z => (z.2.2 e).2 b)) (fun b => h1 ⟨by omega, fun y => by omega, fun _ => ⟨a, b⟩⟩))
  · refine br_f (nI_pos (by omega)) (pk_le k 10 (fun e => h1 ⟨by omega, fun y => by omega, fun y => by omega⟩) (fun e => ?_))
    unfold wX_isToken_60
    refine xw_isUse (by omega) (fun a _ => br_f (by decide) (h1 ⟨by omega, fun y => by omega, fun y => by omega⟩)) (fun a => br_t rfl (h0 (fun z => ?_)))
    have := z.1
    omega
theorem xw_isTokenX {post : Int32 → Prop} {v1 v : Int32} (hv : v1 < 0 ∨ nI 22 ≤ v1) (h0 : post 0) : wpX_isToken post v1 v := by
  have n1 : ∀ a : Int32, ¬ a < 0 → ¬ nI 22 ≤ a → ¬ v1 = a := by
    intro a a1 a2 e
    rw [e] at hv
    rcases hv with h | h
    · exact a1 h
    · exact a2 h
  have H : wX_isToken_60 post v1 := by
    unfold wX_isToken_60 wpX_isUse
    rcases hv with h | h
    · exact br_t (Int32.lt_trans h (by decide)) (br_t rfl h0)
    · exact br_c (fun _ => br_t rfl h0) (fun _ => br_t h (br_t rfl h0))
  unfold wpX_isToken
  refine br_f (n1 1 (by decide) (by decide)) (br_f (n1 7 (by decide) (by decide)) (br_f (n1 9 (by decide) (by decide)) (br_c (fun _ => H) (fun h => br_f ?_ H))))
  rcases hv with h' | h'
  · exact absurd h' h
  · exact Int32.not_le.mpr (Int32.lt_of_lt_of_le (show (10 : Int32) < nI 22 by decide) h')
theorem xw_hasValue {post : Int32 → Prop} {k : Nat} (hk : k < 22) (h1 : tx_hv k → post 1) (h0 : ¬ tx_hv k → post 0) : wpX_hasValue post (nI k) := by
  unfold tx_hv at h1 h0
  unfold wpX_hasValue
  refine pk_eq k 0 (fun e => h1 (by omega)) (fun n0 => pk_eq k 1 (fun e => h1 (by omega)) (fun n1 => pk_eq k 7 (fun e => h1 (by omega)) (fun n7 => pk_eq k 9 (fun e => h1 (by omega)) (fun n9 => ?_))))
  exact xw_isUse (by omega) (fun a _ => br_f (by decide) (h1 (by omega))) (fun a => br_t rfl (h0 (by omega)))
theorem yw_token {post : Int32 → SY → Prop} {k : Nat} {v : Int32} (hk : k < 22) (h1 : tk_ok k v → wY_token_64 post (nI k) v yco ypl ysz yus yof yre ysa ykd ybh yln yhl yvl yks yog yvs ypa ysp ytd ywi yun ysd you yfr ylf yva ysv ywo ysi ywk yph) (h0 : ¬ tk_ok k v → post (-3) (yco, ypl, ysz, yus, yof, yre, ysa, ykd, ybh, yln, yhl, yvl, yks, yog, yvs, ypa, ysp, ytd, ywi, yun, ysd, you, yfr, ylf, yva, ysv, ywo, ysi, ywk, yph)) : wpY_token post (yco, ypl, ysz, yus, yof, yre, ysa, ykd, ybh, yln, yhl, yvl, yks, yog, yvs, ypa, ysp, ytd, ywi, yun, ysd, you, yfr, ylf, yva, ysv, ywo, ysi, ywk, yph) (nI k) v := by
  have H47 : (k ≤ 10 ∨ 16 ≤ k) → ((k = 1 ∨ k = 7) → ¬ v < -2 ∧ ¬ 9 < v) → wY_token_47 post (nI k) v yco ypl ysz yus yof yre ysa ykd ybh yln yhl yvl yks yog yvs ypa ysp ytd ywi yun ysd you yfr ylf yva ysv ywo ysi ywk yph := by
    intro a1 a2
    unfold wY_token_47
    refine pk_eq k 9 (fun e => ?_) (fun e => h1 ⟨a1, a2, fun y => absurd y e⟩)
    refine yw_out 3 (by omega) (fun j hj ej => br_t rfl (h1 ⟨a1, a2, fun _ => ?_⟩)) (fun hz => br_f (by decide) (h0 (fun z => ?_)))
    · rw [ej]
      exact ⟨nI_pos (by omega), nI_ge (b := 3) hj (by omega)⟩
    · have := z.2.2 e
      rcases hz with y | y
      · exact this.1 y
      · exact this.2 y
  have H24 : (k ≤ 10 ∨ 16 ≤ k) → wY_token_24 post (nI k) v yco ypl ysz yus yof yre ysa ykd ybh yln yhl yvl yks yog yvs ypa ysp ytd ywi yun ysd you yfr ylf yva ysv ywo ysi ywk yph := by
    intro a1
    have H35 : (k = 1 ∨ k = 7) → wY_token_35 post (nI k) v yco ypl ysz yus yof yre ysa ykd ybh yln yhl yvl yks yog yvs ypa ysp ytd ywi yun ysd you yfr ylf yva ysv ywo ysi ywk yph := by
      intro e
      unfold wY_token_35
      exact br_c (fun a => h0 (fun z => (z.2.1 e).1 a)) (fun a => br_c (fun b => h0 (fun z => (z.2.1 e).2 b)) (fun b => H47 a1 (fun _ => ⟨a, b⟩)))
    unfold wY_token_24
    exact pk_eq k 1 (fun e => H35 (Or.inl e)) (fun n1 => pk_eq k 7 (fun e => H35 (Or.inr e)) (fun n7 => H47 a1 (fun y => by omega)))
  unfold wpY_token
  refine yo_in (N := 22) hk (by omega) (br_t rfl (pk_le k 10 (fun e => H24 (Or.inl e)) (fun e => pk_le 16 k (fun y => H24 (Or.inr y)) (fun y => h0 (fun z => ?_)))))
  have := z.1
  omega
theorem rl_token {K : Nat → Nat} {V : Nat → Int32} {Hn Len : Nat → Nat} {nc : Nat} {DK : Nat → Nat} {DV : Nat → Int32} {dn k : Nat} {v z : Int32}
    (B : rl_B K V Hn Len nc DK DV dn xds xcc xtk xtv xss xts xho yco ykd ybh yln yhl yvl) (hk : k < 22) (hd : dn < 24) (h : tk_ok k v) (hz1 : tx_hv k → z = v) (hz0 : ¬ tx_hv k → z = 0) :
    rl_B K V Hn Len nc (pm_fu DK dn k) (pm_fu DV dn z) (dn+1) (nI (dn+1)) xcc (upd xtk (96 + dn) (nI k)) (upd xtv (96 + dn) z) xss xts xho yco (upd ykd (240 + dn) (nI k)) ybh (upd yln 10 (nI (dn+1))) yhl (upd yvl (240 + dn) v) := by
  obtain ⟨w, D, e1, e2, T, d1, s1, t1, hh1, e3, T2, d2, l10, l, h2⟩ := B
  have w0 := w.1
  refine ⟨w, ⟨by omega, ?_⟩, rfl, e2, ?_, ?_, s1, t1, hh1, e3, ?_, ?_, pk_us, ?_, h2⟩
  · intro i hi
    by_cases e : i = dn
    · subst e
      rw [pm_fs, pm_fs]
      obtain ⟨k1, k2, k3⟩ := h
      refine ⟨by omega, fun h9 => ?_, fun h17 => ?_, fun hv => hz0 ?_⟩
      · rw [hz1 (by unfold tx_hv; omega)]
        exact tk_hole (k3 h9).1 (k3 h9).2
      · rw [hz1 (by unfold tx_hv; omega)]
        exact tk_var (k2 h17).1 (k2 h17).2
      · unfold tx_hv
        omega
    · rw [pm_fn e, pm_fn e]
      exact D.2 i (by omega)
  · intro r hr j hj
    have l24 := (w.2 r hr).1
    have hne : xs_b r + j ≠ 96 + dn := by
      unfold tx_row at hr
      unfold xs_b
      split <;> omega
    rw [pk_un hne, pk_un hne]
    exact T r hr j hj
  · intro i hi
    by_cases e : i = dn
    · subst e
      rw [pm_fs, pm_fs, pk_us, pk_us]
      exact ⟨rfl, rfl⟩
    · rw [pm_fn e, pm_fn e, pk_un (by omega), pk_un (by omega)]
      exact d1 i (by omega)
  · intro r hr i h1 h2
    have l24 := (w.2 r hr).1
    have hne : i ≠ 240 + dn := by
      unfold tx_row at hr
      omega
    rw [pk_un hne, pk_un hne]
    exact T2 r hr i h1 h2
  · intro i hi
    by_cases e : i = dn
    · subst e
      rw [pm_fs, pm_fs, pk_us, pk_us]
      exact ⟨rfl, fun y => (hz1 y).symm⟩
    · rw [pm_fn e, pm_fn e, pk_un (by omega), pk_un (by omega)]
      exact d2 i (by omega)
  · intro c hc
    rw [pk_un (by omega)]
    exact l c hc
theorem i_vc_token {k : Nat} {u : SX} {v : SY} (I : i_Rel k u v) (hk : k + 5 ≤ 2560) (v1 : Int32) (v2 : Int32) : wpX_token (fun r u' => wpY_token (fun r' v' => r' = r ∧ i_Rel (k + 5) u' v') v v1 v2) u v1 v2 := by
  obtain ⟨xds, xcc, xmi, xre, xpc, xpl, xtl, xsc, xou, xtk, xtv, xss, xts, xho, xfu, xfa, xfo, xpn, xpe, xpf, xqk, xqv, xqo, xqp, xqs, xqh, xwo, xsi⟩ := u
  obtain ⟨yco, ypl, ysz, yus, yof, yre, ysa, ykd, ybh, yln, yhl, yvl, yks, yog, yvs, ypa, ysp, ytd, ywi, yun, ysd, you, yfr, ylf, yva, ysv, ywo, ysi, ywk, yph⟩ := v
  obtain ⟨K, V, Hn, Len, nc, DK, DV, dn, B, C, m1, m2, m3, m4⟩ := I
  rcases pk_ix v1 (n := 22) (by omega) with h | h | ⟨kd, hkd, rfl⟩
  · unfold wpX_token
    refine xw_isTokenX (Or.inl h) (br_t rfl ?_)
    unfold wpY_token
    exact yo_ex (N := 22) (Or.inl h) (by omega) (br_f (by decide) ⟨rfl, rl_mk B C m1 m2 m3 m4⟩)
  · unfold wpX_token
    refine xw_isTokenX (Or.inr h) (br_t rfl ?_)
    unfold wpY_token
    exact yo_ex (N := 22) (Or.inr h) (by omega) (br_f (by decide) ⟨rfl, rl_mk B C m1 m2 m3 m4⟩)
  · have B' := B
    obtain ⟨w, D, e1, e2, T, d1, s1, t1, hh1, e3, T2, d2, l10, l, h2⟩ := B
    subst e1
    have D1 := D.1
    unfold wpX_token
    refine xw_isToken hkd (fun ok => br_f (by decide) ?_) (fun nok => br_t rfl ?_)
    · refine pk_lt dn 24 (fun hd => ?_) (fun hd => ?_)
      · rw [show (96 : Int32) + nI dn = nI (96 + dn) from nI_add 96 dn, nI_clamp (show 96 + dn < 2 ^ 31 by omega)]
        refine ⟨pk_in (96 + dn) 192 (by omega), nm_e ?_⟩
        have N : ∀ z : Int32, (tx_hv kd → z = v2) → (¬ tx_hv kd → z = 0) → wX_token_59 (fun r u' => wpY_token (fun r' v' => r' = r ∧ i_Rel (k + 5) u' v') (yco, ypl, ysz, yus, yof, yre, ysa, ykd, ybh, yln, yhl, yvl, yks, yog, yvs, ypa, ysp, ytd, ywi, yun, ysd, you, yfr, ylf, yva, ysv, ywo, ysi, ywk, yph) (nI kd) v2) z (nI (96 + dn)) (nI dn) xcc xmi xre xpc xpl xtl xsc xou (upd xtk (96 + dn) (nI kd)) xtv xss xts xho xfu xfa xfo xpn xpe xpf xqk xqv xqo xqp xqs xqh xwo xsi := by
          intro z hz1 hz0
          unfold wX_token_59
          rw [nI_clamp (show 96 + dn < 2 ^ 31 by omega)]
          refine ⟨pk_in (96 + dn) 192 (by omega), nm_e (nm_r (nI_1 dn) ?_)⟩
          refine yw_token hkd (fun _ => ?_) (fun nok => absurd ok nok)
          unfold wY_token_64
          rw [l10]
          refine pk_eq dn 24 (fun y => by omega) (fun _ => ?_)
          rw [show (240 : Int32) + nI dn = nI (240 + dn) from nI_add 240 dn, nI_clamp (show 240 + dn < 2 ^ 31 by omega), nu_8 (show kd < 128 by omega), nu_v8 (show kd < 128 by omega), nI_1, nu_8 (show dn + 1 < 128 by omega), nu_v8 (show dn + 1 < 128 by omega)]
          refine ⟨pk_in (240 + dn) 264 (by omega), nm_e (nm_e ⟨pk_in (240 + dn) 264 (by omega), nm_e ⟨pk_us, ?_⟩⟩)⟩
          exact rl_mk (rl_token B' hkd hd ok hz1 hz0) C m1 m2 m3 m4
        exact xw_hasValue hkd (fun hv => br_f (by decide) (N _ (fun _ => rfl) (fun y => absurd hv y))) (fun hv => br_t rfl (N _ (fun y => absurd y hv) (fun _ => rfl)))
      · have e24 : dn = 24 := by omega
        refine yw_token hkd (fun _ => ?_) (fun nok => absurd ok nok)
        unfold wY_token_64
        rw [l10]
        exact pk_eq dn 24 (fun y => ⟨rfl, rl_mk B' C m1 m2 m3 m4⟩) (fun y => absurd e24 y)
    · exact yw_token hkd (fun ok => absurd ok nok) (fun _ => ⟨rfl, rl_mk B' C m1 m2 m3 m4⟩)
end
section
variable {xds xcc xmi xre xpc xpl xtl xsc xou : Int32} {xtk xtv xss xts xho xfu xfa xfo xpn xpe xpf xqk xqv xqo xqp xqs xqh xwo xsi : Nat → Int32} {yco ypl ysz yus yof yre ysa : Int32} {ykd ybh yln yhl yvl yks yog yvs ypa ysp ytd ywi yun ysd you yfr ylf yva ysv ywo ysi ywk yph : Nat → Int32}
theorem xs_b6 {s : Nat} : xs_b (6+s) = 24 * s := by
  unfold xs_b
  rw [if_neg (by omega)]; omega
theorem tx_K22 {K : Nat → Nat} {V : Nat → Int32} {Hn Len : Nat → Nat} {nc r i : Nat} (w : tx_WF K V Hn Len nc) (hp : tx_pos Len nc r i) : K i < 22 := by
  have x1 := (tx_tokE w hp).1
  have x2 := w.1
  unfold tx_lim at x1
  split at x1 <;> omega
theorem xw_used9 {post : Int32 → Prop} {J : Int32 → Prop} {K : Nat → Nat} {V : Nat → Int32} {Hn Len : Nat → Nat} {nc s c : Nat} (w : tx_WF K V Hn Len nc) (T : xs_T K V Len nc xtk xtv) (hS : ∀ c, c < 4 → xss c = nI (Len (6+c))) (hs : s < 4) (hc : c < 6)
    (h1 : ∀ i, i < Len (6+s) → K (24 * (6+s) + i) = 16 + c → post 1) (h0 : (∀ i, i < Len (6+s) → K (24 * (6+s) + i) ≠ 16 + c) → J (nI (s+1))) :
    ∀ (m j : Nat), j ≤ Len (6+s) → Len (6+s) < m + j → (∀ i, i < j → K (24 * (6+s) + i) ≠ 16 + c) → wX_isUsedInSources_9 post J (nI c) (nI s) xds xcc xmi xre xpc xpl xtl xsc xou xtk xtv xss xts xho xfu xfa xfo xpn xpe xpf xqk xqv xqo xqp xqs xqh xwo xsi m (nI j) := by
  have hr : tx_row nc (6+s) := Or.inr ⟨by omega, by omega⟩
  have l24 := (w.2 (6+s) hr).1
  intro m
  induction m with
  | zero => intro j a b; omega
  | succ m ih =>
    intro j a b L
    have ex : nI s * 24 + nI j = nI (24 * s + j) := by
      rw [show (24 : Int32) = nI 24 from rfl, pk_mul, nI_add, Nat.mul_comm]
    refine ⟨pk_in s 4 hs, ?_⟩
    rw [nI_clamp (show s < 2 ^ 31 by omega), hS s hs]
    refine pk_le (Len (6+s)) j (fun z => nm_r (nI_1 s) (h0 (fun i hi => L i (by omega)))) (fun z => ?_)
    rw [ex, nI_clamp (show 24 * s + j < 2 ^ 31 by omega)]
    have t1 := (T (6+s) hr j z).1
    rw [xs_b6] at t1
    have k22 := tx_K22 w (r := 6+s) (i := 24 * (6+s) + j) ⟨hr, by omega, by omega⟩
    rw [t1, show (16 : Int32) + nI c = nI (16 + c) from nI_add 16 c]
    refine ⟨vp_in_nI (by omega) (by omega), pk_eq (K (24 * (6+s) + j)) (16 + c) (fun e => h1 j z e) (fun e => nm_r (nI_1 j) (ih (j+1) (by omega) (by omega) ?_))⟩
    intro i hi
    by_cases ei : i = j
    · rw [ei]; exact e
    · exact L i (by omega)
theorem xw_used {post : Int32 → Prop} {K : Nat → Nat} {V : Nat → Int32} {Hn Len : Nat → Nat} {nc c : Nat} (w : tx_WF K V Hn Len nc) (T : xs_T K V Len nc xtk xtv) (hS : ∀ c, c < 4 → xss c = nI (Len (6+c))) (hc : c < 6)
    (h1 : ∀ s, s < 4 → ∀ i, i < Len (6+s) → K (24 * (6+s) + i) = 16 + c → post 1) (h0 : (∀ s, s < 4 → ∀ i, i < Len (6+s) → K (24 * (6+s) + i) ≠ 16 + c) → post 0) : wpX_isUsedInSources post (xds, xcc, xmi, xre, xpc, xpl, xtl, xsc, xou, xtk, xtv, xss, xts, xho, xfu, xfa, xfo, xpn, xpe, xpf, xqk, xqv, xqo, xqp, xqs, xqh, xwo, xsi) (nI c) := by
  have L : ∀ (m s : Nat), s ≤ 4 → 4 < m + s → (∀ s', s' < s → ∀ i, i < Len (6+s') → K (24 * (6+s') + i) ≠ 16 + c) → wX_isUsedInSources_2 post (nI c) xds xcc xmi xre xpc xpl xtl xsc xou xtk xtv xss xts xho xfu xfa xfo xpn xpe xpf xqk xqv xqo xqp xqs xqh xwo xsi m (nI s) := by
    intro m
    induction m with
    | zero => intro s a b; omega
    | succ m ih =>
      intro s a b L
      refine pk_le 4 s (fun z => h0 (fun s' hs' => L s' (by omega))) (fun z => ?_)
      refine ⟨Len (6+s) + 1, xw_used9 w T hS z hc (h1 s z) (fun A => ih (s+1) (by omega) (by omega) ?_) _ 0 (by omega) (by omega) (fun i hi => by omega)⟩
      intro s' hs'
      by_cases e : s' = s
      · rw [e]; exact A
      · exact L s' (by omega)
  unfold wpX_isUsedInSources
  exact ⟨5, L 5 0 (by omega) (by omega) (fun s' hs' => by omega)⟩
theorem yw_fg24 {post : Int32 → SY → Prop} {J : Int32 → Prop} {K : Nat → Nat} {V : Nat → Int32} {Hn Len : Nat → Nat} {nc s c : Nat} (w : tx_WF K V Hn Len nc) (T : ys_T K V Hn Len nc ykd ybh yvl) (hS : ∀ c, c < 10 → yln c = nI (Len c)) (hs : s < 4) (hc : c < 6)
    (h1 : ∀ i, i < Len (6+s) → K (24 * (6+s) + i) = 16 + c → post (-3) (nI (c+1), ypl, ysz, yus, yof, yre, ysa, ykd, ybh, yln, yhl, yvl, yks, yog, yvs, ypa, ysp, ytd, ywi, yun, ysd, you, yfr, ylf, yva, ysv, ywo, ysi, ywk, yph)) (h0 : (∀ i, i < Len (6+s) → K (24 * (6+s) + i) ≠ 16 + c) → J (nI (6+s+1))) :
    ∀ (m j : Nat), j ≤ Len (6+s) → Len (6+s) < m + j → (∀ i, i < j → K (24 * (6+s) + i) ≠ 16 + c) → wY_forget_24 post J (nI (6+s)) (nI (c+1)) ypl ysz yus yof yre ysa ykd ybh yln yhl yvl yks yog yvs ypa ysp ytd ywi yun ysd you yfr ylf yva ysv ywo ysi ywk yph m (nI (24 * (6+s) + j)) := by
  have hr : tx_row nc (6+s) := Or.inr ⟨by omega, by omega⟩
  have l24 := (w.2 (6+s) hr).1
  have ec : ((16 : Int32) + nI (c+1)) - 1 = nI (16 + c) := by
    rw [show (16 : Int32) + nI (c+1) = nI (16 + (c+1)) from nI_add 16 (c+1)]
    exact nI_pred (16 + c)
  intro m
  induction m with
  | zero => intro j a b; omega
  | succ m ih =>
    intro j a b L
    refine ⟨pk_in (6+s) 11 (by omega), ?_⟩
    rw [nI_clamp (show 6 + s < 2 ^ 31 by omega), hS (6+s) (by omega), show (24 : Int32) * nI (6+s) = nI (24 * (6+s)) from pk_mul 24 (6+s), nI_add]
    refine pk_le (24 * (6+s) + Len (6+s)) (24 * (6+s) + j) (fun z => nm_r (nI_1 _) (h0 (fun i hi => L i (by omega)))) (fun z => ?_)
    rw [nI_clamp (show 24 * (6+s) + j < 2 ^ 31 by omega), (T (6+s) hr _ (by omega) (show 24 * (6+s) + j < 24 * (6+s) + Len (6+s) by omega)).1, ec]
    have k22 := tx_K22 w (r := 6+s) (i := 24 * (6+s) + j) ⟨hr, by omega, by omega⟩
    refine ⟨vp_in_nI (by omega) (by omega), pk_eq (K (24 * (6+s) + j)) (16 + c) (fun e => h1 j (by omega) e) (fun e => nm_r (nI_1 _) (ih (j+1) (by omega) (by omega) ?_))⟩
    intro i hi
    by_cases ei : i = j
    · rw [ei]; exact e
    · exact L i (by omega)
theorem yw_forget {post : Int32 → SY → Prop} {K : Nat → Nat} {V : Nat → Int32} {Hn Len : Nat → Nat} {nc c : Nat} (w : tx_WF K V Hn Len nc) (T : ys_T K V Hn Len nc ykd ybh yvl) (hS : ∀ c, c < 10 → yln c = nI (Len c)) (hc : c < 6)
    (h1 : ∀ s, s < 4 → ∀ i, i < Len (6+s) → K (24 * (6+s) + i) = 16 + c → post (-3) (nI (c+1), ypl, ysz, yus, yof, yre, ysa, ykd, ybh, yln, yhl, yvl, yks, yog, yvs, ypa, ysp, ytd, ywi, yun, ysd, you, yfr, ylf, yva, ysv, ywo, ysi, ywk, yph)) (h0 : (∀ s, s < 4 → ∀ i, i < Len (6+s) → K (24 * (6+s) + i) ≠ 16 + c) → post (nI c) (nI c, ypl, ysz, yus, yof, yre, ysa, ykd, ybh, yln, yhl, yvl, yks, yog, yvs, ypa, ysp, ytd, ywi, yun, ysd, you, yfr, ylf, yva, ysv, ywo, ysi, ywk, yph)) : wpY_forget post (nI (c+1), ypl, ysz, yus, yof, yre, ysa, ykd, ybh, yln, yhl, yvl, yks, yog, yvs, ypa, ysp, ytd, ywi, yun, ysd, you, yfr, ylf, yva, ysv, ywo, ysi, ywk, yph) := by
  have L : ∀ (m s : Nat), s ≤ 4 → 4 < m + s → (∀ s', s' < s → ∀ i, i < Len (6+s') → K (24 * (6+s') + i) ≠ 16 + c) → wY_forget_13 post (nI (c+1)) ypl ysz yus yof yre ysa ykd ybh yln yhl yvl yks yog yvs ypa ysp ytd ywi yun ysd you yfr ylf yva ysv ywo ysi ywk yph m (nI (6+s)) := by
    intro m
    induction m with
    | zero => intro s a b; omega
    | succ m ih =>
      intro s a b L
      refine pk_le 10 (6+s) (fun z => ?_) (fun z => ?_)
      · rw [nI_pred]
        exact nm_e (h0 (fun s' hs' => L s' (by omega)))
      · have hs : s < 4 := by omega
        refine nm_r (show (24 : Int32) * nI (6+s) = nI (24 * (6+s) + 0) from pk_mul 24 (6+s)) ⟨Len (6+s) + 1, yw_fg24 w T hS hs hc (h1 s hs) (fun A => ih (s+1) (by omega) (by omega) ?_) _ 0 (by omega) (by omega) (fun i hi => by omega)⟩
        intro s' hs'
        by_cases e : s' = s
        · rw [e]; exact A
        · exact L s' (by omega)
  unfold wpY_forget
  exact pk_eq (c+1) 0 (fun z => by omega) (fun _ => ⟨5, L 5 0 (by omega) (by omega) (fun s' hs' => by omega)⟩)
theorem i_vc_forget {k : Nat} {u : SX} {v : SY} (I : i_Rel k u v) (hk : k + 5 ≤ 2560) : wpX_forget (fun r u' => wpY_forget (fun r' v' => r' = r ∧ i_Rel (k + 5) u' v') v) u := by
  obtain ⟨xds, xcc, xmi, xre, xpc, xpl, xtl, xsc, xou, xtk, xtv, xss, xts, xho, xfu, xfa, xfo, xpn, xpe, xpf, xqk, xqv, xqo, xqp, xqs, xqh, xwo, xsi⟩ := u
  obtain ⟨yco, ypl, ysz, yus, yof, yre, ysa, ykd, ybh, yln, yhl, yvl, yks, yog, yvs, ypa, ysp, ytd, ywi, yun, ysd, you, yfr, ylf, yva, ysv, ywo, ysi, ywk, yph⟩ := v
  obtain ⟨K, V, Hn, Len, nc, DK, DV, dn, B, C, m1, m2, m3, m4⟩ := I
  have B' := B
  obtain ⟨w, D, e1, e2, T, d1, s1, t1, hh1, e3, T2, d2, l10, l, h2⟩ := B
  subst e2 e3
  have w0 := w.1
  unfold wpX_forget
  cases nc with
  | zero =>
    refine nm_e (br_t (by decide) ?_)
    unfold wpY_forget
    exact br_t rfl ⟨rfl, rl_mk B' C m1 m2 m3 m4⟩
  | succ c =>
    refine nm_r (nI_pred c) (br_f (nI_pos (by omega)) ?_)
    refine xw_used w T s1 (by omega) ?_ ?_
    · intro s hs i hi e
      refine br_f (by decide) ?_
      exact yw_forget w T2 l (by omega) (fun _ _ _ _ _ => ⟨rfl, rl_mk B' C m1 m2 m3 m4⟩) (fun A => absurd e (A s hs i hi))
    · intro A
      refine br_t rfl ?_
      refine yw_forget w T2 l (by omega) (fun s hs i hi e => absurd e (A s hs i hi)) (fun _ => ⟨rfl, ?_⟩)
      refine rl_mk (nc := c) ⟨tx_forgot w A, D, e1, rfl, ?_, d1, s1, t1, hh1, rfl, ?_, d2, l10, l, h2⟩ C m1 m2 m3 m4
      · intro r hr
        exact T r (by unfold tx_row at hr ⊢; omega)
      · intro r hr
        exact T2 r (by unfold tx_row at hr ⊢; omega)
end
section
variable {xds xcc xmi xre xpc xpl xtl xsc xou : Int32} {xtk xtv xss xts xho xfu xfa xfo xpn xpe xpf xqk xqv xqo xqp xqs xqh xwo xsi : Nat → Int32} {yco ypl ysz yus yof yre ysa : Int32} {ykd ybh yln yhl yvl yks yog yvs ypa ysp ytd ywi yun ysd you yfr ylf yva ysv ywo ysi ywk yph : Nat → Int32}
def ft_i (R : Option Nat) : Int32 := match R with
  | none => -1
  | some r => nI r
theorem ft_neg {R : Option Nat} (h : ∀ r, R = some r → r < 2 ^ 31) : ft_i R < 0 ↔ R = none := by
  cases R with
  | none => exact ⟨fun _ => rfl, fun _ => by show (-1 : Int32) < 0; decide⟩
  | some r => exact ⟨fun z => absurd z (nI_pos (h r rfl)), fun z => by cases z⟩
theorem dr_T1 {DK : Nat → Nat} {DV : Nat → Int32} {nc h i : Nat} (a : i < 12) (b : DK i = 9 → DV i < nI h) (c : 16 ≤ DK i → DK i - 16 < nc) : dr_bT DK DV nc h i = true := decide_eq_true ⟨a, b, c⟩
theorem dr_T0 {DK : Nat → Nat} {DV : Nat → Int32} {nc h i : Nat} (a : ¬ (i < 12 ∧ (DK i = 9 → DV i < nI h) ∧ (16 ≤ DK i → DK i - 16 < nc))) : dr_bT DK DV nc h i = false := decide_eq_false a
theorem dr_S1 {DK : Nat → Nat} {DV : Nat → Int32} {nc i : Nat} (a : (DK i = 1 ∨ DK i = 7) → 0 ≤ DV i) (b : DK i ≠ 9) (c : DK i ≠ 10) (d : 16 ≤ DK i → DK i - 16 < nc) : dr_bS DK DV nc i = true := decide_eq_true ⟨a, b, c, d⟩
theorem dr_S0 {DK : Nat → Nat} {DV : Nat → Int32} {nc i : Nat} (a : ¬ (((DK i = 1 ∨ DK i = 7) → 0 ≤ DV i) ∧ DK i ≠ 9 ∧ DK i ≠ 10 ∧ (16 ≤ DK i → DK i - 16 < nc))) : dr_bS DK DV nc i = false := decide_eq_false a
theorem xw_fitsT {post : Int32 → Prop} {DK : Nat → Nat} {DV : Nat → Int32} {nc h k : Nat} (hk : k < 24) (hK : DK k < 22) (hnc : nc ≤ 6) (t1 : xtk (96 + k) = nI (DK k)) (t2 : xtv (96 + k) = DV k)
    (h1 : dr_bT DK DV nc h k = true → post 1) (h0 : dr_bT DK DV nc h k = false → post 0) : wpX_fitsTemplate post (xds, nI nc, xmi, xre, xpc, xpl, xtl, xsc, xou, xtk, xtv, xss, xts, xho, xfu, xfa, xfo, xpn, xpe, xpf, xqk, xqv, xqo, xqp, xqs, xqh, xwo, xsi) (nI k) (nI h) := by
  unfold wpX_fitsTemplate
  dsimp only
  rw [show (96 : Int32) + nI k = nI (96 + k) from nI_add 96 k, nI_clamp (show 96 + k < 2 ^ 31 by omega), t1, t2]
  have i1 : vp_in (nI (96 + k)) 192 := pk_in (96 + k) 192 (by omega)
  refine ⟨i1, nm_e (pk_lt k 12 (fun k12 => ?_) (fun k12 => h0 (dr_T0 (fun z => by omega))))⟩
  refine pk_eq (DK k) 9 (fun e => ⟨i1, br_c (fun y => h0 (dr_T0 (fun z => absurd (z.2.1 e) (Int32.not_lt.mpr y)))) (fun y => h1 (dr_T1 k12 (fun _ => Int32.not_le.mp y) (fun z => by omega)))⟩) (fun n9 => ?_)
  refine xw_isUse (by omega) (fun a _ => br_f (by decide) ?_) (fun a => br_t rfl (h1 (dr_T1 k12 (fun z => absurd z n9) (fun z => absurd ⟨z, hK⟩ a))))
  rw [show nI (DK k) - 16 = nI (DK k - 16) from pk_sub (b := 16) a]
  exact pk_le nc (DK k - 16) (fun y => h0 (dr_T0 (fun z => by have := z.2.2 a; omega))) (fun y => h1 (dr_T1 k12 (fun z => absurd z n9) (fun _ => y)))
theorem xw_fitsS {post : Int32 → Prop} {DK : Nat → Nat} {DV : Nat → Int32} {nc k : Nat} (hk : k < 24) (hK : DK k < 22) (hnc : nc ≤ 6) (t1 : xtk (96 + k) = nI (DK k)) (t2 : xtv (96 + k) = DV k)
    (h1 : dr_bS DK DV nc k = true → post 1) (h0 : dr_bS DK DV nc k = false → post 0) : wpX_fitsSource post (xds, nI nc, xmi, xre, xpc, xpl, xtl, xsc, xou, xtk, xtv, xss, xts, xho, xfu, xfa, xfo, xpn, xpe, xpf, xqk, xqv, xqo, xqp, xqs, xqh, xwo, xsi) (nI k) := by
  have i1 : vp_in (nI (96 + k)) 192 := pk_in (96 + k) 192 (by omega)
  have H : (DK k = 1 ∨ DK k = 7) → wX_fitsSource_21 post (nI k) xds (nI nc) xmi xre xpc xpl xtl xsc xou xtk xtv xss xts xho xfu xfa xfo xpn xpe xpf xqk xqv xqo xqp xqs xqh xwo xsi := by
    intro e
    unfold wX_fitsSource_21
    rw [show (96 : Int32) + nI k = nI (96 + k) from nI_add 96 k, nI_clamp (show 96 + k < 2 ^ 31 by omega), t2]
    exact ⟨i1, br_c (fun y => h0 (dr_S0 (fun z => absurd y (Int32.not_lt.mpr (z.1 e))))) (fun y => h1 (dr_S1 (fun _ => Int32.not_lt.mp y) (by omega) (by omega) (by omega)))⟩
  unfold wpX_fitsSource
  dsimp only
  rw [show (96 : Int32) + nI k = nI (96 + k) from nI_add 96 k, nI_clamp (show 96 + k < 2 ^ 31 by omega), t1]
  refine ⟨i1, nm_e (pk_eq (DK k) 1 (fun e => H (Or.inl e)) (fun n1 => pk_eq (DK k) 7 (fun e => H (Or.inr e)) (fun n7 => ?_)))⟩
  refine xw_isUse (by omega) (fun a _ => br_f (by decide) ?_) (fun a => br_t rfl (pk_eq (DK k) 9 (fun e => h0 (dr_S0 (fun z => z.2.1 e))) (fun n9 => pk_eq (DK k) 10 (fun e => h0 (dr_S0 (fun z => z.2.2.1 e))) (fun n10 => h1 (dr_S1 (fun z => by omega) n9 n10 (fun z => absurd ⟨z, hK⟩ a))))))
  rw [show nI (DK k) - 16 = nI (DK k - 16) from pk_sub (b := 16) a]
  exact pk_le nc (DK k - 16) (fun y => h0 (dr_S0 (fun z => by have := z.2.2.2 a; omega))) (fun y => h1 (dr_S1 (fun z => by omega) (by omega) (by omega) (fun _ => y)))
theorem xw_fault {post : Int32 → Prop} {DK : Nat → Nat} {Hn : Nat → Nat} {dn : Nat} {x1 x2 : Int32} {fit : Nat → Bool} (hd : dn ≤ 24) (hH : ∀ c, c < 6 → xho c = nI (Hn c)) (h22 : ∀ i, i < dn → DK i < 22) (t1 : ∀ i, i < dn → xtk (96 + i) = nI (DK i))
    (h3 : ∀ i, i < dn → fit i = true → tx_a Hn (DK i) ≤ 3)
    (hfit : ∀ (k : Nat) (p : Int32 → Prop), k < dn → (fit k = true → p 1) → (fit k = false → p 0) → (x1 = 0 → wpX_fitsSource p (nI dn, xcc, xmi, xre, xpc, xpl, xtl, xsc, xou, xtk, xtv, xss, xts, xho, xfu, xfa, xfo, xpn, xpe, xpf, xqk, xqv, xqo, xqp, xqs, xqh, xwo, xsi) (nI k)) ∧ (¬ x1 = 0 → wpX_fitsTemplate p (nI dn, xcc, xmi, xre, xpc, xpl, xtl, xsc, xou, xtk, xtv, xss, xts, xho, xfu, xfa, xfo, xpn, xpe, xpf, xqk, xqv, xqo, xqp, xqs, xqh, xwo, xsi) (nI k) x2)) :
    ∀ (m d k o : Nat), k + d = dn → d < m → o ≤ 1 + 2 * k → post (ft_i (fd_go fit (fun i => tx_a Hn (DK i)) dn d k o)) → wX_faultOfDraft_5 post x1 x2 (nI dn) xcc xmi xre xpc xpl xtl xsc xou xtk xtv xss xts xho xfu xfa xfo xpn xpe xpf xqk xqv xqo xqp xqs xqh xwo xsi m (nI o) (nI k) := by
  intro m
  induction m with
  | zero => intro d k o a b; omega
  | succ m ih =>
    intro d k o a b c h
    cases d with
    | zero =>
      rw [fd_go] at h
      refine pk_le dn k (fun z => pk_eq o 0 (fun e => ?_) (fun e => ?_)) (fun z => by omega)
      · rw [if_pos e] at h; exact h
      · rw [if_neg e] at h; exact h
    | succ d =>
      rw [fd_go] at h
      refine pk_le dn k (fun z => by omega) (fun z => hfit k _ z (fun ft => ?_) (fun ft => ?_))
      · unfold wX_faultOfDraft_34
        refine pk_eq o 0 (fun e => ?_) (fun e => br_f (by decide) ?_)
        · rw [if_pos (Or.inl e)] at h; exact h
        · rw [if_neg (by rw [ft]; intro y; rcases y with y | y; exact e y; cases y)] at h
          rw [show (96 : Int32) + nI k = nI (96 + k) from nI_add 96 k, nI_clamp (show 96 + k < 2 ^ 31 by omega), t1 k z]
          refine ⟨pk_in (96 + k) 192 (by omega), xw_ops (h22 k z) hH (nm_r (nu_open (by omega)) (nm_r (nI_1 k) ?_))⟩
          have := h3 k z ft
          exact ih d (k+1) _ (by omega) (by omega) (by omega) h
      · unfold wX_faultOfDraft_34
        rw [if_pos (Or.inr ft)] at h
        exact br_c (fun _ => h) (fun _ => br_t rfl h)
theorem yw_fitsT {post : Int32 → Prop} {DK : Nat → Nat} {DV : Nat → Int32} {nc h k : Nat} (hk : k < 24) (hK : DK k < 22) (hK2 : DK k ≤ 10 ∨ 16 ≤ DK k) (hnc : nc ≤ 6) (hh : h < 4) (t1 : ykd (240 + k) = nI (DK k)) (t2 : tx_hv (DK k) → yvl (240 + k) = DV k)
    (h1 : dr_bT DK DV nc h k = true → post 1) (h0 : dr_bT DK DV nc h k = false → post 0) : wpY_fits post (nI nc, ypl, ysz, yus, yof, yre, ysa, ykd, ybh, yln, yhl, yvl, yks, yog, yvs, ypa, ysp, ytd, ywi, yun, ysd, you, yfr, ylf, yva, ysv, ywo, ysi, ywk, yph) (nI k) (nI h) := by
  unfold wpY_fits
  dsimp only
  rw [show (240 : Int32) + nI k = nI (240 + k) from nI_add 240 k, nI_clamp (show 240 + k < 2 ^ 31 by omega), t1]
  have i1 : vp_in (nI (240 + k)) 264 := pk_in (240 + k) 264 (by omega)
  refine ⟨i1, nm_e ⟨i1, nm_e (pk_lt (DK k) 16 (fun a => br_f (nI_pos (by omega)) (pk_le 12 k (fun y => h0 (dr_T0 (fun z => by omega))) (fun k12 => ?_))) (fun a => ?_))⟩⟩
  · refine pk_eq (DK k) 9 (fun e => ?_) (fun n9 => h1 (dr_T1 k12 (fun z => absurd z n9) (fun z => by omega)))
    rw [t2 (by unfold tx_hv; omega)]
    exact br_c (fun y => h0 (dr_T0 (fun z => absurd (z.2.1 e) (Int32.not_lt.mpr y)))) (fun y => h1 (dr_T1 k12 (fun _ => Int32.not_le.mp y) (fun z => by omega)))
  · rw [show nI (DK k) - 16 = nI (DK k - 16) from pk_sub (b := 16) a]
    refine pk_le nc (DK k - 16) (fun y => h0 (dr_T0 (fun z => by have := z.2.2 a; omega))) (fun y => br_f (nI_pos (by omega)) (pk_le 12 k (fun x => h0 (dr_T0 (fun z => by omega))) (fun k12 => h1 (dr_T1 k12 (fun z => by omega) (fun _ => y)))))
theorem yw_fitsS {post : Int32 → Prop} {DK : Nat → Nat} {DV : Nat → Int32} {nc k : Nat} (hk : k < 24) (hK : DK k < 22) (hK2 : DK k ≤ 10 ∨ 16 ≤ DK k) (hnc : nc ≤ 6) (t1 : ykd (240 + k) = nI (DK k)) (t2 : tx_hv (DK k) → yvl (240 + k) = DV k)
    (h1 : dr_bS DK DV nc k = true → post 1) (h0 : dr_bS DK DV nc k = false → post 0) : wpY_fits post (nI nc, ypl, ysz, yus, yof, yre, ysa, ykd, ybh, yln, yhl, yvl, yks, yog, yvs, ypa, ysp, ytd, ywi, yun, ysd, you, yfr, ylf, yva, ysv, ywo, ysi, ywk, yph) (nI k) (-1) := by
  unfold wpY_fits
  dsimp only
  rw [show (240 : Int32) + nI k = nI (240 + k) from nI_add 240 k, nI_clamp (show 240 + k < 2 ^ 31 by omega), t1]
  have i1 : vp_in (nI (240 + k)) 264 := pk_in (240 + k) 264 (by omega)
  have H : (DK k = 1 ∨ DK k = 7) → wY_fits_101 post (yvl (240 + k)) (nI nc) ypl ysz yus yof yre ysa ykd ybh yln yhl yvl yks yog yvs ypa ysp ytd ywi yun ysd you yfr ylf yva ysv ywo ysi ywk yph := by
    intro e
    unfold wY_fits_101
    rw [t2 (by unfold tx_hv; omega)]
    exact br_c (fun y => h0 (dr_S0 (fun z => absurd y (Int32.not_lt.mpr (z.1 e))))) (fun y => h1 (dr_S1 (fun _ => Int32.not_lt.mp y) (by omega) (by omega) (by omega)))
  refine ⟨i1, nm_e ⟨i1, nm_e (pk_lt (DK k) 16 (fun a => br_t (by decide) (pk_le 9 (DK k) (fun y => h0 (dr_S0 (fun z => by omega))) (fun n9 => pk_eq (DK k) 1 (fun e => H (Or.inl e)) (fun n1 => pk_eq (DK k) 7 (fun e => H (Or.inr e)) (fun n7 => h1 (dr_S1 (fun z => by omega) (by omega) (by omega) (by omega))))))) (fun a => ?_))⟩⟩
  rw [show nI (DK k) - 16 = nI (DK k - 16) from pk_sub (b := 16) a]
  exact pk_le nc (DK k - 16) (fun y => h0 (dr_S0 (fun z => by have := z.2.2.2 a; omega))) (fun y => br_t (by decide) (h1 (dr_S1 (fun z => by omega) (by omega) (by omega) (fun _ => y))))
theorem yw_check {post : Int32 → Prop} {DK : Nat → Nat} {Hn : Nat → Nat} {dn : Nat} {x1 : Int32} {fit : Nat → Bool} (hd : dn ≤ 24) (hH : ∀ c, c < 6 → yhl c = nI (Hn c)) (h22 : ∀ i, i < dn → DK i < 22) (t1 : ∀ i, i < dn → ykd (240 + i) = nI (DK i)) (l10 : yln 10 = nI dn)
    (h3 : ∀ i, i < dn → fit i = true → tx_a Hn (DK i) ≤ 3)
    (hfit : ∀ (k : Nat) (p : Int32 → Prop), k < dn → (fit k = true → p 1) → (fit k = false → p 0) → wpY_fits p (yco, ypl, ysz, yus, yof, yre, ysa, ykd, ybh, yln, yhl, yvl, yks, yog, yvs, ypa, ysp, ytd, ywi, yun, ysd, you, yfr, ylf, yva, ysv, ywo, ysi, ywk, yph) (nI k) x1) :
    ∀ (m d k o : Nat), k + d = dn → d < m → o ≤ 1 + 2 * k → post (ft_i (fd_go fit (fun i => tx_a Hn (DK i)) dn d k o)) → wY_check_4 post x1 yco ypl ysz yus yof yre ysa ykd ybh yln yhl yvl yks yog yvs ypa ysp ytd ywi yun ysd you yfr ylf yva ysv ywo ysi ywk yph m (nI o) (nI k) := by
  intro m
  induction m with
  | zero => intro d k o a b; omega
  | succ m ih =>
    intro d k o a b c h
    unfold wY_check_4
    rw [l10]
    cases d with
    | zero =>
      rw [fd_go] at h
      refine pk_le dn k (fun z => pk_le o 0 (fun e => ?_) (fun e => ?_)) (fun z => by omega)
      · rw [if_pos (by omega)] at h; exact h
      · rw [if_neg (by omega)] at h; exact h
    | succ d =>
      rw [fd_go] at h
      refine pk_le dn k (fun z => by omega) (fun z => pk_eq o 0 (fun e => ?_) (fun e => hfit k _ z (fun ft => br_f (by decide) ?_) (fun ft => br_t rfl ?_)))
      · rw [if_pos (Or.inl e)] at h; exact h
      · rw [if_neg (by rw [ft]; intro y; rcases y with y | y; exact e y; cases y)] at h
        rw [show (240 : Int32) + nI k = nI (240 + k) from nI_add 240 k, nI_clamp (show 240 + k < 2 ^ 31 by omega), t1 k z]
        refine ⟨pk_in (240 + k) 264 (by omega), yw_ops (h22 k z) hH (nm_r (nu_open (by omega)) (nm_r (nI_1 k) ?_))⟩
        have := h3 k z ft
        exact ih d (k+1) _ (by omega) (by omega) (by omega) h
      · rw [if_pos (Or.inr ft)] at h
        exact h
end
section
variable {xds xcc xmi xre xpc xpl xtl xsc xou : Int32} {xtk xtv xss xts xho xfu xfa xfo xpn xpe xpf xqk xqv xqo xqp xqs xqh xwo xsi : Nat → Int32} {yco ypl ysz yus yof yre ysa : Int32} {ykd ybh yln yhl yvl yks yog yvs ypa ysp ytd ywi yun ysd you yfr ylf yva ysv ywo ysi ywk yph : Nat → Int32}
theorem xw_move {post : SX → Prop} {dn to : Nat} (hd : dn ≤ 24) (ht : to + dn ≤ 96 ∨ (120 ≤ to ∧ to + dn ≤ 192))
    (h : ∀ (tk tv : Nat → Int32), (∀ j, j < dn → tk (to + j) = xtk (96 + j) ∧ tv (to + j) = xtv (96 + j)) → (∀ i, (i < to ∨ to + dn ≤ i) → tk i = xtk i ∧ tv i = xtv i) → post (0, xcc, xmi, xre, xpc, xpl, xtl, xsc, xou, tk, tv, xss, xts, xho, xfu, xfa, xfo, xpn, xpe, xpf, xqk, xqv, xqo, xqp, xqs, xqh, xwo, xsi)) :
    wpX_moveDraft post (nI dn, xcc, xmi, xre, xpc, xpl, xtl, xsc, xou, xtk, xtv, xss, xts, xho, xfu, xfa, xfo, xpn, xpe, xpf, xqk, xqv, xqo, xqp, xqs, xqh, xwo, xsi) (nI to) := by
  have L : ∀ (m k : Nat) (tk tv : Nat → Int32), k ≤ dn → dn < m + k → (∀ j, j < k → tk (to + j) = xtk (96 + j) ∧ tv (to + j) = xtv (96 + j)) → (∀ i, (i < to ∨ to + k ≤ i) → tk i = xtk i ∧ tv i = xtv i) →
      wX_moveDraft_2 post (nI to) (nI dn) xcc xmi xre xpc xpl xtl xsc xou m (nI k) tk tv xss xts xho xfu xfa xfo xpn xpe xpf xqk xqv xqo xqp xqs xqh xwo xsi := by
    intro m
    induction m with
    | zero => intro k tk tv a b; omega
    | succ m ih =>
      intro k tk tv a b L1 L2
      refine pk_le dn k (fun z => ?_) (fun z => ?_)
      · have e : k = dn := by omega
        subst e
        exact h tk tv L1 L2
      · rw [show (96 : Int32) + nI k = nI (96 + k) from nI_add 96 k, nI_add, nI_clamp (show 96 + k < 2 ^ 31 by omega), nI_clamp (show to + k < 2 ^ 31 by omega)]
        have i1 : vp_in (nI (96 + k)) 192 := pk_in (96 + k) 192 (by omega)
        have i2 : vp_in (nI (to + k)) 192 := pk_in (to + k) 192 (by omega)
        obtain ⟨f1, f2⟩ := L2 (96 + k) (by omega)
        refine ⟨i1, ⟨i2, nm_e ⟨i1, ⟨i2, nm_e (nm_r (nI_1 k) (ih (k+1) _ _ (by omega) (by omega) ?_ ?_))⟩⟩⟩⟩
        · intro j hj
          by_cases e : j = k
          · subst e
            rw [pk_us, pk_us]
            exact ⟨f1, f2⟩
          · rw [pk_un (by omega), pk_un (by omega)]
            exact L1 j (by omega)
        · intro i hi
          rw [pk_un (by omega), pk_un (by omega)]
          exact L2 i (by omega)
  unfold wpX_moveDraft
  exact ⟨dn + 1, L (dn+1) 0 _ _ (by omega) (by omega) (fun j hj => by omega) (fun i _ => ⟨rfl, rfl⟩)⟩
theorem gx_opL {a : Nat → Nat} {d i : Nat} (g : gx_ok a d 1 i) (hd : d ≤ 2500) : gx_op a (i+1) (a i) = gx_en a i ∧ gx_en a i = i + d := by
  have e := gx_enE g hd
  have h0 := gx_pos g
  obtain ⟨d', rfl⟩ : ∃ d', d = d' + 1 := ⟨d - 1, by omega⟩
  have d5 := g.2
  rw [Nat.sub_self, Nat.zero_add] at d5
  obtain ⟨dk, k1, k2, k3, k4⟩ := gx_opE _ (i+1) (a i) d' _ d5 (by omega) (Nat.le_refl _)
  rw [Nat.sub_self] at k4
  have := gx_det _ _ _ _ _ k4 (gx_00 _ _)
  refine ⟨?_, e⟩
  rw [k1, e]
  omega
theorem gx_opK {a : Nat → Nat} {d i o : Nat} (g : gx_ok a d 1 i) (hd : d ≤ 2500) (ho : o < a i) : i < gx_op a (i+1) o ∧ gx_op a (i+1) o < i + d ∧ a i ≤ d := by
  have h0 := gx_pos g
  obtain ⟨d', rfl⟩ : ∃ d', d = d' + 1 := ⟨d - 1, by omega⟩
  have d5 := g.2
  rw [Nat.sub_self, Nat.zero_add] at d5
  obtain ⟨dk, k1, k2, k3, k4⟩ := gx_opE _ (i+1) o d' _ d5 (by omega) (by omega)
  have e4 : a i - o = (a i - o - 1) + 1 := by omega
  rw [e4] at k4
  have k5 := gx_pos k4
  have k6 := gx_cd _ _ _ _ d5
  rw [k1]
  omega
theorem yw_store {post : SY → Prop} {DK : Nat → Nat} {Hn : Nat → Nat} {dn row : Nat} (hd : dn ≤ 24) (hr : row < 10) (hH : ∀ c, c < 6 → yhl c = nI (Hn c)) (h22 : ∀ i, i < dn → DK i < 22) (t1 : ∀ i, i < dn → ykd (240 + i) = nI (DK i)) (l10 : yln 10 = nI dn)
    (g : 0 < dn → gx_ok (fun i => tx_a Hn (DK i)) dn 1 0)
    (h : ∀ (kd bh vl : Nat → Int32), (∀ j, j < dn → kd (24 * row + j) = nI (DK j) ∧ vl (24 * row + j) = yvl (240 + j) ∧ bh (24 * row + j) = nI (gx_en (fun i => tx_a Hn (DK i)) j)) →
      (∀ i, (i < 24 * row ∨ 24 * row + dn ≤ i) → kd i = ykd i ∧ vl i = yvl i ∧ bh i = ybh i) → post (yco, ypl, ysz, yus, -1, yre, ysa, kd, bh, upd (upd yln row (nI dn)) 10 0, yhl, vl, yks, yog, yvs, ypa, ysp, ytd, ywi, yun, ysd, you, yfr, ylf, yva, ysv, ywo, ysi, ywk, yph)) :
    wpY_store post (yco, ypl, ysz, yus, yof, yre, ysa, ykd, ybh, yln, yhl, yvl, yks, yog, yvs, ypa, ysp, ytd, ywi, yun, ysd, you, yfr, ylf, yva, ysv, ywo, ysi, ywk, yph) (nI row) := by
  have L : ∀ (m q : Nat) (kd bh vl : Nat → Int32), q < m → q ≤ dn → (∀ j, q ≤ j → j < dn → kd (24 * row + j) = nI (DK j) ∧ vl (24 * row + j) = yvl (240 + j) ∧ bh (24 * row + j) = nI (gx_en (fun i => tx_a Hn (DK i)) j)) →
      (∀ i, (i < 24 * row + q ∨ 24 * row + dn ≤ i) → kd i = ykd i ∧ vl i = yvl i ∧ bh i = ybh i) →
      wY_store_20 post (nI row) yco ypl ysz yus yof yre ysa m (ys_i q) kd bh (upd yln row (nI dn)) yhl vl yks yog yvs ypa ysp ytd ywi yun ysd you yfr ylf yva ysv ywo ysi ywk yph := by
    intro m
    induction m with
    | zero => intro q kd bh vl a; omega
    | succ m ih =>
      intro q kd bh vl a b L1 L2
      cases q with
      | zero =>
        refine br_t (by decide) (nm_r (e' := upd (upd yln row (nI dn)) 10 0) ?_ (h kd bh vl (fun j hj => L1 j (by omega) hj) (fun i hi => L2 i (by omega))))
        rw [show vp_nar .byte 0 = (0 : Int32) from nu_v8 (n := 0) (by omega)]
      | succ i =>
        have hi : i < dn := by omega
        obtain ⟨d, g1, g2⟩ := gx_sub _ dn 1 0 i (g (by omega)) hi
        rw [Nat.zero_add] at g1
        obtain ⟨p1, p2⟩ := gx_opL g1 (by omega)
        have k22 := h22 i hi
        obtain ⟨f1, f2, f3⟩ := L2 (240 + i) (by omega)
        have i1 : vp_in (nI (240 + i)) 264 := pk_in (240 + i) 264 (by omega)
        have i2 : vp_in (nI (24 * row + i)) 264 := pk_in (24 * row + i) 264 (by omega)
        rw [ys_iS]
        refine br_f (nI_pos (by omega)) ?_
        rw [show (240 : Int32) + nI i = nI (240 + i) from nI_add 240 i, show (24 : Int32) * nI row + nI i = nI (24 * row + i) from by rw [show (24 : Int32) * nI row = nI (24 * row) from pk_mul 24 row, nI_add], nI_clamp (show 240 + i < 2 ^ 31 by omega), nI_clamp (show 24 * row + i < 2 ^ 31 by omega), f1, f2, t1 i hi, nu_v8 (show DK i < 128 by omega)]
        refine ⟨i1, ⟨i2, nm_e ⟨i1, ⟨i2, nm_e (nm_r (nI_1 i) ⟨i1, ?_⟩)⟩⟩⟩⟩
        rw [pk_un (show 240 + i ≠ 24 * row + i by omega), f1, t1 i hi]
        refine yw_ops k22 hH ⟨tx_a Hn (DK i) + 1, ?_⟩
        have hai : tx_a Hn (DK i) ≤ d := by
          rcases Nat.eq_zero_or_pos (tx_a Hn (DK i)) with z | z
          · omega
          · exact (gx_opK g1 (by omega) (o := 0) z).2.2
        have L90 : ∀ (m' o : Nat), o ≤ tx_a Hn (DK i) → tx_a Hn (DK i) < m' + o → wY_store_90 post (wY_store_20 post (nI row) yco ypl ysz yus yof yre ysa m) (nI row) (nI i) (nI (tx_a Hn (DK i))) yco ypl ysz yus yof yre ysa (upd kd (24 * row + i) (nI (DK i))) bh (upd yln row (nI dn)) yhl (upd vl (24 * row + i) (yvl (240 + i))) yks yog yvs ypa ysp ytd ywi yun ysd you yfr ylf yva ysv ywo ysi ywk yph m' (nI (gx_op (fun i => tx_a Hn (DK i)) (i+1) o)) (nI o) := by
          intro m'
          induction m' with
          | zero => intro o a b; omega
          | succ m' ih' =>
            intro o a' b'
            refine pk_le (tx_a Hn (DK i)) o (fun z => ?_) (fun z => ?_)
            · have e : o = tx_a Hn (DK i) := by omega
              subst e
              rw [p1, p2, show (24 : Int32) * nI row + nI i = nI (24 * row + i) from by rw [show (24 : Int32) * nI row = nI (24 * row) from pk_mul 24 row, nI_add], nI_clamp (show 24 * row + i < 2 ^ 31 by omega), nu_8 (show i + d < 128 by omega), nu_v8 (show i + d < 128 by omega)]
              refine ⟨i2, nm_e (nm_r (e' := ys_i i) ?_ (ih i _ _ _ (by omega) (by omega) ?_ ?_))⟩
              · cases i with
                | zero => rfl
                | succ i => exact pk_m1 i
              · intro j hj1 hj2
                by_cases e : j = i
                · subst e
                  rw [pk_us, pk_us, pk_us, p2]
                  exact ⟨rfl, rfl, rfl⟩
                · rw [pk_un (by omega), pk_un (by omega), pk_un (by omega)]
                  exact L1 j (by omega) hj2
              · intro j hj
                rw [pk_un (by omega), pk_un (by omega), pk_un (by omega)]
                exact L2 j (by omega)
            · obtain ⟨q1, q2, q3⟩ := gx_opK g1 (by omega) z
              obtain ⟨y1, y2, y3⟩ := L1 (gx_op (fun i => tx_a Hn (DK i)) (i+1) o) (by omega) (by omega)
              rw [show (24 : Int32) * nI row + nI (gx_op (fun i => tx_a Hn (DK i)) (i+1) o) = nI (24 * row + gx_op (fun i => tx_a Hn (DK i)) (i+1) o) from by rw [show (24 : Int32) * nI row = nI (24 * row) from pk_mul 24 row, nI_add], nI_clamp (show 24 * row + gx_op (fun i => tx_a Hn (DK i)) (i+1) o < 2 ^ 31 by omega), y3]
              exact ⟨vp_in_nI (by omega) (by omega), nm_e (nm_r (nI_1 o) (ih' (o+1) (by omega) (by omega)))⟩
        exact L90 _ 0 (by omega) (by omega)
  unfold wpY_store
  refine nm_r l10 ?_
  rw [nI_clamp (show row < 2 ^ 31 by omega), nu_8 (show dn < 128 by omega), nu_v8 (show dn < 128 by omega)]
  refine ⟨pk_in row 11 (by omega), nm_e (nm_r (e' := ys_i dn) ?_ ⟨dn + 1, L (dn+1) dn _ _ _ (by omega) (Nat.le_refl _) (fun j h1 h2 => by omega) (fun i _ => ⟨rfl, rfl, rfl⟩)⟩)⟩
  rcases Nat.eq_zero_or_pos dn with z | z
  · rw [z]; rfl
  · rw [ys_iP z]
    exact pk_sub (b := 1) z
/-! the text with the draft in its new row -/
theorem rl_rowX {K : Nat → Nat} {V : Nat → Int32} {Hn Len : Nat → Nat} {nc nc' r0 dn : Nat} {DK : Nat → Nat} {DV : Nat → Int32} {tk tv : Nat → Int32} (w : tx_WF K V Hn Len nc) (T : xs_T K V Len nc xtk xtv) (h0 : r0 < 10) (hd : dn ≤ 24) (hd6 : r0 < 6 → dn ≤ 12)
    (hrow : ∀ r, tx_row nc' r → r ≠ r0 → tx_row nc r) (d1 : ∀ i, i < dn → xtk (96 + i) = nI (DK i) ∧ xtv (96 + i) = DV i)
    (f1 : ∀ j, j < dn → tk (xs_b r0 + j) = xtk (96 + j) ∧ tv (xs_b r0 + j) = xtv (96 + j)) (f2 : ∀ i, (i < xs_b r0 ∨ xs_b r0 + dn ≤ i) → tk i = xtk i ∧ tv i = xtv i) :
    xs_T (tx_cp K DK r0 dn) (tx_cp V DV r0 dn) (pm_fu Len r0 dn) nc' tk tv := by
  intro r hr j hj
  by_cases e : r = r0
  · subst e
    rw [pm_fs] at hj
    rw [tx_cpI hj, tx_cpI hj, (f1 j hj).1, (f1 j hj).2]
    exact d1 j hj
  · rw [pm_fn e] at hj
    have hr' := hrow r hr e
    obtain ⟨w1, w2, _⟩ := w.2 r hr'
    have hd2 : xs_b r + j < xs_b r0 ∨ xs_b r0 + dn ≤ xs_b r + j := by
      unfold tx_row at hr'
      have w0 := w.1
      unfold xs_b
      by_cases a : r < 6
      · have w3 := w2 a
        rw [if_pos a]
        by_cases b : r0 < 6
        · have hd7 := hd6 b
          rw [if_pos b]
          omega
        · rw [if_neg b]
          omega
      · rw [if_neg a]
        by_cases b : r0 < 6
        · have hd7 := hd6 b
          rw [if_pos b]
          omega
        · rw [if_neg b]
          omega
    rw [tx_cpR e (m := Len r) (by omega) (by omega) w1 hd, tx_cpR e (m := Len r) (by omega) (by omega) w1 hd, (f2 _ hd2).1, (f2 _ hd2).2]
    exact T r hr' j hj
theorem rl_rowY {K : Nat → Nat} {V : Nat → Int32} {Hn Hn' Len : Nat → Nat} {nc nc' r0 dn : Nat} {DK : Nat → Nat} {DV : Nat → Int32} {kd bh vl : Nat → Int32} (w : tx_WF K V Hn Len nc) (T : ys_T K V Hn Len nc ykd ybh yvl) (h0 : r0 < 10) (hd : dn ≤ 24)
    (hrow : ∀ r, tx_row nc' r → r ≠ r0 → tx_row nc r) (d2 : ∀ i, i < dn → (tx_hv (DK i) → yvl (240 + i) = DV i)) (g : 0 < dn → gx_ok (fun i => tx_a Hn (DK i)) dn 1 0)
    (a1 : ∀ j, j < dn → tx_a Hn' (DK j) = tx_a Hn (DK j)) (a2 : ∀ r i, tx_pos Len nc r i → tx_a Hn' (K i) = tx_a Hn (K i))
    (f1 : ∀ j, j < dn → kd (24 * r0 + j) = nI (DK j) ∧ vl (24 * r0 + j) = yvl (240 + j) ∧ bh (24 * r0 + j) = nI (gx_en (fun i => tx_a Hn (DK i)) j)) (f2 : ∀ i, (i < 24 * r0 ∨ 24 * r0 + dn ≤ i) → kd i = ykd i ∧ vl i = yvl i ∧ bh i = ybh i) :
    ys_T (tx_cp K DK r0 dn) (tx_cp V DV r0 dn) Hn' (pm_fu Len r0 dn) nc' kd bh vl := by
  intro r hr i h1 h2
  by_cases e : r = r0
  · subst e
    rw [pm_fs] at h2
    obtain ⟨j, rfl⟩ : ∃ j, i = 24 * r + j := ⟨i - 24 * r, by omega⟩
    have hj : j < dn := by omega
    obtain ⟨x1, x2, x3⟩ := f1 j hj
    rw [tx_cpI hj, tx_cpI hj, x1, x2, x3]
    refine ⟨rfl, fun hv => d2 j hj hv, ?_⟩
    obtain ⟨d, g1, g2⟩ := gx_sub _ dn 1 0 j (g (by omega)) hj
    rw [Nat.zero_add] at g1
    have g3 : gx_ok (fun i => tx_a Hn' (tx_cp K DK r dn i)) d 1 (24 * r + j) := by
      refine gx_congr _ _ _ _ _ _ ?_ g1
      intro x hx
      show tx_a Hn' (tx_cp K DK r dn (24 * r + j + x)) = tx_a Hn (DK (j + x))
      rw [Nat.add_assoc, tx_cpI (by omega)]
      exact a1 _ (by omega)
    rw [gx_enE g1 (by omega), gx_enE g3 (by omega)]
    exact congrArg nI (by omega)
  · rw [pm_fn e] at h2
    have hr' := hrow r hr e
    obtain ⟨w1, w2, _⟩ := w.2 r hr'
    obtain ⟨x1, x2, x3⟩ := f2 i (by omega)
    obtain ⟨y1, y2, y3⟩ := T r hr' i h1 h2
    rw [tx_cpR e h1 h2 w1 hd, tx_cpR e h1 h2 w1 hd, x1, x2, x3, y1, y3]
    refine ⟨rfl, y2, ?_⟩
    obtain ⟨d, g1, g2, g3, g4⟩ := tx_expr w ⟨hr', h1, h2⟩
    have g5 : gx_ok (fun i => tx_a Hn' (tx_cp K DK r0 dn i)) d 1 i := by
      refine gx_congr _ _ _ _ _ _ ?_ g1
      intro x hx
      show tx_a Hn' (tx_cp K DK r0 dn (i + x)) = tx_a Hn (K (i + x))
      rw [tx_cpR e (m := Len r) (by omega) (by omega) w1 hd]
      exact a2 r _ ⟨hr', by omega, by omega⟩
    rw [gx_enE g1 (by omega), gx_enE g5 (by omega)]
end
section
variable {xds xcc xmi xre xpc xpl xtl xsc xou : Int32} {xtk xtv xss xts xho xfu xfa xfo xpn xpe xpf xqk xqv xqo xqp xqs xqh xwo xsi : Nat → Int32} {yco ypl ysz yus yof yre ysa : Int32} {ykd ybh yln yhl yvl yks yog yvs ypa ysp ytd ywi yun ysd you yfr ylf yva ysv ywo ysi ywk yph : Nat → Int32}
theorem dr_22 {DK : Nat → Nat} {DV : Nat → Int32} {dn : Nat} (D : dr_D DK DV dn) : ∀ i, i < dn → DK i < 22 := by
  intro i hi
  have := (D.2 i hi).1
  omega
theorem dr_a3 {K : Nat → Nat} {V : Nat → Int32} {Hn Len : Nat → Nat} {nc k : Nat} (w : tx_WF K V Hn Len nc) (h : 16 ≤ k → k - 16 < nc) : tx_a Hn k ≤ 3 := by
  by_cases e : 16 ≤ k
  · rw [tx_aU _ e]
    have w0 := w.1
    have := h e
    exact ((w.2 (k - 16) (Or.inl this)).2.1 (by omega)).2.2
  · exact tx_a3 _ (by omega)
theorem rl_empty {K : Nat → Nat} {V : Nat → Int32} {Hn Len : Nat → Nat} {nc : Nat} {DK : Nat → Nat} {DV : Nat → Int32} {dn : Nat}
    (B : rl_B K V Hn Len nc DK DV dn xds xcc xtk xtv xss xts xho yco ykd ybh yln yhl yvl) : rl_B K V Hn Len nc DK DV 0 0 xcc xtk xtv xss xts xho yco ykd ybh (upd yln 10 0) yhl yvl := by
  obtain ⟨w, D, e1, e2, T, d1, s1, t1, hh1, e3, T2, d2, l10, l, h2⟩ := B
  exact ⟨w, ⟨by omega, fun i hi => by omega⟩, rfl, e2, T, fun i hi => by omega, s1, t1, hh1, e3, T2, fun i hi => by omega, pk_us, fun c hc => by rw [pk_un (by omega)]; exact l c hc, h2⟩
theorem nu_n0 : vp_nar .byte 0 = (0 : Int32) := nu_v8 (n := 0) (by omega)
theorem i_vc_define {k : Nat} {u : SX} {v : SY} (I : i_Rel k u v) (hk : k + 5 ≤ 2560) (v1 : Int32) : wpX_define (fun r u' => wpY_define (fun r' v' => r' = r ∧ i_Rel (k + 5) u' v') v v1) u v1 := by
  obtain ⟨xds, xcc, xmi, xre, xpc, xpl, xtl, xsc, xou, xtk, xtv, xss, xts, xho, xfu, xfa, xfo, xpn, xpe, xpf, xqk, xqv, xqo, xqp, xqs, xqh, xwo, xsi⟩ := u
  obtain ⟨yco, ypl, ysz, yus, yof, yre, ysa, ykd, ybh, yln, yhl, yvl, yks, yog, yvs, ypa, ysp, ytd, ywi, yun, ysd, you, yfr, ylf, yva, ysv, ywo, ysi, ywk, yph⟩ := v
  obtain ⟨K, V, Hn, Len, nc, DK, DV, dn, B, C, m1, m2, m3, m4⟩ := I
  have B' := B
  obtain ⟨w, D, e1, e2, T, d1, s1, t1, hh1, e3, T2, d2, l10, l, h2⟩ := B
  subst e1 e2 e3
  have w0 := w.1
  have HX : (v1 < 0 ∨ nI 4 ≤ v1) → wpY_define (fun r' v' => r' = -3 ∧ i_Rel (k + 5) (nI dn, nI nc, xmi, xre, xpc, xpl, xtl, xsc, xou, xtk, xtv, xss, xts, xho, xfu, xfa, xfo, xpn, xpe, xpf, xqk, xqv, xqo, xqp, xqs, xqh, xwo, xsi) v') (nI nc, ypl, ysz, yus, yof, yre, ysa, ykd, ybh, yln, yhl, yvl, yks, yog, yvs, ypa, ysp, ytd, ywi, yun, ysd, you, yfr, ylf, yva, ysv, ywo, ysi, ywk, yph) v1 := by
    intro h
    unfold wpY_define
    exact yo_ex (N := 4) h (by omega) (br_f (by decide) ⟨rfl, rl_mk B' C m1 m2 m3 m4⟩)
  unfold wpX_define
  rcases pk_ix v1 (n := 4) (by omega) with h | h | ⟨hh, hh4, rfl⟩
  · exact br_t h (HX (Or.inl h))
  · have h8 : ¬ v1 ≤ 3 := Int32.not_le.mpr (Int32.lt_of_lt_of_le (show (3 : Int32) < nI 4 by decide) h)
    exact br_c (fun _ => HX (Or.inr h)) (fun _ => br_f h8 (HX (Or.inr h)))
  · refine br_f (nI_pos (by omega)) (pk_le hh 3 (fun _ => ?_) (fun z => by omega))
    refine pk_lt nc 6 (fun hnc => ?_) (fun hnc => ?_)
    · unfold wpX_faultOfDraft
      have hd24 := D.1
      have h22 := dr_22 D
      have h3 : ∀ i, i < dn → dr_bT DK DV nc hh i = true → tx_a Hn (DK i) ≤ 3 := fun i hi y => dr_a3 w (of_decide_eq_true y).2.2
      refine ⟨dn + 1, xw_fault (DK := DK) (fit := dr_bT DK DV nc hh) hd24 hh1 h22 (fun i hi => (d1 i hi).1) h3 ?_ (dn+1) dn 0 1 (by omega) (by omega) (by omega) ?_⟩
      · intro j p hj q1 q0
        exact br_f (by decide) (xw_fitsT (by omega) (h22 j hj) w0 (d1 j hj).1 (d1 j hj).2 q1 q0)
      have Yc : ∀ (post : Int32 → Prop), post (ft_i (fd_go (dr_bT DK DV nc hh) (fun i => tx_a Hn (DK i)) dn dn 0 1)) → wpY_check post (nI nc, ypl, ysz, yus, yof, yre, ysa, ykd, ybh, yln, yhl, yvl, yks, yog, yvs, ypa, ysp, ytd, ywi, yun, ysd, you, yfr, ylf, yva, ysv, ywo, ysi, ywk, yph) (nI hh) := by
        intro post hp
        unfold wpY_check
        refine ⟨dn + 1, yw_check (DK := DK) (fit := dr_bT DK DV nc hh) hd24 h2 h22 (fun i hi => (d2 i hi).1) l10 h3 ?_ (dn+1) dn 0 1 (by omega) (by omega) (by omega) hp⟩
        intro j p hj q1 q0
        exact yw_fitsT (by omega) (h22 j hj) (by have := (D.2 j hj).1; omega) w0 hh4 (d2 j hj).1 (d2 j hj).2 q1 q0
      cases eR : fd_go (dr_bT DK DV nc hh) (fun i => tx_a Hn (DK i)) dn dn 0 1 with
      | none =>
        obtain ⟨w', dn0, dn12⟩ := tx_defined w hnc (by omega) D eR
        have g1 := (fd_ok _ _ _ _ _ _ eR).1
        have g2 : ∀ i, i < dn → 16 ≤ DK i → DK i - 16 < nc := fun i hi => (of_decide_eq_true ((fd_ok _ _ _ _ _ _ eR).2 i (by omega) (by omega))).2.2
        have eb : xs_b nc = 120 + nc * 12 := by
          unfold xs_b
          rw [if_pos hnc]; omega
        refine br_t (by show (-1 : Int32) < 0; decide) ?_
        rw [nI_clamp (show nc < 2 ^ 31 by omega), show (120 : Int32) + nI nc * 12 = nI (xs_b nc) from by rw [eb, show nI nc * (12 : Int32) = nI (nc * 12) from pk_mul nc 12]; exact nI_add 120 (nc * 12)]
        refine ⟨pk_in nc 6 hnc, nm_e ⟨pk_in nc 6 hnc, nm_e ?_⟩⟩
        refine xw_move hd24 (by omega) ?_
        intro tk tv f1 f2
        refine nm_r (nI_1 nc) ?_
        unfold wpY_define
        refine yo_in (N := 4) hh4 (by omega) (br_t rfl (pk_eq nc 6 (fun z => by omega) (fun _ => Yc _ ?_)))
        rw [eR]
        refine br_t (by show (-1 : Int32) < 0; decide) ?_
        refine yw_store (DK := DK) (Hn := Hn) hd24 (by omega) h2 h22 (fun i hi => (d2 i hi).1) l10 (fun _ => g1) ?_
        intro kd bh vl y1 y2
        dsimp only
        rw [nI_clamp (show nc < 2 ^ 31 by omega), nu_8 (show hh < 128 by omega), nu_v8 (show hh < 128 by omega)]
        refine ⟨pk_in nc 6 hnc, nm_e (nm_r (nI_1 nc) ⟨rfl, ?_⟩)⟩
        refine rl_mk (K := tx_cp K DK nc dn) (V := tx_cp V DV nc dn) (Hn := pm_fu Hn nc hh) (Len := pm_fu Len nc dn) (nc := nc+1) (DK := DK) (DV := DV) (dn := 0) ⟨w', ⟨by omega, fun i hi => by omega⟩, rfl, rfl, ?_, fun i hi => by omega, ?_, ?_, ?_, rfl, ?_, fun i hi => by omega, pk_us, ?_, ?_⟩ rl_Cm rfl m2 m3 m4
        · exact rl_rowX w T (by omega) hd24 (fun _ => dn12) (fun r hr hne => by unfold tx_row at hr ⊢; omega) d1 f1 f2
        · intro c hc
          rw [pm_fn (by omega)]
          exact s1 c hc
        · intro c hc
          by_cases e : c = nc
          · subst e
            rw [pk_us, pm_fs]
          · rw [pk_un e, pm_fn e]
            exact t1 c hc
        · intro c hc
          by_cases e : c = nc
          · subst e
            rw [pk_us, pm_fs]
          · rw [pk_un e, pm_fn e]
            exact hh1 c hc
        · refine rl_rowY w T2 (by omega) hd24 (fun r hr hne => by unfold tx_row at hr ⊢; omega) (fun i hi => (d2 i hi).2) (fun _ => g1) ?_ ?_ y1 y2
          · intro j hj
            by_cases e : 16 ≤ DK j
            · have := g2 j hj e
              rw [tx_aU _ e, tx_aU _ e, pm_fn (by omega)]
            · exact tx_aI _ _ (by omega)
          · intro r i hp
            by_cases e : 16 ≤ K i
            · have := (tx_useRow w hp e).1
              rw [tx_aU _ e, tx_aU _ e, pm_fn (by omega)]
            · exact tx_aI _ _ (by omega)
        · intro c hc
          rw [pk_un (by omega)]
          by_cases e : c = nc
          · subst e
            rw [pk_us, pm_fs]
          · rw [pk_un e, pm_fn e]
            exact l c hc
        · intro c hc
          by_cases e : c = nc
          · subst e
            rw [pk_us, pm_fs]
          · rw [pk_un e, pm_fn e]
            exact h2 c hc
      | some r =>
        have hr := fd_le _ _ _ _ _ _ _ (by omega) eR
        refine br_f (nI_pos (by omega)) ?_
        unfold wpY_define
        refine yo_in (N := 4) hh4 (by omega) (br_t rfl (pk_eq nc 6 (fun z => by omega) (fun _ => Yc _ ?_)))
        rw [eR]
        refine br_f (nI_pos (by omega)) ?_
        rw [nu_n0]
        exact nm_e ⟨rfl, rl_mk (rl_empty B') C rfl m2 m3 m4⟩
    · unfold wpY_define
      exact yo_in (N := 4) hh4 (by omega) (br_t rfl (pk_eq nc 6 (fun _ => ⟨rfl, rl_mk B' C m1 m2 m3 m4⟩) (fun z => by omega)))
theorem i_vc_source {k : Nat} {u : SX} {v : SY} (I : i_Rel k u v) (hk : k + 5 ≤ 2560) (v1 : Int32) : wpX_source (fun r u' => wpY_source (fun r' v' => r' = r ∧ i_Rel (k + 5) u' v') v v1) u v1 := by
  obtain ⟨xds, xcc, xmi, xre, xpc, xpl, xtl, xsc, xou, xtk, xtv, xss, xts, xho, xfu, xfa, xfo, xpn, xpe, xpf, xqk, xqv, xqo, xqp, xqs, xqh, xwo, xsi⟩ := u
  obtain ⟨yco, ypl, ysz, yus, yof, yre, ysa, ykd, ybh, yln, yhl, yvl, yks, yog, yvs, ypa, ysp, ytd, ywi, yun, ysd, you, yfr, ylf, yva, ysv, ywo, ysi, ywk, yph⟩ := v
  obtain ⟨K, V, Hn, Len, nc, DK, DV, dn, B, C, m1, m2, m3, m4⟩ := I
  have B' := B
  obtain ⟨w, D, e1, e2, T, d1, s1, t1, hh1, e3, T2, d2, l10, l, h2⟩ := B
  subst e1 e2 e3
  have w0 := w.1
  have HX : (v1 < 0 ∨ nI 4 ≤ v1) → wpY_source (fun r' v' => r' = -3 ∧ i_Rel (k + 5) (nI dn, nI nc, xmi, xre, xpc, xpl, xtl, xsc, xou, xtk, xtv, xss, xts, xho, xfu, xfa, xfo, xpn, xpe, xpf, xqk, xqv, xqo, xqp, xqs, xqh, xwo, xsi) v') (nI nc, ypl, ysz, yus, yof, yre, ysa, ykd, ybh, yln, yhl, yvl, yks, yog, yvs, ypa, ysp, ytd, ywi, yun, ysd, you, yfr, ylf, yva, ysv, ywo, ysi, ywk, yph) v1 := by
    intro h
    unfold wpY_source
    exact yo_ex (N := 4) h (by omega) (br_f (by decide) ⟨rfl, rl_mk B' C m1 m2 m3 m4⟩)
  unfold wpX_source wpX_isSource
  rcases pk_ix v1 (n := 4) (by omega) with h | h | ⟨s, hs, rfl⟩
  · exact br_t h (br_t rfl (HX (Or.inl h)))
  · exact br_c (fun _ => br_t rfl (HX (Or.inr h))) (fun _ => br_t h (br_t rfl (HX (Or.inr h))))
  · refine br_f (nI_pos (by omega)) (pk_le 4 s (fun z => by omega) (fun _ => br_f (by decide) ?_))
    have hd24 := D.1
    have h22 := dr_22 D
    have h3 : ∀ i, i < dn → dr_bS DK DV nc i = true → tx_a Hn (DK i) ≤ 3 := fun i hi y => dr_a3 w (of_decide_eq_true y).2.2.2
    -- what both do with a draft that is a source
    have OKX : ∀ (z : Int32), z = -1 → (dn = 0 ∨ fd_go (dr_bS DK DV nc) (fun i => tx_a Hn (DK i)) dn dn 0 1 = none) →
        (∀ (post : Int32 → SY → Prop), wY_source_31 post (nI s) (-1) (nI nc) ypl ysz yus yof yre ysa ykd ybh yln yhl yvl yks yog yvs ypa ysp ytd ywi yun ysd you yfr ylf yva ysv ywo ysi ywk yph → wpY_source post (nI nc, ypl, ysz, yus, yof, yre, ysa, ykd, ybh, yln, yhl, yvl, yks, yog, yvs, ypa, ysp, ytd, ywi, yun, ysd, you, yfr, ylf, yva, ysv, ywo, ysi, ywk, yph) (nI s)) →
        wX_source_28 (fun r u' => wpY_source (fun r' v' => r' = r ∧ i_Rel (k + 5) u' v') (nI nc, ypl, ysz, yus, yof, yre, ysa, ykd, ybh, yln, yhl, yvl, yks, yog, yvs, ypa, ysp, ytd, ywi, yun, ysd, you, yfr, ylf, yva, ysv, ywo, ysi, ywk, yph) (nI s)) (nI s) z (nI dn) (nI nc) xmi xre xpc xpl xtl xsc xou xtk xtv xss xts xho xfu xfa xfo xpn xpe xpf xqk xqv xqo xqp xqs xqh xwo xsi := by
      intro z ez hg hY
      subst ez
      have g1 : 0 < dn → gx_ok (fun i => tx_a Hn (DK i)) dn 1 0 := by
        intro h0
        rcases hg with h | h
        · omega
        · exact (fd_ok _ _ _ _ _ _ h).1
      unfold wX_source_28
      refine br_t (by decide) ?_
      rw [nI_clamp (show s < 2 ^ 31 by omega), show nI s * (24 : Int32) = nI (xs_b (6+s)) from by rw [xs_b6, Nat.mul_comm]; exact pk_mul s 24]
      refine ⟨pk_in s 4 hs, nm_e ?_⟩
      refine xw_move hd24 (by rw [xs_b6]; omega) ?_
      intro tk tv f1 f2
      refine hY _ ?_
      unfold wY_source_31
      refine br_t (by decide) ?_
      rw [show (6 : Int32) + nI s = nI (6+s) from nI_add 6 s]
      refine yw_store (DK := DK) (Hn := Hn) hd24 (by omega) h2 h22 (fun i hi => (d2 i hi).1) l10 g1 ?_
      intro kd bh vl y1 y2
      refine ⟨rfl, ?_⟩
      refine rl_mk (K := tx_cp K DK (6+s) dn) (V := tx_cp V DV (6+s) dn) (Hn := Hn) (Len := pm_fu Len (6+s) dn) (nc := nc) (DK := DK) (DV := DV) (dn := 0) ⟨tx_sourced w hs D hg, ⟨by omega, fun i hi => by omega⟩, rfl, rfl, ?_, fun i hi => by omega, ?_, ?_, hh1, rfl, ?_, fun i hi => by omega, pk_us, ?_, h2⟩ rl_Cm rfl m2 m3 m4
      · exact rl_rowX w T (by omega) hd24 (fun z => by omega) (fun r hr hne => hr) d1 f1 f2
      · intro c hc
        by_cases e : c = s
        · subst e
          rw [pk_us, pm_fs]
        · rw [pk_un e, pm_fn (by omega)]
          exact s1 c hc
      · intro c hc
        rw [pm_fn (by omega)]
        exact t1 c hc
      · exact rl_rowY w T2 (by omega) hd24 (fun r hr hne => hr) (fun i hi => (d2 i hi).2) g1 (fun j hj => rfl) (fun r i hp => rfl) y1 y2
      · intro c hc
        rw [pk_un (by omega)]
        by_cases e : c = 6 + s
        · subst e
          rw [pk_us, pm_fs]
        · rw [pk_un e, pm_fn e]
          exact l c hc
    have hYin : ∀ (post : Int32 → SY → Prop), ((dn = 0 → wY_source_31 post (nI s) (-1) (nI nc) ypl ysz yus yof yre ysa ykd ybh yln yhl yvl yks yog yvs ypa ysp ytd ywi yun ysd you yfr ylf yva ysv ywo ysi ywk yph) ∧ (dn ≠ 0 → wpY_check (fun r_4 => wY_source_31 post (nI s) r_4 (nI nc) ypl ysz yus yof yre ysa ykd ybh yln yhl yvl yks yog yvs ypa ysp ytd ywi yun ysd you yfr ylf yva ysv ywo ysi ywk yph) (nI nc, ypl, ysz, yus, yof, yre, ysa, ykd, ybh, yln, yhl, yvl, yks, yog, yvs, ypa, ysp, ytd, ywi, yun, ysd, you, yfr, ylf, yva, ysv, ywo, ysi, ywk, yph) (-1))) → wpY_source post (nI nc, ypl, ysz, yus, yof, yre, ysa, ykd, ybh, yln, yhl, yvl, yks, yog, yvs, ypa, ysp, ytd, ywi, yun, ysd, you, yfr, ylf, yva, ysv, ywo, ysi, ywk, yph) (nI s) := by
      intro post hp
      unfold wpY_source
      refine yo_in (N := 4) hs (by omega) (br_t rfl ?_)
      rw [l10]
      exact pk_eq dn 0 hp.1 hp.2
    refine pk_eq dn 0 (fun e0 => ?_) (fun n0 => ?_)
    · exact OKX (-1) rfl (Or.inl e0) (fun post hp => hYin post ⟨fun _ => hp, fun z => absurd e0 z⟩)
    · unfold wpX_faultOfDraft
      refine ⟨dn + 1, xw_fault (DK := DK) (fit := dr_bS DK DV nc) hd24 hh1 h22 (fun i hi => (d1 i hi).1) h3 ?_ (dn+1) dn 0 1 (by omega) (by omega) (by omega) ?_⟩
      · intro j p hj q1 q0
        exact br_t rfl (xw_fitsS (by omega) (h22 j hj) w0 (d1 j hj).1 (d1 j hj).2 q1 q0)
      have Yc : ∀ (post : Int32 → Prop), post (ft_i (fd_go (dr_bS DK DV nc) (fun i => tx_a Hn (DK i)) dn dn 0 1)) → wpY_check post (nI nc, ypl, ysz, yus, yof, yre, ysa, ykd, ybh, yln, yhl, yvl, yks, yog, yvs, ypa, ysp, ytd, ywi, yun, ysd, you, yfr, ylf, yva, ysv, ywo, ysi, ywk, yph) (-1) := by
        intro post hp
        unfold wpY_check
        refine ⟨dn + 1, yw_check (DK := DK) (fit := dr_bS DK DV nc) hd24 h2 h22 (fun i hi => (d2 i hi).1) l10 h3 ?_ (dn+1) dn 0 1 (by omega) (by omega) (by omega) hp⟩
        intro j p hj q1 q0
        exact yw_fitsS (by omega) (h22 j hj) (by have := (D.2 j hj).1; omega) w0 (d2 j hj).1 (d2 j hj).2 q1 q0
      cases eR : fd_go (dr_bS DK DV nc) (fun i => tx_a Hn (DK i)) dn dn 0 1 with
      | none =>
        refine OKX _ rfl (Or.inr eR) (fun post hp => hYin post ⟨fun z => absurd z n0, fun _ => Yc _ ?_⟩)
        rw [eR]
        exact hp
      | some r =>
        have hr := fd_le _ _ _ _ _ _ _ (by omega) eR
        unfold wX_source_28
        refine br_f (nI_pos (by omega)) ?_
        refine hYin _ ⟨fun z => absurd z n0, fun _ => Yc _ ?_⟩
        rw [eR]
        unfold wY_source_31
        refine br_f (nI_pos (by omega)) ?_
        rw [nu_n0]
        exact nm_e ⟨rfl, rl_mk (rl_empty B') C rfl m2 m3 m4⟩
end
section
variable {xds xcc xmi xre xpc xpl xtl xsc xou : Int32} {xtk xtv xss xts xho xfu xfa xfo xpn xpe xpf xqk xqv xqo xqp xqs xqh xwo xsi : Nat → Int32}
def ev_E0 (a b c : Int32) : Nat → Int32 := fun v => if v = 0 then a else if v = 1 then b else if v = 2 then c else 0
/-- the laid expansion -/
def xr_A (n : Nat) (O : pm_O) (xqk xqv xqo xqp xqs xqh : Nat → Int32) : Prop := tr_G n O ∧ xs_O n O xqk xqv xqo ∧ xl_R n O xqp xqs xqh
theorem ev_vxE {n : Nat} {O : pm_O} (G : tr_G n O) {p : Nat} (hp : p < n) (hk : (O p).1 = 1 ∨ (O p).1 = 7) : ev_vx O p < 4110 ∧ (O p).2.1 = nI (ev_vx O p) := by
  obtain ⟨w, w1, w2⟩ := (G.2.2 p hp).2.2.1 hk
  have e : ev_vx O p = w := by
    unfold ev_vx
    rw [w2, nI_clamp (by omega)]
  rw [e]
  exact ⟨w1, w2⟩
theorem tr_par {n : Nat} {O : pm_O} (G : tr_G n O) {b : Nat} (hb : b < n) : (O b).2.2.2 ≤ b := by
  obtain ⟨R, e⟩ := (G.2.2 b hb).2.2.2
  exact tr_pdB (pm_ar O) b _ (by rw [e]; exact List.mem_cons_self)
theorem xw_var {post : Int32 → Prop} {n p : Nat} {O : pm_O} {a b c : Int32} (A : xr_A n O xqk xqv xqo xqp xqs xqh) (hp : p < n) (hk : (O p).1 = 1) (h : post (ev_wk O (ev_E0 a b c) xwo 2000 p (ev_vx O p))) : wpX_variableAt post (xds, xcc, xmi, xre, xpc, xpl, xtl, xsc, xou, xtk, xtv, xss, xts, xho, xfu, xfa, xfo, xpn, xpe, xpf, xqk, xqv, xqo, xqp, xqs, xqh, xwo, xsi) (nI p) a b c := by
  obtain ⟨G, hO, hL⟩ := A
  have h3 := G.1
  obtain ⟨v1, v2⟩ := ev_vxE G hp (Or.inl hk)
  have H109 : post (ev_E0 a b c (ev_vx O p)) → wX_variableAt_109 post a b c (nI (ev_vx O p)) xds xcc xmi xre xpc xpl xtl xsc xou xtk xtv xss xts xho xfu xfa xfo xpn xpe xpf xqk xqv xqo xqp xqs xqh xwo xsi := by
    intro h
    unfold ev_E0 at h
    unfold wX_variableAt_109
    refine br_f (nI_pos (by omega)) (pk_lt 2 (ev_vx O p) (fun z => ?_) (fun z => ?_))
    · rw [if_neg (by omega), if_neg (by omega), if_neg (by omega)] at h
      exact h
    · refine pk_eq (ev_vx O p) 0 (fun e => ?_) (fun e0 => pk_eq (ev_vx O p) 1 (fun e => ?_) (fun e1 => pk_eq (ev_vx O p) 2 (fun e => ?_) (fun e2 => True.intro)))
      · rw [if_pos e] at h; exact h
      · rw [if_neg e0, if_pos e] at h; exact h
      · rw [if_neg e0, if_neg e1, if_pos e] at h; exact h
  have L : ∀ (m t bl st : Nat), bl < n → bl ≤ t → bl < m → st + bl < 2000 → post (ev_wk O (ev_E0 a b c) xwo t bl (ev_vx O p)) → wX_variableAt_22 post a b c (nI (ev_vx O p)) xds xcc xmi xre xpc xpl xtl xsc xou xtk xtv xss xts xho xfu xfa xfo xpn xpe xpf xqk xqv xqo xqp xqs xqh xwo xsi m (nI bl) (ys_i (O bl).2.2.2) (nI st) := by
    intro m
    induction m with
    | zero => intro t bl st _ _ h1; omega
    | succ m ih =>
      intro t bl st hb ht hm hst h
      have hpar := tr_par G hb
      refine pk_le 2000 st (fun z => by omega) (fun _ => ?_)
      rcases Nat.eq_zero_or_pos (O bl).2.2.2 with z | z
      · refine br_t (by rw [z]; decide) (H109 ?_)
        cases t with
        | zero => exact h
        | succ t =>
          rw [ev_wk, if_pos z] at h
          exact h
      · obtain ⟨t, rfl⟩ : ∃ t', t = t' + 1 := ⟨t - 1, by omega⟩
        rw [ev_wk, if_neg (by omega)] at h
        obtain ⟨u, eu⟩ : ∃ u, (O bl).2.2.2 = u + 1 := ⟨(O bl).2.2.2 - 1, by omega⟩
        rw [eu, Nat.add_sub_cancel] at h
        have hu : u < n := by omega
        obtain ⟨o1, o2, o3⟩ := hO u hu
        have o8 := (G.2.2 u hu).1
        have l3 := (hL u hu).2.2
        rw [eu, ys_iS]
        have i1 : vp_in (nI u) 2000 := pk_in u 2000 (by omega)
        have H90 : ¬ ((O u).1 = 7 ∧ ev_vx O u = ev_vx O p ∧ bl ≠ u + 1) → wX_variableAt_90 post (wX_variableAt_22 post a b c (nI (ev_vx O p)) xds xcc xmi xre xpc xpl xtl xsc xou xtk xtv xss xts xho xfu xfa xfo xpn xpe xpf xqk xqv xqo xqp xqs xqh xwo xsi m) a b c (nI (ev_vx O p)) (nI u) (nI st) xds xcc xmi xre xpc xpl xtl xsc xou xtk xtv xss xts xho xfu xfa xfo xpn xpe xpf xqk xqv xqo xqp xqs xqh xwo xsi := by
          intro hne
          rw [if_neg hne] at h
          unfold wX_variableAt_90
          rw [nI_clamp (show u < 2 ^ 31 by omega)]
          exact ⟨i1, nm_r l3 (nm_r (nI_1 st) (ih t u (st+1) hu (by omega) (by omega) (by omega) h))⟩
        have H49 : ∀ z0 : Int32, (z0 = 0 ↔ bl = u + 1) → wX_variableAt_49 post (wX_variableAt_22 post a b c (nI (ev_vx O p)) xds xcc xmi xre xpc xpl xtl xsc xou xtk xtv xss xts xho xfu xfa xfo xpn xpe xpf xqk xqv xqo xqp xqs xqh xwo xsi m) a b c (nI (ev_vx O p)) (nI u) (nI st) z0 xds xcc xmi xre xpc xpl xtl xsc xou xtk xtv xss xts xho xfu xfa xfo xpn xpe xpf xqk xqv xqo xqp xqs xqh xwo xsi := by
          intro z0 hz
          unfold wX_variableAt_49
          rw [nI_clamp (show u < 2 ^ 31 by omega), o1, o2, nI_1]
          refine ⟨i1, pk_eq (O u).1 7 (fun e7 => ⟨i1, ?_⟩) (fun e7 => H90 (fun y => e7 y.1))⟩
          obtain ⟨q1, q2⟩ := ev_vxE G hu (Or.inr e7)
          rw [q2]
          refine pk_eq (ev_vx O u) (ev_vx O p) (fun ev => br_c (fun hz0 => H90 (fun y => y.2.2 (hz.mp hz0))) (fun hz0 => ?_)) (fun ev => H90 (fun y => ev y.2.1))
          have hbl : bl ≠ u + 1 := fun y => hz0 (hz.mpr y)
          rw [if_pos ⟨e7, ev, hbl⟩] at h
          rw [nI_clamp (show u + 1 < 2 ^ 31 by omega)]
          exact ⟨pk_in (u+1) 2000 (by omega), h⟩
        refine br_f (nI_pos (by omega)) ?_
        rw [nI_1]
        exact pk_eq bl (u+1) (fun e => H49 0 ⟨fun _ => e, fun _ => rfl⟩) (fun e => H49 1 ⟨fun y => absurd y (by decide), fun y => absurd y e⟩)
  obtain ⟨o1, o2, o3⟩ := hO p hp
  unfold wpX_variableAt
  dsimp only
  rw [nI_clamp (show p < 2 ^ 31 by omega)]
  exact ⟨pk_in p 2000 (by omega), nm_r (o2.trans v2) ⟨pk_in p 2000 (by omega), nm_r (hL p hp).2.2 ⟨p + 1, L (p+1) 2000 p 0 hp (by omega) (by omega) (by omega) h⟩⟩⟩
def ev_fin (O : pm_O) (p : Nat) (x y : Int32) (s : Nat × (Nat → Int32)) : Int32 × (Nat × (Nat → Int32)) :=
  if (O p).1 = 8 then (y, ev_say y s) else if (O p).1 ≤ 5 then (ev_bin (O p).1 x y, s) else (y, s)
theorem xw_finish {post : SX → Prop} {n p l : Nat} {O : pm_O} {s : Nat × (Nat → Int32)} (A : xr_A n O xqk xqv xqo xqp xqs xqh) (hp : p + 1 < n) (hl : l < n) (hs : s.1 < 100000) (h2 : 2 ≤ (O p).1)
    (h : post (xds, xcc, xmi, xre, xpc, xpl, xtl, nI (ev_fin O p (xwo (p+1)) (xwo l) s).2.1, xou, xtk, xtv, xss, xts, xho, xfu, xfa, xfo, xpn, xpe, xpf, xqk, xqv, xqo, xqp, xqs, xqh, upd xwo p (ev_fin O p (xwo (p+1)) (xwo l) s).1, (ev_fin O p (xwo (p+1)) (xwo l) s).2.2)) : wpX_finish post (xds, xcc, xmi, xre, xpc, xpl, xtl, nI s.1, xou, xtk, xtv, xss, xts, xho, xfu, xfa, xfo, xpn, xpe, xpf, xqk, xqv, xqo, xqp, xqs, xqh, xwo, s.2) (nI p) (nI l) := by
  obtain ⟨G, hO, hL⟩ := A
  have h3 := G.1
  have o1 := (hO p (by omega)).1
  have o8 := (G.2.2 p (by omega)).1
  have i1 : vp_in (nI p) 2000 := pk_in p 2000 (by omega)
  unfold ev_fin at h
  unfold wpX_finish
  refine br_t (nI_pos' (by omega)) ?_
  rw [nI_1, nI_clamp (show p + 1 < 2 ^ 31 by omega), nI_clamp (show l < 2 ^ 31 by omega), nI_clamp (show p < 2 ^ 31 by omega)]
  refine ⟨pk_in (p+1) 2000 (by omega), nm_e ⟨pk_in l 2000 (by omega), nm_e ⟨i1, nm_r o1 ?_⟩⟩⟩
  refine pk_lt (O p).1 2 (fun z => by omega) (fun _ => pk_lt 8 (O p).1 (fun z => by omega) (fun _ => ?_))
  refine pk_eq (O p).1 2 (fun e => ⟨i1, nm_e ?_⟩) (fun n2 => pk_eq (O p).1 3 (fun e => ⟨i1, nm_e ?_⟩) (fun n3 => pk_eq (O p).1 4 (fun e => ⟨i1, nm_e ?_⟩) (fun n4 => pk_eq (O p).1 5 (fun e => ?_) (fun n5 => pk_eq (O p).1 6 (fun e => ⟨i1, nm_e ?_⟩) (fun n6 => pk_eq (O p).1 7 (fun e => ⟨i1, nm_e ?_⟩) (fun n7 => pk_eq (O p).1 8 (fun e => ?_) (fun n8 => True.intro)))))))
  · rw [if_neg (by omega), if_pos (by omega)] at h
    unfold ev_bin at h
    rw [if_pos e] at h
    exact h
  · rw [if_neg (by omega), if_pos (by omega)] at h
    unfold ev_bin at h
    rw [if_neg n2, if_pos e] at h
    exact h
  · rw [if_neg (by omega), if_pos (by omega)] at h
    unfold ev_bin at h
    rw [if_neg n2, if_neg n3, if_pos e] at h
    exact h
  · rw [if_neg (by omega), if_pos (by omega)] at h
    unfold ev_bin at h
    rw [if_neg n2, if_neg n3, if_neg n4] at h
    refine br_c (fun y => ⟨i1, nm_e ?_⟩) (fun y => ⟨i1, nm_e ?_⟩)
    · rw [if_neg (Int32.not_lt.mpr y)] at h
      exact h
    · rw [if_pos (Int32.not_le.mp y)] at h
      exact h
  · rw [if_neg (by omega), if_neg (by omega)] at h
    exact h
  · rw [if_neg (by omega), if_neg (by omega)] at h
    exact h
  · rw [if_pos e] at h
    unfold ev_say at h
    unfold wpX_say
    refine pk_le 20 s.1 (fun y => nm_r (nI_1 _) ⟨i1, ?_⟩) (fun y => ?_)
    · rw [if_neg (show ¬ s.1 < 20 by omega)] at h
      exact nm_e h
    · rw [if_pos y] at h
      rw [nI_clamp (show s.1 < 2 ^ 31 by omega)]
      refine ⟨pk_in s.1 20 y, nm_e (nm_r (nI_1 _) ⟨i1, ?_⟩)⟩
      exact nm_e h
/-- the last operand of p has been worked out: p is done -/
theorem xa_fin {post : SX → Prop} {n p k m st : Nat} {O : pm_O} {a b c : Int32} {s : Nat × (Nat → Int32)} (A : xr_A n O xqk xqv xqo xqp xqs xqh) (hp : p + 1 < n) (hk : k < n) (hs : s.1 < 100000) (h2 : 2 ≤ (O p).1) (epar : (O k).2.2.2 = p + 1) (hst : st + 1 < 1000000)
    (hl : k ≠ p + 1 ∨ (O p).1 = 8)
    (h : wX_workOut_87 post (wX_workOut_9 post a b c m) a b c (nI p) (nI (st+1)) xds xcc xmi xre xpc xpl xtl (nI (ev_fin O p (xwo (p+1)) (xwo k) s).2.1) xou xtk xtv xss xts xho xfu xfa xfo xpn xpe xpf xqk xqv xqo xqp xqs xqh (upd xwo p (ev_fin O p (xwo (p+1)) (xwo k) s).1) ((ev_fin O p (xwo (p+1)) (xwo k) s).2.2)) :
    wX_workOut_87 post (wX_workOut_9 post a b c (m+1)) a b c (nI k) (nI st) xds xcc xmi xre xpc xpl xtl (nI s.1) xou xtk xtv xss xts xho xfu xfa xfo xpn xpe xpf xqk xqv xqo xqp xqs xqh xwo s.2 := by
  have A' := A
  obtain ⟨G, hO, hL⟩ := A
  have h3 := G.1
  have l3 := (hL k hk).2.2
  have o1 := (hO p (by omega)).1
  have o8 := (G.2.2 p (by omega)).1
  rw [epar, ys_iS] at l3
  have N : wX_workOut_105 post (wX_workOut_9 post a b c (m+1)) a b c (nI k) (nI st) (-1) 1 xds xcc xmi xre xpc xpl xtl (nI s.1) xou xtk xtv xss xts xho xfu xfa xfo xpn xpe xpf xqk xqv xqo xqp xqs xqh xwo s.2 := by
    unfold wX_workOut_105
    refine br_f (by decide) ⟨pk_in k 2000 (by omega), ?_⟩
    rw [nI_clamp (show k < 2 ^ 31 by omega)]
    refine nm_r l3 (xw_finish A' hp hk hs h2 (nm_r (nI_1 st) ?_))
    refine pk_le 1000000 (st+1) (fun z => by omega) (fun _ => br_f (nI_pos (by omega)) (br_f (by decide) ?_))
    unfold wX_workOut_46
    exact br_f (by decide) h
  unfold wX_workOut_87 wpX_operandAfter
  dsimp only
  rw [nI_clamp (show k < 2 ^ 31 by omega)]
  refine ⟨pk_in k 2000 (by omega), nm_r l3 (br_f (nI_pos (by omega)) ?_)⟩
  rw [nI_1]
  refine pk_eq k (p+1) (fun e => ⟨pk_in p 2000 (by omega), ?_⟩) (fun e => br_f (by decide) N)
  rw [nI_clamp (show p < 2 ^ 31 by omega), o1]
  refine pk_eq (O p).1 8 (fun _ => br_f (by decide) N) (fun e8 => ?_)
  rcases hl with y | y
  · exact absurd e y
  · exact absurd y e8
/-- the first operand of p has been worked out: on to another -/
theorem xa_next {post : SX → Prop} {n p m st : Nat} {O : pm_O} {a b c : Int32} (A : xr_A n O xqk xqv xqo xqp xqs xqh) (hp : p < n) (ha : 2 ≤ pm_ar O p) (h8 : (O p).1 ≠ 8)
    (h : wX_workOut_9 post a b c m (nI (if (O p).1 = 6 ∧ xwo (p+1) = 0 then ev_r O p else ev_q O p)) 0 (nI (st+1)) xds xcc xmi xre xpc xpl xtl xsc xou xtk xtv xss xts xho xfu xfa xfo xpn xpe xpf xqk xqv xqo xqp xqs xqh xwo xsi) :
    wX_workOut_87 post (wX_workOut_9 post a b c m) a b c (nI (p+1)) (nI st) xds xcc xmi xre xpc xpl xtl xsc xou xtk xtv xss xts xho xfu xfa xfo xpn xpe xpf xqk xqv xqo xqp xqs xqh xwo xsi := by
  obtain ⟨G, hO, hL⟩ := A
  have h3 := G.1
  have o8 := (G.2.2 p hp).1
  have o1 := (hO p hp).1
  obtain ⟨k1, k2⟩ := tr_k1 G hp (by omega)
  obtain ⟨q1, q2, q3, q4⟩ := tr_k2 G hp ha
  obtain ⟨l1, l2, l3⟩ := hL (p+1) k1
  rw [k2, ys_iS] at l3
  have N : ∀ x : Nat, x < n → wX_workOut_9 post a b c m (nI x) 0 (nI (st+1)) xds xcc xmi xre xpc xpl xtl xsc xou xtk xtv xss xts xho xfu xfa xfo xpn xpe xpf xqk xqv xqo xqp xqs xqh xwo xsi → ((0 ≤ nI x → wX_workOut_105 post (wX_workOut_9 post a b c m) a b c (nI (p+1)) (nI st) (nI x) 0 xds xcc xmi xre xpc xpl xtl xsc xou xtk xtv xss xts xho xfu xfa xfo xpn xpe xpf xqk xqv xqo xqp xqs xqh xwo xsi) ∧ (¬ 0 ≤ nI x → wX_workOut_105 post (wX_workOut_9 post a b c m) a b c (nI (p+1)) (nI st) (nI x) 1 xds xcc xmi xre xpc xpl xtl xsc xou xtk xtv xss xts xho xfu xfa xfo xpn xpe xpf xqk xqv xqo xqp xqs xqh xwo xsi)) := by
    intro x hx hh
    refine br_t (nI_pos' (by omega)) ?_
    unfold wX_workOut_105
    exact br_t rfl (nm_r (nI_1 st) hh)
  have i1 : vp_in (nI (p+1)) 2000 := pk_in (p+1) 2000 (by omega)
  have i2 : vp_in (nI p) 2000 := pk_in p 2000 (by omega)
  unfold wX_workOut_87 wpX_operandAfter
  dsimp only
  rw [nI_clamp (show p + 1 < 2 ^ 31 by omega)]
  refine ⟨i1, nm_r l3 (br_f (nI_pos (by omega)) ?_)⟩
  rw [nI_1]
  refine br_t rfl ⟨i2, ?_⟩
  rw [nI_clamp (show p < 2 ^ 31 by omega), o1]
  refine pk_eq (O p).1 8 (fun e => absurd e h8) (fun _ => ⟨i1, nm_r (e' := nI (ev_q O p)) (by rw [l1, nI_add, q3]) ⟨i2, ?_⟩⟩)
  have M64 : ¬ ((O p).1 = 6 ∧ xwo (p+1) = 0) → wX_operandAfter_64 (fun r_5 => (0 ≤ r_5 → wX_workOut_105 post (wX_workOut_9 post a b c m) a b c (nI (p+1)) (nI st) r_5 0 xds xcc xmi xre xpc xpl xtl xsc xou xtk xtv xss xts xho xfu xfa xfo xpn xpe xpf xqk xqv xqo xqp xqs xqh xwo xsi) ∧ (¬ 0 ≤ r_5 → wX_workOut_105 post (wX_workOut_9 post a b c m) a b c (nI (p+1)) (nI st) r_5 1 xds xcc xmi xre xpc xpl xtl xsc xou xtk xtv xss xts xho xfu xfa xfo xpn xpe xpf xqk xqv xqo xqp xqs xqh xwo xsi)) (nI (ev_q O p)) xds xcc xmi xre xpc xpl xtl xsc xou xtk xtv xss xts xho xfu xfa xfo xpn xpe xpf xqk xqv xqo xqp xqs xqh xwo xsi := by
    intro hne
    rw [if_neg hne] at h
    unfold wX_operandAfter_64 wX_operandAfter_65
    exact br_t rfl (N _ q1 h)
  refine pk_eq (O p).1 6 (fun e6 => ⟨i1, br_c (fun w0 => ?_) (fun w0 => M64 (fun y => w0 y.2))⟩) (fun e6 => M64 (fun y => e6 y.1))
  rw [if_pos ⟨e6, w0⟩] at h
  obtain ⟨r1, r2, r3, r4⟩ := tr_k3 G hp (by rw [tr_ar3 e6]; omega)
  unfold wX_operandAfter_65
  refine br_f (by decide) ⟨pk_in _ 2000 (by omega) rfl, ?_⟩
  rw [nI_clamp (show ev_q O p < 2 ^ 31 by omega), (hL _ q1).1, nI_add, ← r3]
  exact N _ r1 h
end
section
variable {xds xcc xmi xre xpc xpl xtl xsc xou : Int32} {xtk xtv xss xts xho xfu xfa xfo xpn xpe xpf xqk xqv xqo xqp xqs xqh xwo xsi : Nat → Int32}
theorem xw_leaf {post : SX → Prop} {n p m st : Nat} {O : pm_O} {a b c : Int32} {E : Nat → Int32} {Hn : Nat → Nat} {t : Nat} {s : Nat × (Nat → Int32)} (A : xr_A n O xqk xqv xqo xqp xqs xqh) (hH : ∀ c, c < 6 → xho c = nI (Hn c)) (hp : p < n) (hk : (O p).1 = 0 ∨ (O p).1 = 1)
    (he : ev_en O (ev_E0 a b c) xwo p E) (hst : st < 1000000)
    (h : wX_workOut_87 post (wX_workOut_9 post a b c m) a b c (nI p) (nI st) xds xcc xmi xre xpc xpl xtl xsc xou xtk xtv xss xts xho xfu xfa xfo xpn xpe xpf xqk xqv xqo xqp xqs xqh (upd xwo p (ev_go O (t+1) p E s).1) xsi) :
    wX_workOut_9 post a b c (m+1) (nI p) 0 (nI st) xds xcc xmi xre xpc xpl xtl xsc xou xtk xtv xss xts xho xfu xfa xfo xpn xpe xpf xqk xqv xqo xqp xqs xqh xwo xsi := by
  have A' := A
  obtain ⟨G, hO, hL⟩ := A
  have h3 := G.1
  obtain ⟨o1, o2, o3⟩ := hO p hp
  have i1 : vp_in (nI p) 2000 := pk_in p 2000 (by omega)
  refine pk_le 1000000 st (fun z => by omega) (fun _ => br_f (nI_pos (by omega)) (br_t rfl ⟨i1, ?_⟩))
  rw [nI_clamp (show p < 2 ^ 31 by omega), o1]
  have ha : tx_a Hn (O p).1 = 0 := by
    rcases hk with e | e <;> rw [e] <;> rfl
  refine xw_ops (Hn := Hn) (by omega) hH ?_
  rw [ha]
  refine br_t (by decide) ?_
  have N : ∀ z0 : Int32, z0 = (ev_go O (t+1) p E s).1 → wX_workOut_86 post (wX_workOut_9 post a b c m) a b c (nI p) (nI st) z0 (nI p) xds xcc xmi xre xpc xpl xtl xsc xou xtk xtv xss xts xho xfu xfa xfo xpn xpe xpf xqk xqv xqo xqp xqs xqh xwo xsi := by
    intro z0 ez
    subst ez
    unfold wX_workOut_86
    rw [nI_clamp (show p < 2 ^ 31 by omega)]
    exact ⟨i1, nm_e h⟩
  unfold wX_workOut_46
  refine br_t rfl ⟨i1, ?_⟩
  rw [nI_clamp (show p < 2 ^ 31 by omega), o1]
  refine pk_eq (O p).1 0 (fun e => ⟨i1, N _ (by rw [ev_0 e]; exact o2)⟩) (fun e => ?_)
  have e1 : (O p).1 = 1 := by omega
  refine xw_var A' hp e1 (N _ ?_)
  rw [ev_1 e1]
  exact he 2000 _ (by omega) (ev_vxE G hp (Or.inl e1)).1
theorem xw_down {post : SX → Prop} {n p m st : Nat} {O : pm_O} {a b c : Int32} {Hn : Nat → Nat} (A : xr_A n O xqk xqv xqo xqp xqs xqh) (hH : ∀ c, c < 6 → xho c = nI (Hn c)) (hp : p < n) (ha : 1 ≤ pm_ar O p) (hst : st < 1000000)
    (h : wX_workOut_9 post a b c m (nI (p+1)) 0 (nI (st+1)) xds xcc xmi xre xpc xpl xtl xsc xou xtk xtv xss xts xho xfu xfa xfo xpn xpe xpf xqk xqv xqo xqp xqs xqh xwo xsi) : wX_workOut_9 post a b c (m+1) (nI p) 0 (nI st) xds xcc xmi xre xpc xpl xtl xsc xou xtk xtv xss xts xho xfu xfa xfo xpn xpe xpf xqk xqv xqo xqp xqs xqh xwo xsi := by
  obtain ⟨G, hO, hL⟩ := A
  have h3 := G.1
  obtain ⟨o1, o2, o3⟩ := hO p hp
  have o8 := (G.2.2 p hp).1
  have i1 : vp_in (nI p) 2000 := pk_in p 2000 (by omega)
  have ha3 : pm_ar O p ≤ 3 := tr_a3 O o8
  refine pk_le 1000000 st (fun z => by omega) (fun _ => br_f (nI_pos (by omega)) (br_t rfl ⟨i1, ?_⟩))
  rw [nI_clamp (show p < 2 ^ 31 by omega), o1]
  have ea : tx_a Hn (O p).1 = pm_ar O p := tx_aI _ _ (by omega)
  refine xw_ops (Hn := Hn) (by omega) hH ?_
  rw [ea]
  exact pk_le (pm_ar O p) 0 (fun z => by omega) (fun _ => nm_r (nI_1 p) (nm_r (nI_1 st) h))
theorem xw_sim {post : SX → Prop} {n : Nat} {O : pm_O} {a b c : Int32} {Hn : Nat → Nat} (A : xr_A n O xqk xqv xqo xqp xqs xqh) (hH : ∀ c, c < 6 → xho c = nI (Hn c)) :
    ∀ (t p : Nat) (E W : Nat → Int32) (s : Nat × (Nat → Int32)) (B st : Nat), p < n → tr_sp (pm_ar O) p ≤ t → ev_en O (ev_E0 a b c) W p E → s.1 ≤ p → st + 2 * tr_sp (pm_ar O) p ≤ 900000 →
      (∀ (W' : Nat → Int32) (m st' : Nat), (∀ j, (j < p ∨ p + tr_sp (pm_ar O) p ≤ j) → W' j = W j) → W' p = (ev_go O t p E s).1 → B ≤ m → st' + 1 ≤ st + 2 * tr_sp (pm_ar O) p →
        wX_workOut_87 post (wX_workOut_9 post a b c m) a b c (nI p) (nI st') xds xcc xmi xre xpc xpl xtl (nI (ev_go O t p E s).2.1) xou xtk xtv xss xts xho xfu xfa xfo xpn xpe xpf xqk xqv xqo xqp xqs xqh W' ((ev_go O t p E s).2.2)) →
      ∀ m, B + 2 * tr_sp (pm_ar O) p ≤ m → wX_workOut_9 post a b c m (nI p) 0 (nI st) xds xcc xmi xre xpc xpl xtl (nI s.1) xou xtk xtv xss xts xho xfu xfa xfo xpn xpe xpf xqk xqv xqo xqp xqs xqh W s.2 := by
  have G := A.1
  have h3 := G.1
  intro t
  induction t with
  | zero =>
    intro p E W s B st hp ht
    have := (tr_spE G hp).2.2.1
    omega
  | succ t ih =>
    intro p E W s B st hp ht he hs hst h m hm
    obtain ⟨sp1, sp2, sp3, sp4⟩ := tr_spE G hp
    obtain ⟨m, rfl⟩ : ∃ m', m = m' + 1 := ⟨m - 1, by omega⟩
    rcases tr_kinds G hp with hk | hk | hk | hk | hk | hk
    · refine xw_leaf (E := E) (t := t) (s := s) A hH hp (Or.inl hk) he (by omega) ?_
      have := h (upd W p (ev_go O (t+1) p E s).1) m st (fun j hj => pk_un (by omega)) pk_us (by omega) (by omega)
      rw [ev_0 hk] at this ⊢
      exact this
    · refine xw_leaf (E := E) (t := t) (s := s) A hH hp (Or.inr hk) he (by omega) ?_
      have := h (upd W p (ev_go O (t+1) p E s).1) m st (fun j hj => pk_un (by omega)) pk_us (by omega) (by omega)
      rw [ev_1 hk] at this ⊢
      exact this
    · -- two operands, reckoned
      have ha := tr_ar2 (O := O) (p := p) (Or.inl hk)
      obtain ⟨k1, k2⟩ := tr_k1 G hp (by omega)
      obtain ⟨q1, q2, q3, q4⟩ := tr_k2 G hp (by omega)
      have l := tr_l2 G hp ha
      have c1 := ev_cnt G t (p+1) E s k1 (by omega)
      have c2 := ev_cnt G t (ev_q O p) E (ev_go O t (p+1) E s).2 q1 (by omega)
      refine xw_down A hH hp (by omega) (by omega) ?_
      refine ih (p+1) E W s (B + 1 + 2 * tr_sp (pm_ar O) (ev_q O p)) (st+1) k1 (by omega) (ev_enA he k2 (by omega) (Or.inl (by omega))) (by omega) (by omega) ?_ m (by omega)
      intro W1 m1 st1 x1 x2 x3 x4
      refine xa_next A hp (by omega) (by omega) ?_
      rw [if_neg (by omega)]
      refine ih (ev_q O p) E W1 (ev_go O t (p+1) E s).2 (B + 1) (st1+1) q1 (by omega) (ev_enA (ev_enW G hp he (fun j hj => x1 j (by omega))) q2 (by omega) (Or.inl (by omega))) (by omega) (by omega) ?_ m1 (by omega)
      intro W2 m2 st2 y1 y2 y3 y4
      obtain ⟨m2, rfl⟩ : ∃ m', m2 = m' + 1 := ⟨m2 - 1, by omega⟩
      have ew : W2 (p+1) = (ev_go O t (p+1) E s).1 := by rw [y1 (p+1) (by omega), x2]
      refine xa_fin A (by omega) q1 (by omega) (by omega) q2 (by omega) (Or.inl (by omega)) ?_
      have ef : ev_fin O p (W2 (p+1)) (W2 (ev_q O p)) (ev_go O t (ev_q O p) E (ev_go O t (p+1) E s).2).2 = ev_go O (t+1) p E s := by
        unfold ev_fin
        rw [if_neg (by omega), if_pos (by omega), ev_b hk, ew, y2]
      rw [ef]
      refine h _ m2 (st2+1) ?_ pk_us (by omega) (by omega)
      intro j hj
      rw [pk_un (by omega), y1 j (by omega), x1 j (by omega)]
    · -- IF
      have ha := tr_ar3 (O := O) (p := p) hk
      obtain ⟨k1, k2⟩ := tr_k1 G hp (by omega)
      obtain ⟨q1, q2, q3, q4⟩ := tr_k2 G hp (by omega)
      obtain ⟨r1, r2, r3, r4⟩ := tr_k3 G hp (by omega)
      have l := tr_l3 G hp ha
      have sr := (tr_spE G r1).2.2.1
      have c1 := ev_cnt G t (p+1) E s k1 (by omega)
      refine xw_down A hH hp (by omega) (by omega) ?_
      refine ih (p+1) E W s (B + 1 + 2 * tr_sp (pm_ar O) (ev_q O p) + 2 * tr_sp (pm_ar O) (ev_r O p)) (st+1) k1 (by omega) (ev_enA he k2 (by omega) (Or.inl (by omega))) (by omega) (by omega) ?_ m (by omega)
      intro W1 m1 st1 x1 x2 x3 x4
      refine xa_next A hp (by omega) (by omega) ?_
      by_cases h0 : (ev_go O t (p+1) E s).1 = 0
      · rw [if_pos ⟨hk, by rw [x2]; exact h0⟩]
        have c2 := ev_cnt G t (ev_r O p) E (ev_go O t (p+1) E s).2 r1 (by omega)
        refine ih (ev_r O p) E W1 (ev_go O t (p+1) E s).2 (B + 1) (st1+1) r1 (by omega) (ev_enA (ev_enW G hp he (fun j hj => x1 j (by omega))) r2 (by omega) (Or.inl (by omega))) (by omega) (by omega) ?_ m1 (by omega)
        intro W2 m2 st2 y1 y2 y3 y4
        obtain ⟨m2, rfl⟩ : ∃ m', m2 = m' + 1 := ⟨m2 - 1, by omega⟩
        refine xa_fin A (by omega) r1 (by omega) (by omega) r2 (by omega) (Or.inl (by omega)) ?_
        have ef : ev_fin O p (W2 (p+1)) (W2 (ev_r O p)) (ev_go O t (ev_r O p) E (ev_go O t (p+1) E s).2).2 = ev_go O (t+1) p E s := by
          unfold ev_fin
          rw [if_neg (by omega), if_neg (by omega), ev_6z hk h0, y2]
        rw [ef]
        refine h _ m2 (st2+1) ?_ pk_us (by omega) (by omega)
        intro j hj
        rw [pk_un (by omega), y1 j (by omega), x1 j (by omega)]
      · rw [if_neg (fun y => h0 (by rw [← x2]; exact y.2))]
        have c2 := ev_cnt G t (ev_q O p) E (ev_go O t (p+1) E s).2 q1 (by omega)
        refine ih (ev_q O p) E W1 (ev_go O t (p+1) E s).2 (B + 1) (st1+1) q1 (by omega) (ev_enA (ev_enW G hp he (fun j hj => x1 j (by omega))) q2 (by omega) (Or.inl (by omega))) (by omega) (by omega) ?_ m1 (by omega)
        intro W2 m2 st2 y1 y2 y3 y4
        obtain ⟨m2, rfl⟩ : ∃ m', m2 = m' + 1 := ⟨m2 - 1, by omega⟩
        refine xa_fin A (by omega) q1 (by omega) (by omega) q2 (by omega) (Or.inl (by omega)) ?_
        have ef : ev_fin O p (W2 (p+1)) (W2 (ev_q O p)) (ev_go O t (ev_q O p) E (ev_go O t (p+1) E s).2).2 = ev_go O (t+1) p E s := by
          unfold ev_fin
          rw [if_neg (by omega), if_neg (by omega), ev_6n hk h0, y2]
        rw [ef]
        refine h _ m2 (st2+1) ?_ pk_us (by omega) (by omega)
        intro j hj
        rw [pk_un (by omega), y1 j (by omega), x1 j (by omega)]
    · -- LET
      have ha := tr_ar2 (O := O) (p := p) (Or.inr hk)
      obtain ⟨k1, k2⟩ := tr_k1 G hp (by omega)
      obtain ⟨q1, q2, q3, q4⟩ := tr_k2 G hp (by omega)
      have l := tr_l2 G hp ha
      have c1 := ev_cnt G t (p+1) E s k1 (by omega)
      have c2 := ev_cnt G t (ev_q O p) (upd E (ev_vx O p) (ev_go O t (p+1) E s).1) (ev_go O t (p+1) E s).2 q1 (by omega)
      refine xw_down A hH hp (by omega) (by omega) ?_
      refine ih (p+1) E W s (B + 1 + 2 * tr_sp (pm_ar O) (ev_q O p)) (st+1) k1 (by omega) (ev_enA he k2 (by omega) (Or.inr rfl)) (by omega) (by omega) ?_ m (by omega)
      intro W1 m1 st1 x1 x2 x3 x4
      refine xa_next A hp (by omega) (by omega) ?_
      rw [if_neg (by omega)]
      have he2 := ev_enB (ev_enW G hp he (fun j hj => x1 j (by omega))) q2 (by omega) hk (by omega)
      rw [x2] at he2
      refine ih (ev_q O p) (upd E (ev_vx O p) (ev_go O t (p+1) E s).1) W1 (ev_go O t (p+1) E s).2 (B + 1) (st1+1) q1 (by omega) he2 (by omega) (by omega) ?_ m1 (by omega)
      intro W2 m2 st2 y1 y2 y3 y4
      obtain ⟨m2, rfl⟩ : ∃ m', m2 = m' + 1 := ⟨m2 - 1, by omega⟩
      refine xa_fin A (by omega) q1 (by omega) (by omega) q2 (by omega) (Or.inl (by omega)) ?_
      have ef : ev_fin O p (W2 (p+1)) (W2 (ev_q O p)) (ev_go O t (ev_q O p) (upd E (ev_vx O p) (ev_go O t (p+1) E s).1) (ev_go O t (p+1) E s).2).2 = ev_go O (t+1) p E s := by
        unfold ev_fin
        rw [if_neg (by omega), if_neg (by omega), ev_7 hk, y2]
      rw [ef]
      refine h _ m2 (st2+1) ?_ pk_us (by omega) (by omega)
      intro j hj
      rw [pk_un (by omega), y1 j (by omega), x1 j (by omega)]
    · -- SAY
      have ha := tr_ar1 (O := O) (p := p) hk
      obtain ⟨k1, k2⟩ := tr_k1 G hp (by omega)
      have l := tr_l1 G hp ha
      have c1 := ev_cnt G t (p+1) E s k1 (by omega)
      refine xw_down A hH hp (by omega) (by omega) ?_
      refine ih (p+1) E W s (B + 1) (st+1) k1 (by omega) (ev_enA he k2 (by omega) (Or.inr rfl)) (by omega) (by omega) ?_ m (by omega)
      intro W1 m1 st1 x1 x2 x3 x4
      obtain ⟨m1, rfl⟩ : ∃ m', m1 = m' + 1 := ⟨m1 - 1, by omega⟩
      refine xa_fin A (by omega) k1 (by omega) (by omega) k2 (by omega) (Or.inr hk) ?_
      have ef : ev_fin O p (W1 (p+1)) (W1 (p+1)) (ev_go O t (p+1) E s).2 = ev_go O (t+1) p E s := by
        unfold ev_fin
        rw [if_pos hk, ev_8 hk, x2]
      rw [ef]
      refine h _ m1 (st1+1) ?_ pk_us (by omega) (by omega)
      intro j hj
      rw [pk_un (by omega), x1 j (by omega)]
theorem xw_workOut {post : SX → Prop} {n : Nat} {O : pm_O} {a b c : Int32} {Hn : Nat → Nat} {E : Nat → Int32} (A : xr_A n O xqk xqv xqo xqp xqs xqh) (hH : ∀ c, c < 6 → xho c = nI (Hn c)) (hE : ∀ v, v < 4110 → E v = ev_E0 a b c v)
    (h : ∀ W : Nat → Int32, W 0 = (ev_go O 2000 0 E (0, xsi)).1 → post (xds, xcc, xmi, xre, xpc, xpl, xtl, nI (ev_go O 2000 0 E (0, xsi)).2.1, xou, xtk, xtv, xss, xts, xho, xfu, xfa, xfo, xpn, xpe, xpf, xqk, xqv, xqo, xqp, xqs, xqh, W, (ev_go O 2000 0 E (0, xsi)).2.2)) : wpX_workOut post (xds, xcc, xmi, xre, xpc, xpl, xtl, 0, xou, xtk, xtv, xss, xts, xho, xfu, xfa, xfo, xpn, xpe, xpf, xqk, xqv, xqo, xqp, xqs, xqh, xwo, xsi) a b c := by
  have G := A.1
  have h3 := G.1
  have n0 := tr_n0 G
  obtain ⟨sp1, sp2, sp3, sp4⟩ := tr_spE G n0
  have l3 := (A.2.2 0 n0).2.2
  have p0 : (O 0).2.2.2 = 0 := by
    have := tr_par G n0
    omega
  rw [p0, ys_i0] at l3
  unfold wpX_workOut
  refine ⟨1 + 2 * tr_sp (pm_ar O) 0, xw_sim A hH 2000 0 E xwo (0, xsi) 1 0 n0 (by omega) ?_ (Nat.le_refl _) (by omega) ?_ _ (Nat.le_refl _)⟩
  · intro t v ht hv
    rw [ev_en0 G (ev_E0 a b c) xwo t v ht hv, hE v hv]
  · intro W' m st' x1 x2 x3 x4
    obtain ⟨m, rfl⟩ : ∃ m', m = m' + 1 := ⟨m - 1, by omega⟩
    unfold wX_workOut_87 wpX_operandAfter
    dsimp only
    rw [nI_clamp (show 0 < 2 ^ 31 by omega)]
    refine ⟨pk_in 0 2000 (by omega), nm_r l3 (br_t (by decide) (br_f (by decide) ?_))⟩
    unfold wX_workOut_105
    rw [nI_clamp (show 0 < 2 ^ 31 by omega)]
    refine br_f (by decide) ⟨pk_in 0 2000 (by omega), nm_r l3 ?_⟩
    unfold wpX_finish
    refine br_f (by decide) (nm_r (nI_1 st') ?_)
    exact pk_le 1000000 (st'+1) (fun z => by omega) (fun _ => br_t (by decide) (h W' x2))
end
section
variable {yco ypl ysz yus yof yre ysa : Int32} {ykd ybh yln yhl yvl yks yog yvs ypa ysp ytd ywi yun ysd you yfr ylf yva ysv ywo ysi ywk yph : Nat → Int32}
def yr_A (n : Nat) (O : pm_O) (yks yvs ysp : Nat → Int32) : Prop := tr_G n O ∧ (∀ m, m < n → yks m = nI (O m).1 ∧ yvs m = (O m).2.1) ∧ ∀ m, m < n → ysp m = nI (tr_sp (pm_ar O) m)
theorem yn_leaf {post : Int32 → SY → Prop} {n p f h : Nat} {O : pm_O} (A : yr_A n O yks yvs ysp) (hp : p < n) (hk : (O p).1 ≤ 1)
    (H : post (-1) (yco, ypl, ysz, yus, yof, yre, ysa, ykd, ybh, yln, yhl, yvl, yks, yog, yvs, ypa, ysp, ytd, ywi, yun, ysd, you, yfr, ylf, yva, ysv, ywo, ysi, ywk, yph)) : wpY_next post (yco, ypl, ysz, yus, yof, yre, ysa, ykd, ybh, yln, yhl, yvl, yks, yog, yvs, ypa, ysp, ytd, ywi, yun, ysd, you, yfr, ylf, yva, ysv, ywo, ysi, ywk, yph) (nI p) (nI f) (nI h) := by
  obtain ⟨G, hO, hS⟩ := A
  have h3 := G.1
  have o8 := (G.2.2 p hp).1
  obtain ⟨o1, o2⟩ := hO p hp
  have i1 : vp_in (nI p) 2001 := pk_in p 2001 (by omega)
  have o1' : yks (nI p).toNatClampNeg = nI (O p).1 := by rw [nI_clamp (show p < 2 ^ 31 by omega)]; exact o1
  unfold wpY_next
  exact nm_r (nI_1 p) ⟨i1, nm_r o1' (br_f (nI_pos (by omega)) (pk_lt 8 (O p).1 (fun z => by omega) (fun _ => pk_eq (O p).1 0 (fun e => H) (fun n0 => pk_eq (O p).1 1 (fun e => H) (fun n1 => pk_eq (O p).1 2 (fun e => by omega) (fun n2 => pk_eq (O p).1 3 (fun e => by omega) (fun n3 => pk_eq (O p).1 4 (fun e => by omega) (fun n4 => pk_eq (O p).1 5 (fun e => by omega) (fun n5 => pk_eq (O p).1 6 (fun e => by omega) (fun n6 => pk_eq (O p).1 7 (fun e => by omega) (fun n7 => pk_eq (O p).1 8 (fun e => by omega) (fun n8 => True.intro))))))))))))⟩
theorem yn_first {post : Int32 → SY → Prop} {n p h : Nat} {O : pm_O} (A : yr_A n O yks yvs ysp) (hp : p < n) (hk : 2 ≤ (O p).1)
    (H : post (nI (p+1)) (yco, ypl, ysz, yus, yof, yre, ysa, ykd, ybh, yln, yhl, yvl, yks, yog, yvs, ypa, ysp, ytd, ywi, yun, ysd, you, yfr, ylf, yva, ysv, ywo, ysi, ywk, yph)) : wpY_next post (yco, ypl, ysz, yus, yof, yre, ysa, ykd, ybh, yln, yhl, yvl, yks, yog, yvs, ypa, ysp, ytd, ywi, yun, ysd, you, yfr, ylf, yva, ysv, ywo, ysi, ywk, yph) (nI p) (nI 0) (nI h) := by
  obtain ⟨G, hO, hS⟩ := A
  have h3 := G.1
  have o8 := (G.2.2 p hp).1
  obtain ⟨o1, o2⟩ := hO p hp
  have i1 : vp_in (nI p) 2001 := pk_in p 2001 (by omega)
  have o1' : yks (nI p).toNatClampNeg = nI (O p).1 := by rw [nI_clamp (show p < 2 ^ 31 by omega)]; exact o1
  have H196 : wY_next_196 post 0 (nI (p+1)) yco ypl ysz yus yof yre ysa ykd ybh yln yhl yvl yks yog yvs ypa ysp ytd ywi yun ysd you yfr ylf yva ysv ywo ysi ywk yph := by
    unfold wY_next_196
    exact br_t rfl H
  have H167 : wY_next_167 post 0 (nI (p+1)) yco ypl ysz yus yof yre ysa ykd ybh yln yhl yvl yks yog yvs ypa ysp ytd ywi yun ysd you yfr ylf yva ysv ywo ysi ywk yph := by
    unfold wY_next_167
    exact br_t rfl H
  unfold wpY_next
  exact nm_r (nI_1 p) ⟨i1, nm_r o1' (br_f (nI_pos (by omega)) (pk_lt 8 (O p).1 (fun z => by omega) (fun _ => pk_eq (O p).1 0 (fun e => by omega) (fun n0 => pk_eq (O p).1 1 (fun e => by omega) (fun n1 => pk_eq (O p).1 2 (fun e => H196) (fun n2 => pk_eq (O p).1 3 (fun e => H196) (fun n3 => pk_eq (O p).1 4 (fun e => H196) (fun n4 => pk_eq (O p).1 5 (fun e => H196) (fun n5 => pk_eq (O p).1 6 (fun e => br_t (by decide) (br_t rfl H)) (fun n6 => pk_eq (O p).1 7 (fun e => br_f (by decide) H167) (fun n7 => pk_eq (O p).1 8 (fun e => br_t rfl H) (fun n8 => True.intro))))))))))))⟩
theorem yn_second {post : Int32 → SY → Prop} {n p h : Nat} {O : pm_O} (A : yr_A n O yks yvs ysp) (hp : p < n) (hk : 2 ≤ (O p).1) (hk5 : (O p).1 ≤ 5)
    (H : post (nI (ev_q O p)) (yco, ypl, ysz, yus, yof, yre, ysa, ykd, ybh, yln, yhl, yvl, yks, yog, yvs, ypa, ysp, ytd, ywi, yun, ysd, you, yfr, ylf, yva, ysv, ywo, ysi, ywk, yph)) : wpY_next post (yco, ypl, ysz, yus, yof, yre, ysa, ykd, ybh, yln, yhl, yvl, yks, yog, yvs, ypa, ysp, ytd, ywi, yun, ysd, you, yfr, ylf, yva, ysv, ywo, ysi, ywk, yph) (nI p) (nI 1) (nI h) := by
  obtain ⟨G, hO, hS⟩ := A
  have h3 := G.1
  have o8 := (G.2.2 p hp).1
  obtain ⟨o1, o2⟩ := hO p hp
  have i1 : vp_in (nI p) 2001 := pk_in p 2001 (by omega)
  have o1' : yks (nI p).toNatClampNeg = nI (O p).1 := by rw [nI_clamp (show p < 2 ^ 31 by omega)]; exact o1
  obtain ⟨k1, k2⟩ := tr_k1 G hp (by rw [tr_ar2 (Or.inl ⟨hk, hk5⟩)]; omega)
  obtain ⟨q1, q2, q3, q4⟩ := tr_k2 G hp (by rw [tr_ar2 (Or.inl ⟨hk, hk5⟩)]; omega)
  have H196 : wY_next_196 post 1 (nI (p+1)) yco ypl ysz yus yof yre ysa ykd ybh yln yhl yvl yks yog yvs ypa ysp ytd ywi yun ysd you yfr ylf yva ysv ywo ysi ywk yph := by
    unfold wY_next_196
    rw [nI_clamp (show p + 1 < 2 ^ 31 by omega), hS (p+1) k1, nI_add, ← q3]
    exact br_f (by decide) (br_t rfl ⟨pk_in (p+1) 2001 (by omega), H⟩)
  unfold wpY_next
  exact nm_r (nI_1 p) ⟨i1, nm_r o1' (br_f (nI_pos (by omega)) (pk_lt 8 (O p).1 (fun z => by omega) (fun _ => pk_eq (O p).1 0 (fun e => by omega) (fun n0 => pk_eq (O p).1 1 (fun e => by omega) (fun n1 => pk_eq (O p).1 2 (fun e => H196) (fun n2 => pk_eq (O p).1 3 (fun e => H196) (fun n3 => pk_eq (O p).1 4 (fun e => H196) (fun n4 => pk_eq (O p).1 5 (fun e => H196) (fun n5 => pk_eq (O p).1 6 (fun e => by omega) (fun n6 => pk_eq (O p).1 7 (fun e => by omega) (fun n7 => pk_eq (O p).1 8 (fun e => by omega) (fun n8 => True.intro))))))))))))⟩
theorem yn_if {post : Int32 → SY → Prop} {n p h : Nat} {O : pm_O} (A : yr_A n O yks yvs ysp) (hp : p < n) (hk : (O p).1 = 6) (hh : h < 2000)
    (H : post (nI (if ywo h = 0 then ev_r O p else ev_q O p)) (yco, ypl, ysz, yus, yof, yre, ysa, ykd, ybh, yln, yhl, yvl, yks, yog, yvs, ypa, ysp, ytd, ywi, yun, ysd, you, yfr, ylf, yva, ysv, ywo, ysi, ywk, yph)) : wpY_next post (yco, ypl, ysz, yus, yof, yre, ysa, ykd, ybh, yln, yhl, yvl, yks, yog, yvs, ypa, ysp, ytd, ywi, yun, ysd, you, yfr, ylf, yva, ysv, ywo, ysi, ywk, yph) (nI p) (nI 1) (nI (h+1)) := by
  obtain ⟨G, hO, hS⟩ := A
  have h3 := G.1
  have o8 := (G.2.2 p hp).1
  obtain ⟨o1, o2⟩ := hO p hp
  have i1 : vp_in (nI p) 2001 := pk_in p 2001 (by omega)
  have o1' : yks (nI p).toNatClampNeg = nI (O p).1 := by rw [nI_clamp (show p < 2 ^ 31 by omega)]; exact o1
  obtain ⟨k1, k2⟩ := tr_k1 G hp (by rw [tr_ar3 hk]; omega)
  obtain ⟨q1, q2, q3, q4⟩ := tr_k2 G hp (by rw [tr_ar3 hk]; omega)
  obtain ⟨r1, r2, r3, r4⟩ := tr_k3 G hp (by rw [tr_ar3 hk]; omega)
  have e1 : nI (h+1) - 1 = nI h := nI_pred h
  have H6 : vp_in (nI (p+1)) 2001 ∧ ∀ x5 : Int32, x5 = nI (p+1) + ysp (nI (p+1)).toNatClampNeg → (vp_in (nI (h+1) - 1) 2100 ∧ (((ywo (nI (h+1) - 1).toNatClampNeg) = 0 → (vp_in x5 2001 ∧ (post (x5 + (ysp x5.toNatClampNeg)) (yco, ypl, ysz, yus, yof, yre, ysa, ykd, ybh, yln, yhl, yvl, yks, yog, yvs, ypa, ysp, ytd, ywi, yun, ysd, you, yfr, ylf, yva, ysv, ywo, ysi, ywk, yph)))) ∧ (¬ (ywo (nI (h+1) - 1).toNatClampNeg) = 0 → (post x5 (yco, ypl, ysz, yus, yof, yre, ysa, ykd, ybh, yln, yhl, yvl, yks, yog, yvs, ypa, ysp, ytd, ywi, yun, ysd, you, yfr, ylf, yva, ysv, ywo, ysi, ywk, yph))))) := by
    rw [e1, nI_clamp (show h < 2 ^ 31 by omega), nI_clamp (show p + 1 < 2 ^ 31 by omega), hS (p+1) k1, nI_add, ← q3]
    refine ⟨pk_in (p+1) 2001 (by omega), nm_e ⟨pk_in h 2100 (by omega), br_c (fun w0 => ?_) (fun w0 => ?_)⟩⟩
    · rw [if_pos w0] at H
      rw [nI_clamp (show ev_q O p < 2 ^ 31 by omega), hS _ q1, nI_add, ← r3]
      exact ⟨pk_in _ 2001 (by omega) rfl, H⟩
    · rw [if_neg w0] at H
      exact H
  unfold wpY_next
  exact nm_r (nI_1 p) ⟨i1, nm_r o1' (br_f (nI_pos (by omega)) (pk_lt 8 (O p).1 (fun z => by omega) (fun _ => pk_eq (O p).1 0 (fun e => by omega) (fun n0 => pk_eq (O p).1 1 (fun e => by omega) (fun n1 => pk_eq (O p).1 2 (fun e => by omega) (fun n2 => pk_eq (O p).1 3 (fun e => by omega) (fun n3 => pk_eq (O p).1 4 (fun e => by omega) (fun n4 => pk_eq (O p).1 5 (fun e => by omega) (fun n5 => pk_eq (O p).1 6 (fun e => br_t (by decide) (br_f (by decide) H6)) (fun n6 => pk_eq (O p).1 7 (fun e => by omega) (fun n7 => pk_eq (O p).1 8 (fun e => by omega) (fun n8 => True.intro))))))))))))⟩
theorem yn_let {post : Int32 → SY → Prop} {n p h : Nat} {O : pm_O} (A : yr_A n O yks yvs ysp) (hp : p < n) (hk : (O p).1 = 7) (hh : h < 2000)
    (H : post (nI (ev_q O p)) (yco, ypl, ysz, yus, yof, yre, ysa, ykd, ybh, yln, yhl, yvl, yks, yog, yvs, ypa, ysp, ytd, ywi, yun, ysd, you, yfr, ylf, upd yva (ev_vx O p) (ywo h), upd ysv p (yva (ev_vx O p)), ywo, ysi, ywk, yph)) : wpY_next post (yco, ypl, ysz, yus, yof, yre, ysa, ykd, ybh, yln, yhl, yvl, yks, yog, yvs, ypa, ysp, ytd, ywi, yun, ysd, you, yfr, ylf, yva, ysv, ywo, ysi, ywk, yph) (nI p) (nI 1) (nI (h+1)) := by
  obtain ⟨G, hO, hS⟩ := A
  have h3 := G.1
  have o8 := (G.2.2 p hp).1
  obtain ⟨o1, o2⟩ := hO p hp
  have i1 : vp_in (nI p) 2001 := pk_in p 2001 (by omega)
  have o1' : yks (nI p).toNatClampNeg = nI (O p).1 := by rw [nI_clamp (show p < 2 ^ 31 by omega)]; exact o1
  have ha := tr_ar2 (O := O) (p := p) (Or.inr hk)
  obtain ⟨k1, k2⟩ := tr_k1 G hp (by omega)
  obtain ⟨q1, q2, q3, q4⟩ := tr_k2 G hp (by omega)
  obtain ⟨v1, v2⟩ := ev_vxE G hp (Or.inr hk)
  have e1 : nI (h+1) - 1 = nI h := nI_pred h
  have H167 : wY_next_167 post 1 (nI (p+1)) yco ypl ysz yus yof yre ysa ykd ybh yln yhl yvl yks yog yvs ypa ysp ytd ywi yun ysd you yfr ylf (upd yva (ev_vx O p) (ywo h)) (upd ysv p (yva (ev_vx O p))) ywo ysi ywk yph := by
    unfold wY_next_167
    rw [nI_clamp (show p + 1 < 2 ^ 31 by omega), hS (p+1) k1, nI_add, ← q3]
    exact br_f (by decide) (br_t rfl ⟨pk_in (p+1) 2001 (by omega), H⟩)
  have i2 : vp_in (nI (ev_vx O p)) 4110 := pk_in _ 4110 v1 rfl
  have i3 : vp_in (nI h) 2100 := pk_in h 2100 (by omega)
  have H7 : vp_in (nI p) 2001 ∧ (vp_in (yvs (nI p).toNatClampNeg) 4110 ∧ (vp_in (nI p) 2001 ∧ ∀ x31, x31 = upd ysv (nI p).toNatClampNeg (yva (yvs (nI p).toNatClampNeg).toNatClampNeg) → (vp_in (nI p) 2001 ∧ (vp_in (nI (h+1) - 1) 2100 ∧ (vp_in (yvs (nI p).toNatClampNeg) 4110 ∧ ∀ x35, x35 = upd yva (yvs (nI p).toNatClampNeg).toNatClampNeg (ywo (nI (h+1) - 1).toNatClampNeg) → (wY_next_167 post 1 (nI (p+1)) yco ypl ysz yus yof yre ysa ykd ybh yln yhl yvl yks yog yvs ypa ysp ytd ywi yun ysd you yfr ylf x35 x31 ywo ysi ywk yph)))))) := by
    rw [e1, nI_clamp (show h < 2 ^ 31 by omega), nI_clamp (show p < 2 ^ 31 by omega), o2, v2, nI_clamp (show ev_vx O p < 2 ^ 31 by omega)]
    exact ⟨i1, ⟨i2, ⟨i1, nm_e ⟨i1, ⟨i3, ⟨i2, nm_e H167⟩⟩⟩⟩⟩⟩
  unfold wpY_next
  exact nm_r (nI_1 p) ⟨i1, nm_r o1' (br_f (nI_pos (by omega)) (pk_lt 8 (O p).1 (fun z => by omega) (fun _ => pk_eq (O p).1 0 (fun e => by omega) (fun n0 => pk_eq (O p).1 1 (fun e => by omega) (fun n1 => pk_eq (O p).1 2 (fun e => by omega) (fun n2 => pk_eq (O p).1 3 (fun e => by omega) (fun n3 => pk_eq (O p).1 4 (fun e => by omega) (fun n4 => pk_eq (O p).1 5 (fun e => by omega) (fun n5 => pk_eq (O p).1 6 (fun e => by omega) (fun n6 => pk_eq (O p).1 7 (fun e => br_t rfl H7) (fun n7 => pk_eq (O p).1 8 (fun e => by omega) (fun n8 => True.intro))))))))))))⟩
theorem yn_say {post : Int32 → SY → Prop} {n p h : Nat} {O : pm_O} (A : yr_A n O yks yvs ysp) (hp : p < n) (hk : (O p).1 = 8)
    (H : post (-1) (yco, ypl, ysz, yus, yof, yre, ysa, ykd, ybh, yln, yhl, yvl, yks, yog, yvs, ypa, ysp, ytd, ywi, yun, ysd, you, yfr, ylf, yva, ysv, ywo, ysi, ywk, yph)) : wpY_next post (yco, ypl, ysz, yus, yof, yre, ysa, ykd, ybh, yln, yhl, yvl, yks, yog, yvs, ypa, ysp, ytd, ywi, yun, ysd, you, yfr, ylf, yva, ysv, ywo, ysi, ywk, yph) (nI p) (nI 1) (nI h) := by
  obtain ⟨G, hO, hS⟩ := A
  have h3 := G.1
  have o8 := (G.2.2 p hp).1
  obtain ⟨o1, o2⟩ := hO p hp
  have i1 : vp_in (nI p) 2001 := pk_in p 2001 (by omega)
  have o1' : yks (nI p).toNatClampNeg = nI (O p).1 := by rw [nI_clamp (show p < 2 ^ 31 by omega)]; exact o1
  unfold wpY_next
  exact nm_r (nI_1 p) ⟨i1, nm_r o1' (br_f (nI_pos (by omega)) (pk_lt 8 (O p).1 (fun z => by omega) (fun _ => pk_eq (O p).1 0 (fun e => by omega) (fun n0 => pk_eq (O p).1 1 (fun e => by omega) (fun n1 => pk_eq (O p).1 2 (fun e => by omega) (fun n2 => pk_eq (O p).1 3 (fun e => by omega) (fun n3 => pk_eq (O p).1 4 (fun e => by omega) (fun n4 => pk_eq (O p).1 5 (fun e => by omega) (fun n5 => pk_eq (O p).1 6 (fun e => by omega) (fun n6 => pk_eq (O p).1 7 (fun e => by omega) (fun n7 => pk_eq (O p).1 8 (fun e => br_f (by decide) H) (fun n8 => True.intro))))))))))))⟩
theorem yn_end {post : Int32 → SY → Prop} {n p h : Nat} {O : pm_O} (A : yr_A n O yks yvs ysp) (hp : p < n) (hk : 2 ≤ (O p).1) (hk7 : (O p).1 ≤ 7)
    (H : post (-1) (yco, ypl, ysz, yus, yof, yre, ysa, ykd, ybh, yln, yhl, yvl, yks, yog, yvs, ypa, ysp, ytd, ywi, yun, ysd, you, yfr, ylf, yva, ysv, ywo, ysi, ywk, yph)) : wpY_next post (yco, ypl, ysz, yus, yof, yre, ysa, ykd, ybh, yln, yhl, yvl, yks, yog, yvs, ypa, ysp, ytd, ywi, yun, ysd, you, yfr, ylf, yva, ysv, ywo, ysi, ywk, yph) (nI p) (nI 2) (nI h) := by
  obtain ⟨G, hO, hS⟩ := A
  have h3 := G.1
  have o8 := (G.2.2 p hp).1
  obtain ⟨o1, o2⟩ := hO p hp
  have i1 : vp_in (nI p) 2001 := pk_in p 2001 (by omega)
  have o1' : yks (nI p).toNatClampNeg = nI (O p).1 := by rw [nI_clamp (show p < 2 ^ 31 by omega)]; exact o1
  have H196 : wY_next_196 post 2 (nI (p+1)) yco ypl ysz yus yof yre ysa ykd ybh yln yhl yvl yks yog yvs ypa ysp ytd ywi yun ysd you yfr ylf yva ysv ywo ysi ywk yph := by
    unfold wY_next_196
    exact br_f (by decide) (br_f (by decide) H)
  have H167 : wY_next_167 post 2 (nI (p+1)) yco ypl ysz yus yof yre ysa ykd ybh yln yhl yvl yks yog yvs ypa ysp ytd ywi yun ysd you yfr ylf yva ysv ywo ysi ywk yph := by
    unfold wY_next_167
    exact br_f (by decide) (br_f (by decide) H)
  unfold wpY_next
  exact nm_r (nI_1 p) ⟨i1, nm_r o1' (br_f (nI_pos (by omega)) (pk_lt 8 (O p).1 (fun z => by omega) (fun _ => pk_eq (O p).1 0 (fun e => by omega) (fun n0 => pk_eq (O p).1 1 (fun e => by omega) (fun n1 => pk_eq (O p).1 2 (fun e => H196) (fun n2 => pk_eq (O p).1 3 (fun e => H196) (fun n3 => pk_eq (O p).1 4 (fun e => H196) (fun n4 => pk_eq (O p).1 5 (fun e => H196) (fun n5 => pk_eq (O p).1 6 (fun e => br_f (by decide) H) (fun n6 => pk_eq (O p).1 7 (fun e => br_f (by decide) H167) (fun n7 => pk_eq (O p).1 8 (fun e => by omega) (fun n8 => True.intro))))))))))))⟩
theorem yd_w {post : Int32 → SY → Prop} {h : Nat} {x1 : Int32} (hh : h < 2100) (H : ∀ x y : Int32, (2 ≤ h → x = ywo (h-2)) → (1 ≤ h → y = ywo (h-1)) → wY_done_34 post x1 (nI h) x y yco ypl ysz yus yof yre ysa ykd ybh yln yhl yvl yks yog yvs ypa ysp ytd ywi yun ysd you yfr ylf yva ysv ywo ysi ywk yph) : wpY_done post (yco, ypl, ysz, yus, yof, yre, ysa, ykd, ybh, yln, yhl, yvl, yks, yog, yvs, ypa, ysp, ytd, ywi, yun, ysd, you, yfr, ylf, yva, ysv, ywo, ysi, ywk, yph) x1 (nI h) := by
  have N : ∀ x : Int32, (2 ≤ h → x = ywo (h-2)) → wY_done_17 post x1 (nI h) x yco ypl ysz yus yof yre ysa ykd ybh yln yhl yvl yks yog yvs ypa ysp ytd ywi yun ysd you yfr ylf yva ysv ywo ysi ywk yph := by
    intro x hx
    unfold wY_done_17
    refine pk_le h 0 (fun z => H x 0 hx (fun y => by omega)) (fun z => ?_)
    rw [show nI h - 1 = nI (h-1) from pk_sub (b := 1) z, nI_clamp (show h - 1 < 2 ^ 31 by omega)]
    exact ⟨pk_in (h-1) 2100 (by omega), H x _ hx (fun _ => rfl)⟩
  unfold wpY_done
  refine pk_le h 1 (fun z => N 0 (fun y => by omega)) (fun z => ?_)
  rw [show nI h - 2 = nI (h-2) from pk_sub (b := 2) z, nI_clamp (show h - 2 < 2 ^ 31 by omega)]
  exact ⟨pk_in (h-2) 2100 (by omega), N _ (fun _ => rfl)⟩
theorem yd_reck {post : Int32 → Prop} {k : Nat} {x y : Int32} (h2 : 2 ≤ k) (h5 : k ≤ 5) (h : post (ev_bin k x y)) : wpY_reckoned post (nI k) x y := by
  unfold ev_bin at h
  unfold wpY_reckoned
  refine pk_eq k 2 (fun e => by rw [if_pos e] at h; exact h) (fun n2 => pk_eq k 3 (fun e => by rw [if_neg n2, if_pos e] at h; exact h) (fun n3 => pk_eq k 4 (fun e => by rw [if_neg n2, if_neg n3, if_pos e] at h; exact h) (fun n4 => ?_)))
  rw [if_neg n2, if_neg n3, if_neg n4] at h
  refine br_c (fun z => ?_) (fun z => ?_)
  · rw [if_neg (Int32.not_lt.mpr z)] at h
    exact h
  · rw [if_pos (Int32.not_le.mp z)] at h
    exact h
theorem yd_num {post : Int32 → SY → Prop} {n p h : Nat} {O : pm_O} {s : Nat × (Nat → Int32)} (A : yr_A n O yks yvs ysp) (hp : p < n) (hh : h < 2000) (hk : (O p).1 = 0)
    (H : post (nI (h+1)) (yco, ypl, ysz, yus, yof, yre, ysa, ykd, ybh, yln, yhl, yvl, yks, yog, yvs, ypa, ysp, ytd, ywi, yun, ysd, you, yfr, ylf, yva, ysv, upd ywo h (O p).2.1, ysi, ywk, yph)) : wpY_done post (yco, ypl, ysz, yus, yof, yre, ysa, ykd, ybh, yln, yhl, yvl, yks, yog, yvs, ypa, ysp, ytd, ywi, yun, ysd, you, yfr, ylf, yva, ysv, ywo, ysi, ywk, yph) (nI p) (nI h) := by
  obtain ⟨G, hO, hS⟩ := A
  have h3 := G.1
  have o8 := (G.2.2 p hp).1
  obtain ⟨o1, o2⟩ := hO p hp
  have i1 : vp_in (nI p) 2001 := pk_in p 2001 (by omega)
  have o1' : yks (nI p).toNatClampNeg = nI (O p).1 := by rw [nI_clamp (show p < 2 ^ 31 by omega)]; exact o1
  refine yd_w (by omega) (fun x y hx hy => ?_)
  unfold wY_done_34
  refine ⟨i1, nm_r o1' (br_f (nI_pos (by omega)) (pk_lt 8 (O p).1 (fun z => by omega) (fun _ => pk_eq (O p).1 0 (fun e => ?_) (fun n0 => pk_eq (O p).1 1 (fun e => by omega) (fun n1 => pk_eq (O p).1 2 (fun e => by omega) (fun n2 => pk_eq (O p).1 3 (fun e => by omega) (fun n3 => pk_eq (O p).1 4 (fun e => by omega) (fun n4 => pk_eq (O p).1 5 (fun e => by omega) (fun n5 => pk_eq (O p).1 6 (fun e => by omega) (fun n6 => pk_eq (O p).1 7 (fun e => by omega) (fun n7 => pk_eq (O p).1 8 (fun e => by omega) (fun n8 => True.intro))))))))))))⟩
  rw [nI_clamp (show p < 2 ^ 31 by omega), nI_clamp (show h < 2 ^ 31 by omega), o2, nI_1]
  exact ⟨i1, ⟨pk_in h 2100 (by omega), nm_e H⟩⟩
theorem yd_var {post : Int32 → SY → Prop} {n p h : Nat} {O : pm_O} {s : Nat × (Nat → Int32)} (A : yr_A n O yks yvs ysp) (hp : p < n) (hh : h < 2000) (hk : (O p).1 = 1)
    (H : post (nI (h+1)) (yco, ypl, ysz, yus, yof, yre, ysa, ykd, ybh, yln, yhl, yvl, yks, yog, yvs, ypa, ysp, ytd, ywi, yun, ysd, you, yfr, ylf, yva, ysv, upd ywo h (yva (ev_vx O p)), ysi, ywk, yph)) : wpY_done post (yco, ypl, ysz, yus, yof, yre, ysa, ykd, ybh, yln, yhl, yvl, yks, yog, yvs, ypa, ysp, ytd, ywi, yun, ysd, you, yfr, ylf, yva, ysv, ywo, ysi, ywk, yph) (nI p) (nI h) := by
  obtain ⟨G, hO, hS⟩ := A
  have h3 := G.1
  have o8 := (G.2.2 p hp).1
  obtain ⟨o1, o2⟩ := hO p hp
  have i1 : vp_in (nI p) 2001 := pk_in p 2001 (by omega)
  have o1' : yks (nI p).toNatClampNeg = nI (O p).1 := by rw [nI_clamp (show p < 2 ^ 31 by omega)]; exact o1
  refine yd_w (by omega) (fun x y hx hy => ?_)
  obtain ⟨v1, v2⟩ := ev_vxE G hp (Or.inl hk)
  unfold wY_done_34
  refine ⟨i1, nm_r o1' (br_f (nI_pos (by omega)) (pk_lt 8 (O p).1 (fun z => by omega) (fun _ => pk_eq (O p).1 0 (fun e => by omega) (fun n0 => pk_eq (O p).1 1 (fun e => ?_) (fun n1 => pk_eq (O p).1 2 (fun e => by omega) (fun n2 => pk_eq (O p).1 3 (fun e => by omega) (fun n3 => pk_eq (O p).1 4 (fun e => by omega) (fun n4 => pk_eq (O p).1 5 (fun e => by omega) (fun n5 => pk_eq (O p).1 6 (fun e => by omega) (fun n6 => pk_eq (O p).1 7 (fun e => by omega) (fun n7 => pk_eq (O p).1 8 (fun e => by omega) (fun n8 => True.intro))))))))))))⟩
  rw [nI_clamp (show p < 2 ^ 31 by omega), nI_clamp (show h < 2 ^ 31 by omega), o2, v2, nI_clamp (show ev_vx O p < 2 ^ 31 by omega), nI_1]
  exact ⟨i1, ⟨pk_in _ 4110 v1 rfl, ⟨pk_in h 2100 (by omega), nm_e H⟩⟩⟩
theorem yd_bin {post : Int32 → SY → Prop} {n p h : Nat} {O : pm_O} {s : Nat × (Nat → Int32)} (A : yr_A n O yks yvs ysp) (hp : p < n) (hh : h < 2000) (hk : 2 ≤ (O p).1) (hk5 : (O p).1 ≤ 5)
    (H : post (nI (h+1)) (yco, ypl, ysz, yus, yof, yre, ysa, ykd, ybh, yln, yhl, yvl, yks, yog, yvs, ypa, ysp, ytd, ywi, yun, ysd, you, yfr, ylf, yva, ysv, upd ywo h (ev_bin (O p).1 (ywo h) (ywo (h+1))), ysi, ywk, yph)) : wpY_done post (yco, ypl, ysz, yus, yof, yre, ysa, ykd, ybh, yln, yhl, yvl, yks, yog, yvs, ypa, ysp, ytd, ywi, yun, ysd, you, yfr, ylf, yva, ysv, ywo, ysi, ywk, yph) (nI p) (nI (h+2)) := by
  obtain ⟨G, hO, hS⟩ := A
  have h3 := G.1
  have o8 := (G.2.2 p hp).1
  obtain ⟨o1, o2⟩ := hO p hp
  have i1 : vp_in (nI p) 2001 := pk_in p 2001 (by omega)
  have o1' : yks (nI p).toNatClampNeg = nI (O p).1 := by rw [nI_clamp (show p < 2 ^ 31 by omega)]; exact o1
  refine yd_w (by omega) (fun x y hx hy => ?_)
  have ex : x = ywo h := hx (by omega)
  have ey : y = ywo (h+1) := hy (by omega)
  subst ex ey
  have H194 : wY_done_194 post (nI p) (nI (h+2)) (ywo h) (ywo (h+1)) yco ypl ysz yus yof yre ysa ykd ybh yln yhl yvl yks yog yvs ypa ysp ytd ywi yun ysd you yfr ylf yva ysv ywo ysi ywk yph := by
    unfold wY_done_194
    rw [o1', show nI (h+2) - 2 = nI h from pk_sub (b := 2) (by omega), show nI (h+2) - 1 = nI (h+1) from nI_pred (h+1), nI_clamp (show h < 2 ^ 31 by omega)]
    exact ⟨i1, yd_reck hk hk5 ⟨pk_in h 2100 (by omega), nm_e H⟩⟩
  unfold wY_done_34
  refine ⟨i1, nm_r o1' (br_f (nI_pos (by omega)) (pk_lt 8 (O p).1 (fun z => by omega) (fun _ => pk_eq (O p).1 0 (fun e => by omega) (fun n0 => pk_eq (O p).1 1 (fun e => by omega) (fun n1 => pk_eq (O p).1 2 (fun e => H194) (fun n2 => pk_eq (O p).1 3 (fun e => H194) (fun n3 => pk_eq (O p).1 4 (fun e => H194) (fun n4 => pk_eq (O p).1 5 (fun e => H194) (fun n5 => pk_eq (O p).1 6 (fun e => by omega) (fun n6 => pk_eq (O p).1 7 (fun e => by omega) (fun n7 => pk_eq (O p).1 8 (fun e => by omega) (fun n8 => True.intro))))))))))))⟩
theorem yd_if {post : Int32 → SY → Prop} {n p h : Nat} {O : pm_O} {s : Nat × (Nat → Int32)} (A : yr_A n O yks yvs ysp) (hp : p < n) (hh : h < 2000) (hk : (O p).1 = 6)
    (H : post (nI (h+1)) (yco, ypl, ysz, yus, yof, yre, ysa, ykd, ybh, yln, yhl, yvl, yks, yog, yvs, ypa, ysp, ytd, ywi, yun, ysd, you, yfr, ylf, yva, ysv, ywo, ysi, ywk, yph)) : wpY_done post (yco, ypl, ysz, yus, yof, yre, ysa, ykd, ybh, yln, yhl, yvl, yks, yog, yvs, ypa, ysp, ytd, ywi, yun, ysd, you, yfr, ylf, yva, ysv, ywo, ysi, ywk, yph) (nI p) (nI (h+1)) := by
  obtain ⟨G, hO, hS⟩ := A
  have h3 := G.1
  have o8 := (G.2.2 p hp).1
  obtain ⟨o1, o2⟩ := hO p hp
  have i1 : vp_in (nI p) 2001 := pk_in p 2001 (by omega)
  have o1' : yks (nI p).toNatClampNeg = nI (O p).1 := by rw [nI_clamp (show p < 2 ^ 31 by omega)]; exact o1
  refine yd_w (by omega) (fun x y hx hy => ?_)
  unfold wY_done_34
  refine ⟨i1, nm_r o1' (br_f (nI_pos (by omega)) (pk_lt 8 (O p).1 (fun z => by omega) (fun _ => pk_eq (O p).1 0 (fun e => by omega) (fun n0 => pk_eq (O p).1 1 (fun e => by omega) (fun n1 => pk_eq (O p).1 2 (fun e => by omega) (fun n2 => pk_eq (O p).1 3 (fun e => by omega) (fun n3 => pk_eq (O p).1 4 (fun e => by omega) (fun n4 => pk_eq (O p).1 5 (fun e => by omega) (fun n5 => pk_eq (O p).1 6 (fun e => H) (fun n6 => pk_eq (O p).1 7 (fun e => by omega) (fun n7 => pk_eq (O p).1 8 (fun e => by omega) (fun n8 => True.intro))))))))))))⟩
theorem yd_let {post : Int32 → SY → Prop} {n p h : Nat} {O : pm_O} {s : Nat × (Nat → Int32)} (A : yr_A n O yks yvs ysp) (hp : p < n) (hh : h < 2000) (hk : (O p).1 = 7)
    (H : post (nI (h+1)) (yco, ypl, ysz, yus, yof, yre, ysa, ykd, ybh, yln, yhl, yvl, yks, yog, yvs, ypa, ysp, ytd, ywi, yun, ysd, you, yfr, ylf, upd yva (ev_vx O p) (ysv p), ysv, upd ywo h (ywo (h+1)), ysi, ywk, yph)) : wpY_done post (yco, ypl, ysz, yus, yof, yre, ysa, ykd, ybh, yln, yhl, yvl, yks, yog, yvs, ypa, ysp, ytd, ywi, yun, ysd, you, yfr, ylf, yva, ysv, ywo, ysi, ywk, yph) (nI p) (nI (h+2)) := by
  obtain ⟨G, hO, hS⟩ := A
  have h3 := G.1
  have o8 := (G.2.2 p hp).1
  obtain ⟨o1, o2⟩ := hO p hp
  have i1 : vp_in (nI p) 2001 := pk_in p 2001 (by omega)
  have o1' : yks (nI p).toNatClampNeg = nI (O p).1 := by rw [nI_clamp (show p < 2 ^ 31 by omega)]; exact o1
  refine yd_w (by omega) (fun x y hx hy => ?_)
  have ey : y = ywo (h+1) := hy (by omega)
  subst ey
  obtain ⟨v1, v2⟩ := ev_vxE G hp (Or.inr hk)
  unfold wY_done_34
  refine ⟨i1, nm_r o1' (br_f (nI_pos (by omega)) (pk_lt 8 (O p).1 (fun z => by omega) (fun _ => pk_eq (O p).1 0 (fun e => by omega) (fun n0 => pk_eq (O p).1 1 (fun e => by omega) (fun n1 => pk_eq (O p).1 2 (fun e => by omega) (fun n2 => pk_eq (O p).1 3 (fun e => by omega) (fun n3 => pk_eq (O p).1 4 (fun e => by omega) (fun n4 => pk_eq (O p).1 5 (fun e => by omega) (fun n5 => pk_eq (O p).1 6 (fun e => by omega) (fun n6 => pk_eq (O p).1 7 (fun e => ?_) (fun n7 => pk_eq (O p).1 8 (fun e => by omega) (fun n8 => True.intro))))))))))))⟩
  rw [nI_clamp (show p < 2 ^ 31 by omega), o2, v2, nI_clamp (show ev_vx O p < 2 ^ 31 by omega), show nI (h+2) - 2 = nI h from pk_sub (b := 2) (by omega), show nI (h+2) - 1 = nI (h+1) from nI_pred (h+1), nI_clamp (show h < 2 ^ 31 by omega)]
  exact ⟨i1, ⟨i1, ⟨pk_in _ 4110 v1 rfl, nm_e ⟨pk_in h 2100 (by omega), nm_e H⟩⟩⟩⟩
theorem yd_say {post : Int32 → SY → Prop} {n p h : Nat} {O : pm_O} {s : Nat × (Nat → Int32)} (A : yr_A n O yks yvs ysp) (hp : p < n) (hh : h < 2000) (hk : (O p).1 = 8) (hs : s.1 < 100000)
    (H : post (nI (h+1)) (yco, ypl, ysz, yus, yof, yre, nI (ev_say (ywo h) s).1, ykd, ybh, yln, yhl, yvl, yks, yog, yvs, ypa, ysp, ytd, ywi, yun, ysd, you, yfr, ylf, yva, ysv, ywo, (ev_say (ywo h) s).2, ywk, yph)) : wpY_done post (yco, ypl, ysz, yus, yof, yre, nI s.1, ykd, ybh, yln, yhl, yvl, yks, yog, yvs, ypa, ysp, ytd, ywi, yun, ysd, you, yfr, ylf, yva, ysv, ywo, s.2, ywk, yph) (nI p) (nI (h+1)) := by
  obtain ⟨G, hO, hS⟩ := A
  have h3 := G.1
  have o8 := (G.2.2 p hp).1
  obtain ⟨o1, o2⟩ := hO p hp
  have i1 : vp_in (nI p) 2001 := pk_in p 2001 (by omega)
  have o1' : yks (nI p).toNatClampNeg = nI (O p).1 := by rw [nI_clamp (show p < 2 ^ 31 by omega)]; exact o1
  refine yd_w (by omega) (fun x y hx hy => ?_)
  have ey : y = ywo h := hy (by omega)
  subst ey
  unfold ev_say at H
  unfold wY_done_34
  refine ⟨i1, nm_r o1' (br_f (nI_pos (by omega)) (pk_lt 8 (O p).1 (fun z => by omega) (fun _ => pk_eq (O p).1 0 (fun e => by omega) (fun n0 => pk_eq (O p).1 1 (fun e => by omega) (fun n1 => pk_eq (O p).1 2 (fun e => by omega) (fun n2 => pk_eq (O p).1 3 (fun e => by omega) (fun n3 => pk_eq (O p).1 4 (fun e => by omega) (fun n4 => pk_eq (O p).1 5 (fun e => by omega) (fun n5 => pk_eq (O p).1 6 (fun e => by omega) (fun n6 => pk_eq (O p).1 7 (fun e => by omega) (fun n7 => pk_eq (O p).1 8 (fun e => ?_) (fun n8 => True.intro))))))))))))⟩
  unfold wY_done_149
  refine pk_le 20 s.1 (fun z => ?_) (fun z => ?_)
  · rw [if_neg (show ¬ s.1 < 20 by omega)] at H
    exact nm_r (nI_1 _) H
  · rw [if_pos z] at H
    rw [nI_clamp (show s.1 < 2 ^ 31 by omega)]
    exact ⟨pk_in s.1 20 z, nm_e (nm_r (nI_1 _) H)⟩
end
section
variable {yco ypl ysz yus yof yre ysa : Int32} {ykd ybh yln yhl yvl yks yog yvs ypa ysp ytd ywi yun ysd you yfr ylf yva ysv ywo ysi ywk yph : Nat → Int32}
theorem yv_push {post : Int32 → SY → Prop} {n p f top h x m : Nat} {O : pm_O} {va sv : Nat → Int32} (A : yr_A n O yks yvs ysp) (hp : p < n) (ht : top < 2000) (hx : x < 2000) (hf : f < 3) (hh : h < 2050) (h1 : (O p).1 = 6 → f = 1 → 1 ≤ h) (hw : ywk top = nI p) (hph : yph top = nI f)
    (hn : ∀ pst : Int32 → SY → Prop, pst (nI x) (yco, ypl, ysz, yus, yof, yre, ysa, ykd, ybh, yln, yhl, yvl, yks, yog, yvs, ypa, ysp, ytd, ywi, yun, ysd, you, yfr, ylf, va, sv, ywo, ysi, ywk, upd yph top (nI (f+1))) → wpY_next pst (yco, ypl, ysz, yus, yof, yre, ysa, ykd, ybh, yln, yhl, yvl, yks, yog, yvs, ypa, ysp, ytd, ywi, yun, ysd, you, yfr, ylf, yva, ysv, ywo, ysi, ywk, upd yph top (nI (f+1))) (nI p) (nI f) (nI h))
    (H : wY_run_123 post m (nI (top+1+1)) (nI (if (O p).1 = 6 ∧ f = 1 then h - 1 else h)) yco ypl ysz yus yof yre ysa ykd ybh yln yhl yvl yks yog yvs ypa ysp ytd ywi yun ysd you yfr ylf va sv ywo ysi (upd ywk (top+1) (nI x)) (upd (upd yph top (nI (f+1))) (top+1) 0)) :
    wY_run_123 post (m+1) (nI (top+1)) (nI h) yco ypl ysz yus yof yre ysa ykd ybh yln yhl yvl yks yog yvs ypa ysp ytd ywi yun ysd you yfr ylf yva ysv ywo ysi ywk yph := by
  obtain ⟨G, hO, hS⟩ := A
  have h3 := G.1
  have o8 := (G.2.2 p hp).1
  obtain ⟨o1, o2⟩ := hO p hp
  have i1 : vp_in (nI top) 2100 := pk_in top 2100 (by omega)
  have i2 : vp_in (nI (top+1)) 2100 := pk_in (top+1) 2100 (by omega)
  refine pk_le (top+1) 0 (fun z => by omega) (fun _ => ?_)
  rw [nI_pred, nI_clamp (show top < 2 ^ 31 by omega), hw, hph, nI_1, nu_8 (show f + 1 < 128 by omega), nu_v8 (show f + 1 < 128 by omega)]
  refine ⟨i1, nm_e ⟨i1, ⟨i1, nm_e (nm_e (hn _ ?_))⟩⟩⟩
  refine br_f (nI_pos (by omega)) ?_
  rw [nI_clamp (show top + 1 < 2 ^ 31 by omega), nu_16 (show x < 32768 by omega), nu_v16 (show x < 32768 by omega), nu_n0, nI_clamp (show p < 2 ^ 31 by omega), o1]
  refine ⟨i2, nm_e (nm_r (nI_1 (top+1)) ⟨i2, nm_e ⟨pk_in p 2001 (by omega), ?_⟩⟩)⟩
  refine pk_eq (O p).1 6 (fun e => pk_eq f 1 (fun ef => ?_) (fun ef => ?_)) (fun e => ?_)
  · rw [if_pos ⟨e, ef⟩] at H
    obtain ⟨h', rfl⟩ : ∃ h', h = h' + 1 := ⟨h - 1, by have := h1 e ef; omega⟩
    exact nm_r (pk_m1 h') H
  · rw [if_neg (fun y => ef y.2)] at H
    exact H
  · rw [if_neg (fun y => e y.1)] at H
    exact H
theorem yv_done {post : Int32 → SY → Prop} {p f top h h' m : Nat} {sa : Int32} {va wo si : Nat → Int32} (ht : top < 2000) (hf : f < 3) (hw : ywk top = nI p) (hph : yph top = nI f)
    (hn : ∀ pst : Int32 → SY → Prop, pst (-1) (yco, ypl, ysz, yus, yof, yre, ysa, ykd, ybh, yln, yhl, yvl, yks, yog, yvs, ypa, ysp, ytd, ywi, yun, ysd, you, yfr, ylf, yva, ysv, ywo, ysi, ywk, upd yph top (nI (f+1))) → wpY_next pst (yco, ypl, ysz, yus, yof, yre, ysa, ykd, ybh, yln, yhl, yvl, yks, yog, yvs, ypa, ysp, ytd, ywi, yun, ysd, you, yfr, ylf, yva, ysv, ywo, ysi, ywk, upd yph top (nI (f+1))) (nI p) (nI f) (nI h))
    (hd : ∀ pst : Int32 → SY → Prop, pst (nI h') (yco, ypl, ysz, yus, yof, yre, sa, ykd, ybh, yln, yhl, yvl, yks, yog, yvs, ypa, ysp, ytd, ywi, yun, ysd, you, yfr, ylf, va, ysv, wo, si, ywk, upd yph top (nI (f+1))) → wpY_done pst (yco, ypl, ysz, yus, yof, yre, ysa, ykd, ybh, yln, yhl, yvl, yks, yog, yvs, ypa, ysp, ytd, ywi, yun, ysd, you, yfr, ylf, yva, ysv, ywo, ysi, ywk, upd yph top (nI (f+1))) (nI p) (nI h))
    (H : wY_run_123 post m (nI top) (nI h') yco ypl ysz yus yof yre sa ykd ybh yln yhl yvl yks yog yvs ypa ysp ytd ywi yun ysd you yfr ylf va ysv wo si ywk (upd yph top (nI (f+1)))) :
    wY_run_123 post (m+1) (nI (top+1)) (nI h) yco ypl ysz yus yof yre ysa ykd ybh yln yhl yvl yks yog yvs ypa ysp ytd ywi yun ysd you yfr ylf yva ysv ywo ysi ywk yph := by
  have i1 : vp_in (nI top) 2100 := pk_in top 2100 (by omega)
  refine pk_le (top+1) 0 (fun z => by omega) (fun _ => ?_)
  rw [nI_pred, nI_clamp (show top < 2 ^ 31 by omega), hw, hph, nI_1, nu_8 (show f + 1 < 128 by omega), nu_v8 (show f + 1 < 128 by omega)]
  refine ⟨i1, nm_e ⟨i1, ⟨i1, nm_e (nm_e (hn _ ?_))⟩⟩⟩
  exact br_t (by decide) (hd _ (nm_r (pk_m1 top) H))
theorem yv_back (va : Nat → Int32) (v : Nat) (w : Int32) : upd (upd va v w) v (va v) = va := by
  funext j
  unfold upd
  split
  · next e => rw [e]
  · rfl
theorem yw_sim {post : Int32 → SY → Prop} {n : Nat} {O : pm_O} (A : yr_A n O yks yvs ysp) :
    ∀ (t p : Nat) (E yva ysv ywo ywk yph : Nat → Int32) (s : Nat × (Nat → Int32)) (B top h : Nat), p < n → tr_sp (pm_ar O) p ≤ t → (∀ v, v < 4110 → yva v = E v) → s.1 ≤ p → top ≤ p → h ≤ top → ywk top = nI p → yph top = 0 →
      (∀ (sv wo wk ph : Nat → Int32) (m : Nat), (∀ j, (j < p ∨ p + tr_sp (pm_ar O) p ≤ j) → sv j = ysv j) → (∀ j, j < h → wo j = ywo j) → wo h = (ev_go O t p E s).1 → (∀ j, j < top → wk j = ywk j ∧ ph j = yph j) → B ≤ m →
        wY_run_123 post m (nI top) (nI (h+1)) yco ypl ysz yus yof yre (nI (ev_go O t p E s).2.1) ykd ybh yln yhl yvl yks yog yvs ypa ysp ytd ywi yun ysd you yfr ylf yva sv wo ((ev_go O t p E s).2.2) wk ph) →
      ∀ m, B + 3 * tr_sp (pm_ar O) p ≤ m → wY_run_123 post m (nI (top+1)) (nI h) yco ypl ysz yus yof yre (nI s.1) ykd ybh yln yhl yvl yks yog yvs ypa ysp ytd ywi yun ysd you yfr ylf yva ysv ywo s.2 ywk yph := by
  have G := A.1
  have h3 := G.1
  intro t
  induction t with
  | zero =>
    intro p E yva ysv ywo ywk yph s B top h hp ht
    have := (tr_spE G hp).2.2.1
    omega
  | succ t ih =>
    intro p E yva ysv ywo ywk yph s B top h hp ht hE hs htop hh hw hph H m hm
    obtain ⟨sp1, sp2, sp3, sp4⟩ := tr_spE G hp
    obtain ⟨m, rfl⟩ : ∃ m', m = m' + 1 := ⟨m - 1, by omega⟩
    rcases tr_kinds G hp with hk | hk | hk | hk | hk | hk
    · rw [ev_0 hk] at H
      refine yv_done (f := 0) (h' := h+1) (by omega) (by omega) hw hph (fun pst q => yn_leaf A hp (by omega) q) (fun pst q => yd_num (s := s) A hp (by omega) hk q) ?_
      exact H _ _ _ _ m (fun j _ => rfl) (fun j hj => pk_un (by omega)) pk_us (fun j hj => ⟨rfl, pk_un (by omega)⟩) (by omega)
    · rw [ev_1 hk] at H
      have ev := hE (ev_vx O p) (ev_vxE G hp (Or.inl hk)).1
      refine yv_done (f := 0) (h' := h+1) (by omega) (by omega) hw hph (fun pst q => yn_leaf A hp (by omega) q) (fun pst q => yd_var (s := s) A hp (by omega) hk q) ?_
      exact H _ _ _ _ m (fun j _ => rfl) (fun j hj => pk_un (by omega)) (by rw [pk_us]; exact ev) (fun j hj => ⟨rfl, pk_un (by omega)⟩) (by omega)
    · -- two operands, reckoned
      have ha := tr_ar2 (O := O) (p := p) (Or.inl hk)
      obtain ⟨k1, k2⟩ := tr_k1 G hp (by omega)
      obtain ⟨q1, q2, q3, q4⟩ := tr_k2 G hp (by omega)
      have l := tr_l2 G hp ha
      have c1 := ev_cnt G t (p+1) E s k1 (by omega)
      have c2 := ev_cnt G t (ev_q O p) E (ev_go O t (p+1) E s).2 q1 (by omega)
      rw [ev_b hk] at H
      refine yv_push (f := 0) (x := p+1) A hp (by omega) (by omega) (by omega) (by omega) (fun e => by omega) hw hph (fun pst q => yn_first A hp (by omega) q) ?_
      rw [if_neg (by omega)]
      refine ih (p+1) E yva ysv ywo _ _ s (B + 2 + 3 * tr_sp (pm_ar O) (ev_q O p)) (top+1) h k1 (by omega) hE (by omega) (by omega) (by omega) pk_us pk_us ?_ m (by omega)
      intro sv1 wo1 wk1 ph1 m1 x1 x2 x3 x4 x5
      obtain ⟨m1, rfl⟩ : ∃ m', m1 = m' + 1 := ⟨m1 - 1, by omega⟩
      have w1 : wk1 top = nI p := by rw [(x4 top (by omega)).1, pk_un (by omega)]; exact hw
      have p1 : ph1 top = nI 1 := by rw [(x4 top (by omega)).2, pk_un (by omega), pk_us]
      refine yv_push (f := 1) (x := ev_q O p) A hp (by omega) (by omega) (by omega) (by omega) (fun e => by omega) w1 p1 (fun pst q => yn_second A hp hk.1 hk.2 q) ?_
      rw [if_neg (by omega)]
      refine ih (ev_q O p) E yva sv1 wo1 _ _ (ev_go O t (p+1) E s).2 (B + 1) (top+1) (h+1) q1 (by omega) hE (by omega) (by omega) (by omega) pk_us pk_us ?_ m1 (by omega)
      intro sv2 wo2 wk2 ph2 m2 y1 y2 y3 y4 y5
      obtain ⟨m2, rfl⟩ : ∃ m', m2 = m' + 1 := ⟨m2 - 1, by omega⟩
      have w2 : wk2 top = nI p := by rw [(y4 top (by omega)).1, pk_un (by omega)]; exact w1
      have p2 : ph2 top = nI 2 := by rw [(y4 top (by omega)).2, pk_un (by omega), pk_us]
      refine yv_done (f := 2) (h := h+2) (h' := h+1) (by omega) (by omega) w2 p2 (fun pst q => yn_end A hp (by omega) (by omega) q) (fun pst q => yd_bin (s := s) A hp (by omega) hk.1 hk.2 q) ?_
      refine H _ _ _ _ m2 ?_ ?_ ?_ ?_ (by omega)
      · intro j hj
        rw [y1 j (by omega), x1 j (by omega)]
      · intro j hj
        rw [pk_un (by omega), y2 j (by omega), x2 j hj]
      · rw [pk_us, y3, y2 h (by omega), x3]
      · intro j hj
        rw [pk_un (by omega), (y4 j (by omega)).1, (y4 j (by omega)).2, pk_un (by omega), pk_un (by omega), pk_un (by omega), (x4 j (by omega)).1, (x4 j (by omega)).2, pk_un (by omega), pk_un (by omega), pk_un (by omega)]
        exact ⟨rfl, rfl⟩
    · -- IF
      have ha := tr_ar3 (O := O) (p := p) hk
      obtain ⟨k1, k2⟩ := tr_k1 G hp (by omega)
      obtain ⟨q1, q2, q3, q4⟩ := tr_k2 G hp (by omega)
      obtain ⟨r1, r2, r3, r4⟩ := tr_k3 G hp (by omega)
      have l := tr_l3 G hp ha
      have c1 := ev_cnt G t (p+1) E s k1 (by omega)
      refine yv_push (f := 0) (x := p+1) A hp (by omega) (by omega) (by omega) (by omega) (fun _ e => by omega) hw hph (fun pst q => yn_first A hp (by omega) q) ?_
      rw [if_neg (by omega)]
      refine ih (p+1) E yva ysv ywo _ _ s (B + 2 + 3 * tr_sp (pm_ar O) (ev_q O p) + 3 * tr_sp (pm_ar O) (ev_r O p)) (top+1) h k1 (by omega) hE (by omega) (by omega) (by omega) pk_us pk_us ?_ m (by have := (tr_spE G r1).2.2.1; omega)
      intro sv1 wo1 wk1 ph1 m1 x1 x2 x3 x4 x5
      obtain ⟨m1, rfl⟩ : ∃ m', m1 = m' + 1 := ⟨m1 - 1, by omega⟩
      have w1 : wk1 top = nI p := by rw [(x4 top (by omega)).1, pk_un (by omega)]; exact hw
      have p1 : ph1 top = nI 1 := by rw [(x4 top (by omega)).2, pk_un (by omega), pk_us]
      have hx2 : (if wo1 h = 0 then ev_r O p else ev_q O p) < 2000 := by split <;> omega
      refine yv_push (f := 1) (x := if wo1 h = 0 then ev_r O p else ev_q O p) A hp (by omega) hx2 (by omega) (by omega) (fun _ _ => by omega) w1 p1 (fun pst q => yn_if A hp hk (by omega) q) ?_
      rw [if_pos ⟨hk, rfl⟩, Nat.add_sub_cancel]
      by_cases h0 : (ev_go O t (p+1) E s).1 = 0
      · rw [x3, if_pos h0]
        rw [ev_6z hk h0] at H
        have c2 := ev_cnt G t (ev_r O p) E (ev_go O t (p+1) E s).2 r1 (by omega)
        refine ih (ev_r O p) E yva sv1 wo1 _ _ (ev_go O t (p+1) E s).2 (B + 1) (top+1) h r1 (by omega) hE (by omega) (by omega) (by omega) pk_us pk_us ?_ m1 (by omega)
        intro sv2 wo2 wk2 ph2 m2 y1 y2 y3 y4 y5
        obtain ⟨m2, rfl⟩ : ∃ m', m2 = m' + 1 := ⟨m2 - 1, by omega⟩
        have w2 : wk2 top = nI p := by rw [(y4 top (by omega)).1, pk_un (by omega)]; exact w1
        have p2 : ph2 top = nI 2 := by rw [(y4 top (by omega)).2, pk_un (by omega), pk_us]
        refine yv_done (f := 2) (h := h+1) (h' := h+1) (by omega) (by omega) w2 p2 (fun pst q => yn_end A hp (by omega) (by omega) q) (fun pst q => yd_if (s := s) A hp (by omega) hk q) ?_
        refine H _ _ _ _ m2 ?_ ?_ y3 ?_ (by omega)
        · intro j hj
          rw [y1 j (by omega), x1 j (by omega)]
        · intro j hj
          rw [y2 j hj, x2 j hj]
        · intro j hj
          rw [pk_un (by omega), (y4 j (by omega)).1, (y4 j (by omega)).2, pk_un (by omega), pk_un (by omega), pk_un (by omega), (x4 j (by omega)).1, (x4 j (by omega)).2, pk_un (by omega), pk_un (by omega), pk_un (by omega)]
          exact ⟨rfl, rfl⟩
      · rw [x3, if_neg h0]
        rw [ev_6n hk h0] at H
        have c2 := ev_cnt G t (ev_q O p) E (ev_go O t (p+1) E s).2 q1 (by omega)
        refine ih (ev_q O p) E yva sv1 wo1 _ _ (ev_go O t (p+1) E s).2 (B + 1) (top+1) h q1 (by omega) hE (by omega) (by omega) (by omega) pk_us pk_us ?_ m1 (by omega)
        intro sv2 wo2 wk2 ph2 m2 y1 y2 y3 y4 y5
        obtain ⟨m2, rfl⟩ : ∃ m', m2 = m' + 1 := ⟨m2 - 1, by omega⟩
        have w2 : wk2 top = nI p := by rw [(y4 top (by omega)).1, pk_un (by omega)]; exact w1
        have p2 : ph2 top = nI 2 := by rw [(y4 top (by omega)).2, pk_un (by omega), pk_us]
        refine yv_done (f := 2) (h := h+1) (h' := h+1) (by omega) (by omega) w2 p2 (fun pst q => yn_end A hp (by omega) (by omega) q) (fun pst q => yd_if (s := s) A hp (by omega) hk q) ?_
        refine H _ _ _ _ m2 ?_ ?_ y3 ?_ (by omega)
        · intro j hj
          rw [y1 j (by omega), x1 j (by omega)]
        · intro j hj
          rw [y2 j hj, x2 j hj]
        · intro j hj
          rw [pk_un (by omega), (y4 j (by omega)).1, (y4 j (by omega)).2, pk_un (by omega), pk_un (by omega), pk_un (by omega), (x4 j (by omega)).1, (x4 j (by omega)).2, pk_un (by omega), pk_un (by omega), pk_un (by omega)]
          exact ⟨rfl, rfl⟩
    · -- LET
      have ha := tr_ar2 (O := O) (p := p) (Or.inr hk)
      obtain ⟨k1, k2⟩ := tr_k1 G hp (by omega)
      obtain ⟨q1, q2, q3, q4⟩ := tr_k2 G hp (by omega)
      have l := tr_l2 G hp ha
      have c1 := ev_cnt G t (p+1) E s k1 (by omega)
      have c2 := ev_cnt G t (ev_q O p) (upd E (ev_vx O p) (ev_go O t (p+1) E s).1) (ev_go O t (p+1) E s).2 q1 (by omega)
      rw [ev_7 hk] at H
      refine yv_push (f := 0) (x := p+1) A hp (by omega) (by omega) (by omega) (by omega) (fun e => by omega) hw hph (fun pst q => yn_first A hp (by omega) q) ?_
      rw [if_neg (by omega)]
      refine ih (p+1) E yva ysv ywo _ _ s (B + 2 + 3 * tr_sp (pm_ar O) (ev_q O p)) (top+1) h k1 (by omega) hE (by omega) (by omega) (by omega) pk_us pk_us ?_ m (by omega)
      intro sv1 wo1 wk1 ph1 m1 x1 x2 x3 x4 x5
      obtain ⟨m1, rfl⟩ : ∃ m', m1 = m' + 1 := ⟨m1 - 1, by omega⟩
      have w1 : wk1 top = nI p := by rw [(x4 top (by omega)).1, pk_un (by omega)]; exact hw
      have p1 : ph1 top = nI 1 := by rw [(x4 top (by omega)).2, pk_un (by omega), pk_us]
      refine yv_push (f := 1) (x := ev_q O p) A hp (by omega) (by omega) (by omega) (by omega) (fun e => by omega) w1 p1 (fun pst q => yn_let A hp hk (by omega) q) ?_
      rw [if_neg (by omega), x3]
      refine ih (ev_q O p) (upd E (ev_vx O p) (ev_go O t (p+1) E s).1) (upd yva (ev_vx O p) (ev_go O t (p+1) E s).1) _ wo1 _ _ (ev_go O t (p+1) E s).2 (B + 1) (top+1) (h+1) q1 (by omega) ?_ (by omega) (by omega) (by omega) pk_us pk_us ?_ m1 (by omega)
      · intro v hv
        unfold upd
        split
        · rfl
        · exact hE v hv
      intro sv2 wo2 wk2 ph2 m2 y1 y2 y3 y4 y5
      obtain ⟨m2, rfl⟩ : ∃ m', m2 = m' + 1 := ⟨m2 - 1, by omega⟩
      have w2 : wk2 top = nI p := by rw [(y4 top (by omega)).1, pk_un (by omega)]; exact w1
      have p2 : ph2 top = nI 2 := by rw [(y4 top (by omega)).2, pk_un (by omega), pk_us]
      refine yv_done (f := 2) (h := h+2) (h' := h+1) (by omega) (by omega) w2 p2 (fun pst q => yn_end A hp (by omega) (by omega) q) (fun pst q => yd_let (s := s) A hp (by omega) hk q) ?_
      have esv : sv2 p = yva (ev_vx O p) := by rw [y1 p (by omega), pk_us]
      rw [esv, yv_back]
      refine H _ _ _ _ m2 ?_ ?_ ?_ ?_ (by omega)
      · intro j hj
        rw [y1 j (by omega), pk_un (by omega), x1 j (by omega)]
      · intro j hj
        rw [pk_un (by omega), y2 j (by omega), x2 j hj]
      · rw [pk_us, y3]
      · intro j hj
        rw [pk_un (by omega), (y4 j (by omega)).1, (y4 j (by omega)).2, pk_un (by omega), pk_un (by omega), pk_un (by omega), (x4 j (by omega)).1, (x4 j (by omega)).2, pk_un (by omega), pk_un (by omega), pk_un (by omega)]
        exact ⟨rfl, rfl⟩
    · -- SAY
      have ha := tr_ar1 (O := O) (p := p) hk
      obtain ⟨k1, k2⟩ := tr_k1 G hp (by omega)
      have l := tr_l1 G hp ha
      have c1 := ev_cnt G t (p+1) E s k1 (by omega)
      rw [ev_8 hk] at H
      refine yv_push (f := 0) (x := p+1) A hp (by omega) (by omega) (by omega) (by omega) (fun e => by omega) hw hph (fun pst q => yn_first A hp (by omega) q) ?_
      rw [if_neg (by omega)]
      refine ih (p+1) E yva ysv ywo _ _ s (B + 1) (top+1) h k1 (by omega) hE (by omega) (by omega) (by omega) pk_us pk_us ?_ m (by omega)
      intro sv1 wo1 wk1 ph1 m1 x1 x2 x3 x4 x5
      obtain ⟨m1, rfl⟩ : ∃ m', m1 = m' + 1 := ⟨m1 - 1, by omega⟩
      have w1 : wk1 top = nI p := by rw [(x4 top (by omega)).1, pk_un (by omega)]; exact hw
      have p1 : ph1 top = nI 1 := by rw [(x4 top (by omega)).2, pk_un (by omega), pk_us]
      refine yv_done (f := 1) (h := h+1) (h' := h+1) (by omega) (by omega) w1 p1 (fun pst q => yn_say A hp hk q) (fun pst q => yd_say (s := (ev_go O t (p+1) E s).2) A hp (by omega) hk (by omega) q) ?_
      rw [x3]
      refine H _ _ _ _ m1 ?_ x2 x3 ?_ (by omega)
      · intro j hj
        rw [x1 j (by omega)]
      · intro j hj
        rw [pk_un (by omega), (x4 j (by omega)).1, (x4 j (by omega)).2, pk_un (by omega), pk_un (by omega), pk_un (by omega)]
        exact ⟨rfl, rfl⟩
end
section
variable {xds xcc xmi xre xpc xpl xtl xsc xou : Int32} {xtk xtv xss xts xho xfu xfa xfo xpn xpe xpf xqk xqv xqo xqp xqs xqh xwo xsi : Nat → Int32} {yco ypl ysz yus yof yre ysa : Int32} {ykd ybh yln yhl yvl yks yog yvs ypa ysp ytd ywi yun ysd you yfr ylf yva ysv ywo ysi ywk yph : Nat → Int32}
theorem yw_51 {post : Int32 → SY → Prop} {a b c : Int32} (h : ∀ va : Nat → Int32, (∀ v, v < 4110 → va v = ev_E0 a b c v) → ∃ n123, wY_run_123 post n123 1 0 yco ypl ysz yus yof 0 0 ykd ybh yln yhl yvl yks yog yvs ypa ysp ytd ywi yun ysd you yfr ylf va ysv ywo ysi (upd ywk 0 0) (upd yph 0 0)) :
    ∀ (m k : Nat) (va : Nat → Int32), k ≤ 4110 → 4110 < m + k → (∀ v, v < k → va v = ev_E0 a b c v) → wY_run_51 post a b c yco ypl ysz yus yof 0 0 m (nI k) ykd ybh yln yhl yvl yks yog yvs ypa ysp ytd ywi yun ysd you yfr ylf va ysv ywo ysi ywk yph := by
  intro m
  induction m with
  | zero => intro k va h1 h2; omega
  | succ m ih =>
    intro k va h1 h2 L
    refine pk_le 4110 k (fun z => ?_) (fun z => ?_)
    · rw [nu_n0, show vp_nar .short 0 = (0 : Int32) from nu_v16 (n := 0) (by omega)]
      exact nm_e (nm_e (h va (fun v hv => L v (by omega))))
    · have i1 : vp_in (nI k) 4110 := pk_in k 4110 z
      rw [nI_clamp (show k < 2 ^ 31 by omega)]
      have N : ∀ z0 : Int32, z0 = ev_E0 a b c k → (vp_in (nI k) 4110 ∧ ∀ va', va' = upd va k z0 → ∀ x, x = nI k + 1 → wY_run_51 post a b c yco ypl ysz yus yof 0 0 m x ykd ybh yln yhl yvl yks yog yvs ypa ysp ytd ywi yun ysd you yfr ylf va' ysv ywo ysi ywk yph) := by
        intro z0 ez
        refine ⟨i1, nm_e (nm_r (nI_1 k) (ih (k+1) _ (by omega) (by omega) ?_))⟩
        intro v hv
        by_cases e : v = k
        · subst e
          rw [pk_us]; exact ez
        · rw [pk_un e]
          exact L v (by omega)
      unfold ev_E0 at N
      refine pk_eq k 0 (fun e => N _ (by rw [if_pos e])) (fun n0 => pk_eq k 1 (fun e => N _ (by rw [if_neg n0, if_pos e])) (fun n1 => pk_eq k 2 (fun e => N _ (by rw [if_neg n0, if_neg n1, if_pos e])) (fun n2 => N _ (by rw [if_neg n0, if_neg n1, if_neg n2]))))
theorem yq_run {post : Int32 → SY → Prop} {K : Nat → Nat} {V : Nat → Int32} {Hn Len : Nat → Nat} {nc : Nat} {DK : Nat → Nat} {DV : Nat → Int32} {dn s : Nat} {a b c : Int32}
    (B : rl_B K V Hn Len nc DK DV dn xds xcc xtk xtv xss xts xho yco ykd ybh yln yhl yvl) (C : rl_C K V Hn Len ysz yus yof yks yog yvs ypa ysp) (hs : s < 4)
    (he : Len (6+s) = 0 → post (-3) (yco, ypl, ysz, yus, yof, yre, ysa, ykd, ybh, yln, yhl, yvl, yks, yog, yvs, ypa, ysp, ytd, ywi, yun, ysd, you, yfr, ylf, yva, ysv, ywo, ysi, ywk, yph))
    (h0 : pm_ex K V Hn Len s = none → ∀ (sz us : Int32) (ks og vs pa sp td wi un sd ou fr : Nat → Int32), rl_C K V Hn Len sz us (nI s) ks og vs pa sp → post (-2) (yco, ypl, sz, us, nI s, 0, 0, ykd, ybh, yln, yhl, yvl, ks, og, vs, pa, sp, td, wi, un, sd, ou, fr, ylf, yva, ysv, ywo, ysi, ywk, yph))
    (h1 : ∀ nf n O, Len (6+s) ≠ 0 → pm_ex K V Hn Len s = some (nf, n, O) → ∀ (ks og vs pa sp td wi un sd ou fr va sv wo wk ph : Nat → Int32), rl_C K V Hn Len (nI n) (nI nf) (nI s) ks og vs pa sp →
      post 0 (yco, ypl, nI n, nI nf, nI s, (ev_go O 2000 0 (ev_E0 a b c) (0, ysi)).1, nI (ev_go O 2000 0 (ev_E0 a b c) (0, ysi)).2.1, ykd, ybh, yln, yhl, yvl, ks, og, vs, pa, sp, td, wi, un, sd, ou, fr, ylf, va, sv, wo, (ev_go O 2000 0 (ev_E0 a b c) (0, ysi)).2.2, wk, ph)) :
    wpY_run post (yco, ypl, ysz, yus, yof, yre, ysa, ykd, ybh, yln, yhl, yvl, yks, yog, yvs, ypa, ysp, ytd, ywi, yun, ysd, you, yfr, ylf, yva, ysv, ywo, ysi, ywk, yph) (nI s) a b c := by
  have B' := B
  obtain ⟨w, D, e1, e2, T, d1, s1, t1, hh1, e3, T2, d2, l10, l, h2⟩ := B
  have hr : tx_row nc (6+s) := Or.inr ⟨by omega, by omega⟩
  have hl24 := (w.2 (6+s) hr).1
  unfold wpY_run
  refine yo_in (N := 4) hs (by omega) (br_t rfl ?_)
  rw [show (6 : Int32) + nI s = nI (6+s) from nI_add 6 s, nI_clamp (show 6 + s < 2 ^ 31 by omega), l (6+s) (by omega)]
  refine ⟨pk_in (6+s) 11 (by omega), pk_eq (Len (6+s)) 0 he (fun hl => ?_)⟩
  refine yq B' C hs ?_ ?_
  · intro e sz us ks og vs pa sp td wi un sd ou fr C'
    exact br_t rfl (h0 e _ _ _ _ _ _ _ _ _ _ _ _ _ C')
  · intro nf n O e ks og vs pa sp td wi un sd ou fr C' yO hsp
    obtain ⟨b1, b2, b3, b4, b5⟩ := pm_exB w hs e
    have G := b4 hl
    have n0 := tr_n0 G
    have h3 := G.1
    obtain ⟨sp1, sp2, sp3, sp4⟩ := tr_spE G n0
    refine br_f (by decide) ⟨4111, yw_51 ?_ 4111 0 _ (by omega) (by omega) (fun v hv => by omega)⟩
    intro va hva
    have A : yr_A n O ks vs sp := ⟨G, fun m hm => ⟨(yO m hm).1, (yO m hm).2.1⟩, hsp⟩
    refine ⟨1 + 3 * tr_sp (pm_ar O) 0, yw_sim A 2000 0 (ev_E0 a b c) va _ _ _ _ (0, ysi) 1 0 0 n0 (by omega) hva (Nat.le_refl _) (Nat.le_refl _) (Nat.le_refl _) pk_us pk_us ?_ _ (Nat.le_refl _)⟩
    intro sv wo wk ph m x1 x2 x3 x4 x5
    obtain ⟨m, rfl⟩ : ∃ m', m = m' + 1 := ⟨m - 1, by omega⟩
    refine br_t (by decide) (nm_r x3 ?_)
    exact h1 nf n O hl e _ _ _ _ _ _ _ _ _ _ _ _ _ _ _ _ C'
theorem nu_nm {n : Nat} (h : n < 2 ^ 31) {x : Int32} (hx : x < 0) : ¬ nI n = x := fun e => by
  rw [← e] at hx
  exact nI_pos h hx
theorem i_vc_run {k : Nat} {u : SX} {v : SY} (I : i_Rel k u v) (hk : k + 5 ≤ 2560) (v1 : Int32) (v2 : Int32) (v3 : Int32) (v4 : Int32) : wpX_run (fun r u' => wpY_run (fun r' v' => r' = r ∧ i_Rel (k + 5) u' v') v v1 v2 v3 v4) u v1 v2 v3 v4 := by
  obtain ⟨xds, xcc, xmi, xre, xpc, xpl, xtl, xsc, xou, xtk, xtv, xss, xts, xho, xfu, xfa, xfo, xpn, xpe, xpf, xqk, xqv, xqo, xqp, xqs, xqh, xwo, xsi⟩ := u
  obtain ⟨yco, ypl, ysz, yus, yof, yre, ysa, ykd, ybh, yln, yhl, yvl, yks, yog, yvs, ypa, ysp, ytd, ywi, yun, ysd, you, yfr, ylf, yva, ysv, ywo, ysi, ywk, yph⟩ := v
  obtain ⟨K, V, Hn, Len, nc, DK, DV, dn, B, C, m1, m2, m3, m4⟩ := I
  have HX : (v1 < 0 ∨ nI 4 ≤ v1) → wpY_run (fun r' v' => r' = -3 ∧ i_Rel (k + 5) (xds, xcc, xmi, xre, xpc, xpl, xtl, xsc, xou, xtk, xtv, xss, xts, xho, xfu, xfa, xfo, xpn, xpe, xpf, xqk, xqv, xqo, xqp, xqs, xqh, xwo, xsi) v') (yco, ypl, ysz, yus, yof, yre, ysa, ykd, ybh, yln, yhl, yvl, yks, yog, yvs, ypa, ysp, ytd, ywi, yun, ysd, you, yfr, ylf, yva, ysv, ywo, ysi, ywk, yph) v1 v2 v3 v4 := by
    intro h
    unfold wpY_run
    exact yo_ex (N := 4) h (by omega) (br_f (by decide) ⟨rfl, rl_mk B C m1 m2 m3 m4⟩)
  unfold wpX_run
  rcases pk_ix v1 (n := 4) (by omega) with h | h | ⟨s, hs, rfl⟩
  · exact xw_expandX (Or.inl h) (br_f (by decide) (br_t rfl (HX (Or.inl h))))
  · exact xw_expandX (Or.inr h) (br_f (by decide) (br_t rfl (HX (Or.inr h))))
  · refine xq B hs ?_ ?_
    · intro e re pc pl tl fu fa fo pn pe pf qk qv qo
      refine br_f (by decide) (br_f (by decide) (br_t rfl ?_))
      refine yq_run B C hs (fun hl => ?_) (fun _ sz us ks og vs pa sp td wi un sd ou fr C' => ⟨rfl, rl_mk B C' m1 rfl rfl m4⟩) (fun nf n O _ e' => by rw [e] at e'; cases e')
      rw [pm_ex0 hl] at e
      cases e
    · intro nf n O e pc fu fa fo pn pe pf qk qv qo qp qs qh hO hL
      obtain ⟨b1, b2, b3, b4, b5⟩ := pm_exB B.1 hs e
      refine pk_eq n 0 (fun z => ?_) (fun z => ?_)
      · refine yq_run B C hs (fun hl => ⟨rfl, rl_mk B C m1 m2 m3 m4⟩) (fun e' => by rw [e] at e'; cases e') ?_
        intro nf' n' O' hl e'
        have := tr_n0 (b4 hl)
        omega
      · have G := b5 (by omega)
        refine br_f (nu_nm (by omega) (by decide)) (br_f (nu_nm (by omega) (by decide)) ?_)
        have hH := B.2.2.2.2.2.2.2.2.1
        refine xw_workOut (E := ev_E0 v2 v3 v4) ⟨G, hO, hL (by omega)⟩ hH (fun _ _ => rfl) ?_
        intro W hW
        refine nm_r hW ?_
        refine yq_run B C hs (fun hl => ?_) (fun e' => by rw [e] at e'; cases e') ?_
        · have := (b3 hl).1
          omega
        · intro nf' n' O' hl e' ks og vs pa sp td wi un sd ou fr va sv wo wk ph C'
          rw [e] at e'
          cases e'
          subst m4
          exact ⟨rfl, rl_mk B C' m1 rfl rfl rfl⟩
end
