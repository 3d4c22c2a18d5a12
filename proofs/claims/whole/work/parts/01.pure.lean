/-! expressions in Polish order over a sequence of arities: gx_ok ar d c p: from p, with c expressions still to come, exactly d tokens close them all -/
def gx_ok (ar : Nat → Nat) : Nat → Nat → Nat → Prop
  | 0, c, _ => c = 0
  | d+1, c, p => 0 < c ∧ gx_ok ar d (c - 1 + ar p) (p+1)
theorem gx_z (ar : Nat → Nat) (c p : Nat) : gx_ok ar 0 c p ↔ c = 0 := Iff.rfl
theorem gx_s (ar : Nat → Nat) (d c p : Nat) : gx_ok ar (d+1) c p ↔ (0 < c ∧ gx_ok ar d (c - 1 + ar p) (p+1)) := Iff.rfl
theorem gx_00 (ar : Nat → Nat) (p : Nat) : gx_ok ar 0 0 p := (gx_z ar 0 p).mpr rfl
theorem gx_det (ar : Nat → Nat) : ∀ (d d' c p : Nat), gx_ok ar d c p → gx_ok ar d' c p → d = d'
  | 0, 0, _, _, _, _ => rfl
  | 0, _+1, c, _, h, h' => by
      have h1 : c = 0 := h
      have h2 : 0 < c := h'.1
      omega
  | _+1, 0, c, _, h, h' => by
      have h1 : c = 0 := h'
      have h2 : 0 < c := h.1
      omega
  | d+1, d'+1, c, p, h, h' => by
      have := gx_det ar d d' _ _ h.2 h'.2
      omega
theorem gx_join (ar : Nat → Nat) : ∀ (d1 d2 a b p : Nat), gx_ok ar d1 a p → gx_ok ar d2 b (p + d1) → gx_ok ar (d1 + d2) (a + b) p
  | 0, d2, a, b, p, h1, h2 => by
      have h0 : a = 0 := h1
      subst h0
      rw [Nat.zero_add, Nat.zero_add]; exact h2
  | d1+1, d2, a, b, p, h1, h2 => by
      have e : d1 + 1 + d2 = (d1 + d2) + 1 := by omega
      rw [e, gx_s]
      have h0 := h1.1
      refine ⟨by omega, ?_⟩
      have e2 : p + 1 + d1 = p + (d1+1) := by omega
      have h3 := gx_join ar d1 d2 (a - 1 + ar p) b (p+1) h1.2 (by rw [e2]; exact h2)
      have e3 : a + b - 1 + ar p = a - 1 + ar p + b := by omega
      rw [e3]; exact h3
theorem gx_split (ar : Nat → Nat) : ∀ (d a b p : Nat), gx_ok ar d (a + b) p → ∃ d1 d2, d = d1 + d2 ∧ gx_ok ar d1 a p ∧ gx_ok ar d2 b (p + d1)
  | 0, a, b, p, h => by
      have h0 : a + b = 0 := h
      exact ⟨0, 0, rfl, (gx_z ar a p).mpr (by omega), (gx_z ar b _).mpr (by omega)⟩
  | d+1, a, b, p, h => by
     rcases Nat.eq_zero_or_pos a with ha | ha
     · subst ha
       rw [Nat.zero_add] at h
       exact ⟨0, d+1, by omega, gx_00 ar p, h⟩
     · have e : a + b - 1 + ar p = (a - 1 + ar p) + b := by omega
       have h2 := h.2
       rw [e] at h2
       obtain ⟨d1, d2, e1, h3, h4⟩ := gx_split ar d _ _ _ h2
       refine ⟨d1+1, d2, by omega, ⟨ha, h3⟩, ?_⟩
       have e2 : p + (d1 + 1) = p + 1 + d1 := by omega
       rw [e2]; exact h4
theorem gx_pos {ar : Nat → Nat} {d c p : Nat} (h : gx_ok ar d (c+1) p) : 0 < d := by
  cases d with
  | zero => exact absurd ((gx_z ar _ _).mp h) (by omega)
  | succ d => omega
theorem gx_congr (ar ar' : Nat → Nat) : ∀ (d c p p' : Nat), (∀ i, i < d → ar' (p' + i) = ar (p + i)) → gx_ok ar d c p → gx_ok ar' d c p'
  | 0, _, _, _, _, h => h
  | d+1, c, p, p', e, h => by
     have e0 := e 0 (by omega)
     rw [Nat.add_zero, Nat.add_zero] at e0
     rw [gx_s, e0]
     refine ⟨h.1, gx_congr ar ar' d _ (p+1) (p'+1) ?_ h.2⟩
     intro i hi
     have h5 := e (i+1) (by omega)
     have e1 : p' + 1 + i = p' + (i+1) := by omega
     have e2 : p + 1 + i = p + (i+1) := by omega
     rw [e1, e2]; exact h5
/-- at each place inside there begins an expression, and it ends inside -/
theorem gx_sub (ar : Nat → Nat) : ∀ (D c p j : Nat), gx_ok ar D c p → j < D → ∃ d, gx_ok ar d 1 (p + j) ∧ j + d ≤ D
  | 0, _, _, _, _, hj => absurd hj (by omega)
  | D+1, c, p, 0, h, _ => by
     have h0 := h.1
     have e : c = 1 + (c - 1) := by omega
     rw [e] at h
     obtain ⟨d1, d2, e1, h3, _⟩ := gx_split ar _ _ _ _ h
     exact ⟨d1, h3, by omega⟩
  | D+1, c, p, j+1, h, hj => by
     obtain ⟨d, h1, h2⟩ := gx_sub ar D _ (p+1) j h.2 (by omega)
     have e : p + 1 + j = p + (j+1) := by omega
     rw [e] at h1
     exact ⟨d, h1, by omega⟩
def gx_sk (ar : Nat → Nat) : Nat → Nat → Nat → Nat
  | 0, _, p => p
  | _+1, 0, p => p
  | f+1, c+1, p => gx_sk ar f (c + ar p) (p+1)
theorem gx_skE (ar : Nat → Nat) : ∀ (d f c p : Nat), gx_ok ar d c p → d ≤ f → gx_sk ar f c p = p + d
  | 0, f, c, p, h, _ => by
     have h0 : c = 0 := h
     subst h0
     cases f <;> rfl
  | d+1, f, c, p, h, hf => by
     have h0 := h.1
     obtain ⟨c', rfl⟩ : ∃ c', c = c' + 1 := ⟨c - 1, by omega⟩
     obtain ⟨f', rfl⟩ : ∃ f', f = f' + 1 := ⟨f - 1, by omega⟩
     have h2 := h.2
     rw [Nat.add_sub_cancel] at h2
     have h3 := gx_skE ar d f' (c' + ar p) (p+1) h2 (by omega)
     show gx_sk ar f' (c' + ar p) (p+1) = p + (d+1)
     rw [h3]; omega
/-- the place behind the expression at p -/
def gx_en (ar : Nat → Nat) (p : Nat) : Nat := gx_sk ar 2500 1 p
theorem gx_enE {ar : Nat → Nat} {d p : Nat} (h : gx_ok ar d 1 p) (hd : d ≤ 2500) : gx_en ar p = p + d := gx_skE ar d 2500 1 p h hd
/-- the k-th expression from p on -/
def gx_op (ar : Nat → Nat) (p : Nat) : Nat → Nat
  | 0 => p
  | k+1 => gx_en ar (gx_op ar p k)
theorem gx_opE (ar : Nat → Nat) (p : Nat) : ∀ (k d c : Nat), gx_ok ar d c p → d ≤ 2500 → k ≤ c → ∃ dk, gx_op ar p k = p + dk ∧ dk ≤ d ∧ gx_ok ar dk k p ∧ gx_ok ar (d - dk) (c - k) (p + dk)
  | 0, d, c, h, _, _ => ⟨0, rfl, by omega, gx_00 ar p, h⟩
  | k+1, d, c, h, hd, hk => by
     obtain ⟨dk, e1, h1, h2, h3⟩ := gx_opE ar p k d c h hd (by omega)
     have e : c - k = 1 + (c - (k+1)) := by omega
     rw [e] at h3
     obtain ⟨d1, d2, e2, h4, h5⟩ := gx_split ar _ _ _ _ h3
     refine ⟨dk + d1, ?_, by omega, gx_join ar dk d1 k 1 p h2 h4, ?_⟩
     · show gx_en ar (gx_op ar p k) = _
       rw [e1, gx_enE h4 (by omega)]; omega
     · have e3 : d - (dk + d1) = d2 := by omega
       have e4 : p + (dk + d1) = p + dk + d1 := by omega
       rw [e3, e4]; exact h5
/-- g 0, .., g (m-1) put on a stack -/
def gx_push {α : Type} (g : Nat → α) : Nat → List α → List α
  | 0, st => st
  | m+1, st => gx_push g m (g m :: st)
theorem gx_push_len {α : Type} (g : Nat → α) : ∀ (m : Nat) (st : List α), (gx_push g m st).length = m + st.length
  | 0, st => (Nat.zero_add _).symm
  | m+1, st => by
     show (gx_push g m (g m :: st)).length = _
     rw [gx_push_len g m, List.length_cons]; omega
theorem gx_push_all {α : Type} (g : Nat → α) (P : α → Prop) : ∀ (m : Nat) (st : List α), (∀ o, o < m → P (g o)) → (∀ x, x ∈ st → P x) → ∀ x, x ∈ gx_push g m st → P x
  | 0, _, _, h => h
  | m+1, st, hg, h => gx_push_all g P m (g m :: st) (fun o ho => hg o (by omega)) (fun x hx => by
      rcases List.mem_cons.mp hx with rfl | hx
      · exact hg m (by omega)
      · exact h x hx)
theorem gx_push_map {α β : Type} (g : Nat → α) (f : α → β) (b : β) (hf : ∀ o, f (g o) = b) : ∀ (m : Nat) (st : List α), (gx_push g m st).map f = List.replicate m b ++ st.map f
  | 0, _ => rfl
  | m+1, st => by
     show (gx_push g m (g m :: st)).map f = _
     rw [gx_push_map g f b hf m, List.map_cons, hf, List.replicate_succ', List.append_assoc]
     rfl
theorem gx_push_sum {α : Type} (g : Nat → α) (w : α → Nat) (b : Nat) (hf : ∀ o, w (g o) = b) : ∀ (m : Nat) (st : List α), ((gx_push g m st).map w).sum = m * b + (st.map w).sum
  | 0, st => by show (st.map w).sum = _; omega
  | m+1, st => by
     show ((gx_push g m (g m :: st)).map w).sum = _
     rw [gx_push_sum g w b hf m, List.map_cons, hf, List.sum_cons, Nat.add_mul]; omega
