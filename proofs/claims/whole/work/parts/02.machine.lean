/-! the written text, purely: kinds K, values V, holes Hn of the concepts, lengths Len of the rows (0..5 templates, 6..9 sources, 10 the draft; row r begins at 24 r), nc concepts -/
def tx_a (Hn : Nat → Nat) (k : Nat) : Nat :=
  if 16 ≤ k then Hn (k - 16) else if k = 6 then 3 else if k = 8 then 1 else if (2 ≤ k ∧ k ≤ 5) ∨ k = 7 then 2 else 0
theorem tx_a3 (Hn : Nat → Nat) {k : Nat} (h : k < 16) : tx_a Hn k ≤ 3 := by
  unfold tx_a
  rw [if_neg (by omega)]
  split
  · omega
  · split
    · omega
    · split <;> omega
theorem tx_aI (Hn Hn' : Nat → Nat) {k : Nat} (h : k < 16) : tx_a Hn k = tx_a Hn' k := by
  unfold tx_a
  have h' : ¬ 16 ≤ k := by omega
  rw [if_neg h', if_neg h']
theorem tx_aU (Hn : Nat → Nat) {k : Nat} (h : 16 ≤ k) : tx_a Hn k = Hn (k - 16) := if_pos h
theorem tx_a9 (Hn : Nat → Nat) {k : Nat} (h : k = 9 ∨ k = 10) : tx_a Hn k = 0 := by
  rcases h with rfl | rfl <;> rfl
def tx_row (nc r : Nat) : Prop := r < nc ∨ (6 ≤ r ∧ r < 10)
def tx_lim (nc r : Nat) : Nat := if r < 6 then r else nc
def tx_pos (Len : Nat → Nat) (nc r i : Nat) : Prop := tx_row nc r ∧ 24 * r ≤ i ∧ i < 24 * r + Len r
def tx_tok (K : Nat → Nat) (V : Nat → Int32) (Hn : Nat → Nat) (nc r i : Nat) : Prop :=
  (K i ≤ 8 ∨ (r < 6 ∧ (K i = 9 ∨ K i = 10)) ∨ (16 ≤ K i ∧ K i < 16 + tx_lim nc r)) ∧
  (K i = 9 → ∃ h, h < Hn r ∧ V i = nI h) ∧
  ((K i = 1 ∨ K i = 7) → (∃ w, w < 10 ∧ V i = nI w) ∨ (r < 6 ∧ (V i = -1 ∨ V i = -2))) ∧
  ((2 ≤ K i ∧ K i ≤ 6) ∨ K i = 8 ∨ K i = 10 → V i = 0)
def tx_WF (K : Nat → Nat) (V : Nat → Int32) (Hn Len : Nat → Nat) (nc : Nat) : Prop :=
  nc ≤ 6 ∧ ∀ r, tx_row nc r → Len r ≤ 24 ∧ (r < 6 → 0 < Len r ∧ Len r ≤ 12 ∧ Hn r ≤ 3) ∧
    (0 < Len r → gx_ok (fun i => tx_a Hn (K i)) (Len r) 1 (24 * r)) ∧
    (∀ i, 24 * r ≤ i → i < 24 * r + Len r → tx_tok K V Hn nc r i)
theorem tx_expr {K : Nat → Nat} {V : Nat → Int32} {Hn Len : Nat → Nat} {nc r i : Nat} (w : tx_WF K V Hn Len nc) (h : tx_pos Len nc r i) :
    ∃ d, gx_ok (fun i => tx_a Hn (K i)) d 1 i ∧ i + d ≤ 24 * r + Len r ∧ 0 < d ∧ d ≤ 24 := by
  obtain ⟨h1, h2, h3⟩ := h
  obtain ⟨w1, _, w3, _⟩ := w.2 r h1
  obtain ⟨d, h4, h5⟩ := gx_sub _ (Len r) 1 (24 * r) (i - 24 * r) (w3 (by omega)) (by omega)
  have e : 24 * r + (i - 24 * r) = i := by omega
  rw [e] at h4
  have h6 := gx_pos h4
  exact ⟨d, h4, by omega, h6, by omega⟩
theorem tx_tokE {K : Nat → Nat} {V : Nat → Int32} {Hn Len : Nat → Nat} {nc r i : Nat} (w : tx_WF K V Hn Len nc) (h : tx_pos Len nc r i) : tx_tok K V Hn nc r i :=
  (w.2 r h.1).2.2.2 i h.2.1 h.2.2
theorem tx_useRow {K : Nat → Nat} {V : Nat → Int32} {Hn Len : Nat → Nat} {nc r i : Nat} (w : tx_WF K V Hn Len nc) (h : tx_pos Len nc r i) (hk : 16 ≤ K i) :
    K i - 16 < nc ∧ K i - 16 < 6 ∧ (r < 6 → K i - 16 < r) := by
  have h1 := (tx_tokE w h).1
  have h2 := w.1
  have h3 := h.1
  unfold tx_lim at h1
  unfold tx_row at h3
  split at h1 <;> omega
/-! the machine: a stack of (place, frame, above + 1); frames (place of the USE, frame around, origin, depth), frame 0 the source; tokens out (kind, value, origin, above + 1) -/
abbrev pm_S : Type := Nat × Nat × Nat
abbrev pm_F : Type := Nat → Nat × Nat × Nat × Nat
abbrev pm_O : Type := Nat → Nat × Int32 × Nat × Nat
def pm_fu {α : Type} (a : Nat → α) (i : Nat) (v : α) : Nat → α := fun j => if j = i then v else a j
theorem pm_fs {α : Type} {a : Nat → α} {i : Nat} {v : α} : pm_fu a i v i = v := if_pos rfl
theorem pm_fn {α : Type} {a : Nat → α} {i j : Nat} {v : α} (h : j ≠ i) : pm_fu a i v j = a j := if_neg h
def pm_org (F : pm_F) (f i : Nat) : Nat := if f = 0 then i % 24 else (F f).2.2.1
def pm_kind (k : Nat) : Nat := if k = 10 then 0 else k
def pm_val (K : Nat → Nat) (V : Nat → Int32) (F : pm_F) (f i : Nat) : Int32 :=
  if K i = 10 then V (F f).1 else if K i = 0 then V i else if K i = 1 ∨ K i = 7 then (if V i = -1 then nI (98 + 2 * f) else if V i = -2 then nI (99 + 2 * f) else V i) else 0
def pm_hole (V : Nat → Int32) (i : Nat) : Nat := (V i).toNatClampNeg
def pm_nF (F : pm_F) (nf f i : Nat) : pm_F := pm_fu F (nf+1) (i, f, pm_org F f i, (F f).2.2.2 + 1)
def pm_nO (K : Nat → Nat) (V : Nat → Int32) (F : pm_F) (n : Nat) (O : pm_O) (f i a : Nat) : pm_O := pm_fu O n (pm_kind (K i), pm_val K V F f i, pm_org F f i, a)
def pm_go (K : Nat → Nat) (V : Nat → Int32) (ar : Nat → Nat) : Nat → List pm_S → Nat → pm_F → Nat → pm_O → Option (Nat × Nat × pm_O)
  | 0, _, _, _, _, _ => none
  | _+1, [], nf, _, n, O => some (nf, n, O)
  | t+1, (i, f, a) :: st, nf, F, n, O =>
    if 16 ≤ K i then
      if nf = 2000 then none
      else pm_go K V ar t ((24 * (K i - 16), nf+1, a) :: st) (nf+1) (pm_nF F nf f i) n O
    else if K i = 9 then
      pm_go K V ar t ((gx_op ar ((F f).1 + 1) (pm_hole V i), (F f).2.1, a) :: st) nf F n O
    else if n = 2000 then none
    else pm_go K V ar t (gx_push (fun o => (gx_op ar (i+1) o, f, n+1)) (ar i) st) nf F (n+1) (pm_nO K V F n O f i a)
theorem pm_go0 (K : Nat → Nat) (V : Nat → Int32) (ar : Nat → Nat) (t nf : Nat) (F : pm_F) (n : Nat) (O : pm_O) : pm_go K V ar (t+1) [] nf F n O = some (nf, n, O) := rfl
theorem pm_goU (K : Nat → Nat) (V : Nat → Int32) (ar : Nat → Nat) (t i f a : Nat) (st : List pm_S) (nf : Nat) (F : pm_F) (n : Nat) (O : pm_O) (h : 16 ≤ K i) (h2 : nf ≠ 2000) :
    pm_go K V ar (t+1) ((i, f, a) :: st) nf F n O = pm_go K V ar t ((24 * (K i - 16), nf+1, a) :: st) (nf+1) (pm_nF F nf f i) n O := by
  rw [pm_go, if_pos h, if_neg h2]
theorem pm_goUx (K : Nat → Nat) (V : Nat → Int32) (ar : Nat → Nat) (t i f a : Nat) (st : List pm_S) (nf : Nat) (F : pm_F) (n : Nat) (O : pm_O) (h : 16 ≤ K i) (h2 : nf = 2000) :
    pm_go K V ar (t+1) ((i, f, a) :: st) nf F n O = none := by
  rw [pm_go, if_pos h, if_pos h2]
theorem pm_goH (K : Nat → Nat) (V : Nat → Int32) (ar : Nat → Nat) (t i f a : Nat) (st : List pm_S) (nf : Nat) (F : pm_F) (n : Nat) (O : pm_O) (h : K i = 9) :
    pm_go K V ar (t+1) ((i, f, a) :: st) nf F n O = pm_go K V ar t ((gx_op ar ((F f).1 + 1) (pm_hole V i), (F f).2.1, a) :: st) nf F n O := by
  rw [pm_go, if_neg (by omega), if_pos h]
theorem pm_goP (K : Nat → Nat) (V : Nat → Int32) (ar : Nat → Nat) (t i f a : Nat) (st : List pm_S) (nf : Nat) (F : pm_F) (n : Nat) (O : pm_O) (h : ¬ 16 ≤ K i) (h9 : K i ≠ 9) (h2 : n ≠ 2000) :
    pm_go K V ar (t+1) ((i, f, a) :: st) nf F n O = pm_go K V ar t (gx_push (fun o => (gx_op ar (i+1) o, f, n+1)) (ar i) st) nf F (n+1) (pm_nO K V F n O f i a) := by
  rw [pm_go, if_neg h, if_neg h9, if_neg h2]
theorem pm_goPx (K : Nat → Nat) (V : Nat → Int32) (ar : Nat → Nat) (t i f a : Nat) (st : List pm_S) (nf : Nat) (F : pm_F) (n : Nat) (O : pm_O) (h : ¬ 16 ≤ K i) (h9 : K i ≠ 9) (h2 : n = 2000) :
    pm_go K V ar (t+1) ((i, f, a) :: st) nf F n O = none := by
  rw [pm_go, if_neg h, if_neg h9, if_pos h2]
/-! its invariant and its measure -/
def pm_row (K : Nat → Nat) (s : Nat) (F : pm_F) (f : Nat) : Nat := if f = 0 then 6 + s else K (F f).1 - 16
def pm_we (K : Nat → Nat) (s : Nat) (F : pm_F) (f : Nat) : Nat := 7 - min (pm_row K s F f) 6
def pm_I (K : Nat → Nat) (Len : Nat → Nat) (nc s : Nat) (st : List pm_S) (nf : Nat) (F : pm_F) (n : Nat) : Prop :=
  s < 4 ∧ nf ≤ 2000 ∧ n ≤ 2000 ∧ (F 0).2.2.2 = 0 ∧
  (∀ f, 1 ≤ f → f ≤ nf → (F f).2.1 < f ∧ tx_pos Len nc (pm_row K s F (F f).2.1) (F f).1 ∧ 16 ≤ K (F f).1 ∧ (F f).2.2.2 = (F (F f).2.1).2.2.2 + 1 ∧ (F f).2.2.1 < 24) ∧
  (∀ x, x ∈ st → x.2.1 ≤ nf ∧ tx_pos Len nc (pm_row K s F x.2.1) x.1)
def pm_mu (K : Nat → Nat) (s : Nat) (F : pm_F) (st : List pm_S) (nf n : Nat) : Nat :=
  (st.map (fun x => pm_we K s F x.2.1)).sum + 8 * (2000 - nf) + 22 * (2000 - n)
theorem pm_we1 (K : Nat → Nat) (s : Nat) (F : pm_F) (f : Nat) : 1 ≤ pm_we K s F f ∧ pm_we K s F f ≤ 7 := by
  unfold pm_we
  omega
theorem pm_org24 {K : Nat → Nat} {Len : Nat → Nat} {nc s : Nat} {st : List pm_S} {nf : Nat} {F : pm_F} {n : Nat} (I : pm_I K Len nc s st nf F n) {f i : Nat} (hf : f ≤ nf) : pm_org F f i < 24 := by
  unfold pm_org
  split
  · omega
  · exact (I.2.2.2.2.1 f (by omega) hf).2.2.2.2
theorem pm_rowN {K : Nat → Nat} {s : Nat} {F : pm_F} {nf f i g : Nat} (h : g ≤ nf) : pm_row K s (pm_nF F nf f i) g = pm_row K s F g := by
  unfold pm_row pm_nF
  rw [pm_fn (by omega)]
theorem pm_rowS {K : Nat → Nat} {s : Nat} {F : pm_F} {nf f i : Nat} : pm_row K s (pm_nF F nf f i) (nf+1) = K i - 16 := by
  unfold pm_row pm_nF
  rw [if_neg (by omega), pm_fs]
theorem pm_tail {K : Nat → Nat} {Len : Nat → Nat} {nc s : Nat} {x : pm_S} {st : List pm_S} {nf : Nat} {F : pm_F} {n : Nat} (I : pm_I K Len nc s (x :: st) nf F n) : pm_I K Len nc s st nf F n :=
  ⟨I.1, I.2.1, I.2.2.1, I.2.2.2.1, I.2.2.2.2.1, fun y hy => I.2.2.2.2.2 y (List.mem_cons_of_mem _ hy)⟩
theorem pm_head {K : Nat → Nat} {Len : Nat → Nat} {nc s : Nat} {i f a : Nat} {st : List pm_S} {nf : Nat} {F : pm_F} {n : Nat} (I : pm_I K Len nc s ((i, f, a) :: st) nf F n) : f ≤ nf ∧ tx_pos Len nc (pm_row K s F f) i :=
  I.2.2.2.2.2 (i, f, a) List.mem_cons_self
/-- a USE is replaced -/
theorem pm_IU {K : Nat → Nat} {V : Nat → Int32} {Hn Len : Nat → Nat} {nc s : Nat} {i f a : Nat} {st : List pm_S} {nf : Nat} {F : pm_F} {n : Nat}
    (w : tx_WF K V Hn Len nc) (I : pm_I K Len nc s ((i, f, a) :: st) nf F n) (hk : 16 ≤ K i) (hn : nf ≠ 2000) :
    pm_I K Len nc s ((24 * (K i - 16), nf+1, a) :: st) (nf+1) (pm_nF F nf f i) n ∧
    pm_mu K s (pm_nF F nf f i) ((24 * (K i - 16), nf+1, a) :: st) (nf+1) n < pm_mu K s F ((i, f, a) :: st) nf n := by
  obtain ⟨hf, hp⟩ := pm_head I
  obtain ⟨u1, u2, u3⟩ := tx_useRow w hp hk
  obtain ⟨I1, I2, I3, I4, I5, I6⟩ := I
  have hO := pm_org24 ⟨I1, I2, I3, I4, I5, I6⟩ (i := i) hf
  have hst : ∀ x, x ∈ st → x.2.1 ≤ nf := fun x hx => (I6 x (List.mem_cons_of_mem _ hx)).1
  refine ⟨⟨I1, by omega, I3, ?_, ?_, ?_⟩, ?_⟩
  · unfold pm_nF
    rw [pm_fn (by omega)]; exact I4
  · intro g hg1 hg2
    by_cases e : g = nf + 1
    · subst e
      have e1 : pm_nF F nf f i (nf+1) = (i, f, pm_org F f i, (F f).2.2.2 + 1) := pm_fs
      have e2 : pm_nF F nf f i f = F f := pm_fn (by omega)
      rw [e1]
      dsimp only
      rw [e2, pm_rowN hf]
      exact ⟨by omega, hp, hk, rfl, hO⟩
    · have e1 : pm_nF F nf f i g = F g := pm_fn e
      have h5 := I5 g hg1 (by omega)
      have e2 : pm_nF F nf f i (F g).2.1 = F (F g).2.1 := pm_fn (by omega)
      rw [e1, e2, pm_rowN (by omega)]
      exact h5
  · intro x hx
    rcases List.mem_cons.mp hx with rfl | hx
    · refine ⟨Nat.le_refl _, ?_⟩
      show tx_pos Len nc (pm_row K s (pm_nF F nf f i) (nf+1)) (24 * (K i - 16))
      rw [pm_rowS]
      have h7 := (w.2 (K i - 16) (Or.inl u1)).2.1 u2
      exact ⟨Or.inl u1, Nat.le_refl _, by omega⟩
    · have h6 := I6 x (List.mem_cons_of_mem _ hx)
      rw [pm_rowN h6.1]
      exact ⟨by omega, h6.2⟩
  · unfold pm_mu
    have e : st.map (fun x => pm_we K s (pm_nF F nf f i) x.2.1) = st.map (fun x => pm_we K s F x.2.1) := by
      apply List.map_congr_left
      intro x hx
      show pm_we K s (pm_nF F nf f i) x.2.1 = pm_we K s F x.2.1
      unfold pm_we
      rw [pm_rowN (hst x hx)]
    rw [List.map_cons, List.map_cons, List.sum_cons, List.sum_cons, e]
    have h1 := (pm_we1 K s (pm_nF F nf f i) (nf+1)).2
    have h2 := (pm_we1 K s F f).1
    dsimp only
    omega
/-- a HOLE stands in a frame of a USE, and its operand in the frame around -/
theorem pm_holeE {K : Nat → Nat} {V : Nat → Int32} {Hn Len : Nat → Nat} {nc s : Nat} {i f a : Nat} {st : List pm_S} {nf : Nat} {F : pm_F} {n : Nat}
    (w : tx_WF K V Hn Len nc) (I : pm_I K Len nc s ((i, f, a) :: st) nf F n) (hk : K i = 9) :
    1 ≤ f ∧ f ≤ nf ∧ (F f).2.1 < f ∧ tx_pos Len nc (pm_row K s F (F f).2.1) (F f).1 ∧ V i = nI (pm_hole V i) ∧ pm_hole V i < 3 ∧
    pm_hole V i < tx_a Hn (K (F f).1) ∧ pm_row K s F f < 6 ∧
    tx_pos Len nc (pm_row K s F (F f).2.1) (gx_op (fun i => tx_a Hn (K i)) ((F f).1 + 1) (pm_hole V i)) ∧
    pm_we K s F (F f).2.1 < pm_we K s F f := by
  obtain ⟨hf, hp⟩ := pm_head I
  have ht := tx_tokE w hp
  have hr : pm_row K s F f < 6 := by
    have h1 := ht.1
    unfold tx_lim at h1
    split at h1 <;> omega
  have hf1 : 1 ≤ f := by
    rcases Nat.eq_zero_or_pos f with h0 | h0
    · subst h0
      unfold pm_row at hr
      rw [if_pos rfl] at hr
      omega
    · exact h0
  obtain ⟨h, hh1, hh2⟩ := ht.2.1 hk
  obtain ⟨g1, g2, g3, g4, g5⟩ := I.2.2.2.2.1 f hf1 hf
  have er : pm_row K s F f = K (F f).1 - 16 := by
    unfold pm_row
    rw [if_neg (by omega)]
  obtain ⟨u1, u2, u3⟩ := tx_useRow w g2 g3
  have hn3 : Hn (pm_row K s F f) ≤ 3 := ((w.2 (pm_row K s F f) hp.1).2.1 hr).2.2
  have eh : pm_hole V i = h := by
    unfold pm_hole
    rw [hh2, nI_clamp (by omega)]
  have ea : tx_a Hn (K (F f).1) = Hn (pm_row K s F f) := by rw [tx_aU Hn g3, er]
  refine ⟨hf1, hf, g1, g2, by rw [eh]; exact hh2, by omega, by omega, hr, ?_, ?_⟩
  · obtain ⟨d, d1, d2, d3, d4⟩ := tx_expr w g2
    obtain ⟨d', rfl⟩ : ∃ d', d = d' + 1 := ⟨d - 1, by omega⟩
    have d5 := d1.2
    rw [Nat.sub_self, Nat.zero_add] at d5
    obtain ⟨dk, k1, k2, k3, k4⟩ := gx_opE _ ((F f).1 + 1) (pm_hole V i) d' _ d5 (by omega) (by dsimp only; omega)
    have e4 : tx_a Hn (K (F f).1) - pm_hole V i = (tx_a Hn (K (F f).1) - pm_hole V i - 1) + 1 := by omega
    dsimp only at k4
    rw [e4] at k4
    have k5 := gx_pos k4
    rw [k1]
    exact ⟨g2.1, by have := g2.2.1; omega, by omega⟩
  · unfold pm_we
    omega
theorem pm_IH {K : Nat → Nat} {V : Nat → Int32} {Hn Len : Nat → Nat} {nc s : Nat} {i f a : Nat} {st : List pm_S} {nf : Nat} {F : pm_F} {n : Nat}
    (w : tx_WF K V Hn Len nc) (I : pm_I K Len nc s ((i, f, a) :: st) nf F n) (hk : K i = 9) :
    pm_I K Len nc s ((gx_op (fun i => tx_a Hn (K i)) ((F f).1 + 1) (pm_hole V i), (F f).2.1, a) :: st) nf F n ∧
    pm_mu K s F ((gx_op (fun i => tx_a Hn (K i)) ((F f).1 + 1) (pm_hole V i), (F f).2.1, a) :: st) nf n < pm_mu K s F ((i, f, a) :: st) nf n := by
  obtain ⟨h1, h2, h3, h4, h5, h6, h7, h8, h9, h10⟩ := pm_holeE w I hk
  obtain ⟨I1, I2, I3, I4, I5, I6⟩ := I
  refine ⟨⟨I1, I2, I3, I4, I5, ?_⟩, ?_⟩
  · intro x hx
    rcases List.mem_cons.mp hx with rfl | hx
    · exact ⟨by dsimp only; omega, h9⟩
    · exact I6 x (List.mem_cons_of_mem _ hx)
  · unfold pm_mu
    rw [List.map_cons, List.map_cons, List.sum_cons, List.sum_cons]
    dsimp only
    omega
/-- the operands of a token -/
theorem pm_opE {K : Nat → Nat} {V : Nat → Int32} {Hn Len : Nat → Nat} {nc r i : Nat} (w : tx_WF K V Hn Len nc) (h : tx_pos Len nc r i) {o : Nat} (ho : o < tx_a Hn (K i)) :
    tx_pos Len nc r (gx_op (fun i => tx_a Hn (K i)) (i+1) o) := by
  obtain ⟨d, d1, d2, d3, d4⟩ := tx_expr w h
  obtain ⟨d', rfl⟩ : ∃ d', d = d' + 1 := ⟨d - 1, by omega⟩
  have d5 := d1.2
  rw [Nat.sub_self, Nat.zero_add] at d5
  obtain ⟨dk, k1, k2, k3, k4⟩ := gx_opE _ (i+1) o d' _ d5 (by omega) (by dsimp only; omega)
  have e4 : tx_a Hn (K i) - o = (tx_a Hn (K i) - o - 1) + 1 := by omega
  dsimp only at k4
  rw [e4] at k4
  have k5 := gx_pos k4
  rw [k1]
  exact ⟨h.1, by have := h.2.1; omega, by omega⟩
theorem pm_IP {K : Nat → Nat} {V : Nat → Int32} {Hn Len : Nat → Nat} {nc s : Nat} {i f a : Nat} {st : List pm_S} {nf : Nat} {F : pm_F} {n : Nat}
    (w : tx_WF K V Hn Len nc) (I : pm_I K Len nc s ((i, f, a) :: st) nf F n) (hk : ¬ 16 ≤ K i) (hn : n ≠ 2000) (a' : Nat) :
    pm_I K Len nc s (gx_push (fun o => (gx_op (fun i => tx_a Hn (K i)) (i+1) o, f, a')) (tx_a Hn (K i)) st) nf F (n+1) ∧
    pm_mu K s F (gx_push (fun o => (gx_op (fun i => tx_a Hn (K i)) (i+1) o, f, a')) (tx_a Hn (K i)) st) nf (n+1) < pm_mu K s F ((i, f, a) :: st) nf n := by
  obtain ⟨hf, hp⟩ := pm_head I
  obtain ⟨I1, I2, I3, I4, I5, I6⟩ := I
  refine ⟨⟨I1, I2, by omega, I4, I5, ?_⟩, ?_⟩
  · refine gx_push_all _ (fun x : pm_S => x.2.1 ≤ nf ∧ tx_pos Len nc (pm_row K s F x.2.1) x.1) _ _ ?_ ?_
    · intro o ho
      exact ⟨hf, pm_opE w hp ho⟩
    · intro x hx
      exact I6 x (List.mem_cons_of_mem _ hx)
  · unfold pm_mu
    rw [gx_push_sum _ (fun x : pm_S => pm_we K s F x.2.1) (pm_we K s F f) (fun _ => rfl), List.map_cons, List.sum_cons]
    have h1 := pm_we1 K s F f
    have h3 := tx_a3 Hn (k := K i) (by omega)
    have h4 : tx_a Hn (K i) * pm_we K s F f ≤ 3 * 7 := Nat.mul_le_mul h3 h1.2
    dsimp only
    omega
theorem pm_valV {K : Nat → Nat} {V : Nat → Int32} {Hn : Nat → Nat} {nc r i : Nat} (h : tx_tok K V Hn nc r i) (F : pm_F) {f : Nat} (hf : f ≤ 2000) (hk : K i = 1 ∨ K i = 7) :
    ∃ w, w < 4110 ∧ pm_val K V F f i = nI w := by
  unfold pm_val
  rw [if_neg (by omega), if_neg (by omega), if_pos hk]
  rcases h.2.2.1 hk with ⟨w, w1, w2⟩ | ⟨_, e | e⟩
  · refine ⟨w, by omega, ?_⟩
    rw [if_neg, if_neg]
    · exact w2
    · rw [w2]; intro z
      have h1 : (nI w).toInt = w := nI_toInt (by omega)
      rw [z] at h1
      have h2 : ((-2 : Int32)).toInt = -2 := by decide
      omega
    · rw [w2]; intro z
      have h1 : (nI w).toInt = w := nI_toInt (by omega)
      rw [z] at h1
      have h2 : ((-1 : Int32)).toInt = -1 := by decide
      omega
  · exact ⟨98 + 2 * f, by omega, by rw [if_pos e]⟩
  · refine ⟨99 + 2 * f, by omega, ?_⟩
    rw [if_neg (by rw [e]; decide), if_pos e]
