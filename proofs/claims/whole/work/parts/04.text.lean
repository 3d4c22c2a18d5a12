/-! the draft and how it becomes a row -/
def fd_go (fit : Nat → Bool) (ar : Nat → Nat) (n : Nat) : Nat → Nat → Nat → Option Nat
  | 0, _, o => if o = 0 then none else some n
  | d+1, k, o => if o = 0 ∨ fit k = false then some k else fd_go fit ar n d (k+1) (o - 1 + ar k)
theorem fd_ok (fit : Nat → Bool) (ar : Nat → Nat) (n : Nat) : ∀ (d k o : Nat), fd_go fit ar n d k o = none → gx_ok ar d o k ∧ ∀ i, k ≤ i → i < k + d → fit i = true
  | 0, k, o, h => by
    rw [fd_go] at h
    by_cases h0 : o = 0
    · exact ⟨(gx_z ar o k).mpr h0, fun i h1 h2 => by omega⟩
    · rw [if_neg h0] at h
      cases h
  | d+1, k, o, h => by
    rw [fd_go] at h
    by_cases h0 : o = 0 ∨ fit k = false
    · rw [if_pos h0] at h
      cases h
    · rw [if_neg h0] at h
      obtain ⟨h1, h2⟩ := fd_ok fit ar n d (k+1) _ h
      have h3 : o ≠ 0 := fun z => h0 (Or.inl z)
      have h4 : fit k = true := by
        cases hf : fit k with
        | true => rfl
        | false => exact absurd (Or.inr hf) h0
      refine ⟨⟨by omega, h1⟩, fun i h5 h6 => ?_⟩
      by_cases e : i = k
      · rw [e]; exact h4
      · exact h2 i (by omega) (by omega)
theorem fd_le (fit : Nat → Bool) (ar : Nat → Nat) (n : Nat) : ∀ (d k o r : Nat), k + d ≤ n → fd_go fit ar n d k o = some r → r ≤ n
  | 0, k, o, r, hn, h => by
    rw [fd_go] at h
    by_cases h0 : o = 0
    · rw [if_pos h0] at h; cases h
    · rw [if_neg h0] at h
      cases h; omega
  | d+1, k, o, r, hn, h => by
    rw [fd_go] at h
    by_cases h0 : o = 0 ∨ fit k = false
    · rw [if_pos h0] at h
      cases h; omega
    · rw [if_neg h0] at h
      exact fd_le fit ar n d (k+1) _ r (by omega) h
def dr_bT (DK : Nat → Nat) (DV : Nat → Int32) (nc h i : Nat) : Bool := decide (i < 12 ∧ (DK i = 9 → DV i < nI h) ∧ (16 ≤ DK i → DK i - 16 < nc))
def dr_bS (DK : Nat → Nat) (DV : Nat → Int32) (nc i : Nat) : Bool := decide (((DK i = 1 ∨ DK i = 7) → 0 ≤ DV i) ∧ DK i ≠ 9 ∧ DK i ≠ 10 ∧ (16 ≤ DK i → DK i - 16 < nc))
def dr_D (DK : Nat → Nat) (DV : Nat → Int32) (dn : Nat) : Prop :=
  dn ≤ 24 ∧ ∀ i, i < dn → (DK i ≤ 10 ∨ (16 ≤ DK i ∧ DK i < 22)) ∧ (DK i = 9 → ∃ h, h < 3 ∧ DV i = nI h) ∧
    ((DK i = 1 ∨ DK i = 7) → (∃ w, w < 10 ∧ DV i = nI w) ∨ DV i = -1 ∨ DV i = -2) ∧
    ((2 ≤ DK i ∧ DK i ≤ 6) ∨ DK i = 8 ∨ DK i = 10 → DV i = 0)
def tx_cp {α : Type} (A D : Nat → α) (r n : Nat) : Nat → α := fun j => if 24 * r ≤ j ∧ j < 24 * r + n then D (j - 24 * r) else A j
theorem tx_cpI {α : Type} {A D : Nat → α} {r n i : Nat} (h : i < n) : tx_cp A D r n (24 * r + i) = D i := by
  unfold tx_cp
  rw [if_pos (by omega), Nat.add_sub_cancel_left]
theorem tx_cpO {α : Type} {A D : Nat → α} {r n j : Nat} (h : j < 24 * r ∨ 24 * r + n ≤ j) : tx_cp A D r n j = A j := by
  unfold tx_cp
  rw [if_neg (by omega)]
theorem tx_cpR {α : Type} {A D : Nat → α} {r r' n i m : Nat} (hr : r' ≠ r) (h1 : 24 * r' ≤ i) (h2 : i < 24 * r' + m) (hm : m ≤ 24) (hn : n ≤ 24) : tx_cp A D r n i = A i := by
  refine tx_cpO ?_
  omega
/-- rows that stay: other kinds and values elsewhere, other holes for concepts that aren't used -/
theorem tx_keep {K K' : Nat → Nat} {V V' : Nat → Int32} {Hn Hn' Len Len' : Nat → Nat} {nc nc' r : Nat} (w : tx_WF K V Hn Len nc) (hr : tx_row nc r) (hl : Len' r = Len r)
    (hK : ∀ i, 24 * r ≤ i → i < 24 * r + Len r → K' i = K i ∧ V' i = V i) (hH : ∀ c, c < nc → c < nc' → Hn' c = Hn c) (hr' : r < 6 → r < nc')
    (hu : ∀ i, 24 * r ≤ i → i < 24 * r + Len r → 16 ≤ K i → K i - 16 < nc') :
    Len' r ≤ 24 ∧ (r < 6 → 0 < Len' r ∧ Len' r ≤ 12 ∧ Hn' r ≤ 3) ∧
    (0 < Len' r → gx_ok (fun i => tx_a Hn' (K' i)) (Len' r) 1 (24 * r)) ∧
    (∀ i, 24 * r ≤ i → i < 24 * r + Len' r → tx_tok K' V' Hn' nc' r i) := by
  obtain ⟨w1, w2, w3, w4⟩ := w.2 r hr
  have hnc := w.1
  have hH2 : r < 6 → Hn' r = Hn r := fun h6 => by
    refine hH r ?_ (hr' h6)
    unfold tx_row at hr
    omega
  rw [hl]
  refine ⟨w1, fun h6 => ?_, fun h0 => ?_, fun i h1 h2 => ?_⟩
  · rw [hH2 h6]; exact w2 h6
  · refine gx_congr _ _ _ _ _ _ ?_ (w3 h0)
    intro i hi
    show tx_a Hn' (K' (24 * r + i)) = tx_a Hn (K (24 * r + i))
    have h5 := hK (24 * r + i) (by omega) (by omega)
    rw [h5.1]
    by_cases h16 : 16 ≤ K (24 * r + i)
    · rw [tx_aU _ h16, tx_aU _ h16]
      refine hH _ ?_ (hu _ (by omega) (by omega) h16)
      have h7 := (w4 (24 * r + i) (by omega) (by omega)).1
      unfold tx_lim at h7
      unfold tx_row at hr
      split at h7 <;> omega
    · exact tx_aI _ _ (by omega)
  · obtain ⟨t1, t2, t3, t4⟩ := w4 i h1 h2
    obtain ⟨e1, e2⟩ := hK i h1 h2
    have h8 := hu i h1 h2
    unfold tx_tok
    rw [e1, e2]
    refine ⟨?_, fun h9 => ?_, t3, t4⟩
    · unfold tx_lim at t1 ⊢
      split
      · next h6 => rw [if_pos h6] at t1; exact t1
      · next h6 =>
        rw [if_neg h6] at t1
        clear t2 t3 t4
        omega
    · obtain ⟨h, a, b⟩ := t2 h9
      refine ⟨h, ?_, b⟩
      have h6 : r < 6 := by
        clear t2 t3 t4
        omega
      rw [hH2 h6]; exact a
theorem tx_defined {K : Nat → Nat} {V : Nat → Int32} {Hn Len : Nat → Nat} {nc : Nat} {DK : Nat → Nat} {DV : Nat → Int32} {dn h : Nat}
    (w : tx_WF K V Hn Len nc) (hc : nc < 6) (hh : h ≤ 3) (D : dr_D DK DV dn)
    (hg : fd_go (dr_bT DK DV nc h) (fun i => tx_a Hn (DK i)) dn dn 0 1 = none) :
    tx_WF (tx_cp K DK nc dn) (tx_cp V DV nc dn) (pm_fu Hn nc h) (pm_fu Len nc dn) (nc+1) ∧ 0 < dn ∧ dn ≤ 12 := by
  obtain ⟨g1, g2⟩ := fd_ok _ _ _ _ _ _ hg
  have g3 : ∀ i, i < dn → i < 12 ∧ (DK i = 9 → DV i < nI h) ∧ (16 ≤ DK i → DK i - 16 < nc) := fun i hi => of_decide_eq_true (g2 i (by omega) (by omega))
  have d0 : 0 < dn := gx_pos g1
  have d12 : dn ≤ 12 := by
    have := (g3 (dn - 1) (by omega)).1
    omega
  refine ⟨⟨by omega, ?_⟩, d0, d12⟩
  intro r hr
  by_cases e : r = nc
  · subst e
    rw [pm_fs]
    refine ⟨by omega, fun _ => ⟨d0, d12, by rw [pm_fs]; exact hh⟩, fun _ => ?_, ?_⟩
    · refine gx_congr _ _ _ _ _ _ ?_ g1
      intro i hi
      show tx_a (pm_fu Hn r h) (tx_cp K DK r dn (24 * r + i)) = tx_a Hn (DK (0 + i))
      rw [tx_cpI hi, Nat.zero_add]
      by_cases h16 : 16 ≤ DK i
      · rw [tx_aU _ h16, tx_aU _ h16]
        have := (g3 i hi).2.2 h16
        exact pm_fn (by omega)
      · exact tx_aI _ _ (by omega)
    · intro i h1 h2
      obtain ⟨j, rfl⟩ : ∃ j, i = 24 * r + j := ⟨i - 24 * r, by omega⟩
      have hj : j < dn := by omega
      obtain ⟨D1, D2, D3, D4⟩ := D.2 j hj
      have g4 := g3 j hj
      unfold tx_tok
      rw [tx_cpI hj, tx_cpI hj, pm_fs]
      refine ⟨?_, fun h9 => ?_, fun h17 => ?_, D4⟩
      · have g5 := g4.2.2
        unfold tx_lim
        rw [if_pos hc]
        clear D2 D3 D4
        omega
      · obtain ⟨x, x1, x2⟩ := D2 h9
        refine ⟨x, ?_, x2⟩
        have g6 := g4.2.1 h9
        rw [x2] at g6
        exact (nI_ltI (by omega) (by omega)).mp g6
      · rcases D3 h17 with ⟨x, x1, x2⟩ | x
        · exact Or.inl ⟨x, x1, x2⟩
        · exact Or.inr ⟨hc, x⟩
  · have hr' : tx_row nc r := by
      unfold tx_row at hr ⊢
      omega
    refine tx_keep w hr' (pm_fn e) ?_ (fun c h1 _ => pm_fn (by omega)) (fun h6 => by unfold tx_row at hr; omega) ?_
    · intro i h1 h2
      have h3 := (w.2 r hr').1
      exact ⟨tx_cpR e h1 h2 h3 (by omega), tx_cpR e h1 h2 h3 (by omega)⟩
    · intro i h1 h2 h16
      have := tx_useRow w ⟨hr', h1, h2⟩ h16
      omega
theorem tx_sourced {K : Nat → Nat} {V : Nat → Int32} {Hn Len : Nat → Nat} {nc : Nat} {DK : Nat → Nat} {DV : Nat → Int32} {dn s : Nat}
    (w : tx_WF K V Hn Len nc) (hs : s < 4) (D : dr_D DK DV dn)
    (hg : dn = 0 ∨ fd_go (dr_bS DK DV nc) (fun i => tx_a Hn (DK i)) dn dn 0 1 = none) :
    tx_WF (tx_cp K DK (6+s) dn) (tx_cp V DV (6+s) dn) Hn (pm_fu Len (6+s) dn) nc := by
  refine ⟨w.1, ?_⟩
  intro r hr
  by_cases e : r = 6 + s
  · subst e
    rw [pm_fs]
    rcases hg with h0 | hg
    · subst h0
      exact ⟨by omega, fun h => by omega, fun h => by omega, fun i h1 h2 => by omega⟩
    · obtain ⟨g1, g2⟩ := fd_ok _ _ _ _ _ _ hg
      have g3 : ∀ i, i < dn → ((DK i = 1 ∨ DK i = 7) → 0 ≤ DV i) ∧ DK i ≠ 9 ∧ DK i ≠ 10 ∧ (16 ≤ DK i → DK i - 16 < nc) := fun i hi => of_decide_eq_true (g2 i (by omega) (by omega))
      refine ⟨D.1, fun h => by omega, fun _ => ?_, ?_⟩
      · refine gx_congr _ _ _ _ _ _ ?_ g1
        intro i hi
        show tx_a Hn (tx_cp K DK (6+s) dn (24 * (6+s) + i)) = tx_a Hn (DK (0 + i))
        rw [tx_cpI hi, Nat.zero_add]
      · intro i h1 h2
        obtain ⟨j, rfl⟩ : ∃ j, i = 24 * (6+s) + j := ⟨i - 24 * (6+s), by omega⟩
        have hj : j < dn := by omega
        obtain ⟨D1, D2, D3, D4⟩ := D.2 j hj
        obtain ⟨g4, g5, g6, g7⟩ := g3 j hj
        unfold tx_tok
        rw [tx_cpI hj, tx_cpI hj]
        refine ⟨?_, fun h9 => absurd h9 g5, fun h17 => ?_, D4⟩
        · unfold tx_lim
          have h6 : ¬ 6 + s < 6 := by omega
          rw [if_neg h6]
          clear D2 D3 D4
          omega
        · rcases D3 h17 with ⟨x, x1, x2⟩ | x | x
          · exact Or.inl ⟨x, x1, x2⟩
          · have := g4 h17
            rw [x] at this
            exact absurd this (by decide)
          · have := g4 h17
            rw [x] at this
            exact absurd this (by decide)
  · refine tx_keep w hr (pm_fn e) ?_ (fun c h1 _ => rfl) (fun h6 => by unfold tx_row at hr; omega) ?_
    · intro i h1 h2
      have h3 := (w.2 r hr).1
      exact ⟨tx_cpR e h1 h2 h3 D.1, tx_cpR e h1 h2 h3 D.1⟩
    · intro i h1 h2 h16
      exact (tx_useRow w ⟨hr, h1, h2⟩ h16).1
theorem tx_forgot {K : Nat → Nat} {V : Nat → Int32} {Hn Len : Nat → Nat} {nc : Nat} (w : tx_WF K V Hn Len (nc+1))
    (hu : ∀ s, s < 4 → ∀ i, i < Len (6+s) → K (24 * (6+s) + i) ≠ 16 + nc) : tx_WF K V Hn Len nc := by
  have w0 := w.1
  refine ⟨by omega, ?_⟩
  intro r hr
  have hr' : tx_row (nc+1) r := by
    unfold tx_row at hr ⊢
    omega
  refine tx_keep w hr' rfl (fun i _ _ => ⟨rfl, rfl⟩) (fun c _ _ => rfl) (fun h6 => by unfold tx_row at hr; omega) ?_
  intro i h1 h2 h16
  obtain ⟨u1, u2, u3⟩ := tx_useRow w ⟨hr', h1, h2⟩ h16
  by_cases h6 : r < 6
  · have := u3 h6
    unfold tx_row at hr
    omega
  · unfold tx_row at hr
    have h7 := hu (r - 6) (by omega) (i - 24 * r) (by rw [show 6 + (r - 6) = r from by omega]; omega)
    rw [show 24 * (6 + (r - 6)) + (i - 24 * r) = i from by omega] at h7
    omega
