/-! the component's pieces against the machine's stack -/
def xs_b (r : Nat) : Nat := if r < 6 then 120 + 12 * r else 24 * (r - 6)
def xs_seg (ar : Nat → Nat) (q f : Nat) (rest : List pm_S) : Nat → Nat → List pm_S → Prop
  | 0, p, st => p = q ∧ st = rest
  | c+1, p, st => ∃ d a st', gx_ok ar d 1 p ∧ st = (p, f, a) :: st' ∧ xs_seg ar q f rest c (p+d) st'
theorem xs_le (ar : Nat → Nat) (q f : Nat) (rest : List pm_S) : ∀ (c p : Nat) (st : List pm_S), xs_seg ar q f rest c p st → p + c ≤ q
  | 0, p, st, h => by
    have := h.1
    omega
  | c+1, p, st, h => by
    obtain ⟨d, a, st', h1, h2, h3⟩ := h
    have := xs_le ar q f rest c _ _ h3
    have := gx_pos h1
    omega
theorem xs_push (ar : Nat → Nat) (q f a : Nat) (rest : List pm_S) (p : Nat) : ∀ (m D c : Nat) (st : List pm_S), gx_ok ar D m p → D ≤ 2500 → xs_seg ar q f rest c (p+D) st → xs_seg ar q f rest (m + c) p (gx_push (fun o => (gx_op ar p o, f, a)) m st)
  | 0, D, c, st, h, _, hs => by
    have e : D = 0 := gx_det _ _ _ _ _ h (gx_00 _ _)
    subst e
    rw [Nat.zero_add]
    exact hs
  | m+1, D, c, st, h, hD, hs => by
    obtain ⟨d1, d2, e, h1, h2⟩ := gx_split ar _ _ _ _ h
    obtain ⟨dk, k1, k2, k3, k4⟩ := gx_opE ar p m d1 m h1 (by omega) (Nat.le_refl _)
    have ek : dk = d1 := gx_det _ _ _ _ _ k3 h1
    have e2 : m + 1 + c = m + (c + 1) := by omega
    rw [e2]
    refine xs_push ar q f a rest p m d1 (c+1) _ h1 (by omega) ⟨d2, a, st, h2, ?_, ?_⟩
    · dsimp only
      rw [k1, ek]
    · rw [Nat.add_assoc, ← e]
      exact hs
def xs_P (ar row Len dp : Nat → Nat) (nf : Nat) (pn pe pf : Nat → Int32) : Nat → List pm_S → Prop
  | 0, st => st = []
  | j+1, st => ∃ c p q f rest, xs_seg ar q f rest c p st ∧ f ≤ nf ∧ 24 * row f ≤ p ∧ q ≤ 24 * row f + Len (row f) ∧ j + dp f ≤ 2 * nf ∧
      pn j = nI (xs_b (row f) + (p - 24 * row f)) ∧ pe j = nI (xs_b (row f) + (q - 24 * row f)) ∧ pf j = nI f ∧ xs_P ar row Len dp nf pn pe pf j rest
theorem xs_keep {ar row row' Len dp dp' : Nat → Nat} {nf nf' : Nat} {pn pe pf pn' pe' pf' : Nat → Int32} (hf : ∀ f, f ≤ nf → row' f = row f ∧ dp' f = dp f) (hn : nf ≤ nf') :
    ∀ (j : Nat) (st : List pm_S), (∀ i, i < j → pn' i = pn i ∧ pe' i = pe i ∧ pf' i = pf i) → xs_P ar row Len dp nf pn pe pf j st → xs_P ar row' Len dp' nf' pn' pe' pf' j st
  | 0, _, _, h => h
  | j+1, st, ha, h => by
    obtain ⟨c, p, q, f, rest, h1, h2, h3, h4, h5, h6, h7, h8, h9⟩ := h
    obtain ⟨e1, e2⟩ := hf f h2
    obtain ⟨a1, a2, a3⟩ := ha j (by omega)
    refine ⟨c, p, q, f, rest, h1, by omega, by rw [e1]; exact h3, by rw [e1]; exact h4, by rw [e2]; omega, by rw [a1, e1]; exact h6, by rw [a2, e1]; exact h7, by rw [a3]; exact h8, ?_⟩
    exact xs_keep hf hn j rest (fun i hi => ha i (by omega)) h9
def xs_T (K : Nat → Nat) (V : Nat → Int32) (Len : Nat → Nat) (nc : Nat) (tk tv : Nat → Int32) : Prop :=
  ∀ r, tx_row nc r → ∀ j, j < Len r → tk (xs_b r + j) = nI (K (24 * r + j)) ∧ tv (xs_b r + j) = V (24 * r + j)
def xs_F (row : Nat → Nat) (F : pm_F) (nf : Nat) (fU fA fO : Nat → Int32) : Prop :=
  ∀ f, 1 ≤ f → f ≤ nf → fU f = nI (xs_b (row (F f).2.1) + ((F f).1 - 24 * row (F f).2.1)) ∧ fA f = nI (F f).2.1 ∧ fO f = nI (F f).2.2.1
def xs_O (n : Nat) (O : pm_O) (pk pv po : Nat → Int32) : Prop :=
  ∀ m, m < n → pk m = nI (O m).1 ∧ pv m = (O m).2.1 ∧ po m = nI (O m).2.2.1
theorem xs_Tp {K : Nat → Nat} {V : Nat → Int32} {Len : Nat → Nat} {nc : Nat} {tk tv : Nat → Int32} (h : xs_T K V Len nc tk tv) {r i : Nat} (hp : tx_pos Len nc r i) :
    tk (xs_b r + (i - 24 * r)) = nI (K i) ∧ tv (xs_b r + (i - 24 * r)) = V i := by
  obtain ⟨h1, h2, h3⟩ := hp
  have := h r h1 (i - 24 * r) (by omega)
  rw [show 24 * r + (i - 24 * r) = i from by omega] at this
  exact this
theorem xs_b192 {K : Nat → Nat} {V : Nat → Int32} {Hn Len : Nat → Nat} {nc r : Nat} (w : tx_WF K V Hn Len nc) (hr : tx_row nc r) : xs_b r + Len r ≤ 192 := by
  have w0 := w.1
  obtain ⟨w1, w2, _⟩ := w.2 r hr
  unfold tx_row at hr
  unfold xs_b
  split
  · next h => have := w2 h; omega
  · omega
