/-! the reference's arrays against the machine -/
def ys_P (td wi un : Nat → Int32) : Nat → List pm_S → Prop
  | 0, st => st = []
  | j+1, st => ∃ i f a rest, st = (i, f, a) :: rest ∧ td j = nI i ∧ wi j = ys_i f ∧ un j = ys_i a ∧ ys_P td wi un j rest
theorem ys_keep {td wi un td' wi' un' : Nat → Int32} : ∀ (j : Nat) (st : List pm_S), (∀ i, i < j → td' i = td i ∧ wi' i = wi i ∧ un' i = un i) → ys_P td wi un j st → ys_P td' wi' un' j st
  | 0, _, _, h => h
  | j+1, st, ha, h => by
    obtain ⟨i, f, a, rest, h1, h2, h3, h4, h5⟩ := h
    obtain ⟨a1, a2, a3⟩ := ha j (by omega)
    exact ⟨i, f, a, rest, h1, by rw [a1]; exact h2, by rw [a2]; exact h3, by rw [a3]; exact h4, ys_keep j rest (fun x hx => ha x (by omega)) h5⟩
theorem ys_len {td wi un : Nat → Int32} : ∀ (j : Nat) (st : List pm_S), ys_P td wi un j st → st.length = j
  | 0, st, h => by
    have e : st = [] := h
    rw [e]; rfl
  | j+1, st, h => by
    obtain ⟨i, f, a, rest, h1, h2, h3, h4, h5⟩ := h
    rw [h1, List.length_cons, ys_len j rest h5]
theorem ys_put {td wi un : Nat → Int32} {j : Nat} {rest : List pm_S} {i f a : Nat} {x y z : Int32} (h : ys_P td wi un j rest) (hx : x = nI i) (hy : y = ys_i f) (hz : z = ys_i a) :
    ys_P (upd td j x) (upd wi j y) (upd un j z) (j+1) ((i, f, a) :: rest) := by
  refine ⟨i, f, a, rest, rfl, ?_, ?_, ?_, ?_⟩
  · rw [pk_us]; exact hx
  · rw [pk_us]; exact hy
  · rw [pk_us]; exact hz
  · exact ys_keep j rest (fun x hx => ⟨pk_un (by omega), pk_un (by omega), pk_un (by omega)⟩) h
def ys_F (F : pm_F) (nf : Nat) (sd ou fr : Nat → Int32) : Prop :=
  ∀ f, f < nf → sd f = nI (F (f+1)).1 ∧ ou f = ys_i (F (f+1)).2.1 ∧ fr f = nI (F (f+1)).2.2.1
def ys_O (n : Nat) (O : pm_O) (ks vs og pa : Nat → Int32) : Prop :=
  ∀ m, m < n → ks m = nI (O m).1 ∧ vs m = (O m).2.1 ∧ og m = nI (O m).2.2.1 ∧ pa m = ys_i (O m).2.2.2
def tx_hv (k : Nat) : Prop := k = 0 ∨ k = 1 ∨ k = 7 ∨ k = 9 ∨ 16 ≤ k
def ys_T (K : Nat → Nat) (V : Nat → Int32) (Hn Len : Nat → Nat) (nc : Nat) (kd bh vl : Nat → Int32) : Prop :=
  ∀ r, tx_row nc r → ∀ i, 24 * r ≤ i → i < 24 * r + Len r → kd i = nI (K i) ∧ (tx_hv (K i) → vl i = V i) ∧ bh i = nI (gx_en (fun i => tx_a Hn (K i)) i - 24 * r)
theorem ys_opS {K : Nat → Nat} {V : Nat → Int32} {Hn Len : Nat → Nat} {nc r i : Nat} {kd bh vl : Nat → Int32} (w : tx_WF K V Hn Len nc) (T : ys_T K V Hn Len nc kd bh vl) (h : tx_pos Len nc r i) {o : Nat} (ho : o < tx_a Hn (K i)) :
    tx_pos Len nc r (gx_op (fun i => tx_a Hn (K i)) (i+1) o) ∧
    bh (gx_op (fun i => tx_a Hn (K i)) (i+1) o) = nI (gx_op (fun i => tx_a Hn (K i)) (i+1) (o+1) - 24 * r) ∧
    24 * r ≤ gx_op (fun i => tx_a Hn (K i)) (i+1) (o+1) ∧ gx_op (fun i => tx_a Hn (K i)) (i+1) (o+1) ≤ 24 * r + Len r := by
  have hp := pm_opE w h ho
  obtain ⟨d, d1, d2, d3, d4⟩ := tx_expr w hp
  have e : gx_op (fun i => tx_a Hn (K i)) (i+1) (o+1) = gx_op (fun i => tx_a Hn (K i)) (i+1) o + d := gx_enE d1 (by omega)
  have hb := (T r h.1 _ hp.2.1 hp.2.2).2.2
  have e2 : gx_en (fun i => tx_a Hn (K i)) (gx_op (fun i => tx_a Hn (K i)) (i+1) o) = gx_op (fun i => tx_a Hn (K i)) (i+1) o + d := gx_enE d1 (by omega)
  rw [e2, ← e] at hb
  have h2 := hp.2.1
  exact ⟨hp, hb, by omega, by omega⟩
