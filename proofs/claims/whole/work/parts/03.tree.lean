/-! the plain tokens: which token (plus one) waits for an operand, the next first -/
def tr_pd (a : Nat → Nat) : Nat → List Nat
  | 0 => [0]
  | m+1 => List.replicate (a m) (m+1) ++ (tr_pd a m).tail
theorem tr_pdS (a : Nat → Nat) (m : Nat) : tr_pd a (m+1) = List.replicate (a m) (m+1) ++ (tr_pd a m).tail := rfl
theorem tr_pdC (a a' : Nat → Nat) : ∀ (m : Nat), (∀ j, j < m → a j = a' j) → tr_pd a m = tr_pd a' m
  | 0, _ => rfl
  | m+1, h => by
    rw [tr_pdS, tr_pdS, h m (by omega), tr_pdC a a' m (fun j hj => h j (by omega))]
theorem tr_pdL (a : Nat → Nat) : ∀ (m : Nat), (∀ j, j < m → a j ≤ 3) → (tr_pd a m).length ≤ 1 + 2 * m
  | 0, _ => Nat.le_refl _
  | m+1, h => by
    have h1 := tr_pdL a m (fun j hj => h j (by omega))
    have h2 := h m (by omega)
    rw [tr_pdS, List.length_append, List.length_replicate, List.length_tail]
    omega
theorem tr_pdB (a : Nat → Nat) : ∀ (m : Nat), ∀ x, x ∈ tr_pd a m → x ≤ m
  | 0, x, h => by
    rw [tr_pd, List.mem_singleton] at h
    omega
  | m+1, x, h => by
    rw [tr_pdS, List.mem_append] at h
    rcases h with h | h
    · have := List.eq_of_mem_replicate h
      omega
    · have := tr_pdB a m x (List.mem_of_mem_tail h)
      omega
theorem tr_sk (a : Nat → Nat) : ∀ (d c k : Nat) (L R : List Nat), gx_ok a d c k → tr_pd a k = L ++ R → L.length = c → tr_pd a (k+d) = R
  | 0, c, k, L, R, h, e, el => by
    have h0 : c = 0 := h
    rw [h0] at el
    rw [List.length_eq_zero_iff.mp el, List.nil_append] at e
    exact e
  | d+1, c, k, L, R, h, e, el => by
    have h0 := h.1
    cases L with
    | nil => rw [List.length_nil] at el; omega
    | cons u L' =>
      have e1 : tr_pd a (k+1) = (List.replicate (a k) (k+1) ++ L') ++ R := by
        rw [tr_pdS, e, List.append_assoc]
        rfl
      have h2 := tr_sk a d _ (k+1) _ R h.2 e1 (by
        rw [List.length_append, List.length_replicate]
        rw [List.length_cons] at el
        omega)
      have e2 : k + (d+1) = k + 1 + d := by omega
      rw [e2]; exact h2
theorem tr_gx (a : Nat → Nat) : ∀ (d m : Nat), (∀ j, j < d → tr_pd a (m+j) ≠ []) → tr_pd a (m+d) = [] → gx_ok a d (tr_pd a m).length m
  | 0, m, _, e => by
    rw [gx_z]
    have e' : tr_pd a m = [] := e
    rw [e']
    rfl
  | d+1, m, h, e => by
    have h0 := h 0 (by omega)
    have e2 : m + (d+1) = m + 1 + d := by omega
    rw [e2] at e
    have h1 := tr_gx a d (m+1) (fun j hj => by
      have h5 := h (j+1) (by omega)
      have e3 : m + (j+1) = m + 1 + j := by omega
      rw [e3] at h5; exact h5) e
    rw [tr_pdS, List.length_append, List.length_replicate, List.length_tail] at h1
    rw [gx_s]
    have h4 : 0 < (tr_pd a m).length := List.length_pos_iff.mpr h0
    refine ⟨h4, ?_⟩
    rw [Nat.add_comm]; exact h1
/-! what the machine's tokens keep -/
def pm_ar (O : pm_O) : Nat → Nat := fun m => tx_a (fun _ => 0) (O m).1
def pm_J (st : List pm_S) (n : Nat) (O : pm_O) : Prop :=
  st.map (fun x => x.2.2) = tr_pd (pm_ar O) n ∧ ∀ m, m < n → (O m).1 ≤ 8 ∧ (O m).2.2.1 < 24 ∧
    ((O m).1 = 1 ∨ (O m).1 = 7 → ∃ w, w < 4110 ∧ (O m).2.1 = nI w) ∧ ∃ R, tr_pd (pm_ar O) m = (O m).2.2.2 :: R
theorem pm_Jx {i f a i' f' : Nat} {st : List pm_S} {n : Nat} {O : pm_O} (h : pm_J ((i, f, a) :: st) n O) : pm_J ((i', f', a) :: st) n O := h
theorem pm_JP {K : Nat → Nat} {V : Nat → Int32} {Hn Len : Nat → Nat} {nc s : Nat} {i f a : Nat} {st : List pm_S} {nf : Nat} {F : pm_F} {n : Nat} {O : pm_O} (g : Nat → Nat)
    (w : tx_WF K V Hn Len nc) (I : pm_I K Len nc s ((i, f, a) :: st) nf F n) (J : pm_J ((i, f, a) :: st) n O) (hk : ¬ 16 ≤ K i) (h9 : K i ≠ 9) :
    pm_J (gx_push (fun o => (g o, f, n+1)) (tx_a Hn (K i)) st) (n+1) (pm_nO K V F n O f i a) := by
  obtain ⟨hf, hp⟩ := pm_head I
  have ht := tx_tokE w hp
  obtain ⟨J1, J2⟩ := J
  have en : pm_nO K V F n O f i a n = (pm_kind (K i), pm_val K V F f i, pm_org F f i, a) := pm_fs
  have eo : ∀ m, m < n → pm_nO K V F n O f i a m = O m := fun m hm => pm_fn (by omega)
  have eb : ∀ m, m < n → pm_ar (pm_nO K V F n O f i a) m = pm_ar O m := fun m hm => by
    unfold pm_ar
    rw [eo m hm]
  have hk8 : K i ≤ 8 ∨ K i = 10 := by
    have h1 := ht.1
    omega
  have ean : pm_ar (pm_nO K V F n O f i a) n = tx_a Hn (K i) := by
    unfold pm_ar
    rw [en]
    show tx_a (fun _ => 0) (pm_kind (K i)) = _
    unfold pm_kind
    split
    · next h => rw [h]; rfl
    · exact tx_aI _ _ (by omega)
  have ep : ∀ m, m ≤ n → tr_pd (pm_ar (pm_nO K V F n O f i a)) m = tr_pd (pm_ar O) m := fun m hm => tr_pdC _ _ m (fun j hj => eb j (by omega))
  rw [List.map_cons] at J1
  refine ⟨?_, ?_⟩
  · rw [gx_push_map (fun o => (g o, f, n+1)) (fun x : pm_S => x.2.2) (n+1) (fun _ => rfl), tr_pdS, ean, ep n (Nat.le_refl _), ← J1]
    rfl
  · intro m hm
    by_cases e : m = n
    · subst e
      rw [en, ep m (Nat.le_refl _), ← J1]
      refine ⟨?_, pm_org24 I hf, ?_, ⟨_, rfl⟩⟩
      · show pm_kind (K i) ≤ 8
        unfold pm_kind
        split <;> omega
      · intro h
        have h' : K i = 1 ∨ K i = 7 := by
          have h2 : pm_kind (K i) = 1 ∨ pm_kind (K i) = 7 := h
          unfold pm_kind at h2
          split at h2 <;> omega
        have h3 := I.2.1
        exact pm_valV ht F (by omega) h'
    · rw [eo m (by omega), ep m (by omega)]
      exact J2 m (by omega)
theorem pm_fin {K : Nat → Nat} {V : Nat → Int32} {Hn Len : Nat → Nat} {nc s : Nat} (w : tx_WF K V Hn Len nc) {nf' n' : Nat} {O' : pm_O} :
    ∀ (t : Nat) (st : List pm_S) (nf : Nat) (F : pm_F) (n : Nat) (O : pm_O), pm_I K Len nc s st nf F n → pm_J st n O →
    pm_go K V (fun i => tx_a Hn (K i)) t st nf F n O = some (nf', n', O') → nf' ≤ 2000 ∧ n' ≤ 2000 ∧ pm_J [] n' O'
  | 0, st, nf, F, n, O, _, _, h => by
    rw [pm_go] at h
    exact absurd h (by intro z; cases z)
  | t+1, [], nf, F, n, O, I, J, h => by
    rw [pm_go0] at h
    cases h
    exact ⟨I.2.1, I.2.2.1, J⟩
  | t+1, (i, f, a) :: st, nf, F, n, O, I, J, h => by
    by_cases hk : 16 ≤ K i
    · by_cases hn : nf = 2000
      · rw [pm_goUx _ _ _ _ _ _ _ _ _ _ _ _ hk hn] at h
        cases h
      · rw [pm_goU _ _ _ _ _ _ _ _ _ _ _ _ hk hn] at h
        exact pm_fin w t _ _ _ _ _ (pm_IU w I hk hn).1 (pm_Jx J) h
    · by_cases h9 : K i = 9
      · rw [pm_goH _ _ _ _ _ _ _ _ _ _ _ _ h9] at h
        exact pm_fin w t _ _ _ _ _ (pm_IH w I h9).1 (pm_Jx J) h
      · by_cases hn : n = 2000
        · rw [pm_goPx _ _ _ _ _ _ _ _ _ _ _ _ hk h9 hn] at h
          cases h
        · rw [pm_goP _ _ _ _ _ _ _ _ _ _ _ _ hk h9 hn] at h
          exact pm_fin w t _ _ _ _ _ (pm_IP w I hk hn (n+1)).1 (pm_JP _ w I J hk h9) h
/-! one whole expression of plain tokens -/
def tr_G (n : Nat) (O : pm_O) : Prop := n ≤ 2000 ∧ pm_J [] n O
theorem tr_end {n : Nat} {O : pm_O} (h : tr_G n O) : tr_pd (pm_ar O) n = [] := h.2.1.symm
theorem tr_n0 {n : Nat} {O : pm_O} (h : tr_G n O) : 0 < n := by
  rcases Nat.eq_zero_or_pos n with h0 | h0
  · subst h0
    have := tr_end h
    rw [tr_pd] at this
    cases this
  · exact h0
theorem tr_all {n : Nat} {O : pm_O} (h : tr_G n O) : gx_ok (pm_ar O) n 1 0 := by
  have h1 := tr_gx (pm_ar O) n 0 (fun j hj => by
    obtain ⟨R, e⟩ := (h.2.2 j hj).2.2.2
    rw [Nat.zero_add, e]
    exact List.cons_ne_nil _ _) (by rw [Nat.zero_add]; exact tr_end h)
  exact h1
theorem tr_a3 (O : pm_O) {m : Nat} (h : (O m).1 ≤ 8) : pm_ar O m ≤ 3 := tx_a3 _ (by omega)
def tr_sp (a : Nat → Nat) (k : Nat) : Nat := gx_en a k - k
theorem tr_spE {n : Nat} {O : pm_O} (h : tr_G n O) {k : Nat} (hk : k < n) :
    gx_ok (pm_ar O) (tr_sp (pm_ar O) k) 1 k ∧ k + tr_sp (pm_ar O) k ≤ n ∧ 0 < tr_sp (pm_ar O) k ∧ gx_en (pm_ar O) k = k + tr_sp (pm_ar O) k := by
  obtain ⟨d, h1, h2⟩ := gx_sub _ n 1 0 k (tr_all h) hk
  rw [Nat.zero_add] at h1
  have h3 := h.1
  have e := gx_enE h1 (by omega)
  have e2 : tr_sp (pm_ar O) k = d := by
    unfold tr_sp
    omega
  rw [e2]
  exact ⟨h1, h2, gx_pos h1, e⟩
theorem tr_spG {a : Nat → Nat} {d p : Nat} (h : gx_ok a d 1 p) (hd : d ≤ 2500) : tr_sp a p = d := by
  unfold tr_sp
  rw [gx_enE h hd]; omega
/-- the operands of token k -/
theorem tr_ch {n : Nat} {O : pm_O} (h : tr_G n O) {k : Nat} (hk : k < n) {j : Nat} (hj : j ≤ pm_ar O k) :
    ∃ R dj, tr_pd (pm_ar O) k = (O k).2.2.2 :: R ∧ gx_op (pm_ar O) (k+1) j = k + 1 + dj ∧ dj + 1 ≤ tr_sp (pm_ar O) k ∧ gx_ok (pm_ar O) dj j (k+1) ∧
      gx_ok (pm_ar O) (tr_sp (pm_ar O) k - 1 - dj) (pm_ar O k - j) (k + 1 + dj) ∧
      tr_pd (pm_ar O) (k + 1 + dj) = List.replicate (pm_ar O k - j) (k+1) ++ R ∧ (j < pm_ar O k → k + 1 + dj < n ∧ (O (k+1+dj)).2.2.2 = k+1) := by
  obtain ⟨s1, s2, s3, s4⟩ := tr_spE h hk
  obtain ⟨R, e⟩ := (h.2.2 k hk).2.2.2
  have h3 := h.1
  obtain ⟨d', ed⟩ : ∃ d', tr_sp (pm_ar O) k = d' + 1 := ⟨tr_sp (pm_ar O) k - 1, by omega⟩
  rw [ed] at s1
  have d5 := s1.2
  rw [Nat.sub_self, Nat.zero_add] at d5
  obtain ⟨dk, k1, k2, k3, k4⟩ := gx_opE _ (k+1) j d' _ d5 (by omega) hj
  have e1 : tr_pd (pm_ar O) (k+1) = List.replicate j (k+1) ++ (List.replicate (pm_ar O k - j) (k+1) ++ R) := by
    rw [tr_pdS, e, ← List.append_assoc, List.replicate_append_replicate]
    have e3 : j + (pm_ar O k - j) = pm_ar O k := by omega
    rw [e3]
    rfl
  have e2 := tr_sk _ dk j (k+1) _ _ k3 e1 (List.length_replicate)
  have ed2 : tr_sp (pm_ar O) k - 1 - dk = d' - dk := by omega
  refine ⟨R, dk, e, k1, by omega, k3, by rw [ed2]; exact k4, e2, ?_⟩
  intro hlt
  obtain ⟨c, ec⟩ : ∃ c, pm_ar O k - j = c + 1 := ⟨pm_ar O k - j - 1, by omega⟩
  rw [ec] at k4 e2
  have k5 := gx_pos k4
  have hm : k + 1 + dk < n := by omega
  refine ⟨hm, ?_⟩
  obtain ⟨R', e'⟩ := (h.2.2 _ hm).2.2.2
  rw [e', List.replicate_succ, List.cons_append] at e2
  exact (List.cons.inj e2).1
/-! heights -/
def tr_hf (a : Nat → Nat) : Nat → Nat → Nat → Nat
  | 0, _, _ => 0
  | _+1, 0, _ => 0
  | t+1, c+1, p => max (tr_hf a t (a p) (p+1) + 1) (tr_hf a t c (gx_en a p))
def tr_ht (a : Nat → Nat) (p : Nat) : Nat := tr_hf a 2500 (a p) (p+1) + 1
theorem tr_hf0 (a : Nat → Nat) (t p : Nat) : tr_hf a t 0 p = 0 := by
  cases t <;> rfl
theorem tr_cut {a : Nat → Nat} {d c p : Nat} (h : gx_ok a d (c+1) p) (hd : d ≤ 2500) : ∃ d1 d2, d = (d1 + 1) + d2 ∧ gx_ok a d1 (a p) (p+1) ∧ gx_en a p = p + (d1 + 1) ∧ gx_ok a d2 c (p + (d1+1)) ∧ gx_ok a (d1+1) 1 p := by
  rw [Nat.add_comm c 1] at h
  obtain ⟨d1, d2, e, h1, h2⟩ := gx_split a _ _ _ _ h
  have h0 := gx_pos h1
  obtain ⟨d', rfl⟩ : ∃ d', d1 = d' + 1 := ⟨d1 - 1, by omega⟩
  have h5 := h1.2
  rw [Nat.sub_self, Nat.zero_add] at h5
  exact ⟨d', d2, e, h5, gx_enE h1 (by omega), h2, h1⟩
theorem tr_hfI (a : Nat → Nat) : ∀ (t t' d c p : Nat), gx_ok a d c p → d ≤ t → d ≤ t' → d ≤ 2500 → tr_hf a t c p = tr_hf a t' c p
  | t, t', d, 0, p, _, _, _, _ => by rw [tr_hf0, tr_hf0]
  | 0, t', d, c+1, p, h, h1, _, _ => by
    have := gx_pos h
    omega
  | t+1, 0, d, c+1, p, h, _, h2, _ => by
    have := gx_pos h
    omega
  | t+1, t'+1, d, c+1, p, h, h1, h2, h3 => by
    obtain ⟨d1, d2, e, g1, g2, g3, g4⟩ := tr_cut h h3
    rw [tr_hf, tr_hf, g2, tr_hfI a t t' d1 (a p) (p+1) g1 (by omega) (by omega) (by omega), tr_hfI a t t' d2 c _ g3 (by omega) (by omega) (by omega)]
theorem tr_hfS {a : Nat → Nat} {d c p : Nat} (h : gx_ok a d (c+1) p) (hd : d ≤ 2400) : tr_hf a 2500 (c+1) p = max (tr_ht a p) (tr_hf a 2500 c (gx_en a p)) := by
  obtain ⟨d1, d2, e, g1, g2, g3, g4⟩ := tr_cut h (by omega)
  have e1 : tr_hf a 2500 (c+1) p = max (tr_hf a 2499 (a p) (p+1) + 1) (tr_hf a 2499 c (gx_en a p)) := rfl
  rw [e1, g2, tr_hfI a 2499 2500 d1 (a p) (p+1) g1 (by omega) (by omega) (by omega), tr_hfI a 2499 2500 d2 c _ g3 (by omega) (by omega) (by omega)]
  rfl
theorem tr_hfB (a : Nat → Nat) : ∀ (t d c p : Nat), gx_ok a d c p → d ≤ 2500 → tr_hf a t c p ≤ d
  | 0, d, c, p, _, _ => Nat.zero_le _
  | t+1, d, 0, p, _, _ => by rw [tr_hf0]; omega
  | t+1, d, c+1, p, h, h3 => by
    obtain ⟨d1, d2, e, g1, g2, g3, g4⟩ := tr_cut h h3
    have h1 := tr_hfB a t d1 (a p) (p+1) g1 (by omega)
    have h2 := tr_hfB a t d2 c _ g3 (by omega)
    rw [tr_hf, g2]
    omega
/-! the greatest depth is the height of token 0 -/
def tr_mx (D : Nat → Nat) : Nat → Nat → Nat
  | _, 0 => 0
  | p, d+1 => max (D p) (tr_mx D (p+1) d)
theorem tr_mxA (D : Nat → Nat) : ∀ (d1 d2 p : Nat), tr_mx D p (d1 + d2) = max (tr_mx D p d1) (tr_mx D (p + d1) d2)
  | 0, d2, p => by
    rw [Nat.zero_add, tr_mx, Nat.add_zero]; omega
  | d1+1, d2, p => by
    have e : d1 + 1 + d2 = (d1 + d2) + 1 := by omega
    have e2 : p + (d1 + 1) = p + 1 + d1 := by omega
    rw [e, e2, tr_mx, tr_mx, tr_mxA D d1 d2 (p+1)]
    omega
theorem tr_mxS (D : Nat → Nat) (d p : Nat) : tr_mx D p (d+1) = max (tr_mx D p d) (D (p+d)) := by
  rw [tr_mxA D d 1 p, tr_mx, tr_mx]
  omega
theorem tr_dep {n : Nat} {O : pm_O} (h : tr_G n O) (D : Nat → Nat) (hD : ∀ m, 0 < m → m < n → D m = D ((O m).2.2.2 - 1) + 1) :
    ∀ (t d c p k : Nat) (R : List Nat), d ≤ t → gx_ok (pm_ar O) d c p → tr_pd (pm_ar O) p = List.replicate c (k+1) ++ R → 0 < p → p + d ≤ n →
      tr_mx D p d = if c = 0 then 0 else D k + tr_hf (pm_ar O) 2500 c p
  | t, d, 0, p, k, R, _, g, _, _, _ => by
    have e : d = 0 := gx_det _ _ _ _ _ g (gx_00 _ _)
    subst e
    rfl
  | 0, d, c+1, p, k, R, ht, g, _, _, _ => by
    have := gx_pos g
    omega
  | t+1, d, c+1, p, k, R, ht, g, ep, hp, hn => by
    have h3 := h.1
    obtain ⟨d1, d2, e, g1, g2, g3, g4⟩ := tr_cut g (by omega)
    have hpn : p < n := by omega
    obtain ⟨R', e'⟩ := (h.2.2 p hpn).2.2.2
    have e5 := ep
    rw [e', List.replicate_succ, List.cons_append] at e5
    obtain ⟨e6, e7⟩ := List.cons.inj e5
    have ek : D p = D k + 1 := by
      rw [hD p hp hpn, e6]
      rfl
    have i1 := tr_dep h D hD t d1 (pm_ar O p) (p+1) p R' (by omega) g1 (by rw [tr_pdS, e']; rfl) (by omega) (by omega)
    have i2 := tr_dep h D hD t d2 c (p + (d1+1)) k R (by omega) g3 (tr_sk _ (d1+1) 1 p [k+1] _ g4 (by rw [ep, List.replicate_succ]; rfl) rfl) (by omega) (by omega)
    rw [if_neg (by omega), tr_hfS g (by omega), e, tr_mxA, i2, g2]
    have e8 : tr_mx D p (d1 + 1) = D k + tr_ht (pm_ar O) p := by
      rw [tr_mx, i1, ek]
      unfold tr_ht
      split
      · next h0 => rw [h0, tr_hf0]; omega
      · omega
    rw [e8]
    split
    · next h0 => rw [h0, tr_hf0]; omega
    · omega
theorem tr_depth {n : Nat} {O : pm_O} (h : tr_G n O) (D : Nat → Nat) (h0 : D 0 = 1) (hD : ∀ m, 0 < m → m < n → D m = D ((O m).2.2.2 - 1) + 1) :
    tr_mx D 0 n = tr_ht (pm_ar O) 0 := by
  have hn := tr_n0 h
  have h3 := h.1
  obtain ⟨d1, d2, e, g1, g2, g3, g4⟩ := tr_cut (tr_all h) (by omega)
  have e2 : d2 = 0 := gx_det _ _ _ _ _ g3 (gx_00 _ _)
  subst e2
  have i1 := tr_dep h D hD n d1 (pm_ar O 0) (0+1) 0 [] (by omega) g1 (by rw [tr_pdS]; rfl) (by omega) (by omega)
  have e3 : n = d1 + 1 := by omega
  rw [e3, tr_mx, i1, h0]
  unfold tr_ht
  split
  · next h5 => rw [h5, tr_hf0]; omega
  · omega
/-! spans by adding up -/
def tr_S (a : Nat → Nat) (i : Nat) : List Nat → Nat → Nat
  | [], _ => 0
  | u :: L, p => (if u = i + 1 then tr_sp a p else 0) + tr_S a i L (p + tr_sp a p)
theorem tr_S_rep (a : Nat → Nat) (i u : Nat) (R : List Nat) : ∀ (c d p : Nat), gx_ok a d c p → d ≤ 2500 → tr_S a i (List.replicate c u ++ R) p = (if u = i + 1 then d else 0) + tr_S a i R (p + d)
  | 0, d, p, g, _ => by
    have e : d = 0 := gx_det _ _ _ _ _ g (gx_00 _ _)
    subst e
    have e0 : (if u = i + 1 then (0 : Nat) else 0) = 0 := by split <;> rfl
    rw [List.replicate_zero, List.nil_append, e0, Nat.zero_add]
    rfl
  | c+1, d, p, g, hd => by
    obtain ⟨d1, d2, e, g1, g2, g3, g4⟩ := tr_cut g hd
    have es : tr_sp a p = d1 + 1 := tr_spG g4 (by omega)
    rw [List.replicate_succ, List.cons_append, tr_S, es, tr_S_rep a i u R c d2 _ g3 (by omega)]
    have e9 : p + (d1 + 1) + d2 = p + d := by omega
    rw [e9]
    split <;> omega
/-- what the adding has given token i when all tokens from q on have been added -/
def tr_V (O : pm_O) (q i : Nat) : Nat := if i < q then 1 + tr_S (pm_ar O) i (tr_pd (pm_ar O) q) q else tr_sp (pm_ar O) i
theorem tr_Vn {n : Nat} {O : pm_O} (h : tr_G n O) {i : Nat} (hi : i < n) : tr_V O n i = 1 := by
  unfold tr_V
  rw [if_pos hi, tr_end h]
  rfl
theorem tr_Vk {n : Nat} {O : pm_O} (h : tr_G n O) {k : Nat} (hk : k < n) : tr_V O (k+1) k = tr_sp (pm_ar O) k := by
  obtain ⟨R, e⟩ := (h.2.2 k hk).2.2.2
  obtain ⟨s1, s2, s3, s4⟩ := tr_spE h hk
  have h3 := h.1
  obtain ⟨d', ed⟩ : ∃ d', tr_sp (pm_ar O) k = d' + 1 := ⟨tr_sp (pm_ar O) k - 1, by omega⟩
  rw [ed] at s1
  have d5 := s1.2
  rw [Nat.sub_self, Nat.zero_add] at d5
  unfold tr_V
  rw [if_pos (by omega), tr_pdS, e, tr_S_rep _ _ _ _ _ d' _ d5 (by omega), if_pos rfl, ed]
  have hR : ∀ (L : List Nat) (p : Nat), (∀ x, x ∈ L → x ≤ k) → tr_S (pm_ar O) k L p = 0 := by
    intro L
    induction L with
    | nil => intro p _; rfl
    | cons u L ih =>
      intro p hL
      have h1 := hL u List.mem_cons_self
      rw [tr_S, if_neg (by omega), ih _ (fun x hx => hL x (List.mem_cons_of_mem _ hx))]
  rw [hR _ _ (fun x hx => tr_pdB (pm_ar O) k x (by rw [e]; exact List.mem_cons_of_mem _ hx))]
  omega
theorem tr_Vs {n : Nat} {O : pm_O} (h : tr_G n O) {k i : Nat} (hk : k < n) : tr_V O k i = if (O k).2.2.2 = i + 1 then tr_V O (k+1) i + tr_sp (pm_ar O) k else tr_V O (k+1) i := by
  obtain ⟨R, e⟩ := (h.2.2 k hk).2.2.2
  obtain ⟨s1, s2, s3, s4⟩ := tr_spE h hk
  have h3 := h.1
  have hb : (O k).2.2.2 ≤ k := tr_pdB (pm_ar O) k _ (by rw [e]; exact List.mem_cons_self)
  by_cases h1 : i < k
  · obtain ⟨d', ed⟩ : ∃ d', tr_sp (pm_ar O) k = d' + 1 := ⟨tr_sp (pm_ar O) k - 1, by omega⟩
    rw [ed] at s1
    have d5 := s1.2
    rw [Nat.sub_self, Nat.zero_add] at d5
    have e9 : k + 1 + d' = k + (d' + 1) := by omega
    have hA : tr_V O k i = 1 + ((if (O k).2.2.2 = i + 1 then d' + 1 else 0) + tr_S (pm_ar O) i R (k + (d' + 1))) := by
      unfold tr_V
      rw [if_pos h1, e, tr_S, ed]
    have hB : tr_V O (k+1) i = 1 + tr_S (pm_ar O) i R (k + (d' + 1)) := by
      unfold tr_V
      have hi : i < k + 1 := by omega
      have hne : ¬ k + 1 = i + 1 := by omega
      rw [if_pos hi, tr_pdS, e, tr_S_rep _ _ _ _ _ d' _ d5 (by omega), if_neg hne, e9, Nat.zero_add]
      rfl
    rw [hA, hB, ed]
    split <;> omega
  · rw [if_neg (by omega)]
    by_cases h2 : i = k
    · subst h2
      rw [tr_Vk h hk]
      unfold tr_V
      rw [if_neg (by omega)]
    · unfold tr_V
      rw [if_neg h1, if_neg (by omega)]
