/-! a token whose parent is k is one of the operands of k -/
theorem gx_opS (a : Nat → Nat) (p : Nat) : ∀ j, gx_op a (gx_en a p) j = gx_op a p (j+1)
  | 0 => rfl
  | j+1 => by
    show gx_en a (gx_op a (gx_en a p) j) = gx_en a (gx_op a p (j+1))
    rw [gx_opS a p j]
theorem tr_lo (a : Nat → Nat) : ∀ (d c p b : Nat) (L R : List Nat), gx_ok a d c p → tr_pd a p = L ++ R → L.length = c → (∀ x, x ∈ L → b ≤ x) → b ≤ p + 1 → ∀ o, p ≤ o → o < p + d → ∃ u R', tr_pd a o = u :: R' ∧ b ≤ u
  | 0, _, _, _, _, _, _, _, _, _, _, o, h1, h2 => by omega
  | d+1, c, p, b, L, R, g, e, el, hL, hb, o, h1, h2 => by
    have g0 := g.1
    cases L with
    | nil => rw [List.length_nil] at el; omega
    | cons u L' =>
      by_cases ho : o = p
      · subst ho
        exact ⟨u, L' ++ R, e, hL u List.mem_cons_self⟩
      · have e1 : tr_pd a (p+1) = (List.replicate (a p) (p+1) ++ L') ++ R := by
          rw [tr_pdS, e, List.append_assoc]
          rfl
        refine tr_lo a d _ (p+1) b _ R g.2 e1 ?_ ?_ (by omega) o (by omega) (by omega)
        · rw [List.length_append, List.length_replicate]
          rw [List.length_cons] at el
          omega
        · intro x hx
          rcases List.mem_append.mp hx with hx | hx
          · have := List.eq_of_mem_replicate hx
            omega
          · exact hL x (List.mem_cons_of_mem _ hx)
theorem tr_hi (a : Nat → Nat) (e : Nat) : ∀ (i x : Nat), x ∈ tr_pd a (e+i) → x ∈ tr_pd a e ∨ e + 1 ≤ x
  | 0, x, h => Or.inl h
  | i+1, x, h => by
    have h' : x ∈ tr_pd a ((e+i)+1) := h
    rw [tr_pdS, List.mem_append] at h'
    rcases h' with h' | h'
    · have := List.eq_of_mem_replicate h'
      omega
    · exact tr_hi a e i x (List.mem_of_mem_tail h')
theorem tr_forest (a : Nat → Nat) : ∀ (c d p k : Nat) (R : List Nat), gx_ok a d c p → d ≤ 2500 → tr_pd a p = List.replicate c (k+1) ++ R → k < p → ∀ o R', p ≤ o → o < p + d → tr_pd a o = (k+1) :: R' → ∃ j, j < c ∧ o = gx_op a p j
  | 0, d, p, k, R, g, _, _, _, o, R', h1, h2, _ => by
    have e : d = 0 := gx_det _ _ _ _ _ g (gx_00 _ _)
    omega
  | c+1, d, p, k, R, g, hd, e, hk, o, R', h1, h2, eo => by
    obtain ⟨d1, d2, e1, g1, g2, g3, g4⟩ := tr_cut g hd
    by_cases ho : o = p
    · exact ⟨0, by omega, ho⟩
    · by_cases ho2 : o < p + (d1 + 1)
      · have e5 : tr_pd a (p+1) = List.replicate (a p) (p+1) ++ (List.replicate c (k+1) ++ R) := by
          rw [tr_pdS, e, List.replicate_succ]
          rfl
        obtain ⟨u, R2, e6, e7⟩ := tr_lo a d1 (a p) (p+1) (p+1) _ _ g1 e5 List.length_replicate (fun x hx => by have := List.eq_of_mem_replicate hx; omega) (by omega) o (by omega) (by omega)
        rw [eo] at e6
        have := (List.cons.inj e6).1
        omega
      · have e8 : tr_pd a (p + (d1+1)) = List.replicate c (k+1) ++ R := tr_sk a (d1+1) 1 p [k+1] _ g4 (by rw [e, List.replicate_succ]; rfl) rfl
        obtain ⟨j, j1, j2⟩ := tr_forest a c d2 _ k R g3 (by omega) e8 (by omega) o R' (by omega) (by omega) eo
        refine ⟨j+1, by omega, ?_⟩
        rw [j2, ← g2, gx_opS]
theorem tr_isch {n : Nat} {O : pm_O} (h : tr_G n O) {k o : Nat} (hk : k < n) (ho : o < n) (e : (O o).2.2.2 = k + 1) : ∃ j, j < pm_ar O k ∧ o = gx_op (pm_ar O) (k+1) j := by
  obtain ⟨R, dj, e1, e2, e3, e4, e5, e6, e7⟩ := tr_ch h hk (j := 0) (Nat.zero_le _)
  have hd : dj = 0 := by
    rw [gx_op] at e2
    omega
  subst hd
  obtain ⟨R', er⟩ := (h.2.2 o ho).2.2.2
  rw [e] at er
  have h3 := h.1
  obtain ⟨s1, s2, s3, s4⟩ := tr_spE h hk
  have hm : k + 1 ∈ tr_pd (pm_ar O) o := by rw [er]; exact List.mem_cons_self
  by_cases h1 : o ≤ k
  · have := tr_pdB _ o _ hm
    omega
  · by_cases h2 : o < k + tr_sp (pm_ar O) k
    · exact tr_forest (pm_ar O) (pm_ar O k) (tr_sp (pm_ar O) k - 1) (k+1) k R e5 (by omega) e6 (by omega) o R' (by omega) (by omega) er
    · have h5 : k + tr_sp (pm_ar O) k + (o - (k + tr_sp (pm_ar O) k)) = o := by omega
      rw [← h5] at hm
      have e9 : tr_pd (pm_ar O) (k + tr_sp (pm_ar O) k) = R := tr_sk _ _ 1 k [(O k).2.2.2] R s1 e1 rfl
      rcases tr_hi _ _ _ _ hm with h6 | h6
      · rw [e9] at h6
        have := tr_pdB (pm_ar O) k (k+1) (by rw [e1]; exact List.mem_cons_of_mem _ h6)
        omega
      · omega
