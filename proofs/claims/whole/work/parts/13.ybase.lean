variable {yco ypl ysz yus yof yre ysa : Int32} {ykd ybh yln yhl yvl yks yog yvs ypa ysp ytd ywi yun ysd you yfr ylf yva ysv ywo ysi ywk yph : Nat → Int32}
theorem yw_out {post : Int32 → Prop} {v : Int32} (N : Nat) (hN : N < 2 ^ 31) (h0 : ∀ j, j < N → v = nI j → post 0) (h1 : (v < 0 ∨ nI N ≤ v) → post 1) : wpY_out post v (nI N) := by
  unfold wpY_out
  rcases pk_ix v hN with h | h | ⟨j, hj, rfl⟩
  · exact br_t h (h1 (Or.inl h))
  · refine br_c (fun _ => h1 (Or.inr h)) (fun _ => br_f (Int32.not_lt.mpr h) (h1 (Or.inr h)))
  · exact br_f (nI_pos (by omega)) (br_t (nI_lt hj hN) (h0 j hj rfl))
theorem yw_ops {post : Int32 → Prop} {Hn : Nat → Nat} {k : Nat} (hk : k < 22) (hH : ∀ c, c < 6 → yhl c = nI (Hn c)) (h : post (nI (tx_a Hn k))) : wpY_operands post (yco, ypl, ysz, yus, yof, yre, ysa, ykd, ybh, yln, yhl, yvl, yks, yog, yvs, ypa, ysp, ytd, ywi, yun, ysd, you, yfr, ylf, yva, ysv, ywo, ysi, ywk, yph) (nI k) := by
  unfold wpY_operands
  unfold tx_a at h
  refine pk_lt k 16 (fun h1 => ?_) (fun h1 => ?_)
  · rw [if_neg (by omega)] at h
    unfold wY_operands_37
    refine pk_eq k 6 (fun e => by rw [if_pos e] at h; exact h) (fun e6 => ?_)
    rw [if_neg e6] at h
    have H : k ≤ 1 ∨ 7 ≤ k → (nI k = 7 → post 2) ∧ (¬ nI k = 7 → (nI k = 8 → post 1) ∧ (¬ nI k = 8 → post 0)) := by
      intro hk2
      refine pk_eq k 7 (fun e7 => ?_) (fun e7 => pk_eq k 8 (fun e8 => ?_) (fun e8 => ?_))
      · rw [if_neg (by omega), if_pos (by omega)] at h; exact h
      · rw [if_pos e8] at h; exact h
      · rw [if_neg e8, if_neg (by omega)] at h; exact h
    refine pk_le k 1 (fun e1 => H (Or.inl e1)) (fun e1 => pk_lt k 7 (fun e7 => ?_) (fun e7 => H (Or.inr e7)))
    rw [if_neg (by omega), if_pos (by omega)] at h; exact h
  · rw [if_pos h1] at h
    have e : nI k - 16 = nI (k - 16) := pk_sub (b := 16) h1
    rw [e, nI_clamp (by omega), hH _ (by omega)]
    exact ⟨pk_in (k - 16) 6 (by omega), h⟩
theorem yw_later {post : Int32 → SY → Prop} {t i f a : Nat} (ht : t < 4100) (hi : i < 32768) (hf : f < 32768) (ha : a < 32768) (h : post (nI (t+1)) (yco, ypl, ysz, yus, yof, yre, ysa, ykd, ybh, yln, yhl, yvl, yks, yog, yvs, ypa, ysp, upd ytd t (nI i), upd ywi t (ys_i f), upd yun t (ys_i a), ysd, you, yfr, ylf, yva, ysv, ywo, ysi, ywk, yph)) : wpY_later post (yco, ypl, ysz, yus, yof, yre, ysa, ykd, ybh, yln, yhl, yvl, yks, yog, yvs, ypa, ysp, ytd, ywi, yun, ysd, you, yfr, ylf, yva, ysv, ywo, ysi, ywk, yph) (nI t) (nI i) (ys_i f) (ys_i a) := by
  unfold wpY_later
  dsimp only
  rw [nI_clamp (show t < 2 ^ 31 by omega), nu_16 hi, nu_v16 hi, ys_i16 hf, ys_v16 hf, ys_i16 ha, ys_v16 ha, nI_1]
  exact ⟨pk_in t 4100 ht, nm_e ⟨pk_in t 4100 ht, nm_e ⟨pk_in t 4100 ht, nm_e h⟩⟩⟩
theorem yw_operand {post : Int32 → Prop} {K : Nat → Nat} {V : Nat → Int32} {Hn Len : Nat → Nat} {nc r i o : Nat} (w : tx_WF K V Hn Len nc) (T : ys_T K V Hn Len nc ykd ybh yvl) (hp : tx_pos Len nc r i) (ho : o < tx_a Hn (K i)) (h2 : o < 2 ^ 31)
    (h : post (nI (gx_op (fun i => tx_a Hn (K i)) (i+1) o))) : wpY_operand post (yco, ypl, ysz, yus, yof, yre, ysa, ykd, ybh, yln, yhl, yvl, yks, yog, yvs, ypa, ysp, ytd, ywi, yun, ysd, you, yfr, ylf, yva, ysv, ywo, ysi, ywk, yph) (nI i) (nI o) := by
  have hl := (w.2 r hp.1).1
  have p2 := hp.2.1
  have p3 := hp.2.2
  have hr : r < 10 := by
    have := w.1
    have h1 := hp.1
    unfold tx_row at h1
    omega
  unfold wpY_operand
  refine ⟨by decide, nm_r (e' := nI (24 * r)) ?_ (nm_r (nI_1 i) ⟨o+1, ?_⟩)⟩
  · rw [show (24 : Int32) = nI 24 from rfl, pk_div (by omega) (by omega) (by omega), pk_mul]
    exact congrArg nI (by omega)
  have L : ∀ (n k : Nat), k ≤ o → o < n + k → wY_operand_16 post (nI o) (nI (24 * r)) yco ypl ysz yus yof yre ysa ykd ybh yln yhl yvl yks yog yvs ypa ysp ytd ywi yun ysd you yfr ylf yva ysv ywo ysi ywk yph n (nI (gx_op (fun i => tx_a Hn (K i)) (i+1) k)) (nI k) := by
    intro n
    induction n with
    | zero => intro k h1 h2; omega
    | succ n ih =>
      intro k h1 h2
      refine pk_le o k (fun y => ?_) (fun y => ?_)
      · have e : k = o := by omega
        rw [e]; exact h
      · obtain ⟨s1, s2, s3, s4⟩ := ys_opS w T hp (o := k) (by omega)
        have s5 := s1.2.2
        refine ⟨vp_in_nI (by omega) (by omega), ?_⟩
        rw [nI_clamp (by omega), s2, nI_add, nI_1]
        refine nm_r (e' := nI (gx_op (fun i => tx_a Hn (K i)) (i+1) (k+1))) (congrArg nI (by omega)) (nm_e ?_)
        exact ih (k+1) (by omega) (by omega)
  exact L (o+1) 0 (by omega) (by omega)
theorem yw_push {post : Int32 → SY → Prop} {J : Int32 → Int32 → Int32 → Int32 → Int32 → Int32 → Int32 → Int32 → (Nat → Int32) → (Nat → Int32) → (Nat → Int32) → (Nat → Int32) → (Nat → Int32) → (Nat → Int32) → (Nat → Int32) → (Nat → Int32) → (Nat → Int32) → (Nat → Int32) → (Nat → Int32) → (Nat → Int32) → (Nat → Int32) → (Nat → Int32) → (Nat → Int32) → (Nat → Int32) → (Nat → Int32) → (Nat → Int32) → (Nat → Int32) → (Nat → Int32) → (Nat → Int32) → (Nat → Int32) → (Nat → Int32) → Prop}
    {K : Nat → Nat} {V : Nat → Int32} {Hn Len : Nat → Nat} {nc r i f n : Nat} (w : tx_WF K V Hn Len nc) (T : ys_T K V Hn Len nc ykd ybh yvl) (hp : tx_pos Len nc r i) (hf : f < 32768) (hn : n + 1 < 32768) :
    ∀ (o m top : Nat) (st : List pm_S) (ytd ywi yun : Nat → Int32), o ≤ tx_a Hn (K i) → o ≤ 3 → o < m → top + o ≤ 4100 → ys_P ytd ywi yun top st →
      (∀ (td wi un : Nat → Int32), ys_P td wi un (top + o) (gx_push (fun o => (gx_op (fun i => tx_a Hn (K i)) (i+1) o, f, n+1)) o st) → J (nI (top + o)) yco ypl ysz yus yof yre ysa ykd ybh yln yhl yvl yks yog yvs ypa ysp td wi un ysd you yfr ylf yva ysv ywo ysi ywk yph) →
      wY_expanded_499 post J (nI i) (ys_i f) (nI n) m (nI top) (ys_i o) yco ypl ysz yus yof yre ysa ykd ybh yln yhl yvl yks yog yvs ypa ysp ytd ywi yun ysd you yfr ylf yva ysv ywo ysi ywk yph := by
  intro o
  induction o with
  | zero =>
    intro m top st ytd ywi yun h1 h2 h3 h4 h5 h6
    obtain ⟨m', rfl⟩ : ∃ m', m = m' + 1 := ⟨m - 1, by omega⟩
    exact br_t (by decide) (h6 ytd ywi yun h5)
  | succ o ih =>
    intro m top st ytd ywi yun h1 h2 h3 h4 h5 h6
    obtain ⟨m', rfl⟩ : ∃ m', m = m' + 1 := ⟨m - 1, by omega⟩
    have hq := pm_opE w hp (o := o) (by omega)
    have hl := (w.2 r hp.1).1
    have q3 := hq.2.2
    have hr : r < 10 := by
      have := w.1
      have h1 := hp.1
      unfold tx_row at h1
      omega
    rw [ys_iS]
    refine br_f (nI_pos (by omega)) ?_
    refine yw_operand w T hp (by omega) (by omega) ?_
    refine yw_later (a := n+1) (by omega) (by omega) hf hn (nm_r (e' := ys_i o) ?_ ?_)
    · cases o with
      | zero => rfl
      | succ o => exact pk_m1 o
    · refine ih m' (top+1) ((gx_op (fun i => tx_a Hn (K i)) (i+1) o, f, n+1) :: st) _ _ _ (by omega) (by omega) (by omega) (by omega) (ys_put h5 rfl rfl rfl) ?_
      intro td wi un hP
      have e : top + 1 + o = top + (o+1) := by omega
      rw [e] at hP ⊢
      exact h6 td wi un hP
