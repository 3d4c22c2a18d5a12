variable {yco ypl ysz yus yof yre ysa : Int32} {ykd ybh yln yhl yvl yks yog yvs ypa ysp ytd ywi yun ysd you yfr ylf yva ysv ywo ysi ywk yph : Nat → Int32}
theorem nu_g1 {f : Nat} (h : 0 < f) : (99 + (2 * ys_i f)) - (-1) = nI (98 + 2 * f) := by
  obtain ⟨f, rfl⟩ : ∃ g, f = g + 1 := ⟨f - 1, by omega⟩
  rw [ys_iS, show 98 + 2 * (f + 1) = 100 + 2 * f from by omega, ← nI_add, ← pk_mul]
  show _ = (100 : Int32) + 2 * nI f
  generalize nI f = x
  grind
theorem nu_g2 {f : Nat} (h : 0 < f) : (99 + (2 * ys_i f)) - (-2) = nI (99 + 2 * f) := by
  obtain ⟨f, rfl⟩ : ∃ g, f = g + 1 := ⟨f - 1, by omega⟩
  rw [ys_iS, show 99 + 2 * (f + 1) = 101 + 2 * f from by omega, ← nI_add, ← pk_mul]
  show _ = (101 : Int32) + 2 * nI f
  generalize nI f = x
  grind
theorem nu_r24 {i : Nat} (h : i < 2 ^ 31) : (nI i - nI i / 24 * 24).toInt8.toInt32 = nI (i % 24) := by
  rw [show (24 : Int32) = nI 24 from rfl, pk_rem h (by omega) (by omega), nu_8 (by omega)]
theorem nu_y0 {f : Nat} (h : 0 < f) (h2 : f < 2 ^ 31) : 0 ≤ ys_i f := by
  rw [ys_iP h]
  exact nI_pos' (by omega)
theorem yw_plain {post : Int32 → SY → Prop} {J : Int32 → Int32 → Int32 → Int32 → Int32 → Int32 → Int32 → Int32 → (Nat → Int32) → (Nat → Int32) → (Nat → Int32) → (Nat → Int32) → (Nat → Int32) → (Nat → Int32) → (Nat → Int32) → (Nat → Int32) → (Nat → Int32) → (Nat → Int32) → (Nat → Int32) → (Nat → Int32) → (Nat → Int32) → (Nat → Int32) → (Nat → Int32) → (Nat → Int32) → (Nat → Int32) → (Nat → Int32) → (Nat → Int32) → (Nat → Int32) → (Nat → Int32) → (Nat → Int32) → (Nat → Int32) → Prop}
    {K : Nat → Nat} {V : Nat → Int32} {Hn Len : Nat → Nat} {nc s i f a nf n top : Nat} {F : pm_F} {st : List pm_S} (w : tx_WF K V Hn Len nc) (T : ys_T K V Hn Len nc ykd ybh yvl) (hH : ∀ c, c < 6 → yhl c = nI (Hn c))
    (I : pm_I K Len nc s ((i, f, a) :: st) nf F n) (hk : ¬ 16 ≤ K i) (h9 : K i ≠ 9) (hn : n < 2000) (ha : a < 32768) (htop : top ≤ 1 + 2 * n) (hP : ys_P ytd ywi yun top st) (hF : ys_F F nf ysd you yfr)
    (h : ∀ (td wi un : Nat → Int32), ys_P td wi un (top + tx_a Hn (K i)) (gx_push (fun o => (gx_op (fun i => tx_a Hn (K i)) (i+1) o, f, n+1)) (tx_a Hn (K i)) st) →
      J (nI (top + tx_a Hn (K i))) yco ypl (nI (n+1)) yus yof yre ysa ykd ybh yln yhl yvl (upd yks n (nI (pm_kind (K i)))) (upd yog n (nI (pm_org F f i))) (upd yvs n (pm_val K V F f i)) (upd ypa n (ys_i a)) ysp td wi un ysd you yfr ylf yva ysv ywo ysi ywk yph) :
    wY_expanded_354 post J (nI top) (nI i) (ys_i f) (ys_i a) (nI (K i)) (nI n) (nI (pm_kind (K i))) (nI n) yco ypl (nI (n+1)) yus yof yre ysa ykd ybh yln yhl yvl yks yog yvs ypa ysp ytd ywi yun ysd you yfr ylf yva ysv ywo ysi ywk yph := by
  obtain ⟨hf, hp⟩ := pm_head I
  have hnf := I.2.1
  have tk := tx_tokE w hp
  have tk1 := tk.1
  have hl := (w.2 _ hp.1).1
  have p2 := hp.2.1
  have p3 := hp.2.2
  have hr : pm_row K s F f < 10 := by
    have := w.1
    have h1 := hp.1
    unfold tx_row at h1
    omega
  have hf6 : pm_row K s F f < 6 → 0 < f := by
    intro h6
    rcases Nat.eq_zero_or_pos f with x0 | x0
    · rw [x0] at h6
      unfold pm_row at h6
      rw [if_pos rfl] at h6
      omega
    · exact x0
  obtain ⟨y1, y2, y3⟩ := T _ hp.1 i p2 p3
  have hkk : pm_kind (K i) < 128 := by
    unfold pm_kind
    split <;> omega
  have hog := pm_org24 I (i := i) hf
  have i1 : vp_in (nI n) 2001 := pk_in n 2001 (by omega)
  have ha3 := tx_a3 Hn (k := K i) (by omega)
  have H474 : ∀ (vs : Nat → Int32) (z0 : Int32), z0 = nI (pm_org F f i) → vs = upd yvs n (pm_val K V F f i) → wY_expanded_474 post J (nI top) (nI i) (ys_i f) (ys_i a) (nI (K i)) (nI n) z0 (nI n) yco ypl (nI (n+1)) yus yof yre ysa ykd ybh yln yhl yvl (upd yks n (nI (pm_kind (K i)))) yog vs ypa ysp ytd ywi yun ysd you yfr ylf yva ysv ywo ysi ywk yph := by
    intro vs z0 e1 e2
    subst e1 e2
    unfold wY_expanded_474
    rw [nI_clamp (show n < 2 ^ 31 by omega), nu_v8 (by omega), ys_i16 ha, ys_v16 ha]
    refine ⟨i1, nm_e ⟨i1, nm_e ?_⟩⟩
    refine yw_ops (Hn := Hn) (by omega) hH (nm_r (e' := ys_i (tx_a Hn (K i))) ?_ ⟨tx_a Hn (K i) + 1, ?_⟩)
    · rcases Nat.eq_zero_or_pos (tx_a Hn (K i)) with z | z
      · rw [z]; rfl
      · rw [ys_iP z]
        exact pk_sub (b := 1) z
    · exact yw_push w T hp (by omega) (by omega) (tx_a Hn (K i)) _ top st _ _ _ (Nat.le_refl _) ha3 (by omega) (by omega) hP h
  have H447 : ∀ (z0 : Int32), z0 = pm_val K V F f i → wY_expanded_447 post J (nI top) (nI i) (ys_i f) (ys_i a) (nI (K i)) (nI n) z0 (nI n) yco ypl (nI (n+1)) yus yof yre ysa ykd ybh yln yhl yvl (upd yks n (nI (pm_kind (K i)))) yog yvs ypa ysp ytd ywi yun ysd you yfr ylf yva ysv ywo ysi ywk yph := by
    intro z0 e1
    subst e1
    unfold wY_expanded_447
    rw [nI_clamp (show n < 2 ^ 31 by omega)]
    refine ⟨i1, nm_e ?_⟩
    rcases Nat.eq_zero_or_pos f with f0 | f0
    · have e0 : ¬ 0 ≤ ys_i f := by rw [f0]; decide
      refine br_f e0 ⟨by decide, H474 _ _ ?_ rfl⟩
      rw [nu_r24 (by omega)]
      unfold pm_org
      rw [if_pos f0]
    · refine br_t (nu_y0 f0 (by omega)) ?_
      rw [ys_iP f0, nI_clamp (show f - 1 < 2 ^ 31 by omega)]
      refine ⟨pk_in (f-1) 2001 (by omega), ?_⟩
      have hF1 := (hF (f-1) (by omega)).2.2
      rw [show f - 1 + 1 = f from by omega] at hF1
      rw [← ys_iP f0]
      refine H474 _ _ ?_ rfl
      rw [hF1]
      unfold pm_org
      rw [if_neg (by omega)]
  have H423 : ∀ (x8 : Int32), ((K i = 0 ∨ K i = 1 ∨ K i = 7) → x8 = pm_val K V F f i) → (¬ (K i = 0 ∨ K i = 1 ∨ K i = 7) → K i ≠ 10) → wY_expanded_423 post J (nI top) (nI i) (ys_i f) (ys_i a) (nI (K i)) (nI n) x8 (nI n) yco ypl (nI (n+1)) yus yof yre ysa ykd ybh yln yhl yvl (upd yks n (nI (pm_kind (K i)))) yog yvs ypa ysp ytd ywi yun ysd you yfr ylf yva ysv ywo ysi ywk yph := by
    intro x8 e1 e2
    unfold wY_expanded_423 wY_expanded_441
    refine pk_eq (K i) 0 (fun e => H447 _ (e1 (Or.inl e))) (fun n0 => pk_eq (K i) 1 (fun e => H447 _ (e1 (Or.inr (Or.inl e)))) (fun n1 => pk_eq (K i) 7 (fun e => H447 _ (e1 (Or.inr (Or.inr e)))) (fun n7 => H447 _ ?_)))
    have n10 := e2 (by omega)
    unfold pm_val
    rw [if_neg n10, if_neg n0, if_neg (by omega)]
  have H405 : (K i = 1 ∨ K i = 7) → wY_expanded_405 post J (nI top) (nI i) (ys_i f) (ys_i a) (nI (K i)) (nI n) (V i) (nI n) yco ypl (nI (n+1)) yus yof yre ysa ykd ybh yln yhl yvl (upd yks n (nI (pm_kind (K i)))) yog yvs ypa ysp ytd ywi yun ysd you yfr ylf yva ysv ywo ysi ywk yph := by
    intro h17
    have ev : pm_val K V F f i = (if V i = -1 then nI (98 + 2 * f) else if V i = -2 then nI (99 + 2 * f) else V i) := by
      unfold pm_val
      rw [if_neg (by omega), if_neg (by omega), if_pos h17]
    unfold wY_expanded_405
    refine br_c (fun hv => H423 _ (fun _ => ?_) (fun _ => by omega)) (fun hv => H447 _ ?_)
    · rw [ev, if_neg (fun y => by rw [y] at hv; exact absurd hv (by decide)), if_neg (fun y => by rw [y] at hv; exact absurd hv (by decide))]
    · rw [ev]
      rcases tk.2.2.1 h17 with ⟨x, x1, x2⟩ | ⟨h6, y | y⟩
      · rw [x2] at hv
        exact absurd (nI_pos' (by omega)) hv
      · rw [if_pos y, y]; exact nu_g1 (hf6 h6)
      · rw [if_neg (by rw [y]; decide), if_pos y, y]; exact nu_g2 (hf6 h6)
  unfold wY_expanded_354
  rw [nI_clamp (show n < 2 ^ 31 by omega), nI_clamp (show i < 2 ^ 31 by omega), nu_8 hkk, nu_v8 hkk]
  refine ⟨i1, nm_e ⟨pk_in i 264 (by omega), nm_e ?_⟩⟩
  refine pk_eq (K i) 10 (fun e => ?_) (fun n10 => pk_eq (K i) 1 (fun e => ?_) (fun n1 => pk_eq (K i) 7 (fun e => ?_) (fun n7 => H423 _ (fun h0 => ?_) (fun _ => n10))))
  · have f0 : 0 < f := hf6 (by omega)
    obtain ⟨z1, z2, z3, z4, z5⟩ := I.2.2.2.2.1 f (by omega) hf
    have hF1 := (hF (f-1) (by omega)).1
    rw [show f - 1 + 1 = f from by omega] at hF1
    have w3 := z2.2.2
    have w4 := (w.2 _ z2.1).1
    have w5 : pm_row K s F (F f).2.1 < 10 := by
      have := w.1
      have h1 := z2.1
      unfold tx_row at h1
      omega
    rw [ys_iP f0, nI_clamp (show f - 1 < 2 ^ 31 by omega), hF1, nI_clamp (show (F f).1 < 2 ^ 31 by omega), ← ys_iP f0]
    refine ⟨?_, ⟨vp_in_nI (by omega) (by omega), H447 _ ?_⟩⟩
    · rw [ys_iP f0]
      exact pk_in (f-1) 2001 (by omega)
    · rw [(T _ z2.1 _ z2.2.1 z2.2.2).2.1 (by unfold tx_hv; omega)]
      unfold pm_val
      rw [if_pos e]
  · rw [y2 (by unfold tx_hv; omega)]
    exact H405 (Or.inl e)
  · rw [y2 (by unfold tx_hv; omega)]
    exact H405 (Or.inr e)
  · have e0 : K i = 0 := by omega
    rw [y2 (by unfold tx_hv; omega)]
    unfold pm_val
    rw [if_neg n10, if_pos e0]
