variable {yco ypl ysz yus yof yre ysa : Int32} {ykd ybh yln yhl yvl yks yog yvs ypa ysp ytd ywi yun ysd you yfr ylf yva ysv ywo ysi ywk yph : Nat → Int32}
theorem tr_VB {n : Nat} {O : pm_O} (h : tr_G n O) {i : Nat} : ∀ d, i + d ≤ n → tr_V O (i+d) i ≤ tr_sp (pm_ar O) i
  | 0, _ => by
    unfold tr_V
    rw [if_neg (by omega)]
    exact Nat.le_refl _
  | d+1, hd => by
    have h1 := tr_VB h (i := i) d (by omega)
    have h2 := tr_Vs h (k := i+d) (i := i) (by omega)
    rw [show i + (d+1) = i + d + 1 from by omega]
    split at h2 <;> omega
theorem tr_VB2 {n : Nat} {O : pm_O} (h : tr_G n O) {q i : Nat} (hq : q ≤ n) (hi : i < n) : tr_V O q i ≤ 2000 := by
  have h3 := h.1
  obtain ⟨s1, s2, s3, s4⟩ := tr_spE h hi
  by_cases e : i ≤ q
  · have := tr_VB h (i := i) (q - i) (by omega)
    rw [show i + (q - i) = q from by omega] at this
    omega
  · unfold tr_V
    rw [if_neg (by omega)]
    omega
theorem tr_par0 {n : Nat} {O : pm_O} (h : tr_G n O) {k : Nat} (hk : k < n) (h0 : 0 < k) : 0 < (O k).2.2.2 ∧ (O k).2.2.2 ≤ k := by
  obtain ⟨R, e⟩ := (h.2.2 k hk).2.2.2
  refine ⟨?_, tr_pdB (pm_ar O) k _ (by rw [e]; exact List.mem_cons_self)⟩
  rcases Nat.eq_zero_or_pos (O k).2.2.2 with z | z
  · exfalso
    rw [z] at e
    have hm : 0 ∈ tr_pd (pm_ar O) (1 + (k - 1)) := by
      rw [show 1 + (k - 1) = k from by omega, e]
      exact List.mem_cons_self
    rcases tr_hi (pm_ar O) 1 (k-1) 0 hm with y | y
    · rw [tr_pdS, List.mem_append] at y
      rcases y with y | y
      · have := List.eq_of_mem_replicate y
        omega
      · rw [tr_pd] at y
        cases y
    · omega
  · exact z
theorem yw_meas30 {post : SY → Prop} {n : Nat} {O : pm_O} (G : tr_G n O) (hO : ∀ m, m < n → ypa m = ys_i (O m).2.2.2)
    (h : ∀ (sp : Nat → Int32), (∀ i, i < n → sp i = nI (tr_sp (pm_ar O) i)) → post (yco, ypl, nI n, yus, yof, yre, ysa, ykd, ybh, yln, yhl, yvl, yks, yog, yvs, ypa, sp, ytd, ywi, yun, ysd, you, yfr, ylf, yva, ysv, ywo, ysi, ywk, yph)) :
    ∀ (m q : Nat) (ysp : Nat → Int32), q < m → 1 ≤ q → q ≤ n → (∀ i, i < n → ysp i = nI (tr_V O q i)) → wY_measure_30 post yco ypl (nI n) yus yof yre ysa m (ys_i q) ykd ybh yln yhl yvl yks yog yvs ypa ysp ytd ywi yun ysd you yfr ylf yva ysv ywo ysi ywk yph := by
  have h3 := G.1
  intro m
  induction m with
  | zero => intro q _ hq; omega
  | succ m ih =>
    intro q ysp hq h1 hqn L
    obtain ⟨k, rfl⟩ : ∃ k, q = k + 1 := ⟨q - 1, by omega⟩
    rw [ys_iS]
    refine pk_le k 0 (fun z => ?_) (fun z => ?_)
    · have e : k = 0 := by omega
      subst e
      refine h _ (fun i hi => ?_)
      rw [L i hi]
      by_cases e : i = 0
      · subst e
        rw [tr_Vk G hi]
      · unfold tr_V
        rw [if_neg (by omega)]
    · have hk : k < n := by omega
      obtain ⟨p1, p2⟩ := tr_par0 G hk z
      have i1 : vp_in (nI k) 2001 := pk_in k 2001 (by omega)
      have i2 : vp_in (nI ((O k).2.2.2 - 1)) 2001 := pk_in _ 2001 (by omega) rfl
      have e1 := L k hk
      rw [tr_Vk G hk] at e1
      have e2 := L ((O k).2.2.2 - 1) (by omega)
      have e3 := tr_Vs G (k := k) (i := (O k).2.2.2 - 1) hk
      rw [if_pos (by omega)] at e3
      have e4 := tr_VB2 G (q := k) (i := (O k).2.2.2 - 1) (by omega) (by omega)
      rw [nI_clamp (show k < 2 ^ 31 by omega), hO k hk, ys_iP p1, nI_clamp (show (O k).2.2.2 - 1 < 2 ^ 31 by omega), e1, e2, nI_add, nu_16 (by omega), nu_v16 (by omega)]
      refine ⟨i1, ⟨i2, ⟨i1, ⟨i2, nm_e (nm_r (e' := ys_i k) ?_ ?_)⟩⟩⟩⟩
      · rw [ys_iP z]
        obtain ⟨k', rfl⟩ : ∃ k', k = k' + 1 := ⟨k - 1, by omega⟩
        exact pk_m1 k'
      · refine ih k _ (by omega) (by omega) (by omega) ?_
        intro i hi
        by_cases e : i = (O k).2.2.2 - 1
        · subst e
          rw [pk_us, ← e3]
        · rw [pk_un e, L i hi, tr_Vs G hk, if_neg (by omega)]
theorem yw_meas2 {post : SY → Prop} {n : Nat} (h3 : n ≤ 2000) (h : ∀ (sp : Nat → Int32), (∀ i, i < n → sp i = 1) → ∃ n30, wY_measure_30 post yco ypl (nI n) yus yof yre ysa n30 (nI n - 1) ykd ybh yln yhl yvl yks yog yvs ypa sp ytd ywi yun ysd you yfr ylf yva ysv ywo ysi ywk yph) :
    ∀ (m k : Nat) (ysp : Nat → Int32), n < m + k → k ≤ n → (∀ i, i < k → ysp i = 1) → wY_measure_2 post yco ypl (nI n) yus yof yre ysa m (nI k) ykd ybh yln yhl yvl yks yog yvs ypa ysp ytd ywi yun ysd you yfr ylf yva ysv ywo ysi ywk yph := by
  intro m
  induction m with
  | zero => intro k _ hq; omega
  | succ m ih =>
    intro k ysp h1 h2 L
    refine pk_le n k (fun z => nm_e (h _ (fun i hi => L i (by omega)))) (fun z => ?_)
    rw [nI_clamp (show k < 2 ^ 31 by omega)]
    refine ⟨pk_in k 2001 (by omega), nm_e (nm_r (nI_1 k) (ih (k+1) _ (by omega) (by omega) ?_))⟩
    intro i hi
    by_cases e : i = k
    · subst e
      rw [pk_us]
      exact nu_v16 (n := 1) (by omega)
    · rw [pk_un e]
      exact L i (by omega)
theorem yw_measure {post : SY → Prop} {n : Nat} {O : pm_O} (G : 0 < n → tr_G n O) (h3 : n ≤ 2000) (hO : ∀ m, m < n → ypa m = ys_i (O m).2.2.2)
    (h : ∀ (sp : Nat → Int32), (∀ i, i < n → sp i = nI (tr_sp (pm_ar O) i)) → post (yco, ypl, nI n, yus, yof, yre, ysa, ykd, ybh, yln, yhl, yvl, yks, yog, yvs, ypa, sp, ytd, ywi, yun, ysd, you, yfr, ylf, yva, ysv, ywo, ysi, ywk, yph)) : wpY_measure post (yco, ypl, nI n, yus, yof, yre, ysa, ykd, ybh, yln, yhl, yvl, yks, yog, yvs, ypa, ysp, ytd, ywi, yun, ysd, you, yfr, ylf, yva, ysv, ywo, ysi, ywk, yph) := by
  unfold wpY_measure
  refine ⟨n+1, yw_meas2 h3 (fun sp L => ?_) (n+1) 0 _ (by omega) (by omega) (fun i hi => by omega)⟩
  rcases Nat.eq_zero_or_pos n with e | e
  · subst e
    exact ⟨1, br_t (by decide) (h _ (fun i hi => by omega))⟩
  · refine ⟨n+1, ?_⟩
    have e1 : nI n - 1 = ys_i n := by
      rw [ys_iP e]
      exact pk_sub (b := 1) e
    rw [e1]
    refine yw_meas30 (G e) hO h (n+1) n sp (by omega) (by omega) (Nat.le_refl _) ?_
    intro i hi
    rw [L i hi, tr_Vn (G e) hi]
    rfl
def yc_C (R : Option (Nat × Nat × pm_O)) (sz us : Int32) (ks og vs pa sp : Nat → Int32) : Prop :=
  (R = none → (2000 < sz ∨ 2000 < us)) ∧ (∀ nf n O, R = some (nf, n, O) → sz = nI n ∧ us = nI nf ∧ ys_O n O ks vs og pa ∧ ∀ i, i < n → sp i = nI (tr_sp (pm_ar O) i))
theorem pm_exB {K : Nat → Nat} {V : Nat → Int32} {Hn Len : Nat → Nat} {nc s nf n : Nat} {O : pm_O} (w : tx_WF K V Hn Len nc) (hs : s < 4) (e : pm_ex K V Hn Len s = some (nf, n, O)) : nf ≤ 2000 ∧ n ≤ 2000 ∧ (Len (6+s) = 0 → n = 0 ∧ nf = 0) ∧ (Len (6+s) ≠ 0 → tr_G n O) ∧ (0 < n → tr_G n O) := by
  by_cases hl : Len (6+s) = 0
  · rw [pm_ex0 hl] at e
    cases e
    exact ⟨by omega, by omega, fun _ => ⟨rfl, rfl⟩, fun z => absurd hl z, fun z => by omega⟩
  · obtain ⟨h1, h2⟩ := pm_exG w hs hl e
    exact ⟨h1, h2.1, fun z => absurd z hl, fun _ => h2, fun _ => h2⟩
theorem yw_expanded {post : Int32 → SY → Prop} {K : Nat → Nat} {V : Nat → Int32} {Hn Len : Nat → Nat} {nc s : Nat} (w : tx_WF K V Hn Len nc) (T : ys_T K V Hn Len nc ykd ybh yvl) (hH : ∀ c, c < 6 → yhl c = nI (Hn c))
    (hS : ∀ c, c < 4 → yln (6+c) = nI (Len (6+c))) (hs : s < 4) (hC : yof = nI s → yc_C (pm_ex K V Hn Len s) ysz yus yks yog yvs ypa ysp)
    (h0 : pm_ex K V Hn Len s = none → ∀ (sz us : Int32) (ks og vs pa td wi un sd ou fr : Nat → Int32), (2000 < sz ∨ 2000 < us) → post 0 (yco, ypl, sz, us, nI s, yre, ysa, ykd, ybh, yln, yhl, yvl, ks, og, vs, pa, ysp, td, wi, un, sd, ou, fr, ylf, yva, ysv, ywo, ysi, ywk, yph))
    (h1 : ∀ nf n O, pm_ex K V Hn Len s = some (nf, n, O) → ∀ (ks og vs pa sp td wi un sd ou fr : Nat → Int32), ys_O n O ks vs og pa → (∀ i, i < n → sp i = nI (tr_sp (pm_ar O) i)) → post 1 (yco, ypl, nI n, nI nf, nI s, yre, ysa, ykd, ybh, yln, yhl, yvl, ks, og, vs, pa, sp, td, wi, un, sd, ou, fr, ylf, yva, ysv, ywo, ysi, ywk, yph)) :
    wpY_expanded post (yco, ypl, ysz, yus, yof, yre, ysa, ykd, ybh, yln, yhl, yvl, yks, yog, yvs, ypa, ysp, ytd, ywi, yun, ysd, you, yfr, ylf, yva, ysv, ywo, ysi, ywk, yph) (nI s) := by
  have hr : tx_row nc (6+s) := Or.inr ⟨by omega, by omega⟩
  have hl24 := (w.2 (6+s) hr).1
  obtain ⟨I, mu⟩ := pm_exI w hs
  have H534 : ∀ (sz us : Int32) (ks og vs pa td wi un sd ou fr : Nat → Int32), (pm_ex K V Hn Len s = none → (2000 < sz ∨ 2000 < us)) → (∀ nf' n' O', pm_ex K V Hn Len s = some (nf', n', O') → sz = nI n' ∧ us = nI nf' ∧ ys_O n' O' ks vs og pa) →
      wY_expanded_534 post yco ypl sz us (nI s) yre ysa ykd ybh yln yhl yvl ks og vs pa ysp td wi un sd ou fr ylf yva ysv ywo ysi ywk yph := by
    intro sz us ks og vs pa td wi un sd ou fr a1 a2
    unfold wY_expanded_534 wY_expanded_558 wY_expanded_559
    cases e : pm_ex K V Hn Len s with
    | none =>
      have hz := a1 e
      have A := h0 e sz us ks og vs pa td wi un sd ou fr hz
      exact br_c (fun _ => br_t rfl ⟨rfl, A⟩) (fun n1 => br_t (hz.resolve_left n1) (br_t rfl ⟨rfl, A⟩))
    | some R =>
      obtain ⟨nf, n, O⟩ := R
      obtain ⟨e1, e2, e3⟩ := a2 nf n O e
      subst e1 e2
      obtain ⟨b1, b2, b3, b4, b5⟩ := pm_exB w hs e
      refine pk_lt 2000 n (fun z => by omega) (fun _ => pk_lt 2000 nf (fun z => by omega) (fun _ => br_f (by decide) ?_))
      refine yw_measure (O := O) b5 b2 (fun m hm => (e3 m hm).2.2.2) (fun sp L => ⟨rfl, ?_⟩)
      exact h1 nf n O e _ _ _ _ sp _ _ _ _ _ _ e3 L
  unfold wpY_expanded
  refine br_c (fun eo => ?_) (fun _ => ?_)
  · subst eo
    obtain ⟨c1, c2⟩ := hC rfl
    cases e : pm_ex K V Hn Len s with
    | none =>
      have hz := c1 e
      have A := h0 e ysz yus yks yog yvs ypa ytd ywi yun ysd you yfr hz
      exact br_c (fun _ => A) (fun n1 => br_t (hz.resolve_left n1) A)
    | some R =>
      obtain ⟨nf, n, O⟩ := R
      obtain ⟨e1, e2, e3, e4⟩ := c2 nf n O e
      subst e1 e2
      obtain ⟨b1, b2, b3, b4, b5⟩ := pm_exB w hs e
      refine pk_lt 2000 n (fun z => by omega) (fun _ => pk_lt 2000 nf (fun z => by omega) (fun _ => ?_))
      exact h1 nf n O e _ _ _ _ _ _ _ _ _ _ _ e3 e4
  · rw [show (6 : Int32) + nI s = nI (6+s) from nI_add 6 s, nI_clamp (show 6 + s < 2 ^ 31 by omega), hS s hs]
    refine ⟨pk_in (6+s) 11 (by omega), pk_eq (Len (6+s)) 0 (fun hl => ⟨70000, ?_⟩) (fun hl => ?_)⟩
    · have eS : pm_s0 Len s = [] := if_pos hl
      have I' := I
      rw [eS] at I' mu
      refine yw_loop w T hH (pm_ex K V Hn Len s) H534 70000 70000 0 [] 0 pm_F0 0 pm_O0 _ _ _ _ _ _ _ _ _ _ I' (fun x hx => by cases hx) (by omega) rfl (fun x hx => by omega) (fun x hx => by omega) ?_ (by omega) (by omega)
      unfold pm_ex
      rw [eS]
    · have eS : pm_s0 Len s = [(24 * (6+s), 0, 0)] := if_neg hl
      have I' := I
      rw [eS] at I' mu
      rw [show (24 : Int32) * nI (6+s) = nI (24 * (6+s)) from pk_mul 24 (6+s)]
      refine yw_later (t := 0) (f := 0) (a := 0) (by omega) (by omega) (by omega) (by omega) ⟨70000, ?_⟩
      refine yw_loop w T hH (pm_ex K V Hn Len s) H534 70000 70000 1 [(24 * (6+s), 0, 0)] 0 pm_F0 0 pm_O0 _ _ _ _ _ _ _ _ _ _ I' (fun x hx => ?_) (by omega) (ys_put (j := 0) rfl rfl rfl rfl) (fun x hx => by omega) (fun x hx => by omega) ?_ (by omega) (by omega)
      · rw [List.mem_singleton] at hx
        rw [hx]
        exact Nat.le_refl _
      · unfold pm_ex
        rw [eS]
