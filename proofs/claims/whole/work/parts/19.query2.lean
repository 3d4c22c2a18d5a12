variable {xds xcc xmi xre xpc xpl xtl xsc xou : Int32} {xtk xtv xss xts xho xfu xfa xfo xpn xpe xpf xqk xqv xqo xqp xqs xqh xwo xsi : Nat → Int32} {yco ypl ysz yus yof yre ysa : Int32} {ykd ybh yln yhl yvl yks yog yvs ypa ysp ytd ywi yun ysd you yfr ylf yva ysv ywo ysi ywk yph : Nat → Int32}
def kn_c (O : pm_O) (v : Nat) : Nat → Nat
  | 0 => 0
  | m+1 => kn_c O v m + (if (O m).1 = v then 1 else 0)
theorem kn_cB (O : pm_O) (v : Nat) : ∀ m, kn_c O v m ≤ m
  | 0 => Nat.le_refl _
  | m+1 => by
    have := kn_cB O v m
    rw [kn_c]
    split <;> omega
theorem xw_kinds {post : Int32 → SX → Prop} {n kd : Nat} {O : pm_O} (hn : n ≤ 2000) (hkd : kd < 9) (h8 : ∀ m, m < n → (O m).1 ≤ 8) (hO : ∀ m, m < n → xqk m = nI (O m).1) (h : post (nI (kn_c O kd n)) (xds, xcc, xmi, xre, xpc, xpl, xtl, xsc, xou, xtk, xtv, xss, xts, xho, xfu, xfa, xfo, xpn, xpe, xpf, xqk, xqv, xqo, xqp, xqs, xqh, xwo, xsi)) :
    ∀ (m k : Nat), k ≤ n → n < m + k → wX_kinds_31 post (nI kd) (nI n) xds xcc xmi xre xpc xpl xtl xsc xou xtk xtv xss xts xho xfu xfa xfo xpn xpe xpf xqk xqv xqo xqp xqs xqh xwo xsi m (nI (kn_c O kd k)) (nI k) := by
  intro m
  induction m with
  | zero => intro k h1 h2; omega
  | succ m ih =>
    intro k h1 h2
    refine pk_le n k (fun z => ?_) (fun z => ⟨pk_in k 2000 (by omega), ?_⟩)
    · have e : k = n := by omega
      rw [e]; exact h
    · have h9 := h8 k (by omega)
      rw [nI_clamp (show k < 2 ^ 31 by omega), hO k (by omega)]
      have A := ih (k+1) (by omega) (by omega)
      rw [kn_c] at A
      refine pk_eq (O k).1 kd (fun e => ?_) (fun e => ?_)
      · rw [if_pos e] at A
        exact nm_r (nI_1 _) (nm_r (nI_1 k) A)
      · rw [if_neg e] at A
        exact nm_r (nI_1 k) A
theorem yw_kinds {post : Int32 → SY → Prop} {n kd : Nat} {x1 : Int32} {O : pm_O} (hn : n ≤ 2000) (hkd : kd < 9) (h8 : ∀ m, m < n → (O m).1 ≤ 8) (hO : ∀ m, m < n → yks m = nI (O m).1) (h : wY_kinds_65 post x1 (nI (kn_c O kd n)) yco ypl (nI n) yus yof yre ysa ykd ybh yln yhl yvl yks yog yvs ypa ysp ytd ywi yun ysd you yfr ylf yva ysv ywo ysi ywk yph) :
    ∀ (m k : Nat), k ≤ n → n < m + k → wY_kinds_32 post x1 (nI kd) 1 yco ypl (nI n) yus yof yre ysa ykd ybh yln yhl yvl yks yog yvs ypa ysp ytd ywi yun ysd you yfr ylf yva ysv ywo ysi ywk yph m (nI (kn_c O kd k)) (nI k) := by
  intro m
  induction m with
  | zero => intro k h1 h2; omega
  | succ m ih =>
    intro k h1 h2
    refine pk_le n k (fun z => ?_) (fun z => br_f (by decide) ⟨pk_in k 2001 (by omega), ?_⟩)
    · have e : k = n := by omega
      rw [e]; exact h
    · have h9 := h8 k (by omega)
      rw [nI_clamp (show k < 2 ^ 31 by omega), hO k (by omega)]
      have A := ih (k+1) (by omega) (by omega)
      rw [kn_c] at A
      refine pk_eq (O k).1 kd (fun e => ?_) (fun e => ?_)
      · rw [if_pos e] at A
        exact nm_r (nI_1 _) (nm_r (nI_1 k) A)
      · rw [if_neg e] at A
        exact nm_r (nI_1 k) A
theorem tr_k8 {n : Nat} {O : pm_O} (G : 0 < n → tr_G n O) : ∀ m, m < n → (O m).1 ≤ 8 := fun m hm => ((G (by omega)).2.2 m hm).1
theorem yq_kinds {post : Int32 → SY → Prop} {K : Nat → Nat} {V : Nat → Int32} {Hn Len : Nat → Nat} {nc : Nat} {DK : Nat → Nat} {DV : Nat → Int32} {dn s kd : Nat}
    (B : rl_B K V Hn Len nc DK DV dn xds xcc xtk xtv xss xts xho yco ykd ybh yln yhl yvl) (C : rl_C K V Hn Len ysz yus yof yks yog yvs ypa ysp) (hs : s < 4) (hkd : kd < 9)
    (h0 : pm_ex K V Hn Len s = none → ∀ (sz us : Int32) (ks og vs pa sp td wi un sd ou fr : Nat → Int32), rl_C K V Hn Len sz us (nI s) ks og vs pa sp → post (-2) (yco, ypl, sz, us, nI s, yre, ysa, ykd, ybh, yln, yhl, yvl, ks, og, vs, pa, sp, td, wi, un, sd, ou, fr, ylf, yva, ysv, ywo, ysi, ywk, yph))
    (h1 : ∀ nf n O, pm_ex K V Hn Len s = some (nf, n, O) → ∀ (ks og vs pa sp td wi un sd ou fr : Nat → Int32), rl_C K V Hn Len (nI n) (nI nf) (nI s) ks og vs pa sp → post (nI (kn_c O kd n)) (yco, ypl, nI n, nI nf, nI s, yre, ysa, ykd, ybh, yln, yhl, yvl, ks, og, vs, pa, sp, td, wi, un, sd, ou, fr, ylf, yva, ysv, ywo, ysi, ywk, yph)) :
    wpY_kinds post (yco, ypl, ysz, yus, yof, yre, ysa, ykd, ybh, yln, yhl, yvl, yks, yog, yvs, ypa, ysp, ytd, ywi, yun, ysd, you, yfr, ylf, yva, ysv, ywo, ysi, ywk, yph) (nI s) (nI kd) := by
  unfold wpY_kinds
  refine yo_in (N := 4) hs (by omega) (br_t rfl (yo_in (N := 9) hkd (by omega) (br_t rfl ?_)))
  refine yq B C hs ?_ ?_
  · intro e sz us ks og vs pa sp td wi un sd ou fr C'
    have A : wY_kinds_65 post (nI s) 0 yco ypl sz us (nI s) yre ysa ykd ybh yln yhl yvl ks og vs pa sp td wi un sd ou fr ylf yva ysv ywo ysi ywk yph := by
      unfold wY_kinds_65
      exact yq_asked B C' hs (fun _ sz us ks og vs pa sp td wi un sd ou fr C'' => h0 e _ _ _ _ _ _ _ _ _ _ _ _ _ C'') (fun nf n O e' => by rw [e] at e'; cases e')
    exact ⟨1, br_c (fun _ => A) (fun _ => br_t rfl A)⟩
  · intro nf n O e ks og vs pa sp td wi un sd ou fr C' yO hsp
    obtain ⟨b1, b2, b3, b4, b5⟩ := pm_exB B.1 hs e
    refine ⟨n+1, yw_kinds (O := O) b2 hkd (tr_k8 b5) (fun m hm => (yO m hm).1) ?_ (n+1) 0 (by omega) (by omega)⟩
    unfold wY_kinds_65
    refine yq_asked B C' hs (fun e' => by rw [e] at e'; cases e') ?_
    intro nf' n' O' e' ks og vs pa sp td wi un sd ou fr C''
    rw [e] at e'
    cases e'
    have A := h1 nf n O e ks og vs pa sp td wi un sd ou fr C''
    by_cases z : n = 0
    · rw [if_pos z]
      subst z
      exact A
    · rw [if_neg z]
      exact A
theorem i_vc_kinds {k : Nat} {u : SX} {v : SY} (I : i_Rel k u v) (hk : k + 5 ≤ 2560) (v1 : Int32) (v2 : Int32) : wpX_kinds (fun r u' => wpY_kinds (fun r' v' => r' = r ∧ i_Rel (k + 5) u' v') v v1 v2) u v1 v2 := by
  obtain ⟨xds, xcc, xmi, xre, xpc, xpl, xtl, xsc, xou, xtk, xtv, xss, xts, xho, xfu, xfa, xfo, xpn, xpe, xpf, xqk, xqv, xqo, xqp, xqs, xqh, xwo, xsi⟩ := u
  obtain ⟨yco, ypl, ysz, yus, yof, yre, ysa, ykd, ybh, yln, yhl, yvl, yks, yog, yvs, ypa, ysp, ytd, ywi, yun, ysd, you, yfr, ylf, yva, ysv, ywo, ysi, ywk, yph⟩ := v
  obtain ⟨K, V, Hn, Len, nc, DK, DV, dn, B, C, m1, m2, m3, m4⟩ := I
  have HK : (v2 < 0 ∨ nI 9 ≤ v2) → wpY_kinds (fun r' v' => r' = -3 ∧ i_Rel (k + 5) (xds, xcc, xmi, xre, xpc, xpl, xtl, xsc, xou, xtk, xtv, xss, xts, xho, xfu, xfa, xfo, xpn, xpe, xpf, xqk, xqv, xqo, xqp, xqs, xqh, xwo, xsi) v') (yco, ypl, ysz, yus, yof, yre, ysa, ykd, ybh, yln, yhl, yvl, yks, yog, yvs, ypa, ysp, ytd, ywi, yun, ysd, you, yfr, ylf, yva, ysv, ywo, ysi, ywk, yph) v1 v2 := by
    intro h
    unfold wpY_kinds
    exact yw_out 4 (by omega) (fun _ _ _ => br_t rfl (yo_ex (N := 9) h (by omega) (br_f (by decide) ⟨rfl, rl_mk B C m1 m2 m3 m4⟩))) (fun _ => br_f (by decide) ⟨rfl, rl_mk B C m1 m2 m3 m4⟩)
  have HX : (v1 < 0 ∨ nI 4 ≤ v1) → wpY_kinds (fun r' v' => r' = -3 ∧ i_Rel (k + 5) (xds, xcc, xmi, xre, xpc, xpl, xtl, xsc, xou, xtk, xtv, xss, xts, xho, xfu, xfa, xfo, xpn, xpe, xpf, xqk, xqv, xqo, xqp, xqs, xqh, xwo, xsi) v') (yco, ypl, ysz, yus, yof, yre, ysa, ykd, ybh, yln, yhl, yvl, yks, yog, yvs, ypa, ysp, ytd, ywi, yun, ysd, you, yfr, ylf, yva, ysv, ywo, ysi, ywk, yph) v1 v2 := by
    intro h
    unfold wpY_kinds
    exact yo_ex (N := 4) h (by omega) (br_f (by decide) ⟨rfl, rl_mk B C m1 m2 m3 m4⟩)
  unfold wpX_kinds
  rcases pk_ix v2 (n := 9) (by omega) with h | h | ⟨kd, hkd, rfl⟩
  · exact br_t h (HK (Or.inl h))
  · have h8 : ¬ v2 ≤ 8 := Int32.not_le.mpr (Int32.lt_of_lt_of_le (show (8 : Int32) < nI 9 by decide) h)
    exact br_c (fun _ => HK (Or.inr h)) (fun _ => br_f h8 (HK (Or.inr h)))
  · refine br_f (nI_pos (by omega)) (pk_le kd 8 (fun _ => ?_) (fun z => by omega))
    rcases pk_ix v1 (n := 4) (by omega) with h | h | ⟨s, hs, rfl⟩
    · exact xw_expandX (Or.inl h) (br_f (by decide) (HX (Or.inl h)))
    · exact xw_expandX (Or.inr h) (br_f (by decide) (HX (Or.inr h)))
    · refine xq B hs ?_ ?_
      · intro e re pc pl tl fu fa fo pn pe pf qk qv qo
        exact br_f (by decide) (yq_kinds B C hs hkd (fun _ sz us ks og vs pa sp td wi un sd ou fr C' => ⟨rfl, rl_mk B C' m1 m2 m3 m4⟩) (fun nf n O e' => by rw [e] at e'; cases e'))
      · intro nf n O e pc fu fa fo pn pe pf qk qv qo qp qs qh hO hL
        obtain ⟨b1, b2, b3, b4, b5⟩ := pm_exB B.1 hs e
        have A : ∀ r : Int32, r = nI (kn_c O kd n) → wpY_kinds (fun r' v' => r' = r ∧ i_Rel (k + 5) (xds, xcc, xmi, nI nf, pc, nI n, 0, xsc, xou, xtk, xtv, xss, xts, xho, fu, fa, fo, pn, pe, pf, qk, qv, qo, qp, qs, qh, xwo, xsi) v') (yco, ypl, ysz, yus, yof, yre, ysa, ykd, ybh, yln, yhl, yvl, yks, yog, yvs, ypa, ysp, ytd, ywi, yun, ysd, you, yfr, ylf, yva, ysv, ywo, ysi, ywk, yph) (nI s) (nI kd) := by
          intro r er
          refine yq_kinds B C hs hkd (fun e' => by rw [e] at e'; cases e') ?_
          intro nf' n' O' e' ks og vs pa sp td wi un sd ou fr C'
          rw [e] at e'
          cases e'
          exact ⟨er.symm, rl_mk B C' m1 m2 m3 m4⟩
        refine pk_lt 0 n (fun z => ⟨n+1, ?_⟩) (fun z => ?_)
        · exact xw_kinds (O := O) b2 hkd (tr_k8 b5) (fun m hm => (hO m hm).1) (A _ rfl) (n+1) 0 (by omega) (by omega)
        · have z0 : n = 0 := by omega
          exact A _ (by rw [z0]; rfl)
/-! depth -/
def kn_d (O : pm_O) : Nat → Nat → Nat
  | 0, _ => 1
  | t+1, m => if m = 0 then 1 else kn_d O t ((O m).2.2.2 - 1) + 1
theorem kn_dI {n : Nat} {O : pm_O} (G : tr_G n O) : ∀ (t t' m : Nat), m < n → m ≤ t → m ≤ t' → kn_d O t m = kn_d O t' m
  | 0, 0, m, _, _, _ => rfl
  | 0, t'+1, m, _, h1, _ => by
    have e : m = 0 := by omega
    rw [kn_d, kn_d, if_pos e]
  | t+1, 0, m, _, _, h2 => by
    have e : m = 0 := by omega
    rw [kn_d, kn_d, if_pos e]
  | t+1, t'+1, m, hm, h1, h2 => by
    rw [kn_d, kn_d]
    by_cases e : m = 0
    · rw [if_pos e, if_pos e]
    · rw [if_neg e, if_neg e]
      obtain ⟨p1, p2⟩ := tr_par0 G hm (by omega)
      rw [kn_dI G t t' _ (by omega) (by omega) (by omega)]
theorem kn_dB {n : Nat} {O : pm_O} (G : tr_G n O) : ∀ (t m : Nat), m < n → kn_d O t m ≤ m + 1
  | 0, m, _ => by rw [kn_d]; omega
  | t+1, m, hm => by
    rw [kn_d]
    by_cases e : m = 0
    · rw [if_pos e]; omega
    · rw [if_neg e]
      obtain ⟨p1, p2⟩ := tr_par0 G hm (by omega)
      have := kn_dB G t ((O m).2.2.2 - 1) (by omega)
      omega
theorem kn_dS {n : Nat} {O : pm_O} (G : tr_G n O) {m : Nat} (hm : m < n) (h0 : 0 < m) : kn_d O 2500 m = kn_d O 2500 ((O m).2.2.2 - 1) + 1 := by
  obtain ⟨p1, p2⟩ := tr_par0 G hm h0
  have h3 := G.1
  have e : kn_d O 2500 m = kn_d O 2499 ((O m).2.2.2 - 1) + 1 := by
    show (if m = 0 then 1 else kn_d O 2499 ((O m).2.2.2 - 1) + 1) = _
    rw [if_neg (by omega)]
  rw [e, kn_dI G 2499 2500 _ (by omega) (by omega) (by omega)]
theorem kn_mxB {D : Nat → Nat} {n : Nat} (h : ∀ m, m < n → D m ≤ 2001) : ∀ k, k ≤ n → tr_mx D 0 k ≤ 2001
  | 0, _ => Nat.zero_le _
  | k+1, hk => by
    have h1 := kn_mxB h k (by omega)
    have h2 := h k (by omega)
    rw [tr_mxS, Nat.zero_add]
    omega
theorem yw_depth {post : Int32 → SY → Prop} {n : Nat} {x1 : Int32} {O : pm_O} (G : 0 < n → tr_G n O) (hn : n ≤ 2000) (hO : ∀ m, m < n → ypa m = ys_i (O m).2.2.2)
    (h : ∀ (sv : Nat → Int32), wY_depth_90 post x1 (nI (tr_mx (kn_d O 2500) 0 n)) yco ypl (nI n) yus yof yre ysa ykd ybh yln yhl yvl yks yog yvs ypa ysp ytd ywi yun ysd you yfr ylf yva sv ywo ysi ywk yph) :
    ∀ (m k : Nat) (ysv : Nat → Int32), k ≤ n → n < m + k → (∀ i, i < k → ysv i = nI (kn_d O 2500 i)) → wY_depth_22 post x1 1 yco ypl (nI n) yus yof yre ysa m (nI (tr_mx (kn_d O 2500) 0 k)) (nI k) ykd ybh yln yhl yvl yks yog yvs ypa ysp ytd ywi yun ysd you yfr ylf yva ysv ywo ysi ywk yph := by
  intro m
  induction m with
  | zero => intro k ysv h1 h2; omega
  | succ m ih =>
    intro k ysv h1 h2 L
    refine pk_le n k (fun z => ?_) (fun z => br_f (by decide) ?_)
    · have e : k = n := by omega
      rw [e]; exact h ysv
    · have G' := G (by omega)
      have hB : ∀ m, m < n → kn_d O 2500 m ≤ 2001 := fun m hm => by have := kn_dB G' 2500 m hm; omega
      have hM := kn_mxB hB k h1
      have hk1 := hB k z
      have N : wY_depth_64 post (wY_depth_22 post x1 1 yco ypl (nI n) yus yof yre ysa m) x1 1 (nI (tr_mx (kn_d O 2500) 0 k)) (nI k) (nI (kn_d O 2500 k)) (nI k) yco ypl (nI n) yus yof yre ysa ykd ybh yln yhl yvl yks yog yvs ypa ysp ytd ywi yun ysd you yfr ylf yva ysv ywo ysi ywk yph := by
        unfold wY_depth_64
        rw [nI_clamp (show k < 2 ^ 31 by omega)]
        have i1 : vp_in (nI k) 2001 := pk_in k 2001 (by omega)
        have L' : ∀ i, i < k + 1 → (upd ysv k (nI (kn_d O 2500 k))) i = nI (kn_d O 2500 i) := by
          intro i hi
          by_cases e : i = k
          · subst e
            exact pk_us
          · rw [pk_un e]
            exact L i (by omega)
        have A := ih (k+1) _ (by omega) (by omega) L'
        rw [tr_mxS, Nat.zero_add] at A
        refine ⟨i1, nm_e ⟨i1, ?_⟩⟩
        rw [pk_us]
        refine pk_le (kn_d O 2500 k) (tr_mx (kn_d O 2500) 0 k) (fun y => nm_r (nI_1 k) ?_) (fun y => ⟨i1, nm_e (nm_r (nI_1 k) ?_)⟩)
        · rw [Nat.max_eq_left y] at A
          exact A
        · rw [Nat.max_eq_right (by omega)] at A
          exact A
      refine pk_eq k 0 (fun e => ?_) (fun e => ?_)
      · subst e
        exact N
      · obtain ⟨p1, p2⟩ := tr_par0 G' z (by omega)
        rw [nI_clamp (show k < 2 ^ 31 by omega), hO k z, ys_iP p1, nI_clamp (show (O k).2.2.2 - 1 < 2 ^ 31 by omega), L _ (by omega), nI_1, ← kn_dS G' z (by omega)]
        exact ⟨pk_in k 2001 (by omega), ⟨vp_in_nI (by omega) (by omega), N⟩⟩
theorem yq_depth {post : Int32 → SY → Prop} {K : Nat → Nat} {V : Nat → Int32} {Hn Len : Nat → Nat} {nc : Nat} {DK : Nat → Nat} {DV : Nat → Int32} {dn s : Nat}
    (B : rl_B K V Hn Len nc DK DV dn xds xcc xtk xtv xss xts xho yco ykd ybh yln yhl yvl) (C : rl_C K V Hn Len ysz yus yof yks yog yvs ypa ysp) (hs : s < 4)
    (h0 : pm_ex K V Hn Len s = none → ∀ (sz us : Int32) (ks og vs pa sp td wi un sd ou fr sv : Nat → Int32), rl_C K V Hn Len sz us (nI s) ks og vs pa sp → post (-2) (yco, ypl, sz, us, nI s, yre, ysa, ykd, ybh, yln, yhl, yvl, ks, og, vs, pa, sp, td, wi, un, sd, ou, fr, ylf, yva, sv, ywo, ysi, ywk, yph))
    (h1 : ∀ nf n O, pm_ex K V Hn Len s = some (nf, n, O) → ∀ (ks og vs pa sp td wi un sd ou fr sv : Nat → Int32), rl_C K V Hn Len (nI n) (nI nf) (nI s) ks og vs pa sp → post (if n = 0 then 0 else nI (tr_ht (pm_ar O) 0)) (yco, ypl, nI n, nI nf, nI s, yre, ysa, ykd, ybh, yln, yhl, yvl, ks, og, vs, pa, sp, td, wi, un, sd, ou, fr, ylf, yva, sv, ywo, ysi, ywk, yph)) :
    wpY_depth post (yco, ypl, ysz, yus, yof, yre, ysa, ykd, ybh, yln, yhl, yvl, yks, yog, yvs, ypa, ysp, ytd, ywi, yun, ysd, you, yfr, ylf, yva, ysv, ywo, ysi, ywk, yph) (nI s) := by
  unfold wpY_depth
  refine yo_in (N := 4) hs (by omega) (br_t rfl ?_)
  refine yq B C hs ?_ ?_
  · intro e sz us ks og vs pa sp td wi un sd ou fr C'
    have A : wY_depth_90 post (nI s) 0 yco ypl sz us (nI s) yre ysa ykd ybh yln yhl yvl ks og vs pa sp td wi un sd ou fr ylf yva ysv ywo ysi ywk yph := by
      unfold wY_depth_90
      exact yq_asked B C' hs (fun _ sz us ks og vs pa sp td wi un sd ou fr C'' => h0 e _ _ _ _ _ _ _ _ _ _ _ _ _ _ C'') (fun nf n O e' => by rw [e] at e'; cases e')
    exact ⟨1, br_c (fun _ => A) (fun _ => br_t rfl A)⟩
  · intro nf n O e ks og vs pa sp td wi un sd ou fr C' yO hsp
    obtain ⟨b1, b2, b3, b4, b5⟩ := pm_exB B.1 hs e
    refine ⟨n+1, yw_depth (O := O) b5 b2 (fun m hm => (yO m hm).2.2.2) ?_ (n+1) 0 _ (by omega) (by omega) (fun i hi => by omega)⟩
    intro sv
    unfold wY_depth_90
    refine yq_asked B C' hs (fun e' => by rw [e] at e'; cases e') ?_
    intro nf' n' O' e' ks og vs pa sp td wi un sd ou fr C''
    rw [e] at e'
    cases e'
    have A := h1 nf n O e ks og vs pa sp td wi un sd ou fr sv C''
    by_cases z : n = 0
    · rw [if_pos z] at A ⊢
      exact A
    · rw [if_neg z] at A ⊢
      have G := b5 (by omega)
      rw [tr_depth G (kn_d O 2500) rfl (fun m h0 hm => kn_dS G hm h0)]
      exact A
theorem i_vc_depth {k : Nat} {u : SX} {v : SY} (I : i_Rel k u v) (hk : k + 5 ≤ 2560) (v1 : Int32) : wpX_depth (fun r u' => wpY_depth (fun r' v' => r' = r ∧ i_Rel (k + 5) u' v') v v1) u v1 := by
  obtain ⟨xds, xcc, xmi, xre, xpc, xpl, xtl, xsc, xou, xtk, xtv, xss, xts, xho, xfu, xfa, xfo, xpn, xpe, xpf, xqk, xqv, xqo, xqp, xqs, xqh, xwo, xsi⟩ := u
  obtain ⟨yco, ypl, ysz, yus, yof, yre, ysa, ykd, ybh, yln, yhl, yvl, yks, yog, yvs, ypa, ysp, ytd, ywi, yun, ysd, you, yfr, ylf, yva, ysv, ywo, ysi, ywk, yph⟩ := v
  obtain ⟨K, V, Hn, Len, nc, DK, DV, dn, B, C, m1, m2, m3, m4⟩ := I
  have HX : (v1 < 0 ∨ nI 4 ≤ v1) → wpY_depth (fun r' v' => r' = -3 ∧ i_Rel (k + 5) (xds, xcc, xmi, xre, xpc, xpl, xtl, xsc, xou, xtk, xtv, xss, xts, xho, xfu, xfa, xfo, xpn, xpe, xpf, xqk, xqv, xqo, xqp, xqs, xqh, xwo, xsi) v') (yco, ypl, ysz, yus, yof, yre, ysa, ykd, ybh, yln, yhl, yvl, yks, yog, yvs, ypa, ysp, ytd, ywi, yun, ysd, you, yfr, ylf, yva, ysv, ywo, ysi, ywk, yph) v1 := by
    intro h
    unfold wpY_depth
    exact yo_ex (N := 4) h (by omega) (br_f (by decide) ⟨rfl, rl_mk B C m1 m2 m3 m4⟩)
  unfold wpX_depth
  rcases pk_ix v1 (n := 4) (by omega) with h | h | ⟨s, hs, rfl⟩
  · exact xw_expandX (Or.inl h) (br_t (by decide) (HX (Or.inl h)))
  · exact xw_expandX (Or.inr h) (br_t (by decide) (HX (Or.inr h)))
  · refine xq B hs ?_ ?_
    · intro e re pc pl tl fu fa fo pn pe pf qk qv qo
      exact br_t (by decide) (yq_depth B C hs (fun _ sz us ks og vs pa sp td wi un sd ou fr sv C' => ⟨rfl, rl_mk B C' m1 m2 m3 m4⟩) (fun nf n O e' => by rw [e] at e'; cases e'))
    · intro nf n O e pc fu fa fo pn pe pf qk qv qo qp qs qh hO hL
      have b2 := (pm_exB B.1 hs e).2.1
      refine pk_le n 0 (fun z => ?_) (fun z => ?_)
      · refine yq_depth B C hs (fun e' => by rw [e] at e'; cases e') ?_
        intro nf' n' O' e' ks og vs pa sp td wi un sd ou fr sv C'
        rw [e] at e'
        cases e'
        have z0 : n = 0 := by omega
        refine ⟨?_, rl_mk B C' m1 m2 m3 m4⟩
        rw [if_pos z0, z0]
        rfl
      · refine yq_depth B C hs (fun e' => by rw [e] at e'; cases e') ?_
        intro nf' n' O' e' ks og vs pa sp td wi un sd ou fr sv C'
        rw [e] at e'
        cases e'
        refine ⟨?_, rl_mk B C' m1 m2 m3 m4⟩
        rw [if_neg (by omega), (hL z 0 z).2.1]
