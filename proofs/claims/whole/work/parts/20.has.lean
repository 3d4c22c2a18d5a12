variable {xds xcc xmi xre xpc xpl xtl xsc xou : Int32} {xtk xtv xss xts xho xfu xfa xfo xpn xpe xpf xqk xqv xqo xqp xqs xqh xwo xsi : Nat → Int32} {yco ypl ysz yus yof yre ysa : Int32} {ykd ybh yln yhl yvl yks yog yvs ypa ysp ytd ywi yun ysd you yfr ylf yva ysv ywo ysi ywk yph : Nat → Int32}
theorem yq_has {post : Int32 → SY → Prop} {K : Nat → Nat} {V : Nat → Int32} {Hn Len : Nat → Nat} {nc : Nat} {DK : Nat → Nat} {DV : Nat → Int32} {dn s : Nat} {v2 : Int32}
    (B : rl_B K V Hn Len nc DK DV dn xds xcc xtk xtv xss xts xho yco ykd ybh yln yhl yvl) (C : rl_C K V Hn Len ysz yus yof yks yog yvs ypa ysp) (hs : s < 4)
    (h0 : pm_ex K V Hn Len s = none → ∀ (sz us : Int32) (ks og vs pa sp td wi un sd ou fr : Nat → Int32), rl_C K V Hn Len sz us (nI s) ks og vs pa sp → post 0 (yco, ypl, sz, us, nI s, yre, ysa, ykd, ybh, yln, yhl, yvl, ks, og, vs, pa, sp, td, wi, un, sd, ou, fr, ylf, yva, ysv, ywo, ysi, ywk, yph))
    (h1 : ∀ nf n O, pm_ex K V Hn Len s = some (nf, n, O) → ∀ (ks og vs pa sp td wi un sd ou fr : Nat → Int32), rl_C K V Hn Len (nI n) (nI nf) (nI s) ks og vs pa sp → ys_O n O ks vs og pa → (∀ i, i < n → sp i = nI (tr_sp (pm_ar O) i)) →
      (∀ j, j < n → v2 = nI j → post 1 (yco, ypl, nI n, nI nf, nI s, yre, ysa, ykd, ybh, yln, yhl, yvl, ks, og, vs, pa, sp, td, wi, un, sd, ou, fr, ylf, yva, ysv, ywo, ysi, ywk, yph)) ∧
      ((v2 < 0 ∨ nI n ≤ v2) → post 0 (yco, ypl, nI n, nI nf, nI s, yre, ysa, ykd, ybh, yln, yhl, yvl, ks, og, vs, pa, sp, td, wi, un, sd, ou, fr, ylf, yva, ysv, ywo, ysi, ywk, yph))) :
    wpY_has post (yco, ypl, ysz, yus, yof, yre, ysa, ykd, ybh, yln, yhl, yvl, yks, yog, yvs, ypa, ysp, ytd, ywi, yun, ysd, you, yfr, ylf, yva, ysv, ywo, ysi, ywk, yph) (nI s) v2 := by
  unfold wpY_has
  refine yo_in (N := 4) hs (by omega) (br_t rfl ?_)
  refine yq B C hs ?_ ?_
  · intro e sz us ks og vs pa sp td wi un sd ou fr C'
    exact br_t rfl (h0 e _ _ _ _ _ _ _ _ _ _ _ _ _ C')
  · intro nf n O e ks og vs pa sp td wi un sd ou fr C' yO hsp
    obtain ⟨b1, b2, b3, b4, b5⟩ := pm_exB B.1 hs e
    obtain ⟨A1, A2⟩ := h1 nf n O e ks og vs pa sp td wi un sd ou fr C' yO hsp
    exact br_f (by decide) (yw_out n (by omega) (fun j hj ej => br_t rfl (A1 j hj ej)) (fun hz => br_f (by decide) (A2 hz)))
theorem yq_hasX {post : Int32 → SY → Prop} {v1 v2 : Int32} (hv : v1 < 0 ∨ nI 4 ≤ v1) (h : post 0 (yco, ypl, ysz, yus, yof, yre, ysa, ykd, ybh, yln, yhl, yvl, yks, yog, yvs, ypa, ysp, ytd, ywi, yun, ysd, you, yfr, ylf, yva, ysv, ywo, ysi, ywk, yph)) : wpY_has post (yco, ypl, ysz, yus, yof, yre, ysa, ykd, ybh, yln, yhl, yvl, yks, yog, yvs, ypa, ysp, ytd, ywi, yun, ysd, you, yfr, ylf, yva, ysv, ywo, ysi, ywk, yph) v1 v2 := by
  unfold wpY_has
  exact yo_ex (N := 4) hv (by omega) (br_f (by decide) h)
theorem nu_neg {v : Int32} (h : ¬ v < 0) (a : Int32) (ha : a < 0) : ¬ v < a := by
  rw [Int32.not_lt] at h ⊢
  exact Int32.le_trans (Int32.le_of_lt ha) h
theorem i_vc_at {k : Nat} {u : SX} {v : SY} (I : i_Rel k u v) (hk : k + 5 ≤ 2560) (v1 : Int32) (v2 : Int32) : wpX_at (fun r u' => wpY_at (fun r' v' => r' = r ∧ i_Rel (k + 5) u' v') v v1 v2) u v1 v2 := by
  obtain ⟨xds, xcc, xmi, xre, xpc, xpl, xtl, xsc, xou, xtk, xtv, xss, xts, xho, xfu, xfa, xfo, xpn, xpe, xpf, xqk, xqv, xqo, xqp, xqs, xqh, xwo, xsi⟩ := u
  obtain ⟨yco, ypl, ysz, yus, yof, yre, ysa, ykd, ybh, yln, yhl, yvl, yks, yog, yvs, ypa, ysp, ytd, ywi, yun, ysd, you, yfr, ylf, yva, ysv, ywo, ysi, ywk, yph⟩ := v
  obtain ⟨K, V, Hn, Len, nc, DK, DV, dn, B, C, m1, m2, m3, m4⟩ := I
  have HX : (v1 < 0 ∨ nI 4 ≤ v1) → wpY_at (fun r' v' => r' = (100000000000 : Int64) ∧ i_Rel (k + 5) (xds, xcc, xmi, xre, xpc, xpl, xtl, xsc, xou, xtk, xtv, xss, xts, xho, xfu, xfa, xfo, xpn, xpe, xpf, xqk, xqv, xqo, xqp, xqs, xqh, xwo, xsi) v') (yco, ypl, ysz, yus, yof, yre, ysa, ykd, ybh, yln, yhl, yvl, yks, yog, yvs, ypa, ysp, ytd, ywi, yun, ysd, you, yfr, ylf, yva, ysv, ywo, ysi, ywk, yph) v1 v2 := by
    intro h
    unfold wpY_at
    exact yq_hasX h (br_t rfl ⟨rfl, rl_mk B C m1 m2 m3 m4⟩)
  have HX2 : (v1 < 0 ∨ nI 4 ≤ v1) → wpX_at (fun r u' => wpY_at (fun r' v' => r' = r ∧ i_Rel (k + 5) u' v') (yco, ypl, ysz, yus, yof, yre, ysa, ykd, ybh, yln, yhl, yvl, yks, yog, yvs, ypa, ysp, ytd, ywi, yun, ysd, you, yfr, ylf, yva, ysv, ywo, ysi, ywk, yph) v1 v2) (xds, xcc, xmi, xre, xpc, xpl, xtl, xsc, xou, xtk, xtv, xss, xts, xho, xfu, xfa, xfo, xpn, xpe, xpf, xqk, xqv, xqo, xqp, xqs, xqh, xwo, xsi) v1 v2 := by
    intro h
    unfold wpX_at
    refine xw_expandX h (br_c (fun _ => HX h) (fun h0 => ?_))
    exact br_f (nu_neg h0 (-3) (by decide)) (HX h)
  rcases pk_ix v1 (n := 4) (by omega) with h | h | ⟨s, hs, rfl⟩
  · exact HX2 (Or.inl h)
  · exact HX2 (Or.inr h)
  · unfold wpX_at
    refine xq B hs ?_ ?_
    · intro e re pc pl tl fu fa fo pn pe pf qk qv qo
      have A : wpY_at (fun r' v' => r' = (100000000000 : Int64) ∧ i_Rel (k + 5) (xds, xcc, xmi, re, pc, pl, tl, xsc, xou, xtk, xtv, xss, xts, xho, fu, fa, fo, pn, pe, pf, qk, qv, qo, xqp, xqs, xqh, xwo, xsi) v') (yco, ypl, ysz, yus, yof, yre, ysa, ykd, ybh, yln, yhl, yvl, yks, yog, yvs, ypa, ysp, ytd, ywi, yun, ysd, you, yfr, ylf, yva, ysv, ywo, ysi, ywk, yph) (nI s) v2 := by
        unfold wpY_at
        exact yq_has B C hs (fun _ sz us ks og vs pa sp td wi un sd ou fr C' => br_t rfl ⟨rfl, rl_mk B C' m1 m2 m3 m4⟩) (fun nf n O e' => by rw [e] at e'; cases e')
      refine br_c (fun _ => A) (fun h0 => ?_)
      exact br_f (nu_neg h0 (-2) (by decide)) A
    · intro nf n O e pc fu fa fo pn pe pf qk qv qo qp qs qh hO hL
      obtain ⟨b1, b2, b3, b4, b5⟩ := pm_exB B.1 hs e
      have A : (v2 < 0 ∨ nI n ≤ v2) → wpY_at (fun r' v' => r' = (100000000000 : Int64) ∧ i_Rel (k + 5) (xds, xcc, xmi, nI nf, pc, nI n, 0, xsc, xou, xtk, xtv, xss, xts, xho, fu, fa, fo, pn, pe, pf, qk, qv, qo, qp, qs, qh, xwo, xsi) v') (yco, ypl, ysz, yus, yof, yre, ysa, ykd, ybh, yln, yhl, yvl, yks, yog, yvs, ypa, ysp, ytd, ywi, yun, ysd, you, yfr, ylf, yva, ysv, ywo, ysi, ywk, yph) (nI s) v2 := by
        intro hz
        unfold wpY_at
        refine yq_has B C hs (fun e' => by rw [e] at e'; cases e') ?_
        intro nf' n' O' e' ks og vs pa sp td wi un sd ou fr C' yO hsp
        rw [e] at e'
        cases e'
        refine ⟨fun j hj ej => ?_, fun _ => br_t rfl ⟨rfl, rl_mk B C' m1 m2 m3 m4⟩⟩
        rw [ej] at hz
        exact absurd hz (by rw [not_or]; exact ⟨nI_pos (by omega), nI_ge hj (by omega)⟩)
      rcases pk_ix v2 (n := n) (by omega) with h2 | h2 | ⟨j, hj, rfl⟩
      · exact br_t h2 (A (Or.inl h2))
      · refine br_c (fun _ => A (Or.inr h2)) (fun h0 => ?_)
        exact br_f (Int32.not_lt.mpr h2) (A (Or.inr h2))
      · refine br_f (nI_pos (by omega)) ?_
        refine br_t (nI_lt hj (by omega)) ⟨pk_in j 2000 (by omega), ⟨pk_in j 2000 (by omega), ?_⟩⟩
        rw [nI_clamp (show j < 2 ^ 31 by omega)]
        unfold wpY_at
        refine yq_has B C hs (fun e' => by rw [e] at e'; cases e') ?_
        intro nf' n' O' e' ks og vs pa sp td wi un sd ou fr C' yO hsp
        rw [e] at e'
        cases e'
        refine ⟨fun j' hj' ej => br_f (by decide) ?_, fun hz => absurd hz (by rw [not_or]; exact ⟨nI_pos (by omega), nI_ge hj (by omega)⟩)⟩
        dsimp only
        rw [nI_clamp (show j < 2 ^ 31 by omega)]
        obtain ⟨o1, o2, o3⟩ := hO j hj
        obtain ⟨l1, l2, l3⟩ := hL (by omega) j hj
        obtain ⟨z1, z2, z3, z4⟩ := yO j hj
        refine ⟨pk_in j 2001 (by omega), ⟨pk_in j 2001 (by omega), ?_, rl_mk B C' m1 m2 m3 m4⟩⟩
        rw [o1, o2, z1, z2]
theorem i_vc_origin {k : Nat} {u : SX} {v : SY} (I : i_Rel k u v) (hk : k + 5 ≤ 2560) (v1 : Int32) (v2 : Int32) : wpX_origin (fun r u' => wpY_origin (fun r' v' => r' = r ∧ i_Rel (k + 5) u' v') v v1 v2) u v1 v2 := by
  obtain ⟨xds, xcc, xmi, xre, xpc, xpl, xtl, xsc, xou, xtk, xtv, xss, xts, xho, xfu, xfa, xfo, xpn, xpe, xpf, xqk, xqv, xqo, xqp, xqs, xqh, xwo, xsi⟩ := u
  obtain ⟨yco, ypl, ysz, yus, yof, yre, ysa, ykd, ybh, yln, yhl, yvl, yks, yog, yvs, ypa, ysp, ytd, ywi, yun, ysd, you, yfr, ylf, yva, ysv, ywo, ysi, ywk, yph⟩ := v
  obtain ⟨K, V, Hn, Len, nc, DK, DV, dn, B, C, m1, m2, m3, m4⟩ := I
  have HX : (v1 < 0 ∨ nI 4 ≤ v1) → wpY_origin (fun r' v' => r' = (-3 : Int32) ∧ i_Rel (k + 5) (xds, xcc, xmi, xre, xpc, xpl, xtl, xsc, xou, xtk, xtv, xss, xts, xho, xfu, xfa, xfo, xpn, xpe, xpf, xqk, xqv, xqo, xqp, xqs, xqh, xwo, xsi) v') (yco, ypl, ysz, yus, yof, yre, ysa, ykd, ybh, yln, yhl, yvl, yks, yog, yvs, ypa, ysp, ytd, ywi, yun, ysd, you, yfr, ylf, yva, ysv, ywo, ysi, ywk, yph) v1 v2 := by
    intro h
    unfold wpY_origin
    exact yq_hasX h (br_t rfl ⟨rfl, rl_mk B C m1 m2 m3 m4⟩)
  have HX2 : (v1 < 0 ∨ nI 4 ≤ v1) → wpX_origin (fun r u' => wpY_origin (fun r' v' => r' = r ∧ i_Rel (k + 5) u' v') (yco, ypl, ysz, yus, yof, yre, ysa, ykd, ybh, yln, yhl, yvl, yks, yog, yvs, ypa, ysp, ytd, ywi, yun, ysd, you, yfr, ylf, yva, ysv, ywo, ysi, ywk, yph) v1 v2) (xds, xcc, xmi, xre, xpc, xpl, xtl, xsc, xou, xtk, xtv, xss, xts, xho, xfu, xfa, xfo, xpn, xpe, xpf, xqk, xqv, xqo, xqp, xqs, xqh, xwo, xsi) v1 v2 := by
    intro h
    unfold wpX_origin
    refine xw_expandX h (br_c (fun _ => HX h) (fun h0 => ?_))
    exact br_t (Int32.le_trans (Int32.le_of_lt (show (-3 : Int32) < 0 by decide)) (Int32.not_lt.mp h0)) (HX h)
  rcases pk_ix v1 (n := 4) (by omega) with h | h | ⟨s, hs, rfl⟩
  · exact HX2 (Or.inl h)
  · exact HX2 (Or.inr h)
  · unfold wpX_origin
    refine xq B hs ?_ ?_
    · intro e re pc pl tl fu fa fo pn pe pf qk qv qo
      have A : wpY_origin (fun r' v' => r' = (-3 : Int32) ∧ i_Rel (k + 5) (xds, xcc, xmi, re, pc, pl, tl, xsc, xou, xtk, xtv, xss, xts, xho, fu, fa, fo, pn, pe, pf, qk, qv, qo, xqp, xqs, xqh, xwo, xsi) v') (yco, ypl, ysz, yus, yof, yre, ysa, ykd, ybh, yln, yhl, yvl, yks, yog, yvs, ypa, ysp, ytd, ywi, yun, ysd, you, yfr, ylf, yva, ysv, ywo, ysi, ywk, yph) (nI s) v2 := by
        unfold wpY_origin
        exact yq_has B C hs (fun _ sz us ks og vs pa sp td wi un sd ou fr C' => br_t rfl ⟨rfl, rl_mk B C' m1 m2 m3 m4⟩) (fun nf n O e' => by rw [e] at e'; cases e')
      refine br_c (fun _ => A) (fun h0 => ?_)
      exact br_t (Int32.le_trans (Int32.le_of_lt (show (-2 : Int32) < 0 by decide)) (Int32.not_lt.mp h0)) A
    · intro nf n O e pc fu fa fo pn pe pf qk qv qo qp qs qh hO hL
      obtain ⟨b1, b2, b3, b4, b5⟩ := pm_exB B.1 hs e
      have A : (v2 < 0 ∨ nI n ≤ v2) → wpY_origin (fun r' v' => r' = (-3 : Int32) ∧ i_Rel (k + 5) (xds, xcc, xmi, nI nf, pc, nI n, 0, xsc, xou, xtk, xtv, xss, xts, xho, fu, fa, fo, pn, pe, pf, qk, qv, qo, qp, qs, qh, xwo, xsi) v') (yco, ypl, ysz, yus, yof, yre, ysa, ykd, ybh, yln, yhl, yvl, yks, yog, yvs, ypa, ysp, ytd, ywi, yun, ysd, you, yfr, ylf, yva, ysv, ywo, ysi, ywk, yph) (nI s) v2 := by
        intro hz
        unfold wpY_origin
        refine yq_has B C hs (fun e' => by rw [e] at e'; cases e') ?_
        intro nf' n' O' e' ks og vs pa sp td wi un sd ou fr C' yO hsp
        rw [e] at e'
        cases e'
        refine ⟨fun j hj ej => ?_, fun _ => br_t rfl ⟨rfl, rl_mk B C' m1 m2 m3 m4⟩⟩
        rw [ej] at hz
        exact absurd hz (by rw [not_or]; exact ⟨nI_pos (by omega), nI_ge hj (by omega)⟩)
      rcases pk_ix v2 (n := n) (by omega) with h2 | h2 | ⟨j, hj, rfl⟩
      · exact br_t h2 (A (Or.inl h2))
      · refine br_c (fun _ => A (Or.inr h2)) (fun h0 => ?_)
        exact br_t h2 (A (Or.inr h2))
      · refine br_f (nI_pos (by omega)) ?_
        refine br_f (nI_ge hj (by omega)) ⟨pk_in j 2000 (by omega), ?_⟩
        rw [nI_clamp (show j < 2 ^ 31 by omega)]
        unfold wpY_origin
        refine yq_has B C hs (fun e' => by rw [e] at e'; cases e') ?_
        intro nf' n' O' e' ks og vs pa sp td wi un sd ou fr C' yO hsp
        rw [e] at e'
        cases e'
        refine ⟨fun j' hj' ej => br_f (by decide) ?_, fun hz => absurd hz (by rw [not_or]; exact ⟨nI_pos (by omega), nI_ge hj (by omega)⟩)⟩
        dsimp only
        rw [nI_clamp (show j < 2 ^ 31 by omega)]
        obtain ⟨o1, o2, o3⟩ := hO j hj
        obtain ⟨l1, l2, l3⟩ := hL (by omega) j hj
        obtain ⟨z1, z2, z3, z4⟩ := yO j hj
        refine ⟨pk_in j 2001 (by omega), ?_, rl_mk B C' m1 m2 m3 m4⟩
        rw [o3, z3]
theorem i_vc_parent {k : Nat} {u : SX} {v : SY} (I : i_Rel k u v) (hk : k + 5 ≤ 2560) (v1 : Int32) (v2 : Int32) : wpX_parent (fun r u' => wpY_parent (fun r' v' => r' = r ∧ i_Rel (k + 5) u' v') v v1 v2) u v1 v2 := by
  obtain ⟨xds, xcc, xmi, xre, xpc, xpl, xtl, xsc, xou, xtk, xtv, xss, xts, xho, xfu, xfa, xfo, xpn, xpe, xpf, xqk, xqv, xqo, xqp, xqs, xqh, xwo, xsi⟩ := u
  obtain ⟨yco, ypl, ysz, yus, yof, yre, ysa, ykd, ybh, yln, yhl, yvl, yks, yog, yvs, ypa, ysp, ytd, ywi, yun, ysd, you, yfr, ylf, yva, ysv, ywo, ysi, ywk, yph⟩ := v
  obtain ⟨K, V, Hn, Len, nc, DK, DV, dn, B, C, m1, m2, m3, m4⟩ := I
  have HX : (v1 < 0 ∨ nI 4 ≤ v1) → wpY_parent (fun r' v' => r' = (-3 : Int32) ∧ i_Rel (k + 5) (xds, xcc, xmi, xre, xpc, xpl, xtl, xsc, xou, xtk, xtv, xss, xts, xho, xfu, xfa, xfo, xpn, xpe, xpf, xqk, xqv, xqo, xqp, xqs, xqh, xwo, xsi) v') (yco, ypl, ysz, yus, yof, yre, ysa, ykd, ybh, yln, yhl, yvl, yks, yog, yvs, ypa, ysp, ytd, ywi, yun, ysd, you, yfr, ylf, yva, ysv, ywo, ysi, ywk, yph) v1 v2 := by
    intro h
    unfold wpY_parent
    exact yq_hasX h (br_t rfl ⟨rfl, rl_mk B C m1 m2 m3 m4⟩)
  have HX2 : (v1 < 0 ∨ nI 4 ≤ v1) → wpX_parent (fun r u' => wpY_parent (fun r' v' => r' = r ∧ i_Rel (k + 5) u' v') (yco, ypl, ysz, yus, yof, yre, ysa, ykd, ybh, yln, yhl, yvl, yks, yog, yvs, ypa, ysp, ytd, ywi, yun, ysd, you, yfr, ylf, yva, ysv, ywo, ysi, ywk, yph) v1 v2) (xds, xcc, xmi, xre, xpc, xpl, xtl, xsc, xou, xtk, xtv, xss, xts, xho, xfu, xfa, xfo, xpn, xpe, xpf, xqk, xqv, xqo, xqp, xqs, xqh, xwo, xsi) v1 v2 := by
    intro h
    unfold wpX_parent
    refine xw_expandX h (br_c (fun _ => HX h) (fun h0 => ?_))
    exact br_t (Int32.le_trans (Int32.le_of_lt (show (-3 : Int32) < 0 by decide)) (Int32.not_lt.mp h0)) (HX h)
  rcases pk_ix v1 (n := 4) (by omega) with h | h | ⟨s, hs, rfl⟩
  · exact HX2 (Or.inl h)
  · exact HX2 (Or.inr h)
  · unfold wpX_parent
    refine xq B hs ?_ ?_
    · intro e re pc pl tl fu fa fo pn pe pf qk qv qo
      have A : wpY_parent (fun r' v' => r' = (-3 : Int32) ∧ i_Rel (k + 5) (xds, xcc, xmi, re, pc, pl, tl, xsc, xou, xtk, xtv, xss, xts, xho, fu, fa, fo, pn, pe, pf, qk, qv, qo, xqp, xqs, xqh, xwo, xsi) v') (yco, ypl, ysz, yus, yof, yre, ysa, ykd, ybh, yln, yhl, yvl, yks, yog, yvs, ypa, ysp, ytd, ywi, yun, ysd, you, yfr, ylf, yva, ysv, ywo, ysi, ywk, yph) (nI s) v2 := by
        unfold wpY_parent
        exact yq_has B C hs (fun _ sz us ks og vs pa sp td wi un sd ou fr C' => br_t rfl ⟨rfl, rl_mk B C' m1 m2 m3 m4⟩) (fun nf n O e' => by rw [e] at e'; cases e')
      refine br_c (fun _ => A) (fun h0 => ?_)
      exact br_t (Int32.le_trans (Int32.le_of_lt (show (-2 : Int32) < 0 by decide)) (Int32.not_lt.mp h0)) A
    · intro nf n O e pc fu fa fo pn pe pf qk qv qo qp qs qh hO hL
      obtain ⟨b1, b2, b3, b4, b5⟩ := pm_exB B.1 hs e
      have A : (v2 < 0 ∨ nI n ≤ v2) → wpY_parent (fun r' v' => r' = (-3 : Int32) ∧ i_Rel (k + 5) (xds, xcc, xmi, nI nf, pc, nI n, 0, xsc, xou, xtk, xtv, xss, xts, xho, fu, fa, fo, pn, pe, pf, qk, qv, qo, qp, qs, qh, xwo, xsi) v') (yco, ypl, ysz, yus, yof, yre, ysa, ykd, ybh, yln, yhl, yvl, yks, yog, yvs, ypa, ysp, ytd, ywi, yun, ysd, you, yfr, ylf, yva, ysv, ywo, ysi, ywk, yph) (nI s) v2 := by
        intro hz
        unfold wpY_parent
        refine yq_has B C hs (fun e' => by rw [e] at e'; cases e') ?_
        intro nf' n' O' e' ks og vs pa sp td wi un sd ou fr C' yO hsp
        rw [e] at e'
        cases e'
        refine ⟨fun j hj ej => ?_, fun _ => br_t rfl ⟨rfl, rl_mk B C' m1 m2 m3 m4⟩⟩
        rw [ej] at hz
        exact absurd hz (by rw [not_or]; exact ⟨nI_pos (by omega), nI_ge hj (by omega)⟩)
      rcases pk_ix v2 (n := n) (by omega) with h2 | h2 | ⟨j, hj, rfl⟩
      · exact br_t h2 (A (Or.inl h2))
      · refine br_c (fun _ => A (Or.inr h2)) (fun h0 => ?_)
        exact br_t h2 (A (Or.inr h2))
      · refine br_f (nI_pos (by omega)) ?_
        refine br_f (nI_ge hj (by omega)) ⟨pk_in j 2000 (by omega), ?_⟩
        rw [nI_clamp (show j < 2 ^ 31 by omega)]
        unfold wpY_parent
        refine yq_has B C hs (fun e' => by rw [e] at e'; cases e') ?_
        intro nf' n' O' e' ks og vs pa sp td wi un sd ou fr C' yO hsp
        rw [e] at e'
        cases e'
        refine ⟨fun j' hj' ej => br_f (by decide) ?_, fun hz => absurd hz (by rw [not_or]; exact ⟨nI_pos (by omega), nI_ge hj (by omega)⟩)⟩
        dsimp only
        rw [nI_clamp (show j < 2 ^ 31 by omega)]
        obtain ⟨o1, o2, o3⟩ := hO j hj
        obtain ⟨l1, l2, l3⟩ := hL (by omega) j hj
        obtain ⟨z1, z2, z3, z4⟩ := yO j hj
        refine ⟨pk_in j 2001 (by omega), ?_, rl_mk B C' m1 m2 m3 m4⟩
        rw [l3, z4]
theorem i_vc_span {k : Nat} {u : SX} {v : SY} (I : i_Rel k u v) (hk : k + 5 ≤ 2560) (v1 : Int32) (v2 : Int32) : wpX_span (fun r u' => wpY_span (fun r' v' => r' = r ∧ i_Rel (k + 5) u' v') v v1 v2) u v1 v2 := by
  obtain ⟨xds, xcc, xmi, xre, xpc, xpl, xtl, xsc, xou, xtk, xtv, xss, xts, xho, xfu, xfa, xfo, xpn, xpe, xpf, xqk, xqv, xqo, xqp, xqs, xqh, xwo, xsi⟩ := u
  obtain ⟨yco, ypl, ysz, yus, yof, yre, ysa, ykd, ybh, yln, yhl, yvl, yks, yog, yvs, ypa, ysp, ytd, ywi, yun, ysd, you, yfr, ylf, yva, ysv, ywo, ysi, ywk, yph⟩ := v
  obtain ⟨K, V, Hn, Len, nc, DK, DV, dn, B, C, m1, m2, m3, m4⟩ := I
  have HX : (v1 < 0 ∨ nI 4 ≤ v1) → wpY_span (fun r' v' => r' = (-3 : Int32) ∧ i_Rel (k + 5) (xds, xcc, xmi, xre, xpc, xpl, xtl, xsc, xou, xtk, xtv, xss, xts, xho, xfu, xfa, xfo, xpn, xpe, xpf, xqk, xqv, xqo, xqp, xqs, xqh, xwo, xsi) v') (yco, ypl, ysz, yus, yof, yre, ysa, ykd, ybh, yln, yhl, yvl, yks, yog, yvs, ypa, ysp, ytd, ywi, yun, ysd, you, yfr, ylf, yva, ysv, ywo, ysi, ywk, yph) v1 v2 := by
    intro h
    unfold wpY_span
    exact yq_hasX h (br_t rfl ⟨rfl, rl_mk B C m1 m2 m3 m4⟩)
  have HX2 : (v1 < 0 ∨ nI 4 ≤ v1) → wpX_span (fun r u' => wpY_span (fun r' v' => r' = r ∧ i_Rel (k + 5) u' v') (yco, ypl, ysz, yus, yof, yre, ysa, ykd, ybh, yln, yhl, yvl, yks, yog, yvs, ypa, ysp, ytd, ywi, yun, ysd, you, yfr, ylf, yva, ysv, ywo, ysi, ywk, yph) v1 v2) (xds, xcc, xmi, xre, xpc, xpl, xtl, xsc, xou, xtk, xtv, xss, xts, xho, xfu, xfa, xfo, xpn, xpe, xpf, xqk, xqv, xqo, xqp, xqs, xqh, xwo, xsi) v1 v2 := by
    intro h
    unfold wpX_span
    refine xw_expandX h (br_c (fun _ => HX h) (fun h0 => ?_))
    exact br_t (Int32.le_trans (Int32.le_of_lt (show (-3 : Int32) < 0 by decide)) (Int32.not_lt.mp h0)) (HX h)
  rcases pk_ix v1 (n := 4) (by omega) with h | h | ⟨s, hs, rfl⟩
  · exact HX2 (Or.inl h)
  · exact HX2 (Or.inr h)
  · unfold wpX_span
    refine xq B hs ?_ ?_
    · intro e re pc pl tl fu fa fo pn pe pf qk qv qo
      have A : wpY_span (fun r' v' => r' = (-3 : Int32) ∧ i_Rel (k + 5) (xds, xcc, xmi, re, pc, pl, tl, xsc, xou, xtk, xtv, xss, xts, xho, fu, fa, fo, pn, pe, pf, qk, qv, qo, xqp, xqs, xqh, xwo, xsi) v') (yco, ypl, ysz, yus, yof, yre, ysa, ykd, ybh, yln, yhl, yvl, yks, yog, yvs, ypa, ysp, ytd, ywi, yun, ysd, you, yfr, ylf, yva, ysv, ywo, ysi, ywk, yph) (nI s) v2 := by
        unfold wpY_span
        exact yq_has B C hs (fun _ sz us ks og vs pa sp td wi un sd ou fr C' => br_t rfl ⟨rfl, rl_mk B C' m1 m2 m3 m4⟩) (fun nf n O e' => by rw [e] at e'; cases e')
      refine br_c (fun _ => A) (fun h0 => ?_)
      exact br_t (Int32.le_trans (Int32.le_of_lt (show (-2 : Int32) < 0 by decide)) (Int32.not_lt.mp h0)) A
    · intro nf n O e pc fu fa fo pn pe pf qk qv qo qp qs qh hO hL
      obtain ⟨b1, b2, b3, b4, b5⟩ := pm_exB B.1 hs e
      have A : (v2 < 0 ∨ nI n ≤ v2) → wpY_span (fun r' v' => r' = (-3 : Int32) ∧ i_Rel (k + 5) (xds, xcc, xmi, nI nf, pc, nI n, 0, xsc, xou, xtk, xtv, xss, xts, xho, fu, fa, fo, pn, pe, pf, qk, qv, qo, qp, qs, qh, xwo, xsi) v') (yco, ypl, ysz, yus, yof, yre, ysa, ykd, ybh, yln, yhl, yvl, yks, yog, yvs, ypa, ysp, ytd, ywi, yun, ysd, you, yfr, ylf, yva, ysv, ywo, ysi, ywk, yph) (nI s) v2 := by
        intro hz
        unfold wpY_span
        refine yq_has B C hs (fun e' => by rw [e] at e'; cases e') ?_
        intro nf' n' O' e' ks og vs pa sp td wi un sd ou fr C' yO hsp
        rw [e] at e'
        cases e'
        refine ⟨fun j hj ej => ?_, fun _ => br_t rfl ⟨rfl, rl_mk B C' m1 m2 m3 m4⟩⟩
        rw [ej] at hz
        exact absurd hz (by rw [not_or]; exact ⟨nI_pos (by omega), nI_ge hj (by omega)⟩)
      rcases pk_ix v2 (n := n) (by omega) with h2 | h2 | ⟨j, hj, rfl⟩
      · exact br_t h2 (A (Or.inl h2))
      · refine br_c (fun _ => A (Or.inr h2)) (fun h0 => ?_)
        exact br_t h2 (A (Or.inr h2))
      · refine br_f (nI_pos (by omega)) ?_
        refine br_f (nI_ge hj (by omega)) ⟨pk_in j 2000 (by omega), ?_⟩
        rw [nI_clamp (show j < 2 ^ 31 by omega)]
        unfold wpY_span
        refine yq_has B C hs (fun e' => by rw [e] at e'; cases e') ?_
        intro nf' n' O' e' ks og vs pa sp td wi un sd ou fr C' yO hsp
        rw [e] at e'
        cases e'
        refine ⟨fun j' hj' ej => br_f (by decide) ?_, fun hz => absurd hz (by rw [not_or]; exact ⟨nI_pos (by omega), nI_ge hj (by omega)⟩)⟩
        dsimp only
        rw [nI_clamp (show j < 2 ^ 31 by omega)]
        obtain ⟨o1, o2, o3⟩ := hO j hj
        obtain ⟨l1, l2, l3⟩ := hL (by omega) j hj
        obtain ⟨z1, z2, z3, z4⟩ := yO j hj
        refine ⟨pk_in j 2001 (by omega), ?_, rl_mk B C' m1 m2 m3 m4⟩
        rw [l1, hsp j hj]
