variable {xds xcc xmi xre xpc xpl xtl xsc xou : Int32} {xtk xtv xss xts xho xfu xfa xfo xpn xpe xpf xqk xqv xqo xqp xqs xqh xwo xsi : Nat → Int32} {yco ypl ysz yus yof yre ysa : Int32} {ykd ybh yln yhl yvl yks yog yvs ypa ysp ytd ywi yun ysd you yfr ylf yva ysv ywo ysi ywk yph : Nat → Int32}
theorem yo_in {post : Int32 → Prop} {s N : Nat} (hs : s < N) (hN : N < 2 ^ 31) (h : post 0) : wpY_out post (nI s) (nI N) :=
  yw_out N hN (fun _ _ _ => h) (fun z => absurd z (by rw [not_or]; exact ⟨nI_pos (by omega), nI_ge hs hN⟩))
theorem yo_ex {post : Int32 → Prop} {v : Int32} {N : Nat} (hv : v < 0 ∨ nI N ≤ v) (hN : N < 2 ^ 31) (h : post 1) : wpY_out post v (nI N) :=
  yw_out N hN (fun j hj e => by
    rw [e] at hv
    exact absurd hv (by rw [not_or]; exact ⟨nI_pos (by omega), nI_ge hj hN⟩)) (fun _ => h)
theorem yq_size {post : Int32 → SY → Prop} {K : Nat → Nat} {V : Nat → Int32} {Hn Len : Nat → Nat} {nc : Nat} {DK : Nat → Nat} {DV : Nat → Int32} {dn s : Nat}
    (B : rl_B K V Hn Len nc DK DV dn xds xcc xtk xtv xss xts xho yco ykd ybh yln yhl yvl) (C : rl_C K V Hn Len ysz yus yof yks yog yvs ypa ysp) (hs : s < 4)
    (h0 : pm_ex K V Hn Len s = none → ∀ (sz us : Int32) (ks og vs pa sp td wi un sd ou fr : Nat → Int32), rl_C K V Hn Len sz us (nI s) ks og vs pa sp → post (-2) (yco, ypl, sz, us, nI s, yre, ysa, ykd, ybh, yln, yhl, yvl, ks, og, vs, pa, sp, td, wi, un, sd, ou, fr, ylf, yva, ysv, ywo, ysi, ywk, yph))
    (h1 : ∀ nf n O, pm_ex K V Hn Len s = some (nf, n, O) → ∀ (ks og vs pa sp td wi un sd ou fr : Nat → Int32), rl_C K V Hn Len (nI n) (nI nf) (nI s) ks og vs pa sp → post (nI n) (yco, ypl, nI n, nI nf, nI s, yre, ysa, ykd, ybh, yln, yhl, yvl, ks, og, vs, pa, sp, td, wi, un, sd, ou, fr, ylf, yva, ysv, ywo, ysi, ywk, yph)) :
    wpY_size post (yco, ypl, ysz, yus, yof, yre, ysa, ykd, ybh, yln, yhl, yvl, yks, yog, yvs, ypa, ysp, ytd, ywi, yun, ysd, you, yfr, ylf, yva, ysv, ywo, ysi, ywk, yph) (nI s) := by
  unfold wpY_size
  refine yo_in (N := 4) hs (by omega) (br_t rfl ?_)
  refine yq B C hs ?_ ?_
  · intro e sz us ks og vs pa sp td wi un sd ou fr C'
    exact yq_asked B C' hs (fun _ sz us ks og vs pa sp td wi un sd ou fr C'' => h0 e _ _ _ _ _ _ _ _ _ _ _ _ _ C'') (fun nf n O e' => by rw [e] at e'; cases e')
  · intro nf n O e ks og vs pa sp td wi un sd ou fr C' yO hsp
    refine yq_asked B C' hs (fun e' => by rw [e] at e'; cases e') ?_
    intro nf' n' O' e' ks og vs pa sp td wi un sd ou fr C''
    rw [e] at e'
    cases e'
    have A := h1 nf n O e ks og vs pa sp td wi un sd ou fr C''
    by_cases z : n = 0
    · rw [if_pos z]
      subst z
      exact A
    · rw [if_neg z]
      exact A
theorem yq_uses {post : Int32 → SY → Prop} {K : Nat → Nat} {V : Nat → Int32} {Hn Len : Nat → Nat} {nc : Nat} {DK : Nat → Nat} {DV : Nat → Int32} {dn s : Nat}
    (B : rl_B K V Hn Len nc DK DV dn xds xcc xtk xtv xss xts xho yco ykd ybh yln yhl yvl) (C : rl_C K V Hn Len ysz yus yof yks yog yvs ypa ysp) (hs : s < 4)
    (h0 : pm_ex K V Hn Len s = none → ∀ (sz us : Int32) (ks og vs pa sp td wi un sd ou fr : Nat → Int32), rl_C K V Hn Len sz us (nI s) ks og vs pa sp → post (-2) (yco, ypl, sz, us, nI s, yre, ysa, ykd, ybh, yln, yhl, yvl, ks, og, vs, pa, sp, td, wi, un, sd, ou, fr, ylf, yva, ysv, ywo, ysi, ywk, yph))
    (h1 : ∀ nf n O, pm_ex K V Hn Len s = some (nf, n, O) → ∀ (ks og vs pa sp td wi un sd ou fr : Nat → Int32), rl_C K V Hn Len (nI n) (nI nf) (nI s) ks og vs pa sp → post (if n = 0 then 0 else nI nf) (yco, ypl, nI n, nI nf, nI s, yre, ysa, ykd, ybh, yln, yhl, yvl, ks, og, vs, pa, sp, td, wi, un, sd, ou, fr, ylf, yva, ysv, ywo, ysi, ywk, yph)) :
    wpY_uses post (yco, ypl, ysz, yus, yof, yre, ysa, ykd, ybh, yln, yhl, yvl, yks, yog, yvs, ypa, ysp, ytd, ywi, yun, ysd, you, yfr, ylf, yva, ysv, ywo, ysi, ywk, yph) (nI s) := by
  unfold wpY_uses
  refine yo_in (N := 4) hs (by omega) (br_t rfl ?_)
  refine yq B C hs ?_ ?_
  · intro e sz us ks og vs pa sp td wi un sd ou fr C'
    exact yq_asked B C' hs (fun _ sz us ks og vs pa sp td wi un sd ou fr C'' => h0 e _ _ _ _ _ _ _ _ _ _ _ _ _ C'') (fun nf n O e' => by rw [e] at e'; cases e')
  · intro nf n O e ks og vs pa sp td wi un sd ou fr C' yO hsp
    refine yq_asked B C' hs (fun e' => by rw [e] at e'; cases e') ?_
    intro nf' n' O' e' ks og vs pa sp td wi un sd ou fr C''
    rw [e] at e'
    cases e'
    exact h1 nf n O e ks og vs pa sp td wi un sd ou fr C''
theorem i_vc_size {k : Nat} {u : SX} {v : SY} (I : i_Rel k u v) (hk : k + 5 ≤ 2560) (v1 : Int32) : wpX_size (fun r u' => wpY_size (fun r' v' => r' = r ∧ i_Rel (k + 5) u' v') v v1) u v1 := by
  obtain ⟨xds, xcc, xmi, xre, xpc, xpl, xtl, xsc, xou, xtk, xtv, xss, xts, xho, xfu, xfa, xfo, xpn, xpe, xpf, xqk, xqv, xqo, xqp, xqs, xqh, xwo, xsi⟩ := u
  obtain ⟨yco, ypl, ysz, yus, yof, yre, ysa, ykd, ybh, yln, yhl, yvl, yks, yog, yvs, ypa, ysp, ytd, ywi, yun, ysd, you, yfr, ylf, yva, ysv, ywo, ysi, ywk, yph⟩ := v
  obtain ⟨K, V, Hn, Len, nc, DK, DV, dn, B, C, m1, m2, m3, m4⟩ := I
  have HX : (v1 < 0 ∨ nI 4 ≤ v1) → wpY_size (fun r' v' => r' = -3 ∧ i_Rel (k + 5) (xds, xcc, xmi, xre, xpc, xpl, xtl, xsc, xou, xtk, xtv, xss, xts, xho, xfu, xfa, xfo, xpn, xpe, xpf, xqk, xqv, xqo, xqp, xqs, xqh, xwo, xsi) v') (yco, ypl, ysz, yus, yof, yre, ysa, ykd, ybh, yln, yhl, yvl, yks, yog, yvs, ypa, ysp, ytd, ywi, yun, ysd, you, yfr, ylf, yva, ysv, ywo, ysi, ywk, yph) v1 := by
    intro h
    unfold wpY_size
    exact yo_ex (N := 4) h (by omega) (br_f (by decide) ⟨rfl, rl_mk B C m1 m2 m3 m4⟩)
  unfold wpX_size
  rcases pk_ix v1 (n := 4) (by omega) with h | h | ⟨s, hs, rfl⟩
  · exact xw_expandX (Or.inl h) (HX (Or.inl h))
  · exact xw_expandX (Or.inr h) (HX (Or.inr h))
  · refine xq B hs ?_ ?_
    · intro e re pc pl tl fu fa fo pn pe pf qk qv qo
      exact yq_size B C hs (fun _ sz us ks og vs pa sp td wi un sd ou fr C' => ⟨rfl, rl_mk B C' m1 m2 m3 m4⟩) (fun nf n O e' => by rw [e] at e'; cases e')
    · intro nf n O e pc fu fa fo pn pe pf qk qv qo qp qs qh hO hL
      refine yq_size B C hs (fun e' => by rw [e] at e'; cases e') ?_
      intro nf' n' O' e' ks og vs pa sp td wi un sd ou fr C'
      rw [e] at e'
      cases e'
      exact ⟨rfl, rl_mk B C' m1 m2 m3 m4⟩
theorem i_vc_uses {k : Nat} {u : SX} {v : SY} (I : i_Rel k u v) (hk : k + 5 ≤ 2560) (v1 : Int32) : wpX_uses (fun r u' => wpY_uses (fun r' v' => r' = r ∧ i_Rel (k + 5) u' v') v v1) u v1 := by
  obtain ⟨xds, xcc, xmi, xre, xpc, xpl, xtl, xsc, xou, xtk, xtv, xss, xts, xho, xfu, xfa, xfo, xpn, xpe, xpf, xqk, xqv, xqo, xqp, xqs, xqh, xwo, xsi⟩ := u
  obtain ⟨yco, ypl, ysz, yus, yof, yre, ysa, ykd, ybh, yln, yhl, yvl, yks, yog, yvs, ypa, ysp, ytd, ywi, yun, ysd, you, yfr, ylf, yva, ysv, ywo, ysi, ywk, yph⟩ := v
  obtain ⟨K, V, Hn, Len, nc, DK, DV, dn, B, C, m1, m2, m3, m4⟩ := I
  have HX : (v1 < 0 ∨ nI 4 ≤ v1) → wpY_uses (fun r' v' => r' = -3 ∧ i_Rel (k + 5) (xds, xcc, xmi, xre, xpc, xpl, xtl, xsc, xou, xtk, xtv, xss, xts, xho, xfu, xfa, xfo, xpn, xpe, xpf, xqk, xqv, xqo, xqp, xqs, xqh, xwo, xsi) v') (yco, ypl, ysz, yus, yof, yre, ysa, ykd, ybh, yln, yhl, yvl, yks, yog, yvs, ypa, ysp, ytd, ywi, yun, ysd, you, yfr, ylf, yva, ysv, ywo, ysi, ywk, yph) v1 := by
    intro h
    unfold wpY_uses
    exact yo_ex (N := 4) h (by omega) (br_f (by decide) ⟨rfl, rl_mk B C m1 m2 m3 m4⟩)
  unfold wpX_uses
  rcases pk_ix v1 (n := 4) (by omega) with h | h | ⟨s, hs, rfl⟩
  · exact xw_expandX (Or.inl h) (br_t (by decide) (HX (Or.inl h)))
  · exact xw_expandX (Or.inr h) (br_t (by decide) (HX (Or.inr h)))
  · refine xq B hs ?_ ?_
    · intro e re pc pl tl fu fa fo pn pe pf qk qv qo
      exact br_t (by decide) (yq_uses B C hs (fun _ sz us ks og vs pa sp td wi un sd ou fr C' => ⟨rfl, rl_mk B C' m1 m2 m3 m4⟩) (fun nf n O e' => by rw [e] at e'; cases e'))
    · intro nf n O e pc fu fa fo pn pe pf qk qv qo qp qs qh hO hL
      have b2 := (pm_exB B.1 hs e).2.1
      refine pk_le n 0 (fun z => ?_) (fun z => ?_)
      · refine yq_uses B C hs (fun e' => by rw [e] at e'; cases e') ?_
        intro nf' n' O' e' ks og vs pa sp td wi un sd ou fr C'
        rw [e] at e'
        cases e'
        have z0 : n = 0 := by omega
        refine ⟨?_, rl_mk B C' m1 m2 m3 m4⟩
        rw [if_pos z0, z0]
        rfl
      · refine yq_uses B C hs (fun e' => by rw [e] at e'; cases e') ?_
        intro nf' n' O' e' ks og vs pa sp td wi un sd ou fr C'
        rw [e] at e'
        cases e'
        refine ⟨?_, rl_mk B C' m1 m2 m3 m4⟩
        rw [if_neg (by omega)]
