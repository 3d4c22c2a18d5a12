variable {xds xcc xmi xre xpc xpl xtl xsc xou : Int32} {xtk xtv xss xts xho xfu xfa xfo xpn xpe xpf xqk xqv xqo xqp xqs xqh xwo xsi : Nat → Int32} {yco ypl ysz yus yof yre ysa : Int32} {ykd ybh yln yhl yvl yks yog yvs ypa ysp ytd ywi yun ysd you yfr ylf yva ysv ywo ysi ywk yph : Nat → Int32}
theorem yw_51 {post : Int32 → SY → Prop} {a b c : Int32} (h : ∀ va : Nat → Int32, (∀ v, v < 4110 → va v = ev_E0 a b c v) → ∃ n123, wY_run_123 post n123 1 0 yco ypl ysz yus yof 0 0 ykd ybh yln yhl yvl yks yog yvs ypa ysp ytd ywi yun ysd you yfr ylf va ysv ywo ysi (upd ywk 0 0) (upd yph 0 0)) :
    ∀ (m k : Nat) (va : Nat → Int32), k ≤ 4110 → 4110 < m + k → (∀ v, v < k → va v = ev_E0 a b c v) → wY_run_51 post a b c yco ypl ysz yus yof 0 0 m (nI k) ykd ybh yln yhl yvl yks yog yvs ypa ysp ytd ywi yun ysd you yfr ylf va ysv ywo ysi ywk yph := by
  intro m
  induction m with
  | zero => intro k va h1 h2; omega
  | succ m ih =>
    intro k va h1 h2 L
    refine pk_le 4110 k (fun z => ?_) (fun z => ?_)
    · rw [nu_n0, show vp_nar .short 0 = (0 : Int32) from nu_v16 (n := 0) (by omega)]
      exact nm_e (nm_e (h va (fun v hv => L v (by omega))))
    · have i1 : vp_in (nI k) 4110 := pk_in k 4110 z
      rw [nI_clamp (show k < 2 ^ 31 by omega)]
      have N : ∀ z0 : Int32, z0 = ev_E0 a b c k → (vp_in (nI k) 4110 ∧ ∀ va', va' = upd va k z0 → ∀ x, x = nI k + 1 → wY_run_51 post a b c yco ypl ysz yus yof 0 0 m x ykd ybh yln yhl yvl yks yog yvs ypa ysp ytd ywi yun ysd you yfr ylf va' ysv ywo ysi ywk yph) := by
        intro z0 ez
        refine ⟨i1, nm_e (nm_r (nI_1 k) (ih (k+1) _ (by omega) (by omega) ?_))⟩
        intro v hv
        by_cases e : v = k
        · subst e
          rw [pk_us]; exact ez
        · rw [pk_un e]
          exact L v (by omega)
      unfold ev_E0 at N
      refine pk_eq k 0 (fun e => N _ (by rw [if_pos e])) (fun n0 => pk_eq k 1 (fun e => N _ (by rw [if_neg n0, if_pos e])) (fun n1 => pk_eq k 2 (fun e => N _ (by rw [if_neg n0, if_neg n1, if_pos e])) (fun n2 => N _ (by rw [if_neg n0, if_neg n1, if_neg n2]))))
theorem yq_run {post : Int32 → SY → Prop} {K : Nat → Nat} {V : Nat → Int32} {Hn Len : Nat → Nat} {nc : Nat} {DK : Nat → Nat} {DV : Nat → Int32} {dn s : Nat} {a b c : Int32}
    (B : rl_B K V Hn Len nc DK DV dn xds xcc xtk xtv xss xts xho yco ykd ybh yln yhl yvl) (C : rl_C K V Hn Len ysz yus yof yks yog yvs ypa ysp) (hs : s < 4)
    (he : Len (6+s) = 0 → post (-3) (yco, ypl, ysz, yus, yof, yre, ysa, ykd, ybh, yln, yhl, yvl, yks, yog, yvs, ypa, ysp, ytd, ywi, yun, ysd, you, yfr, ylf, yva, ysv, ywo, ysi, ywk, yph))
    (h0 : pm_ex K V Hn Len s = none → ∀ (sz us : Int32) (ks og vs pa sp td wi un sd ou fr : Nat → Int32), rl_C K V Hn Len sz us (nI s) ks og vs pa sp → post (-2) (yco, ypl, sz, us, nI s, 0, 0, ykd, ybh, yln, yhl, yvl, ks, og, vs, pa, sp, td, wi, un, sd, ou, fr, ylf, yva, ysv, ywo, ysi, ywk, yph))
    (h1 : ∀ nf n O, Len (6+s) ≠ 0 → pm_ex K V Hn Len s = some (nf, n, O) → ∀ (ks og vs pa sp td wi un sd ou fr va sv wo wk ph : Nat → Int32), rl_C K V Hn Len (nI n) (nI nf) (nI s) ks og vs pa sp →
      post 0 (yco, ypl, nI n, nI nf, nI s, (ev_go O 2000 0 (ev_E0 a b c) (0, ysi)).1, nI (ev_go O 2000 0 (ev_E0 a b c) (0, ysi)).2.1, ykd, ybh, yln, yhl, yvl, ks, og, vs, pa, sp, td, wi, un, sd, ou, fr, ylf, va, sv, wo, (ev_go O 2000 0 (ev_E0 a b c) (0, ysi)).2.2, wk, ph)) :
    wpY_run post (yco, ypl, ysz, yus, yof, yre, ysa, ykd, ybh, yln, yhl, yvl, yks, yog, yvs, ypa, ysp, ytd, ywi, yun, ysd, you, yfr, ylf, yva, ysv, ywo, ysi, ywk, yph) (nI s) a b c := by
  have B' := B
  obtain ⟨w, D, e1, e2, T, d1, s1, t1, hh1, e3, T2, d2, l10, l, h2⟩ := B
  have hr : tx_row nc (6+s) := Or.inr ⟨by omega, by omega⟩
  have hl24 := (w.2 (6+s) hr).1
  unfold wpY_run
  refine yo_in (N := 4) hs (by omega) (br_t rfl ?_)
  rw [show (6 : Int32) + nI s = nI (6+s) from nI_add 6 s, nI_clamp (show 6 + s < 2 ^ 31 by omega), l (6+s) (by omega)]
  refine ⟨pk_in (6+s) 11 (by omega), pk_eq (Len (6+s)) 0 he (fun hl => ?_)⟩
  refine yq B' C hs ?_ ?_
  · intro e sz us ks og vs pa sp td wi un sd ou fr C'
    exact br_t rfl (h0 e _ _ _ _ _ _ _ _ _ _ _ _ _ C')
  · intro nf n O e ks og vs pa sp td wi un sd ou fr C' yO hsp
    obtain ⟨b1, b2, b3, b4, b5⟩ := pm_exB w hs e
    have G := b4 hl
    have n0 := tr_n0 G
    have h3 := G.1
    obtain ⟨sp1, sp2, sp3, sp4⟩ := tr_spE G n0
    refine br_f (by decide) ⟨4111, yw_51 ?_ 4111 0 _ (by omega) (by omega) (fun v hv => by omega)⟩
    intro va hva
    have A : yr_A n O ks vs sp := ⟨G, fun m hm => ⟨(yO m hm).1, (yO m hm).2.1⟩, hsp⟩
    refine ⟨1 + 3 * tr_sp (pm_ar O) 0, yw_sim A 2000 0 (ev_E0 a b c) va _ _ _ _ (0, ysi) 1 0 0 n0 (by omega) hva (Nat.le_refl _) (Nat.le_refl _) (Nat.le_refl _) pk_us pk_us ?_ _ (Nat.le_refl _)⟩
    intro sv wo wk ph m x1 x2 x3 x4 x5
    obtain ⟨m, rfl⟩ : ∃ m', m = m' + 1 := ⟨m - 1, by omega⟩
    refine br_t (by decide) (nm_r x3 ?_)
    exact h1 nf n O hl e _ _ _ _ _ _ _ _ _ _ _ _ _ _ _ _ C'
theorem nu_nm {n : Nat} (h : n < 2 ^ 31) {x : Int32} (hx : x < 0) : ¬ nI n = x := fun e => by
  rw [← e] at hx
  exact nI_pos h hx
theorem i_vc_run {k : Nat} {u : SX} {v : SY} (I : i_Rel k u v) (hk : k + 5 ≤ 2560) (v1 : Int32) (v2 : Int32) (v3 : Int32) (v4 : Int32) : wpX_run (fun r u' => wpY_run (fun r' v' => r' = r ∧ i_Rel (k + 5) u' v') v v1 v2 v3 v4) u v1 v2 v3 v4 := by
  obtain ⟨xds, xcc, xmi, xre, xpc, xpl, xtl, xsc, xou, xtk, xtv, xss, xts, xho, xfu, xfa, xfo, xpn, xpe, xpf, xqk, xqv, xqo, xqp, xqs, xqh, xwo, xsi⟩ := u
  obtain ⟨yco, ypl, ysz, yus, yof, yre, ysa, ykd, ybh, yln, yhl, yvl, yks, yog, yvs, ypa, ysp, ytd, ywi, yun, ysd, you, yfr, ylf, yva, ysv, ywo, ysi, ywk, yph⟩ := v
  obtain ⟨K, V, Hn, Len, nc, DK, DV, dn, B, C, m1, m2, m3, m4⟩ := I
  have HX : (v1 < 0 ∨ nI 4 ≤ v1) → wpY_run (fun r' v' => r' = -3 ∧ i_Rel (k + 5) (xds, xcc, xmi, xre, xpc, xpl, xtl, xsc, xou, xtk, xtv, xss, xts, xho, xfu, xfa, xfo, xpn, xpe, xpf, xqk, xqv, xqo, xqp, xqs, xqh, xwo, xsi) v') (yco, ypl, ysz, yus, yof, yre, ysa, ykd, ybh, yln, yhl, yvl, yks, yog, yvs, ypa, ysp, ytd, ywi, yun, ysd, you, yfr, ylf, yva, ysv, ywo, ysi, ywk, yph) v1 v2 v3 v4 := by
    intro h
    unfold wpY_run
    exact yo_ex (N := 4) h (by omega) (br_f (by decide) ⟨rfl, rl_mk B C m1 m2 m3 m4⟩)
  unfold wpX_run
  rcases pk_ix v1 (n := 4) (by omega) with h | h | ⟨s, hs, rfl⟩
  · exact xw_expandX (Or.inl h) (br_f (by decide) (br_t rfl (HX (Or.inl h))))
  · exact xw_expandX (Or.inr h) (br_f (by decide) (br_t rfl (HX (Or.inr h))))
  · refine xq B hs ?_ ?_
    · intro e re pc pl tl fu fa fo pn pe pf qk qv qo
      refine br_f (by decide) (br_f (by decide) (br_t rfl ?_))
      refine yq_run B C hs (fun hl => ?_) (fun _ sz us ks og vs pa sp td wi un sd ou fr C' => ⟨rfl, rl_mk B C' m1 rfl rfl m4⟩) (fun nf n O _ e' => by rw [e] at e'; cases e')
      rw [pm_ex0 hl] at e
      cases e
    · intro nf n O e pc fu fa fo pn pe pf qk qv qo qp qs qh hO hL
      obtain ⟨b1, b2, b3, b4, b5⟩ := pm_exB B.1 hs e
      refine pk_eq n 0 (fun z => ?_) (fun z => ?_)
      · refine yq_run B C hs (fun hl => ⟨rfl, rl_mk B C m1 m2 m3 m4⟩) (fun e' => by rw [e] at e'; cases e') ?_
        intro nf' n' O' hl e'
        have := tr_n0 (b4 hl)
        omega
      · have G := b5 (by omega)
        refine br_f (nu_nm (by omega) (by decide)) (br_f (nu_nm (by omega) (by decide)) ?_)
        have hH := B.2.2.2.2.2.2.2.2.1
        refine xw_workOut (E := ev_E0 v2 v3 v4) ⟨G, hO, hL (by omega)⟩ hH (fun _ _ => rfl) ?_
        intro W hW
        refine nm_r hW ?_
        refine yq_run B C hs (fun hl => ?_) (fun e' => by rw [e] at e'; cases e') ?_
        · have := (b3 hl).1
          omega
        · intro nf' n' O' hl e' ks og vs pa sp td wi un sd ou fr va sv wo wk ph C'
          rw [e] at e'
          cases e'
          subst m4
          exact ⟨rfl, rl_mk B C' m1 rfl rfl rfl⟩
