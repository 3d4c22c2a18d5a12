variable {xds xcc xmi xre xpc xpl xtl xsc xou : Int32} {xtk xtv xss xts xho xfu xfa xfo xpn xpe xpf xqk xqv xqo xqp xqs xqh xwo xsi : Nat → Int32} {yco ypl ysz yus yof yre ysa : Int32} {ykd ybh yln yhl yvl yks yog yvs ypa ysp ytd ywi yun ysd you yfr ylf yva ysv ywo ysi ywk yph : Nat → Int32}
def rl_B (K : Nat → Nat) (V : Nat → Int32) (Hn Len : Nat → Nat) (nc : Nat) (DK : Nat → Nat) (DV : Nat → Int32) (dn : Nat) (xds xcc : Int32) (xtk xtv xss xts xho : Nat → Int32) (yco : Int32) (ykd ybh yln yhl yvl : Nat → Int32) : Prop :=
  tx_WF K V Hn Len nc ∧ dr_D DK DV dn ∧ xds = nI dn ∧ xcc = nI nc ∧ xs_T K V Len nc xtk xtv ∧ (∀ i, i < dn → xtk (96 + i) = nI (DK i) ∧ xtv (96 + i) = DV i) ∧
  (∀ c, c < 4 → xss c = nI (Len (6+c))) ∧ (∀ c, c < 6 → xts c = nI (Len c)) ∧ (∀ c, c < 6 → xho c = nI (Hn c)) ∧
  yco = nI nc ∧ ys_T K V Hn Len nc ykd ybh yvl ∧ (∀ i, i < dn → ykd (240 + i) = nI (DK i) ∧ (tx_hv (DK i) → yvl (240 + i) = DV i)) ∧ yln 10 = nI dn ∧ (∀ c, c < 10 → yln c = nI (Len c)) ∧ (∀ c, c < 6 → yhl c = nI (Hn c))
def rl_C (K : Nat → Nat) (V : Nat → Int32) (Hn Len : Nat → Nat) (ysz yus yof : Int32) (yks yog yvs ypa ysp : Nat → Int32) : Prop :=
  ∀ s, s < 4 → yof = nI s → yc_C (pm_ex K V Hn Len s) ysz yus yks yog yvs ypa ysp
def rl_R (K : Nat → Nat) (V : Nat → Int32) (Hn Len : Nat → Nat) (nc : Nat) (DK : Nat → Nat) (DV : Nat → Int32) (dn : Nat) (u : SX) (v : SY) : Prop :=
  match u, v with
  | (xds, xcc, xmi, xre, xpc, xpl, xtl, xsc, xou, xtk, xtv, xss, xts, xho, xfu, xfa, xfo, xpn, xpe, xpf, xqk, xqv, xqo, xqp, xqs, xqh, xwo, xsi), (yco, ypl, ysz, yus, yof, yre, ysa, ykd, ybh, yln, yhl, yvl, yks, yog, yvs, ypa, ysp, ytd, ywi, yun, ysd, you, yfr, ylf, yva, ysv, ywo, ysi, ywk, yph) => rl_B K V Hn Len nc DK DV dn xds xcc xtk xtv xss xts xho yco ykd ybh yln yhl yvl ∧ rl_C K V Hn Len ysz yus yof yks yog yvs ypa ysp ∧ xmi = ypl ∧ xsc = ysa ∧ xou = yre ∧ xsi = ysi
def i_Rel (k : Nat) (u : SX) (v : SY) : Prop := ∃ K V Hn Len nc DK DV dn, rl_R K V Hn Len nc DK DV dn u v
theorem i_up {k : Nat} {u : SX} {v : SY} (h : i_Rel k u v) : i_Rel (k + 5) u v := h
theorem rl_mk {k : Nat} {K : Nat → Nat} {V : Nat → Int32} {Hn Len : Nat → Nat} {nc : Nat} {DK : Nat → Nat} {DV : Nat → Int32} {dn : Nat}
    (B : rl_B K V Hn Len nc DK DV dn xds xcc xtk xtv xss xts xho yco ykd ybh yln yhl yvl) (C : rl_C K V Hn Len ysz yus yof yks yog yvs ypa ysp) (e1 : xmi = ypl) (e2 : xsc = ysa) (e3 : xou = yre) (e4 : xsi = ysi) : i_Rel k (xds, xcc, xmi, xre, xpc, xpl, xtl, xsc, xou, xtk, xtv, xss, xts, xho, xfu, xfa, xfo, xpn, xpe, xpf, xqk, xqv, xqo, xqp, xqs, xqh, xwo, xsi) (yco, ypl, ysz, yus, yof, yre, ysa, ykd, ybh, yln, yhl, yvl, yks, yog, yvs, ypa, ysp, ytd, ywi, yun, ysd, you, yfr, ylf, yva, ysv, ywo, ysi, ywk, yph) :=
  ⟨K, V, Hn, Len, nc, DK, DV, dn, B, C, e1, e2, e3, e4⟩
theorem rl_C1 {K : Nat → Nat} {V : Nat → Int32} {Hn Len : Nat → Nat} {s : Nat} (hs : s < 4) (h : yc_C (pm_ex K V Hn Len s) ysz yus yks yog yvs ypa ysp) : rl_C K V Hn Len ysz yus (nI s) yks yog yvs ypa ysp := by
  intro s' hs' e
  have : s = s' := (nI_eq (by omega) (by omega)).mp e
  subst this
  exact h
theorem rl_Cm {K : Nat → Nat} {V : Nat → Int32} {Hn Len : Nat → Nat} : rl_C K V Hn Len ysz yus (-1) yks yog yvs ypa ysp := by
  intro s' hs' e
  have h1 : (nI s').toInt = s' := nI_toInt (by omega)
  rw [← e] at h1
  have h2 : ((-1 : Int32)).toInt = -1 := by decide
  omega
theorem i_vc0 : wpX_init (fun u => wpY_init (fun v => i_Rel 0 u v)) := by
  refine rl_mk (k := 0) (K := fun _ => 0) (V := fun _ => 0) (Hn := fun _ => 0) (Len := fun _ => 0) (nc := 0) (DK := fun _ => 0) (DV := fun _ => 0) (dn := 0) ?_ rl_Cm rfl rfl rfl rfl
  refine ⟨⟨by omega, ?_⟩, ⟨by omega, fun i hi => by omega⟩, rfl, rfl, ?_, fun i hi => by omega, fun c _ => rfl, fun c _ => rfl, fun c _ => rfl, rfl, ?_, fun i hi => by omega, rfl, fun c _ => rfl, fun c _ => rfl⟩
  · intro r hr
    have h6 : 6 ≤ r := by
      unfold tx_row at hr
      omega
    exact ⟨Nat.zero_le _, fun z => by omega, fun z => absurd z (Nat.lt_irrefl 0), fun i h1 h2 => absurd h2 (Nat.not_lt.mpr h1)⟩
  · intro r hr j hj
    exact absurd hj (Nat.not_lt_zero j)
  · intro r hr i h1 h2
    exact absurd h2 (Nat.not_lt.mpr h1)
/-! the two expansions, over the relation's parts -/
theorem xq {post : Int32 → SX → Prop} {K : Nat → Nat} {V : Nat → Int32} {Hn Len : Nat → Nat} {nc : Nat} {DK : Nat → Nat} {DV : Nat → Int32} {dn s : Nat}
    (B : rl_B K V Hn Len nc DK DV dn xds xcc xtk xtv xss xts xho yco ykd ybh yln yhl yvl) (hs : s < 4)
    (hN : pm_ex K V Hn Len s = none → ∀ (re pc pl tl : Int32) (fu fa fo pn pe pf qk qv qo : Nat → Int32), post (-2) (xds, xcc, xmi, re, pc, pl, tl, xsc, xou, xtk, xtv, xss, xts, xho, fu, fa, fo, pn, pe, pf, qk, qv, qo, xqp, xqs, xqh, xwo, xsi))
    (hE : ∀ nf n O, pm_ex K V Hn Len s = some (nf, n, O) → ∀ (pc : Int32) (fu fa fo pn pe pf qk qv qo qp qs qh : Nat → Int32), xs_O n O qk qv qo → (0 < n → xl_R n O qp qs qh) → post (nI n) (xds, xcc, xmi, nI nf, pc, nI n, 0, xsc, xou, xtk, xtv, xss, xts, xho, fu, fa, fo, pn, pe, pf, qk, qv, qo, qp, qs, qh, xwo, xsi)) :
    wpX_expand post (xds, xcc, xmi, xre, xpc, xpl, xtl, xsc, xou, xtk, xtv, xss, xts, xho, xfu, xfa, xfo, xpn, xpe, xpf, xqk, xqv, xqo, xqp, xqs, xqh, xwo, xsi) (nI s) := by
  obtain ⟨w, D, e1, e2, T, d1, s1, t1, h1, rest⟩ := B
  exact xw_expand w T h1 t1 s1 hs hN hE
theorem yq {post : Int32 → SY → Prop} {K : Nat → Nat} {V : Nat → Int32} {Hn Len : Nat → Nat} {nc : Nat} {DK : Nat → Nat} {DV : Nat → Int32} {dn s : Nat}
    (B : rl_B K V Hn Len nc DK DV dn xds xcc xtk xtv xss xts xho yco ykd ybh yln yhl yvl) (C : rl_C K V Hn Len ysz yus yof yks yog yvs ypa ysp) (hs : s < 4)
    (h0 : pm_ex K V Hn Len s = none → ∀ (sz us : Int32) (ks og vs pa sp td wi un sd ou fr : Nat → Int32), rl_C K V Hn Len sz us (nI s) ks og vs pa sp → post 0 (yco, ypl, sz, us, nI s, yre, ysa, ykd, ybh, yln, yhl, yvl, ks, og, vs, pa, sp, td, wi, un, sd, ou, fr, ylf, yva, ysv, ywo, ysi, ywk, yph))
    (h1 : ∀ nf n O, pm_ex K V Hn Len s = some (nf, n, O) → ∀ (ks og vs pa sp td wi un sd ou fr : Nat → Int32), rl_C K V Hn Len (nI n) (nI nf) (nI s) ks og vs pa sp → ys_O n O ks vs og pa → (∀ i, i < n → sp i = nI (tr_sp (pm_ar O) i)) → post 1 (yco, ypl, nI n, nI nf, nI s, yre, ysa, ykd, ybh, yln, yhl, yvl, ks, og, vs, pa, sp, td, wi, un, sd, ou, fr, ylf, yva, ysv, ywo, ysi, ywk, yph)) :
    wpY_expanded post (yco, ypl, ysz, yus, yof, yre, ysa, ykd, ybh, yln, yhl, yvl, yks, yog, yvs, ypa, ysp, ytd, ywi, yun, ysd, you, yfr, ylf, yva, ysv, ywo, ysi, ywk, yph) (nI s) := by
  obtain ⟨w, D, e1, e2, T, d1, s1, t1, hh1, e3, T2, d2, l10, l, h2⟩ := B
  refine yw_expanded w T2 h2 (fun c hc => l (6+c) (by omega)) hs (fun e => C s hs e) ?_ ?_
  · intro e sz us ks og vs pa td wi un sd ou fr hz
    refine h0 e sz us ks og vs pa ysp td wi un sd ou fr (rl_C1 hs ⟨fun _ => hz, fun nf n O e' => ?_⟩)
    rw [e] at e'
    cases e'
  · intro nf n O e ks og vs pa sp td wi un sd ou fr hO hsp
    refine h1 nf n O e ks og vs pa sp td wi un sd ou fr (rl_C1 hs ⟨fun e' => ?_, fun nf' n' O' e' => ?_⟩) hO hsp
    · rw [e] at e'
      cases e'
    · rw [e] at e'
      cases e'
      exact ⟨rfl, rfl, hO, hsp⟩
theorem yq_asked {post : Int32 → SY → Prop} {K : Nat → Nat} {V : Nat → Int32} {Hn Len : Nat → Nat} {nc : Nat} {DK : Nat → Nat} {DV : Nat → Int32} {dn s : Nat} {x : Int32}
    (B : rl_B K V Hn Len nc DK DV dn xds xcc xtk xtv xss xts xho yco ykd ybh yln yhl yvl) (C : rl_C K V Hn Len ysz yus yof yks yog yvs ypa ysp) (hs : s < 4)
    (h0 : pm_ex K V Hn Len s = none → ∀ (sz us : Int32) (ks og vs pa sp td wi un sd ou fr : Nat → Int32), rl_C K V Hn Len sz us (nI s) ks og vs pa sp → post (-2) (yco, ypl, sz, us, nI s, yre, ysa, ykd, ybh, yln, yhl, yvl, ks, og, vs, pa, sp, td, wi, un, sd, ou, fr, ylf, yva, ysv, ywo, ysi, ywk, yph))
    (h1 : ∀ nf n O, pm_ex K V Hn Len s = some (nf, n, O) → ∀ (ks og vs pa sp td wi un sd ou fr : Nat → Int32), rl_C K V Hn Len (nI n) (nI nf) (nI s) ks og vs pa sp → post (if n = 0 then 0 else x) (yco, ypl, nI n, nI nf, nI s, yre, ysa, ykd, ybh, yln, yhl, yvl, ks, og, vs, pa, sp, td, wi, un, sd, ou, fr, ylf, yva, ysv, ywo, ysi, ywk, yph)) :
    wpY_asked post (yco, ypl, ysz, yus, yof, yre, ysa, ykd, ybh, yln, yhl, yvl, yks, yog, yvs, ypa, ysp, ytd, ywi, yun, ysd, you, yfr, ylf, yva, ysv, ywo, ysi, ywk, yph) (nI s) x := by
  have B' := B
  obtain ⟨w, D, e1, e2, T, d1, s1, t1, hh1, e3, T2, d2, l10, l, h2⟩ := B
  have hr : tx_row nc (6+s) := Or.inr ⟨by omega, by omega⟩
  have hl24 := (w.2 (6+s) hr).1
  unfold wpY_asked
  refine yq B' C hs ?_ ?_
  · intro e sz us ks og vs pa sp td wi un sd ou fr C'
    dsimp only
    rw [show (6 : Int32) + nI s = nI (6+s) from nI_add 6 s, nI_clamp (show 6 + s < 2 ^ 31 by omega), l (6+s) (by omega)]
    refine ⟨pk_in (6+s) 11 (by omega), pk_eq (Len (6+s)) 0 (fun hl => ?_) (fun hl => br_t rfl (h0 e _ _ _ _ _ _ _ _ _ _ _ _ _ C'))⟩
    rw [pm_ex0 hl] at e
    cases e
  · intro nf n O e ks og vs pa sp td wi un sd ou fr C' hO hsp
    obtain ⟨b1, b2, b3, b4, b5⟩ := pm_exB w hs e
    have A := h1 nf n O e ks og vs pa sp td wi un sd ou fr C'
    dsimp only
    rw [show (6 : Int32) + nI s = nI (6+s) from nI_add 6 s, nI_clamp (show 6 + s < 2 ^ 31 by omega), l (6+s) (by omega)]
    refine ⟨pk_in (6+s) 11 (by omega), pk_eq (Len (6+s)) 0 (fun hl => ?_) (fun hl => br_f (by decide) ?_)⟩
    · rw [if_pos (b3 hl).1] at A
      exact A
    · have := tr_n0 (b4 hl)
      rw [if_neg (by omega)] at A
      exact A
