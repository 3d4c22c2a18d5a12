variable {xds xcc xmi xre xpc xpl xtl xsc xou : Int32} {xtk xtv xss xts xho xfu xfa xfo xpn xpe xpf xqk xqv xqo xqp xqs xqh xwo xsi : Nat → Int32} {yco ypl ysz yus yof yre ysa : Int32} {ykd ybh yln yhl yvl yks yog yvs ypa ysp ytd ywi yun ysd you yfr ylf yva ysv ywo ysi ywk yph : Nat → Int32}
theorem i_vc_place {k : Nat} {u : SX} {v : SY} (I : i_Rel k u v) (hk : k + 5 ≤ 2560) : wpX_place (fun r => wpY_place (fun r' => r' = r ∧ i_Rel (k + 5) u v) v) u := by
  obtain ⟨xds, xcc, xmi, xre, xpc, xpl, xtl, xsc, xou, xtk, xtv, xss, xts, xho, xfu, xfa, xfo, xpn, xpe, xpf, xqk, xqv, xqo, xqp, xqs, xqh, xwo, xsi⟩ := u
  obtain ⟨yco, ypl, ysz, yus, yof, yre, ysa, ykd, ybh, yln, yhl, yvl, yks, yog, yvs, ypa, ysp, ytd, ywi, yun, ysd, you, yfr, ylf, yva, ysv, ywo, ysi, ywk, yph⟩ := v
  have I' := I
  obtain ⟨K, V, Hn, Len, nc, DK, DV, dn, B, C, m1, m2, m3, m4⟩ := I
  exact ⟨m1.symm, I'⟩
theorem i_vc_result {k : Nat} {u : SX} {v : SY} (I : i_Rel k u v) (hk : k + 5 ≤ 2560) : wpX_result (fun r => wpY_result (fun r' => r' = r ∧ i_Rel (k + 5) u v) v) u := by
  obtain ⟨xds, xcc, xmi, xre, xpc, xpl, xtl, xsc, xou, xtk, xtv, xss, xts, xho, xfu, xfa, xfo, xpn, xpe, xpf, xqk, xqv, xqo, xqp, xqs, xqh, xwo, xsi⟩ := u
  obtain ⟨yco, ypl, ysz, yus, yof, yre, ysa, ykd, ybh, yln, yhl, yvl, yks, yog, yvs, ypa, ysp, ytd, ywi, yun, ysd, you, yfr, ylf, yva, ysv, ywo, ysi, ywk, yph⟩ := v
  have I' := I
  obtain ⟨K, V, Hn, Len, nc, DK, DV, dn, B, C, m1, m2, m3, m4⟩ := I
  exact ⟨m3.symm, I'⟩
theorem i_vc_says {k : Nat} {u : SX} {v : SY} (I : i_Rel k u v) (hk : k + 5 ≤ 2560) : wpX_says (fun r => wpY_says (fun r' => r' = r ∧ i_Rel (k + 5) u v) v) u := by
  obtain ⟨xds, xcc, xmi, xre, xpc, xpl, xtl, xsc, xou, xtk, xtv, xss, xts, xho, xfu, xfa, xfo, xpn, xpe, xpf, xqk, xqv, xqo, xqp, xqs, xqh, xwo, xsi⟩ := u
  obtain ⟨yco, ypl, ysz, yus, yof, yre, ysa, ykd, ybh, yln, yhl, yvl, yks, yog, yvs, ypa, ysp, ytd, ywi, yun, ysd, you, yfr, ylf, yva, ysv, ywo, ysi, ywk, yph⟩ := v
  have I' := I
  obtain ⟨K, V, Hn, Len, nc, DK, DV, dn, B, C, m1, m2, m3, m4⟩ := I
  exact ⟨m2.symm, I'⟩
theorem i_vc_said {k : Nat} {u : SX} {v : SY} (I : i_Rel k u v) (hk : k + 5 ≤ 2560) (v1 : Int32) : wpX_said (fun r => wpY_said (fun r' => r' = r ∧ i_Rel (k + 5) u v) v v1) u v1 := by
  obtain ⟨xds, xcc, xmi, xre, xpc, xpl, xtl, xsc, xou, xtk, xtv, xss, xts, xho, xfu, xfa, xfo, xpn, xpe, xpf, xqk, xqv, xqo, xqp, xqs, xqh, xwo, xsi⟩ := u
  obtain ⟨yco, ypl, ysz, yus, yof, yre, ysa, ykd, ybh, yln, yhl, yvl, yks, yog, yvs, ypa, ysp, ytd, ywi, yun, ysd, you, yfr, ylf, yva, ysv, ywo, ysi, ywk, yph⟩ := v
  have I' := I
  obtain ⟨K, V, Hn, Len, nc, DK, DV, dn, B, C, m1, m2, m3, m4⟩ := I
  have HX : (v1 < 0 ∨ nI 20 ≤ v1) → wpY_said (fun r' => r' = 0 ∧ i_Rel (k + 5) (xds, xcc, xmi, xre, xpc, xpl, xtl, xsc, xou, xtk, xtv, xss, xts, xho, xfu, xfa, xfo, xpn, xpe, xpf, xqk, xqv, xqo, xqp, xqs, xqh, xwo, xsi) (yco, ypl, ysz, yus, yof, yre, ysa, ykd, ybh, yln, yhl, yvl, yks, yog, yvs, ypa, ysp, ytd, ywi, yun, ysd, you, yfr, ylf, yva, ysv, ywo, ysi, ywk, yph)) (yco, ypl, ysz, yus, yof, yre, ysa, ykd, ybh, yln, yhl, yvl, yks, yog, yvs, ypa, ysp, ytd, ywi, yun, ysd, you, yfr, ylf, yva, ysv, ywo, ysi, ywk, yph) v1 := by
    intro h
    unfold wpY_said
    exact yo_ex (N := 20) h (by omega) (br_f (by decide) ⟨rfl, I'⟩)
  unfold wpX_said
  rcases pk_ix v1 (n := 20) (by omega) with h | h | ⟨s, hs, rfl⟩
  · exact br_t h (HX (Or.inl h))
  · exact br_c (fun _ => HX (Or.inr h)) (fun _ => br_t h (HX (Or.inr h)))
  · refine br_f (nI_pos (by omega)) (pk_le 20 s (fun z => by omega) (fun _ => ?_))
    subst m2 m4
    unfold wpY_said
    refine br_c (fun h => ?_) (fun h => ⟨pk_in s 20 hs, ?_⟩)
    · exact yo_in (N := 20) hs (by omega) (br_t rfl (br_f (Int32.not_lt.mpr h) ⟨rfl, I'⟩))
    · exact yo_in (N := 20) hs (by omega) (br_t rfl (br_t (Int32.not_le.mp h) ⟨pk_in s 20 hs, rfl, I'⟩))
/-! token -/
def tk_ok (k : Nat) (v : Int32) : Prop := (k ≤ 10 ∨ 16 ≤ k) ∧ ((k = 1 ∨ k = 7) → ¬ v < -2 ∧ ¬ 9 < v) ∧ (k = 9 → ¬ v < 0 ∧ ¬ 3 ≤ v)
theorem tk_var {v : Int32} (h1 : ¬ v < -2) (h2 : ¬ 9 < v) : (∃ w, w < 10 ∧ v = nI w) ∨ v = -1 ∨ v = -2 := by
  by_cases h0 : v < 0
  · rw [Int32.lt_iff_toInt_lt] at h0 h1
    have e0 : (0 : Int32).toInt = 0 := by decide
    have e2 : ((-2 : Int32)).toInt = -2 := by decide
    have e1 : ((-1 : Int32)).toInt = -1 := by decide
    have : v.toInt = -1 ∨ v.toInt = -2 := by omega
    rcases this with h | h
    · exact Or.inr (Or.inl (Int32.toInt_inj.mp (by omega)))
    · exact Or.inr (Or.inr (Int32.toInt_inj.mp (by omega)))
  · obtain ⟨j, hj, rfl⟩ := nI_of h0
    refine Or.inl ⟨j, ?_, rfl⟩
    rw [show (9 : Int32) = nI 9 from rfl, nI_ltI (by omega) hj] at h2
    omega
theorem tk_hole {v : Int32} (h1 : ¬ v < 0) (h2 : ¬ 3 ≤ v) : ∃ w, w < 3 ∧ v = nI w := by
  obtain ⟨j, hj, rfl⟩ := nI_of h1
  refine ⟨j, ?_, rfl⟩
  rw [show (3 : Int32) = nI 3 from rfl, nI_leI (by omega) hj] at h2
  omega
theorem xw_isToken {post : Int32 → Prop} {k : Nat} {v : Int32} (hk : k < 22) (h1 : tk_ok k v → post 1) (h0 : ¬ tk_ok k v → post 0) : wpX_isToken post (nI k) v := by
  have H : (k = 1 ∨ k = 7) → wX_isToken_11 post v := by
    intro e
    unfold wX_isToken_11
    exact br_c (fun a => h0 (fun z => (z.2.1 e).1 a)) (fun a => br_c (fun b => h0 (fun z => (z.2.1 e).2 b)) (fun b => h1 ⟨by omega, fun _ => ⟨a, b⟩, fun y => by omega⟩))
  unfold wpX_isToken
  refine pk_eq k 1 (fun e => H (Or.inl e)) (fun n1 => pk_eq k 7 (fun e => H (Or.inr e)) (fun n7 => pk_eq k 9 (fun e => ?_) (fun n9 => ?_)))
  · exact br_c (fun a => h0 (fun z => (z.2.2 e).1 a)) (fun a => br_c (fun b => h0 (fun z => (z.2.2 e).2 b)) (fun b => h1 ⟨by omega, fun y => by omega, fun _ => ⟨a, b⟩⟩))
  · refine br_f (nI_pos (by omega)) (pk_le k 10 (fun e => h1 ⟨by omega, fun y => by omega, fun y => by omega⟩) (fun e => ?_))
    unfold wX_isToken_60
    refine xw_isUse (by omega) (fun a _ => br_f (by decide) (h1 ⟨by omega, fun y => by omega, fun y => by omega⟩)) (fun a => br_t rfl (h0 (fun z => ?_)))
    have := z.1
    omega
theorem xw_isTokenX {post : Int32 → Prop} {v1 v : Int32} (hv : v1 < 0 ∨ nI 22 ≤ v1) (h0 : post 0) : wpX_isToken post v1 v := by
  have n1 : ∀ a : Int32, ¬ a < 0 → ¬ nI 22 ≤ a → ¬ v1 = a := by
    intro a a1 a2 e
    rw [e] at hv
    rcases hv with h | h
    · exact a1 h
    · exact a2 h
  have H : wX_isToken_60 post v1 := by
    unfold wX_isToken_60 wpX_isUse
    rcases hv with h | h
    · exact br_t (Int32.lt_trans h (by decide)) (br_t rfl h0)
    · exact br_c (fun _ => br_t rfl h0) (fun _ => br_t h (br_t rfl h0))
  unfold wpX_isToken
  refine br_f (n1 1 (by decide) (by decide)) (br_f (n1 7 (by decide) (by decide)) (br_f (n1 9 (by decide) (by decide)) (br_c (fun _ => H) (fun h => br_f ?_ H))))
  rcases hv with h' | h'
  · exact absurd h' h
  · exact Int32.not_le.mpr (Int32.lt_of_lt_of_le (show (10 : Int32) < nI 22 by decide) h')
theorem xw_hasValue {post : Int32 → Prop} {k : Nat} (hk : k < 22) (h1 : tx_hv k → post 1) (h0 : ¬ tx_hv k → post 0) : wpX_hasValue post (nI k) := by
  unfold tx_hv at h1 h0
  unfold wpX_hasValue
  refine pk_eq k 0 (fun e => h1 (by omega)) (fun n0 => pk_eq k 1 (fun e => h1 (by omega)) (fun n1 => pk_eq k 7 (fun e => h1 (by omega)) (fun n7 => pk_eq k 9 (fun e => h1 (by omega)) (fun n9 => ?_))))
  exact xw_isUse (by omega) (fun a _ => br_f (by decide) (h1 (by omega))) (fun a => br_t rfl (h0 (by omega)))
theorem yw_token {post : Int32 → SY → Prop} {k : Nat} {v : Int32} (hk : k < 22) (h1 : tk_ok k v → wY_token_64 post (nI k) v yco ypl ysz yus yof yre ysa ykd ybh yln yhl yvl yks yog yvs ypa ysp ytd ywi yun ysd you yfr ylf yva ysv ywo ysi ywk yph) (h0 : ¬ tk_ok k v → post (-3) (yco, ypl, ysz, yus, yof, yre, ysa, ykd, ybh, yln, yhl, yvl, yks, yog, yvs, ypa, ysp, ytd, ywi, yun, ysd, you, yfr, ylf, yva, ysv, ywo, ysi, ywk, yph)) : wpY_token post (yco, ypl, ysz, yus, yof, yre, ysa, ykd, ybh, yln, yhl, yvl, yks, yog, yvs, ypa, ysp, ytd, ywi, yun, ysd, you, yfr, ylf, yva, ysv, ywo, ysi, ywk, yph) (nI k) v := by
  have H47 : (k ≤ 10 ∨ 16 ≤ k) → ((k = 1 ∨ k = 7) → ¬ v < -2 ∧ ¬ 9 < v) → wY_token_47 post (nI k) v yco ypl ysz yus yof yre ysa ykd ybh yln yhl yvl yks yog yvs ypa ysp ytd ywi yun ysd you yfr ylf yva ysv ywo ysi ywk yph := by
    intro a1 a2
    unfold wY_token_47
    refine pk_eq k 9 (fun e => ?_) (fun e => h1 ⟨a1, a2, fun y => absurd y e⟩)
    refine yw_out 3 (by omega) (fun j hj ej => br_t rfl (h1 ⟨a1, a2, fun _ => ?_⟩)) (fun hz => br_f (by decide) (h0 (fun z => ?_)))
    · rw [ej]
      exact ⟨nI_pos (by omega), nI_ge (b := 3) hj (by omega)⟩
    · have := z.2.2 e
      rcases hz with y | y
      · exact this.1 y
      · exact this.2 y
  have H24 : (k ≤ 10 ∨ 16 ≤ k) → wY_token_24 post (nI k) v yco ypl ysz yus yof yre ysa ykd ybh yln yhl yvl yks yog yvs ypa ysp ytd ywi yun ysd you yfr ylf yva ysv ywo ysi ywk yph := by
    intro a1
    have H35 : (k = 1 ∨ k = 7) → wY_token_35 post (nI k) v yco ypl ysz yus yof yre ysa ykd ybh yln yhl yvl yks yog yvs ypa ysp ytd ywi yun ysd you yfr ylf yva ysv ywo ysi ywk yph := by
      intro e
      unfold wY_token_35
      exact br_c (fun a => h0 (fun z => (z.2.1 e).1 a)) (fun a => br_c (fun b => h0 (fun z => (z.2.1 e).2 b)) (fun b => H47 a1 (fun _ => ⟨a, b⟩)))
    unfold wY_token_24
    exact pk_eq k 1 (fun e => H35 (Or.inl e)) (fun n1 => pk_eq k 7 (fun e => H35 (Or.inr e)) (fun n7 => H47 a1 (fun y => by omega)))
  unfold wpY_token
  refine yo_in (N := 22) hk (by omega) (br_t rfl (pk_le k 10 (fun e => H24 (Or.inl e)) (fun e => pk_le 16 k (fun y => H24 (Or.inr y)) (fun y => h0 (fun z => ?_)))))
  have := z.1
  omega
theorem rl_token {K : Nat → Nat} {V : Nat → Int32} {Hn Len : Nat → Nat} {nc : Nat} {DK : Nat → Nat} {DV : Nat → Int32} {dn k : Nat} {v z : Int32}
    (B : rl_B K V Hn Len nc DK DV dn xds xcc xtk xtv xss xts xho yco ykd ybh yln yhl yvl) (hk : k < 22) (hd : dn < 24) (h : tk_ok k v) (hz1 : tx_hv k → z = v) (hz0 : ¬ tx_hv k → z = 0) :
    rl_B K V Hn Len nc (pm_fu DK dn k) (pm_fu DV dn z) (dn+1) (nI (dn+1)) xcc (upd xtk (96 + dn) (nI k)) (upd xtv (96 + dn) z) xss xts xho yco (upd ykd (240 + dn) (nI k)) ybh (upd yln 10 (nI (dn+1))) yhl (upd yvl (240 + dn) v) := by
  obtain ⟨w, D, e1, e2, T, d1, s1, t1, hh1, e3, T2, d2, l10, l, h2⟩ := B
  have w0 := w.1
  refine ⟨w, ⟨by omega, ?_⟩, rfl, e2, ?_, ?_, s1, t1, hh1, e3, ?_, ?_, pk_us, ?_, h2⟩
  · intro i hi
    by_cases e : i = dn
    · subst e
      rw [pm_fs, pm_fs]
      obtain ⟨k1, k2, k3⟩ := h
      refine ⟨by omega, fun h9 => ?_, fun h17 => ?_, fun hv => hz0 ?_⟩
      · rw [hz1 (by unfold tx_hv; omega)]
        exact tk_hole (k3 h9).1 (k3 h9).2
      · rw [hz1 (by unfold tx_hv; omega)]
        exact tk_var (k2 h17).1 (k2 h17).2
      · unfold tx_hv
        omega
    · rw [pm_fn e, pm_fn e]
      exact D.2 i (by omega)
  · intro r hr j hj
    have l24 := (w.2 r hr).1
    have hne : xs_b r + j ≠ 96 + dn := by
      unfold tx_row at hr
      unfold xs_b
      split <;> omega
    rw [pk_un hne, pk_un hne]
    exact T r hr j hj
  · intro i hi
    by_cases e : i = dn
    · subst e
      rw [pm_fs, pm_fs, pk_us, pk_us]
      exact ⟨rfl, rfl⟩
    · rw [pm_fn e, pm_fn e, pk_un (by omega), pk_un (by omega)]
      exact d1 i (by omega)
  · intro r hr i h1 h2
    have l24 := (w.2 r hr).1
    have hne : i ≠ 240 + dn := by
      unfold tx_row at hr
      omega
    rw [pk_un hne, pk_un hne]
    exact T2 r hr i h1 h2
  · intro i hi
    by_cases e : i = dn
    · subst e
      rw [pm_fs, pm_fs, pk_us, pk_us]
      exact ⟨rfl, fun y => (hz1 y).symm⟩
    · rw [pm_fn e, pm_fn e, pk_un (by omega), pk_un (by omega)]
      exact d2 i (by omega)
  · intro c hc
    rw [pk_un (by omega)]
    exact l c hc
theorem i_vc_token {k : Nat} {u : SX} {v : SY} (I : i_Rel k u v) (hk : k + 5 ≤ 2560) (v1 : Int32) (v2 : Int32) : wpX_token (fun r u' => wpY_token (fun r' v' => r' = r ∧ i_Rel (k + 5) u' v') v v1 v2) u v1 v2 := by
  obtain ⟨xds, xcc, xmi, xre, xpc, xpl, xtl, xsc, xou, xtk, xtv, xss, xts, xho, xfu, xfa, xfo, xpn, xpe, xpf, xqk, xqv, xqo, xqp, xqs, xqh, xwo, xsi⟩ := u
  obtain ⟨yco, ypl, ysz, yus, yof, yre, ysa, ykd, ybh, yln, yhl, yvl, yks, yog, yvs, ypa, ysp, ytd, ywi, yun, ysd, you, yfr, ylf, yva, ysv, ywo, ysi, ywk, yph⟩ := v
  obtain ⟨K, V, Hn, Len, nc, DK, DV, dn, B, C, m1, m2, m3, m4⟩ := I
  rcases pk_ix v1 (n := 22) (by omega) with h | h | ⟨kd, hkd, rfl⟩
  · unfold wpX_token
    refine xw_isTokenX (Or.inl h) (br_t rfl ?_)
    unfold wpY_token
    exact yo_ex (N := 22) (Or.inl h) (by omega) (br_f (by decide) ⟨rfl, rl_mk B C m1 m2 m3 m4⟩)
  · unfold wpX_token
    refine xw_isTokenX (Or.inr h) (br_t rfl ?_)
    unfold wpY_token
    exact yo_ex (N := 22) (Or.inr h) (by omega) (br_f (by decide) ⟨rfl, rl_mk B C m1 m2 m3 m4⟩)
  · have B' := B
    obtain ⟨w, D, e1, e2, T, d1, s1, t1, hh1, e3, T2, d2, l10, l, h2⟩ := B
    subst e1
    have D1 := D.1
    unfold wpX_token
    refine xw_isToken hkd (fun ok => br_f (by decide) ?_) (fun nok => br_t rfl ?_)
    · refine pk_lt dn 24 (fun hd => ?_) (fun hd => ?_)
      · rw [show (96 : Int32) + nI dn = nI (96 + dn) from nI_add 96 dn, nI_clamp (show 96 + dn < 2 ^ 31 by omega)]
        refine ⟨pk_in (96 + dn) 192 (by omega), nm_e ?_⟩
        have N : ∀ z : Int32, (tx_hv kd → z = v2) → (¬ tx_hv kd → z = 0) → wX_token_59 (fun r u' => wpY_token (fun r' v' => r' = r ∧ i_Rel (k + 5) u' v') (yco, ypl, ysz, yus, yof, yre, ysa, ykd, ybh, yln, yhl, yvl, yks, yog, yvs, ypa, ysp, ytd, ywi, yun, ysd, you, yfr, ylf, yva, ysv, ywo, ysi, ywk, yph) (nI kd) v2) z (nI (96 + dn)) (nI dn) xcc xmi xre xpc xpl xtl xsc xou (upd xtk (96 + dn) (nI kd)) xtv xss xts xho xfu xfa xfo xpn xpe xpf xqk xqv xqo xqp xqs xqh xwo xsi := by
          intro z hz1 hz0
          unfold wX_token_59
          rw [nI_clamp (show 96 + dn < 2 ^ 31 by omega)]
          refine ⟨pk_in (96 + dn) 192 (by omega), nm_e (nm_r (nI_1 dn) ?_)⟩
          refine yw_token hkd (fun _ => ?_) (fun nok => absurd ok nok)
          unfold wY_token_64
          rw [l10]
          refine pk_eq dn 24 (fun y => by omega) (fun _ => ?_)
          rw [show (240 : Int32) + nI dn = nI (240 + dn) from nI_add 240 dn, nI_clamp (show 240 + dn < 2 ^ 31 by omega), nu_8 (show kd < 128 by omega), nu_v8 (show kd < 128 by omega), nI_1, nu_8 (show dn + 1 < 128 by omega), nu_v8 (show dn + 1 < 128 by omega)]
          refine ⟨pk_in (240 + dn) 264 (by omega), nm_e (nm_e ⟨pk_in (240 + dn) 264 (by omega), nm_e ⟨pk_us, ?_⟩⟩)⟩
          exact rl_mk (rl_token B' hkd hd ok hz1 hz0) C m1 m2 m3 m4
        exact xw_hasValue hkd (fun hv => br_f (by decide) (N _ (fun _ => rfl) (fun y => absurd hv y))) (fun hv => br_t rfl (N _ (fun y => absurd y hv) (fun _ => rfl)))
      · have e24 : dn = 24 := by omega
        refine yw_token hkd (fun _ => ?_) (fun nok => absurd ok nok)
        unfold wY_token_64
        rw [l10]
        exact pk_eq dn 24 (fun y => ⟨rfl, rl_mk B' C m1 m2 m3 m4⟩) (fun y => absurd e24 y)
    · exact yw_token hkd (fun ok => absurd ok nok) (fun _ => ⟨rfl, rl_mk B' C m1 m2 m3 m4⟩)
