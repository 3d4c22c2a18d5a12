variable {xds xcc xmi xre xpc xpl xtl xsc xou : Int32} {xtk xtv xss xts xho xfu xfa xfo xpn xpe xpf xqk xqv xqo xqp xqs xqh xwo xsi : Nat → Int32} {yco ypl ysz yus yof yre ysa : Int32} {ykd ybh yln yhl yvl yks yog yvs ypa ysp ytd ywi yun ysd you yfr ylf yva ysv ywo ysi ywk yph : Nat → Int32}
theorem dr_22 {DK : Nat → Nat} {DV : Nat → Int32} {dn : Nat} (D : dr_D DK DV dn) : ∀ i, i < dn → DK i < 22 := by
  intro i hi
  have := (D.2 i hi).1
  omega
theorem dr_a3 {K : Nat → Nat} {V : Nat → Int32} {Hn Len : Nat → Nat} {nc k : Nat} (w : tx_WF K V Hn Len nc) (h : 16 ≤ k → k - 16 < nc) : tx_a Hn k ≤ 3 := by
  by_cases e : 16 ≤ k
  · rw [tx_aU _ e]
    have w0 := w.1
    have := h e
    exact ((w.2 (k - 16) (Or.inl this)).2.1 (by omega)).2.2
  · exact tx_a3 _ (by omega)
theorem rl_empty {K : Nat → Nat} {V : Nat → Int32} {Hn Len : Nat → Nat} {nc : Nat} {DK : Nat → Nat} {DV : Nat → Int32} {dn : Nat}
    (B : rl_B K V Hn Len nc DK DV dn xds xcc xtk xtv xss xts xho yco ykd ybh yln yhl yvl) : rl_B K V Hn Len nc DK DV 0 0 xcc xtk xtv xss xts xho yco ykd ybh (upd yln 10 0) yhl yvl := by
  obtain ⟨w, D, e1, e2, T, d1, s1, t1, hh1, e3, T2, d2, l10, l, h2⟩ := B
  exact ⟨w, ⟨by omega, fun i hi => by omega⟩, rfl, e2, T, fun i hi => by omega, s1, t1, hh1, e3, T2, fun i hi => by omega, pk_us, fun c hc => by rw [pk_un (by omega)]; exact l c hc, h2⟩
theorem nu_n0 : vp_nar .byte 0 = (0 : Int32) := nu_v8 (n := 0) (by omega)
theorem i_vc_define {k : Nat} {u : SX} {v : SY} (I : i_Rel k u v) (hk : k + 5 ≤ 2560) (v1 : Int32) : wpX_define (fun r u' => wpY_define (fun r' v' => r' = r ∧ i_Rel (k + 5) u' v') v v1) u v1 := by
  obtain ⟨xds, xcc, xmi, xre, xpc, xpl, xtl, xsc, xou, xtk, xtv, xss, xts, xho, xfu, xfa, xfo, xpn, xpe, xpf, xqk, xqv, xqo, xqp, xqs, xqh, xwo, xsi⟩ := u
  obtain ⟨yco, ypl, ysz, yus, yof, yre, ysa, ykd, ybh, yln, yhl, yvl, yks, yog, yvs, ypa, ysp, ytd, ywi, yun, ysd, you, yfr, ylf, yva, ysv, ywo, ysi, ywk, yph⟩ := v
  obtain ⟨K, V, Hn, Len, nc, DK, DV, dn, B, C, m1, m2, m3, m4⟩ := I
  have B' := B
  obtain ⟨w, D, e1, e2, T, d1, s1, t1, hh1, e3, T2, d2, l10, l, h2⟩ := B
  subst e1 e2 e3
  have w0 := w.1
  have HX : (v1 < 0 ∨ nI 4 ≤ v1) → wpY_define (fun r' v' => r' = -3 ∧ i_Rel (k + 5) (nI dn, nI nc, xmi, xre, xpc, xpl, xtl, xsc, xou, xtk, xtv, xss, xts, xho, xfu, xfa, xfo, xpn, xpe, xpf, xqk, xqv, xqo, xqp, xqs, xqh, xwo, xsi) v') (nI nc, ypl, ysz, yus, yof, yre, ysa, ykd, ybh, yln, yhl, yvl, yks, yog, yvs, ypa, ysp, ytd, ywi, yun, ysd, you, yfr, ylf, yva, ysv, ywo, ysi, ywk, yph) v1 := by
    intro h
    unfold wpY_define
    exact yo_ex (N := 4) h (by omega) (br_f (by decide) ⟨rfl, rl_mk B' C m1 m2 m3 m4⟩)
  unfold wpX_define
  rcases pk_ix v1 (n := 4) (by omega) with h | h | ⟨hh, hh4, rfl⟩
  · exact br_t h (HX (Or.inl h))
  · have h8 : ¬ v1 ≤ 3 := Int32.not_le.mpr (Int32.lt_of_lt_of_le (show (3 : Int32) < nI 4 by decide) h)
    exact br_c (fun _ => HX (Or.inr h)) (fun _ => br_f h8 (HX (Or.inr h)))
  · refine br_f (nI_pos (by omega)) (pk_le hh 3 (fun _ => ?_) (fun z => by omega))
    refine pk_lt nc 6 (fun hnc => ?_) (fun hnc => ?_)
    · unfold wpX_faultOfDraft
      have hd24 := D.1
      have h22 := dr_22 D
      have h3 : ∀ i, i < dn → dr_bT DK DV nc hh i = true → tx_a Hn (DK i) ≤ 3 := fun i hi y => dr_a3 w (of_decide_eq_true y).2.2
      refine ⟨dn + 1, xw_fault (DK := DK) (fit := dr_bT DK DV nc hh) hd24 hh1 h22 (fun i hi => (d1 i hi).1) h3 ?_ (dn+1) dn 0 1 (by omega) (by omega) (by omega) ?_⟩
      · intro j p hj q1 q0
        exact br_f (by decide) (xw_fitsT (by omega) (h22 j hj) w0 (d1 j hj).1 (d1 j hj).2 q1 q0)
      have Yc : ∀ (post : Int32 → Prop), post (ft_i (fd_go (dr_bT DK DV nc hh) (fun i => tx_a Hn (DK i)) dn dn 0 1)) → wpY_check post (nI nc, ypl, ysz, yus, yof, yre, ysa, ykd, ybh, yln, yhl, yvl, yks, yog, yvs, ypa, ysp, ytd, ywi, yun, ysd, you, yfr, ylf, yva, ysv, ywo, ysi, ywk, yph) (nI hh) := by
        intro post hp
        unfold wpY_check
        refine ⟨dn + 1, yw_check (DK := DK) (fit := dr_bT DK DV nc hh) hd24 h2 h22 (fun i hi => (d2 i hi).1) l10 h3 ?_ (dn+1) dn 0 1 (by omega) (by omega) (by omega) hp⟩
        intro j p hj q1 q0
        exact yw_fitsT (by omega) (h22 j hj) (by have := (D.2 j hj).1; omega) w0 hh4 (d2 j hj).1 (d2 j hj).2 q1 q0
      cases eR : fd_go (dr_bT DK DV nc hh) (fun i => tx_a Hn (DK i)) dn dn 0 1 with
      | none =>
        obtain ⟨w', dn0, dn12⟩ := tx_defined w hnc (by omega) D eR
        have g1 := (fd_ok _ _ _ _ _ _ eR).1
        have g2 : ∀ i, i < dn → 16 ≤ DK i → DK i - 16 < nc := fun i hi => (of_decide_eq_true ((fd_ok _ _ _ _ _ _ eR).2 i (by omega) (by omega))).2.2
        have eb : xs_b nc = 120 + nc * 12 := by
          unfold xs_b
          rw [if_pos hnc]; omega
        refine br_t (by show (-1 : Int32) < 0; decide) ?_
        rw [nI_clamp (show nc < 2 ^ 31 by omega), show (120 : Int32) + nI nc * 12 = nI (xs_b nc) from by rw [eb, show nI nc * (12 : Int32) = nI (nc * 12) from pk_mul nc 12]; exact nI_add 120 (nc * 12)]
        refine ⟨pk_in nc 6 hnc, nm_e ⟨pk_in nc 6 hnc, nm_e ?_⟩⟩
        refine xw_move hd24 (by omega) ?_
        intro tk tv f1 f2
        refine nm_r (nI_1 nc) ?_
        unfold wpY_define
        refine yo_in (N := 4) hh4 (by omega) (br_t rfl (pk_eq nc 6 (fun z => by omega) (fun _ => Yc _ ?_)))
        rw [eR]
        refine br_t (by show (-1 : Int32) < 0; decide) ?_
        refine yw_store (DK := DK) (Hn := Hn) hd24 (by omega) h2 h22 (fun i hi => (d2 i hi).1) l10 (fun _ => g1) ?_
        intro kd bh vl y1 y2
        dsimp only
        rw [nI_clamp (show nc < 2 ^ 31 by omega), nu_8 (show hh < 128 by omega), nu_v8 (show hh < 128 by omega)]
        refine ⟨pk_in nc 6 hnc, nm_e (nm_r (nI_1 nc) ⟨rfl, ?_⟩)⟩
        refine rl_mk (K := tx_cp K DK nc dn) (V := tx_cp V DV nc dn) (Hn := pm_fu Hn nc hh) (Len := pm_fu Len nc dn) (nc := nc+1) (DK := DK) (DV := DV) (dn := 0) ⟨w', ⟨by omega, fun i hi => by omega⟩, rfl, rfl, ?_, fun i hi => by omega, ?_, ?_, ?_, rfl, ?_, fun i hi => by omega, pk_us, ?_, ?_⟩ rl_Cm rfl m2 m3 m4
        · exact rl_rowX w T (by omega) hd24 (fun _ => dn12) (fun r hr hne => by unfold tx_row at hr ⊢; omega) d1 f1 f2
        · intro c hc
          rw [pm_fn (by omega)]
          exact s1 c hc
        · intro c hc
          by_cases e : c = nc
          · subst e
            rw [pk_us, pm_fs]
          · rw [pk_un e, pm_fn e]
            exact t1 c hc
        · intro c hc
          by_cases e : c = nc
          · subst e
            rw [pk_us, pm_fs]
          · rw [pk_un e, pm_fn e]
            exact hh1 c hc
        · refine rl_rowY w T2 (by omega) hd24 (fun r hr hne => by unfold tx_row at hr ⊢; omega) (fun i hi => (d2 i hi).2) (fun _ => g1) ?_ ?_ y1 y2
          · intro j hj
            by_cases e : 16 ≤ DK j
            · have := g2 j hj e
              rw [tx_aU _ e, tx_aU _ e, pm_fn (by omega)]
            · exact tx_aI _ _ (by omega)
          · intro r i hp
            by_cases e : 16 ≤ K i
            · have := (tx_useRow w hp e).1
              rw [tx_aU _ e, tx_aU _ e, pm_fn (by omega)]
            · exact tx_aI _ _ (by omega)
        · intro c hc
          rw [pk_un (by omega)]
          by_cases e : c = nc
          · subst e
            rw [pk_us, pm_fs]
          · rw [pk_un e, pm_fn e]
            exact l c hc
        · intro c hc
          by_cases e : c = nc
          · subst e
            rw [pk_us, pm_fs]
          · rw [pk_un e, pm_fn e]
            exact h2 c hc
      | some r =>
        have hr := fd_le _ _ _ _ _ _ _ (by omega) eR
        refine br_f (nI_pos (by omega)) ?_
        unfold wpY_define
        refine yo_in (N := 4) hh4 (by omega) (br_t rfl (pk_eq nc 6 (fun z => by omega) (fun _ => Yc _ ?_)))
        rw [eR]
        refine br_f (nI_pos (by omega)) ?_
        rw [nu_n0]
        exact nm_e ⟨rfl, rl_mk (rl_empty B') C rfl m2 m3 m4⟩
    · unfold wpY_define
      exact yo_in (N := 4) hh4 (by omega) (br_t rfl (pk_eq nc 6 (fun _ => ⟨rfl, rl_mk B' C m1 m2 m3 m4⟩) (fun z => by omega)))
theorem i_vc_source {k : Nat} {u : SX} {v : SY} (I : i_Rel k u v) (hk : k + 5 ≤ 2560) (v1 : Int32) : wpX_source (fun r u' => wpY_source (fun r' v' => r' = r ∧ i_Rel (k + 5) u' v') v v1) u v1 := by
  obtain ⟨xds, xcc, xmi, xre, xpc, xpl, xtl, xsc, xou, xtk, xtv, xss, xts, xho, xfu, xfa, xfo, xpn, xpe, xpf, xqk, xqv, xqo, xqp, xqs, xqh, xwo, xsi⟩ := u
  obtain ⟨yco, ypl, ysz, yus, yof, yre, ysa, ykd, ybh, yln, yhl, yvl, yks, yog, yvs, ypa, ysp, ytd, ywi, yun, ysd, you, yfr, ylf, yva, ysv, ywo, ysi, ywk, yph⟩ := v
  obtain ⟨K, V, Hn, Len, nc, DK, DV, dn, B, C, m1, m2, m3, m4⟩ := I
  have B' := B
  obtain ⟨w, D, e1, e2, T, d1, s1, t1, hh1, e3, T2, d2, l10, l, h2⟩ := B
  subst e1 e2 e3
  have w0 := w.1
  have HX : (v1 < 0 ∨ nI 4 ≤ v1) → wpY_source (fun r' v' => r' = -3 ∧ i_Rel (k + 5) (nI dn, nI nc, xmi, xre, xpc, xpl, xtl, xsc, xou, xtk, xtv, xss, xts, xho, xfu, xfa, xfo, xpn, xpe, xpf, xqk, xqv, xqo, xqp, xqs, xqh, xwo, xsi) v') (nI nc, ypl, ysz, yus, yof, yre, ysa, ykd, ybh, yln, yhl, yvl, yks, yog, yvs, ypa, ysp, ytd, ywi, yun, ysd, you, yfr, ylf, yva, ysv, ywo, ysi, ywk, yph) v1 := by
    intro h
    unfold wpY_source
    exact yo_ex (N := 4) h (by omega) (br_f (by decide) ⟨rfl, rl_mk B' C m1 m2 m3 m4⟩)
  unfold wpX_source wpX_isSource
  rcases pk_ix v1 (n := 4) (by omega) with h | h | ⟨s, hs, rfl⟩
  · exact br_t h (br_t rfl (HX (Or.inl h)))
  · exact br_c (fun _ => br_t rfl (HX (Or.inr h))) (fun _ => br_t h (br_t rfl (HX (Or.inr h))))
  · refine br_f (nI_pos (by omega)) (pk_le 4 s (fun z => by omega) (fun _ => br_f (by decide) ?_))
    have hd24 := D.1
    have h22 := dr_22 D
    have h3 : ∀ i, i < dn → dr_bS DK DV nc i = true → tx_a Hn (DK i) ≤ 3 := fun i hi y => dr_a3 w (of_decide_eq_true y).2.2.2
    -- what both do with a draft that is a source
    have OKX : ∀ (z : Int32), z = -1 → (dn = 0 ∨ fd_go (dr_bS DK DV nc) (fun i => tx_a Hn (DK i)) dn dn 0 1 = none) →
        (∀ (post : Int32 → SY → Prop), wY_source_31 post (nI s) (-1) (nI nc) ypl ysz yus yof yre ysa ykd ybh yln yhl yvl yks yog yvs ypa ysp ytd ywi yun ysd you yfr ylf yva ysv ywo ysi ywk yph → wpY_source post (nI nc, ypl, ysz, yus, yof, yre, ysa, ykd, ybh, yln, yhl, yvl, yks, yog, yvs, ypa, ysp, ytd, ywi, yun, ysd, you, yfr, ylf, yva, ysv, ywo, ysi, ywk, yph) (nI s)) →
        wX_source_28 (fun r u' => wpY_source (fun r' v' => r' = r ∧ i_Rel (k + 5) u' v') (nI nc, ypl, ysz, yus, yof, yre, ysa, ykd, ybh, yln, yhl, yvl, yks, yog, yvs, ypa, ysp, ytd, ywi, yun, ysd, you, yfr, ylf, yva, ysv, ywo, ysi, ywk, yph) (nI s)) (nI s) z (nI dn) (nI nc) xmi xre xpc xpl xtl xsc xou xtk xtv xss xts xho xfu xfa xfo xpn xpe xpf xqk xqv xqo xqp xqs xqh xwo xsi := by
      intro z ez hg hY
      subst ez
      have g1 : 0 < dn → gx_ok (fun i => tx_a Hn (DK i)) dn 1 0 := by
        intro h0
        rcases hg with h | h
        · omega
        · exact (fd_ok _ _ _ _ _ _ h).1
      unfold wX_source_28
      refine br_t (by decide) ?_
      rw [nI_clamp (show s < 2 ^ 31 by omega), show nI s * (24 : Int32) = nI (xs_b (6+s)) from by rw [xs_b6, Nat.mul_comm]; exact pk_mul s 24]
      refine ⟨pk_in s 4 hs, nm_e ?_⟩
      refine xw_move hd24 (by rw [xs_b6]; omega) ?_
      intro tk tv f1 f2
      refine hY _ ?_
      unfold wY_source_31
      refine br_t (by decide) ?_
      rw [show (6 : Int32) + nI s = nI (6+s) from nI_add 6 s]
      refine yw_store (DK := DK) (Hn := Hn) hd24 (by omega) h2 h22 (fun i hi => (d2 i hi).1) l10 g1 ?_
      intro kd bh vl y1 y2
      refine ⟨rfl, ?_⟩
      refine rl_mk (K := tx_cp K DK (6+s) dn) (V := tx_cp V DV (6+s) dn) (Hn := Hn) (Len := pm_fu Len (6+s) dn) (nc := nc) (DK := DK) (DV := DV) (dn := 0) ⟨tx_sourced w hs D hg, ⟨by omega, fun i hi => by omega⟩, rfl, rfl, ?_, fun i hi => by omega, ?_, ?_, hh1, rfl, ?_, fun i hi => by omega, pk_us, ?_, h2⟩ rl_Cm rfl m2 m3 m4
      · exact rl_rowX w T (by omega) hd24 (fun z => by omega) (fun r hr hne => hr) d1 f1 f2
      · intro c hc
        by_cases e : c = s
        · subst e
          rw [pk_us, pm_fs]
        · rw [pk_un e, pm_fn (by omega)]
          exact s1 c hc
      · intro c hc
        rw [pm_fn (by omega)]
        exact t1 c hc
      · exact rl_rowY w T2 (by omega) hd24 (fun r hr hne => hr) (fun i hi => (d2 i hi).2) g1 (fun j hj => rfl) (fun r i hp => rfl) y1 y2
      · intro c hc
        rw [pk_un (by omega)]
        by_cases e : c = 6 + s
        · subst e
          rw [pk_us, pm_fs]
        · rw [pk_un e, pm_fn e]
          exact l c hc
    have hYin : ∀ (post : Int32 → SY → Prop), ((dn = 0 → wY_source_31 post (nI s) (-1) (nI nc) ypl ysz yus yof yre ysa ykd ybh yln yhl yvl yks yog yvs ypa ysp ytd ywi yun ysd you yfr ylf yva ysv ywo ysi ywk yph) ∧ (dn ≠ 0 → wpY_check (fun r_4 => wY_source_31 post (nI s) r_4 (nI nc) ypl ysz yus yof yre ysa ykd ybh yln yhl yvl yks yog yvs ypa ysp ytd ywi yun ysd you yfr ylf yva ysv ywo ysi ywk yph) (nI nc, ypl, ysz, yus, yof, yre, ysa, ykd, ybh, yln, yhl, yvl, yks, yog, yvs, ypa, ysp, ytd, ywi, yun, ysd, you, yfr, ylf, yva, ysv, ywo, ysi, ywk, yph) (-1))) → wpY_source post (nI nc, ypl, ysz, yus, yof, yre, ysa, ykd, ybh, yln, yhl, yvl, yks, yog, yvs, ypa, ysp, ytd, ywi, yun, ysd, you, yfr, ylf, yva, ysv, ywo, ysi, ywk, yph) (nI s) := by
      intro post hp
      unfold wpY_source
      refine yo_in (N := 4) hs (by omega) (br_t rfl ?_)
      rw [l10]
      exact pk_eq dn 0 hp.1 hp.2
    refine pk_eq dn 0 (fun e0 => ?_) (fun n0 => ?_)
    · exact OKX (-1) rfl (Or.inl e0) (fun post hp => hYin post ⟨fun _ => hp, fun z => absurd e0 z⟩)
    · unfold wpX_faultOfDraft
      refine ⟨dn + 1, xw_fault (DK := DK) (fit := dr_bS DK DV nc) hd24 hh1 h22 (fun i hi => (d1 i hi).1) h3 ?_ (dn+1) dn 0 1 (by omega) (by omega) (by omega) ?_⟩
      · intro j p hj q1 q0
        exact br_t rfl (xw_fitsS (by omega) (h22 j hj) w0 (d1 j hj).1 (d1 j hj).2 q1 q0)
      have Yc : ∀ (post : Int32 → Prop), post (ft_i (fd_go (dr_bS DK DV nc) (fun i => tx_a Hn (DK i)) dn dn 0 1)) → wpY_check post (nI nc, ypl, ysz, yus, yof, yre, ysa, ykd, ybh, yln, yhl, yvl, yks, yog, yvs, ypa, ysp, ytd, ywi, yun, ysd, you, yfr, ylf, yva, ysv, ywo, ysi, ywk, yph) (-1) := by
        intro post hp
        unfold wpY_check
        refine ⟨dn + 1, yw_check (DK := DK) (fit := dr_bS DK DV nc) hd24 h2 h22 (fun i hi => (d2 i hi).1) l10 h3 ?_ (dn+1) dn 0 1 (by omega) (by omega) (by omega) hp⟩
        intro j p hj q1 q0
        exact yw_fitsS (by omega) (h22 j hj) (by have := (D.2 j hj).1; omega) w0 (d2 j hj).1 (d2 j hj).2 q1 q0
      cases eR : fd_go (dr_bS DK DV nc) (fun i => tx_a Hn (DK i)) dn dn 0 1 with
      | none =>
        refine OKX _ rfl (Or.inr eR) (fun post hp => hYin post ⟨fun z => absurd z n0, fun _ => Yc _ ?_⟩)
        rw [eR]
        exact hp
      | some r =>
        have hr := fd_le _ _ _ _ _ _ _ (by omega) eR
        unfold wX_source_28
        refine br_f (nI_pos (by omega)) ?_
        refine hYin _ ⟨fun z => absurd z n0, fun _ => Yc _ ?_⟩
        rw [eR]
        unfold wY_source_31
        refine br_f (nI_pos (by omega)) ?_
        rw [nu_n0]
        exact nm_e ⟨rfl, rl_mk (rl_empty B') C rfl m2 m3 m4⟩
