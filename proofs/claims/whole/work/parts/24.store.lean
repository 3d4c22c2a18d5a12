variable {xds xcc xmi xre xpc xpl xtl xsc xou : Int32} {xtk xtv xss xts xho xfu xfa xfo xpn xpe xpf xqk xqv xqo xqp xqs xqh xwo xsi : Nat → Int32} {yco ypl ysz yus yof yre ysa : Int32} {ykd ybh yln yhl yvl yks yog yvs ypa ysp ytd ywi yun ysd you yfr ylf yva ysv ywo ysi ywk yph : Nat → Int32}
theorem xw_move {post : SX → Prop} {dn to : Nat} (hd : dn ≤ 24) (ht : to + dn ≤ 96 ∨ (120 ≤ to ∧ to + dn ≤ 192))
    (h : ∀ (tk tv : Nat → Int32), (∀ j, j < dn → tk (to + j) = xtk (96 + j) ∧ tv (to + j) = xtv (96 + j)) → (∀ i, (i < to ∨ to + dn ≤ i) → tk i = xtk i ∧ tv i = xtv i) → post (0, xcc, xmi, xre, xpc, xpl, xtl, xsc, xou, tk, tv, xss, xts, xho, xfu, xfa, xfo, xpn, xpe, xpf, xqk, xqv, xqo, xqp, xqs, xqh, xwo, xsi)) :
    wpX_moveDraft post (nI dn, xcc, xmi, xre, xpc, xpl, xtl, xsc, xou, xtk, xtv, xss, xts, xho, xfu, xfa, xfo, xpn, xpe, xpf, xqk, xqv, xqo, xqp, xqs, xqh, xwo, xsi) (nI to) := by
  have L : ∀ (m k : Nat) (tk tv : Nat → Int32), k ≤ dn → dn < m + k → (∀ j, j < k → tk (to + j) = xtk (96 + j) ∧ tv (to + j) = xtv (96 + j)) → (∀ i, (i < to ∨ to + k ≤ i) → tk i = xtk i ∧ tv i = xtv i) →
      wX_moveDraft_2 post (nI to) (nI dn) xcc xmi xre xpc xpl xtl xsc xou m (nI k) tk tv xss xts xho xfu xfa xfo xpn xpe xpf xqk xqv xqo xqp xqs xqh xwo xsi := by
    intro m
    induction m with
    | zero => intro k tk tv a b; omega
    | succ m ih =>
      intro k tk tv a b L1 L2
      refine pk_le dn k (fun z => ?_) (fun z => ?_)
      · have e : k = dn := by omega
        subst e
        exact h tk tv L1 L2
      · rw [show (96 : Int32) + nI k = nI (96 + k) from nI_add 96 k, nI_add, nI_clamp (show 96 + k < 2 ^ 31 by omega), nI_clamp (show to + k < 2 ^ 31 by omega)]
        have i1 : vp_in (nI (96 + k)) 192 := pk_in (96 + k) 192 (by omega)
        have i2 : vp_in (nI (to + k)) 192 := pk_in (to + k) 192 (by omega)
        obtain ⟨f1, f2⟩ := L2 (96 + k) (by omega)
        refine ⟨i1, ⟨i2, nm_e ⟨i1, ⟨i2, nm_e (nm_r (nI_1 k) (ih (k+1) _ _ (by omega) (by omega) ?_ ?_))⟩⟩⟩⟩
        · intro j hj
          by_cases e : j = k
          · subst e
            rw [pk_us, pk_us]
            exact ⟨f1, f2⟩
          · rw [pk_un (by omega), pk_un (by omega)]
            exact L1 j (by omega)
        · intro i hi
          rw [pk_un (by omega), pk_un (by omega)]
          exact L2 i (by omega)
  unfold wpX_moveDraft
  exact ⟨dn + 1, L (dn+1) 0 _ _ (by omega) (by omega) (fun j hj => by omega) (fun i _ => ⟨rfl, rfl⟩)⟩
theorem gx_opL {a : Nat → Nat} {d i : Nat} (g : gx_ok a d 1 i) (hd : d ≤ 2500) : gx_op a (i+1) (a i) = gx_en a i ∧ gx_en a i = i + d := by
  have e := gx_enE g hd
  have h0 := gx_pos g
  obtain ⟨d', rfl⟩ : ∃ d', d = d' + 1 := ⟨d - 1, by omega⟩
  have d5 := g.2
  rw [Nat.sub_self, Nat.zero_add] at d5
  obtain ⟨dk, k1, k2, k3, k4⟩ := gx_opE _ (i+1) (a i) d' _ d5 (by omega) (Nat.le_refl _)
  rw [Nat.sub_self] at k4
  have := gx_det _ _ _ _ _ k4 (gx_00 _ _)
  refine ⟨?_, e⟩
  rw [k1, e]
  omega
theorem gx_opK {a : Nat → Nat} {d i o : Nat} (g : gx_ok a d 1 i) (hd : d ≤ 2500) (ho : o < a i) : i < gx_op a (i+1) o ∧ gx_op a (i+1) o < i + d ∧ a i ≤ d := by
  have h0 := gx_pos g
  obtain ⟨d', rfl⟩ : ∃ d', d = d' + 1 := ⟨d - 1, by omega⟩
  have d5 := g.2
  rw [Nat.sub_self, Nat.zero_add] at d5
  obtain ⟨dk, k1, k2, k3, k4⟩ := gx_opE _ (i+1) o d' _ d5 (by omega) (by omega)
  have e4 : a i - o = (a i - o - 1) + 1 := by omega
  rw [e4] at k4
  have k5 := gx_pos k4
  have k6 := gx_cd _ _ _ _ d5
  rw [k1]
  omega
theorem yw_store {post : SY → Prop} {DK : Nat → Nat} {Hn : Nat → Nat} {dn row : Nat} (hd : dn ≤ 24) (hr : row < 10) (hH : ∀ c, c < 6 → yhl c = nI (Hn c)) (h22 : ∀ i, i < dn → DK i < 22) (t1 : ∀ i, i < dn → ykd (240 + i) = nI (DK i)) (l10 : yln 10 = nI dn)
    (g : 0 < dn → gx_ok (fun i => tx_a Hn (DK i)) dn 1 0)
    (h : ∀ (kd bh vl : Nat → Int32), (∀ j, j < dn → kd (24 * row + j) = nI (DK j) ∧ vl (24 * row + j) = yvl (240 + j) ∧ bh (24 * row + j) = nI (gx_en (fun i => tx_a Hn (DK i)) j)) →
      (∀ i, (i < 24 * row ∨ 24 * row + dn ≤ i) → kd i = ykd i ∧ vl i = yvl i ∧ bh i = ybh i) → post (yco, ypl, ysz, yus, -1, yre, ysa, kd, bh, upd (upd yln row (nI dn)) 10 0, yhl, vl, yks, yog, yvs, ypa, ysp, ytd, ywi, yun, ysd, you, yfr, ylf, yva, ysv, ywo, ysi, ywk, yph)) :
    wpY_store post (yco, ypl, ysz, yus, yof, yre, ysa, ykd, ybh, yln, yhl, yvl, yks, yog, yvs, ypa, ysp, ytd, ywi, yun, ysd, you, yfr, ylf, yva, ysv, ywo, ysi, ywk, yph) (nI row) := by
  have L : ∀ (m q : Nat) (kd bh vl : Nat → Int32), q < m → q ≤ dn → (∀ j, q ≤ j → j < dn → kd (24 * row + j) = nI (DK j) ∧ vl (24 * row + j) = yvl (240 + j) ∧ bh (24 * row + j) = nI (gx_en (fun i => tx_a Hn (DK i)) j)) →
      (∀ i, (i < 24 * row + q ∨ 24 * row + dn ≤ i) → kd i = ykd i ∧ vl i = yvl i ∧ bh i = ybh i) →
      wY_store_20 post (nI row) yco ypl ysz yus yof yre ysa m (ys_i q) kd bh (upd yln row (nI dn)) yhl vl yks yog yvs ypa ysp ytd ywi yun ysd you yfr ylf yva ysv ywo ysi ywk yph := by
    intro m
    induction m with
    | zero => intro q kd bh vl a; omega
    | succ m ih =>
      intro q kd bh vl a b L1 L2
      cases q with
      | zero =>
        refine br_t (by decide) (nm_r (e' := upd (upd yln row (nI dn)) 10 0) ?_ (h kd bh vl (fun j hj => L1 j (by omega) hj) (fun i hi => L2 i (by omega))))
        rw [show vp_nar .byte 0 = (0 : Int32) from nu_v8 (n := 0) (by omega)]
      | succ i =>
        have hi : i < dn := by omega
        obtain ⟨d, g1, g2⟩ := gx_sub _ dn 1 0 i (g (by omega)) hi
        rw [Nat.zero_add] at g1
        obtain ⟨p1, p2⟩ := gx_opL g1 (by omega)
        have k22 := h22 i hi
        obtain ⟨f1, f2, f3⟩ := L2 (240 + i) (by omega)
        have i1 : vp_in (nI (240 + i)) 264 := pk_in (240 + i) 264 (by omega)
        have i2 : vp_in (nI (24 * row + i)) 264 := pk_in (24 * row + i) 264 (by omega)
        rw [ys_iS]
        refine br_f (nI_pos (by omega)) ?_
        rw [show (240 : Int32) + nI i = nI (240 + i) from nI_add 240 i, show (24 : Int32) * nI row + nI i = nI (24 * row + i) from by rw [show (24 : Int32) * nI row = nI (24 * row) from pk_mul 24 row, nI_add], nI_clamp (show 240 + i < 2 ^ 31 by omega), nI_clamp (show 24 * row + i < 2 ^ 31 by omega), f1, f2, t1 i hi, nu_v8 (show DK i < 128 by omega)]
        refine ⟨i1, ⟨i2, nm_e ⟨i1, ⟨i2, nm_e (nm_r (nI_1 i) ⟨i1, ?_⟩)⟩⟩⟩⟩
        rw [pk_un (show 240 + i ≠ 24 * row + i by omega), f1, t1 i hi]
        refine yw_ops k22 hH ⟨tx_a Hn (DK i) + 1, ?_⟩
        have hai : tx_a Hn (DK i) ≤ d := by
          rcases Nat.eq_zero_or_pos (tx_a Hn (DK i)) with z | z
          · omega
          · exact (gx_opK g1 (by omega) (o := 0) z).2.2
        have L90 : ∀ (m' o : Nat), o ≤ tx_a Hn (DK i) → tx_a Hn (DK i) < m' + o → wY_store_90 post (wY_store_20 post (nI row) yco ypl ysz yus yof yre ysa m) (nI row) (nI i) (nI (tx_a Hn (DK i))) yco ypl ysz yus yof yre ysa (upd kd (24 * row + i) (nI (DK i))) bh (upd yln row (nI dn)) yhl (upd vl (24 * row + i) (yvl (240 + i))) yks yog yvs ypa ysp ytd ywi yun ysd you yfr ylf yva ysv ywo ysi ywk yph m' (nI (gx_op (fun i => tx_a Hn (DK i)) (i+1) o)) (nI o) := by
          intro m'
          induction m' with
          | zero => intro o a b; omega
          | succ m' ih' =>
            intro o a' b'
            refine pk_le (tx_a Hn (DK i)) o (fun z => ?_) (fun z => ?_)
            · have e : o = tx_a Hn (DK i) := by omega
              subst e
              rw [p1, p2, show (24 : Int32) * nI row + nI i = nI (24 * row + i) from by rw [show (24 : Int32) * nI row = nI (24 * row) from pk_mul 24 row, nI_add], nI_clamp (show 24 * row + i < 2 ^ 31 by omega), nu_8 (show i + d < 128 by omega), nu_v8 (show i + d < 128 by omega)]
              refine ⟨i2, nm_e (nm_r (e' := ys_i i) ?_ (ih i _ _ _ (by omega) (by omega) ?_ ?_))⟩
              · cases i with
                | zero => rfl
                | succ i => exact pk_m1 i
              · intro j hj1 hj2
                by_cases e : j = i
                · subst e
                  rw [pk_us, pk_us, pk_us, p2]
                  exact ⟨rfl, rfl, rfl⟩
                · rw [pk_un (by omega), pk_un (by omega), pk_un (by omega)]
                  exact L1 j (by omega) hj2
              · intro j hj
                rw [pk_un (by omega), pk_un (by omega), pk_un (by omega)]
                exact L2 j (by omega)
            · obtain ⟨q1, q2, q3⟩ := gx_opK g1 (by omega) z
              obtain ⟨y1, y2, y3⟩ := L1 (gx_op (fun i => tx_a Hn (DK i)) (i+1) o) (by omega) (by omega)
              rw [show (24 : Int32) * nI row + nI (gx_op (fun i => tx_a Hn (DK i)) (i+1) o) = nI (24 * row + gx_op (fun i => tx_a Hn (DK i)) (i+1) o) from by rw [show (24 : Int32) * nI row = nI (24 * row) from pk_mul 24 row, nI_add], nI_clamp (show 24 * row + gx_op (fun i => tx_a Hn (DK i)) (i+1) o < 2 ^ 31 by omega), y3]
              exact ⟨vp_in_nI (by omega) (by omega), nm_e (nm_r (nI_1 o) (ih' (o+1) (by omega) (by omega)))⟩
        exact L90 _ 0 (by omega) (by omega)
  unfold wpY_store
  refine nm_r l10 ?_
  rw [nI_clamp (show row < 2 ^ 31 by omega), nu_8 (show dn < 128 by omega), nu_v8 (show dn < 128 by omega)]
  refine ⟨pk_in row 11 (by omega), nm_e (nm_r (e' := ys_i dn) ?_ ⟨dn + 1, L (dn+1) dn _ _ _ (by omega) (Nat.le_refl _) (fun j h1 h2 => by omega) (fun i _ => ⟨rfl, rfl, rfl⟩)⟩)⟩
  rcases Nat.eq_zero_or_pos dn with z | z
  · rw [z]; rfl
  · rw [ys_iP z]
    exact pk_sub (b := 1) z
/-! the text with the draft in its new row -/
theorem rl_rowX {K : Nat → Nat} {V : Nat → Int32} {Hn Len : Nat → Nat} {nc nc' r0 dn : Nat} {DK : Nat → Nat} {DV : Nat → Int32} {tk tv : Nat → Int32} (w : tx_WF K V Hn Len nc) (T : xs_T K V Len nc xtk xtv) (h0 : r0 < 10) (hd : dn ≤ 24) (hd6 : r0 < 6 → dn ≤ 12)
    (hrow : ∀ r, tx_row nc' r → r ≠ r0 → tx_row nc r) (d1 : ∀ i, i < dn → xtk (96 + i) = nI (DK i) ∧ xtv (96 + i) = DV i)
    (f1 : ∀ j, j < dn → tk (xs_b r0 + j) = xtk (96 + j) ∧ tv (xs_b r0 + j) = xtv (96 + j)) (f2 : ∀ i, (i < xs_b r0 ∨ xs_b r0 + dn ≤ i) → tk i = xtk i ∧ tv i = xtv i) :
    xs_T (tx_cp K DK r0 dn) (tx_cp V DV r0 dn) (pm_fu Len r0 dn) nc' tk tv := by
  intro r hr j hj
  by_cases e : r = r0
  · subst e
    rw [pm_fs] at hj
    rw [tx_cpI hj, tx_cpI hj, (f1 j hj).1, (f1 j hj).2]
    exact d1 j hj
  · rw [pm_fn e] at hj
    have hr' := hrow r hr e
    obtain ⟨w1, w2, _⟩ := w.2 r hr'
    have hd2 : xs_b r + j < xs_b r0 ∨ xs_b r0 + dn ≤ xs_b r + j := by
      unfold tx_row at hr'
      have w0 := w.1
      unfold xs_b
      by_cases a : r < 6
      · have w3 := w2 a
        rw [if_pos a]
        by_cases b : r0 < 6
        · have hd7 := hd6 b
          rw [if_pos b]
          omega
        · rw [if_neg b]
          omega
      · rw [if_neg a]
        by_cases b : r0 < 6
        · have hd7 := hd6 b
          rw [if_pos b]
          omega
        · rw [if_neg b]
          omega
    rw [tx_cpR e (m := Len r) (by omega) (by omega) w1 hd, tx_cpR e (m := Len r) (by omega) (by omega) w1 hd, (f2 _ hd2).1, (f2 _ hd2).2]
    exact T r hr' j hj
theorem rl_rowY {K : Nat → Nat} {V : Nat → Int32} {Hn Hn' Len : Nat → Nat} {nc nc' r0 dn : Nat} {DK : Nat → Nat} {DV : Nat → Int32} {kd bh vl : Nat → Int32} (w : tx_WF K V Hn Len nc) (T : ys_T K V Hn Len nc ykd ybh yvl) (h0 : r0 < 10) (hd : dn ≤ 24)
    (hrow : ∀ r, tx_row nc' r → r ≠ r0 → tx_row nc r) (d2 : ∀ i, i < dn → (tx_hv (DK i) → yvl (240 + i) = DV i)) (g : 0 < dn → gx_ok (fun i => tx_a Hn (DK i)) dn 1 0)
    (a1 : ∀ j, j < dn → tx_a Hn' (DK j) = tx_a Hn (DK j)) (a2 : ∀ r i, tx_pos Len nc r i → tx_a Hn' (K i) = tx_a Hn (K i))
    (f1 : ∀ j, j < dn → kd (24 * r0 + j) = nI (DK j) ∧ vl (24 * r0 + j) = yvl (240 + j) ∧ bh (24 * r0 + j) = nI (gx_en (fun i => tx_a Hn (DK i)) j)) (f2 : ∀ i, (i < 24 * r0 ∨ 24 * r0 + dn ≤ i) → kd i = ykd i ∧ vl i = yvl i ∧ bh i = ybh i) :
    ys_T (tx_cp K DK r0 dn) (tx_cp V DV r0 dn) Hn' (pm_fu Len r0 dn) nc' kd bh vl := by
  intro r hr i h1 h2
  by_cases e : r = r0
  · subst e
    rw [pm_fs] at h2
    obtain ⟨j, rfl⟩ : ∃ j, i = 24 * r + j := ⟨i - 24 * r, by omega⟩
    have hj : j < dn := by omega
    obtain ⟨x1, x2, x3⟩ := f1 j hj
    rw [tx_cpI hj, tx_cpI hj, x1, x2, x3]
    refine ⟨rfl, fun hv => d2 j hj hv, ?_⟩
    obtain ⟨d, g1, g2⟩ := gx_sub _ dn 1 0 j (g (by omega)) hj
    rw [Nat.zero_add] at g1
    have g3 : gx_ok (fun i => tx_a Hn' (tx_cp K DK r dn i)) d 1 (24 * r + j) := by
      refine gx_congr _ _ _ _ _ _ ?_ g1
      intro x hx
      show tx_a Hn' (tx_cp K DK r dn (24 * r + j + x)) = tx_a Hn (DK (j + x))
      rw [Nat.add_assoc, tx_cpI (by omega)]
      exact a1 _ (by omega)
    rw [gx_enE g1 (by omega), gx_enE g3 (by omega)]
    exact congrArg nI (by omega)
  · rw [pm_fn e] at h2
    have hr' := hrow r hr e
    obtain ⟨w1, w2, _⟩ := w.2 r hr'
    obtain ⟨x1, x2, x3⟩ := f2 i (by omega)
    obtain ⟨y1, y2, y3⟩ := T r hr' i h1 h2
    rw [tx_cpR e h1 h2 w1 hd, tx_cpR e h1 h2 w1 hd, x1, x2, x3, y1, y3]
    refine ⟨rfl, y2, ?_⟩
    obtain ⟨d, g1, g2, g3, g4⟩ := tx_expr w ⟨hr', h1, h2⟩
    have g5 : gx_ok (fun i => tx_a Hn' (tx_cp K DK r0 dn i)) d 1 i := by
      refine gx_congr _ _ _ _ _ _ ?_ g1
      intro x hx
      show tx_a Hn' (tx_cp K DK r0 dn (i + x)) = tx_a Hn (K (i + x))
      rw [tx_cpR e (m := Len r) (by omega) (by omega) w1 hd]
      exact a2 r _ ⟨hr', by omega, by omega⟩
    rw [gx_enE g1 (by omega), gx_enE g5 (by omega)]
