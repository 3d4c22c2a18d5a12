variable {xds xcc xmi xre xpc xpl xtl xsc xou : Int32} {xtk xtv xss xts xho xfu xfa xfo xpn xpe xpf xqk xqv xqo xqp xqs xqh xwo xsi : Nat → Int32} {yco ypl ysz yus yof yre ysa : Int32} {ykd ybh yln yhl yvl yks yog yvs ypa ysp ytd ywi yun ysd you yfr ylf yva ysv ywo ysi ywk yph : Nat → Int32}
def ft_i (R : Option Nat) : Int32 := match R with
  | none => -1
  | some r => nI r
theorem ft_neg {R : Option Nat} (h : ∀ r, R = some r → r < 2 ^ 31) : ft_i R < 0 ↔ R = none := by
  cases R with
  | none => exact ⟨fun _ => rfl, fun _ => by show (-1 : Int32) < 0; decide⟩
  | some r => exact ⟨fun z => absurd z (nI_pos (h r rfl)), fun z => by cases z⟩
theorem dr_T1 {DK : Nat → Nat} {DV : Nat → Int32} {nc h i : Nat} (a : i < 12) (b : DK i = 9 → DV i < nI h) (c : 16 ≤ DK i → DK i - 16 < nc) : dr_bT DK DV nc h i = true := decide_eq_true ⟨a, b, c⟩
theorem dr_T0 {DK : Nat → Nat} {DV : Nat → Int32} {nc h i : Nat} (a : ¬ (i < 12 ∧ (DK i = 9 → DV i < nI h) ∧ (16 ≤ DK i → DK i - 16 < nc))) : dr_bT DK DV nc h i = false := decide_eq_false a
theorem dr_S1 {DK : Nat → Nat} {DV : Nat → Int32} {nc i : Nat} (a : (DK i = 1 ∨ DK i = 7) → 0 ≤ DV i) (b : DK i ≠ 9) (c : DK i ≠ 10) (d : 16 ≤ DK i → DK i - 16 < nc) : dr_bS DK DV nc i = true := decide_eq_true ⟨a, b, c, d⟩
theorem dr_S0 {DK : Nat → Nat} {DV : Nat → Int32} {nc i : Nat} (a : ¬ (((DK i = 1 ∨ DK i = 7) → 0 ≤ DV i) ∧ DK i ≠ 9 ∧ DK i ≠ 10 ∧ (16 ≤ DK i → DK i - 16 < nc))) : dr_bS DK DV nc i = false := decide_eq_false a
theorem xw_fitsT {post : Int32 → Prop} {DK : Nat → Nat} {DV : Nat → Int32} {nc h k : Nat} (hk : k < 24) (hK : DK k < 22) (hnc : nc ≤ 6) (t1 : xtk (96 + k) = nI (DK k)) (t2 : xtv (96 + k) = DV k)
    (h1 : dr_bT DK DV nc h k = true → post 1) (h0 : dr_bT DK DV nc h k = false → post 0) : wpX_fitsTemplate post (xds, nI nc, xmi, xre, xpc, xpl, xtl, xsc, xou, xtk, xtv, xss, xts, xho, xfu, xfa, xfo, xpn, xpe, xpf, xqk, xqv, xqo, xqp, xqs, xqh, xwo, xsi) (nI k) (nI h) := by
  unfold wpX_fitsTemplate
  dsimp only
  rw [show (96 : Int32) + nI k = nI (96 + k) from nI_add 96 k, nI_clamp (show 96 + k < 2 ^ 31 by omega), t1, t2]
  have i1 : vp_in (nI (96 + k)) 192 := pk_in (96 + k) 192 (by omega)
  refine ⟨i1, nm_e (pk_lt k 12 (fun k12 => ?_) (fun k12 => h0 (dr_T0 (fun z => by omega))))⟩
  refine pk_eq (DK k) 9 (fun e => ⟨i1, br_c (fun y => h0 (dr_T0 (fun z => absurd (z.2.1 e) (Int32.not_lt.mpr y)))) (fun y => h1 (dr_T1 k12 (fun _ => Int32.not_le.mp y) (fun z => by omega)))⟩) (fun n9 => ?_)
  refine xw_isUse (by omega) (fun a _ => br_f (by decide) ?_) (fun a => br_t rfl (h1 (dr_T1 k12 (fun z => absurd z n9) (fun z => absurd ⟨z, hK⟩ a))))
  rw [show nI (DK k) - 16 = nI (DK k - 16) from pk_sub (b := 16) a]
  exact pk_le nc (DK k - 16) (fun y => h0 (dr_T0 (fun z => by have := z.2.2 a; omega))) (fun y => h1 (dr_T1 k12 (fun z => absurd z n9) (fun _ => y)))
theorem xw_fitsS {post : Int32 → Prop} {DK : Nat → Nat} {DV : Nat → Int32} {nc k : Nat} (hk : k < 24) (hK : DK k < 22) (hnc : nc ≤ 6) (t1 : xtk (96 + k) = nI (DK k)) (t2 : xtv (96 + k) = DV k)
    (h1 : dr_bS DK DV nc k = true → post 1) (h0 : dr_bS DK DV nc k = false → post 0) : wpX_fitsSource post (xds, nI nc, xmi, xre, xpc, xpl, xtl, xsc, xou, xtk, xtv, xss, xts, xho, xfu, xfa, xfo, xpn, xpe, xpf, xqk, xqv, xqo, xqp, xqs, xqh, xwo, xsi) (nI k) := by
  have i1 : vp_in (nI (96 + k)) 192 := pk_in (96 + k) 192 (by omega)
  have H : (DK k = 1 ∨ DK k = 7) → wX_fitsSource_21 post (nI k) xds (nI nc) xmi xre xpc xpl xtl xsc xou xtk xtv xss xts xho xfu xfa xfo xpn xpe xpf xqk xqv xqo xqp xqs xqh xwo xsi := by
    intro e
    unfold wX_fitsSource_21
    rw [show (96 : Int32) + nI k = nI (96 + k) from nI_add 96 k, nI_clamp (show 96 + k < 2 ^ 31 by omega), t2]
    exact ⟨i1, br_c (fun y => h0 (dr_S0 (fun z => absurd y (Int32.not_lt.mpr (z.1 e))))) (fun y => h1 (dr_S1 (fun _ => Int32.not_lt.mp y) (by omega) (by omega) (by omega)))⟩
  unfold wpX_fitsSource
  dsimp only
  rw [show (96 : Int32) + nI k = nI (96 + k) from nI_add 96 k, nI_clamp (show 96 + k < 2 ^ 31 by omega), t1]
  refine ⟨i1, nm_e (pk_eq (DK k) 1 (fun e => H (Or.inl e)) (fun n1 => pk_eq (DK k) 7 (fun e => H (Or.inr e)) (fun n7 => ?_)))⟩
  refine xw_isUse (by omega) (fun a _ => br_f (by decide) ?_) (fun a => br_t rfl (pk_eq (DK k) 9 (fun e => h0 (dr_S0 (fun z => z.2.1 e))) (fun n9 => pk_eq (DK k) 10 (fun e => h0 (dr_S0 (fun z => z.2.2.1 e))) (fun n10 => h1 (dr_S1 (fun z => by omega) n9 n10 (fun z => absurd ⟨z, hK⟩ a))))))
  rw [show nI (DK k) - 16 = nI (DK k - 16) from pk_sub (b := 16) a]
  exact pk_le nc (DK k - 16) (fun y => h0 (dr_S0 (fun z => by have := z.2.2.2 a; omega))) (fun y => h1 (dr_S1 (fun z => by omega) (by omega) (by omega) (fun _ => y)))
theorem xw_fault {post : Int32 → Prop} {DK : Nat → Nat} {Hn : Nat → Nat} {dn : Nat} {x1 x2 : Int32} {fit : Nat → Bool} (hd : dn ≤ 24) (hH : ∀ c, c < 6 → xho c = nI (Hn c)) (h22 : ∀ i, i < dn → DK i < 22) (t1 : ∀ i, i < dn → xtk (96 + i) = nI (DK i))
    (h3 : ∀ i, i < dn → fit i = true → tx_a Hn (DK i) ≤ 3)
    (hfit : ∀ (k : Nat) (p : Int32 → Prop), k < dn → (fit k = true → p 1) → (fit k = false → p 0) → (x1 = 0 → wpX_fitsSource p (nI dn, xcc, xmi, xre, xpc, xpl, xtl, xsc, xou, xtk, xtv, xss, xts, xho, xfu, xfa, xfo, xpn, xpe, xpf, xqk, xqv, xqo, xqp, xqs, xqh, xwo, xsi) (nI k)) ∧ (¬ x1 = 0 → wpX_fitsTemplate p (nI dn, xcc, xmi, xre, xpc, xpl, xtl, xsc, xou, xtk, xtv, xss, xts, xho, xfu, xfa, xfo, xpn, xpe, xpf, xqk, xqv, xqo, xqp, xqs, xqh, xwo, xsi) (nI k) x2)) :
    ∀ (m d k o : Nat), k + d = dn → d < m → o ≤ 1 + 2 * k → post (ft_i (fd_go fit (fun i => tx_a Hn (DK i)) dn d k o)) → wX_faultOfDraft_5 post x1 x2 (nI dn) xcc xmi xre xpc xpl xtl xsc xou xtk xtv xss xts xho xfu xfa xfo xpn xpe xpf xqk xqv xqo xqp xqs xqh xwo xsi m (nI o) (nI k) := by
  intro m
  induction m with
  | zero => intro d k o a b; omega
  | succ m ih =>
    intro d k o a b c h
    cases d with
    | zero =>
      rw [fd_go] at h
      refine pk_le dn k (fun z => pk_eq o 0 (fun e => ?_) (fun e => ?_)) (fun z => by omega)
      · rw [if_pos e] at h; exact h
      · rw [if_neg e] at h; exact h
    | succ d =>
      rw [fd_go] at h
      refine pk_le dn k (fun z => by omega) (fun z => hfit k _ z (fun ft => ?_) (fun ft => ?_))
      · unfold wX_faultOfDraft_34
        refine pk_eq o 0 (fun e => ?_) (fun e => br_f (by decide) ?_)
        · rw [if_pos (Or.inl e)] at h; exact h
        · rw [if_neg (by rw [ft]; intro y; rcases y with y | y; exact e y; cases y)] at h
          rw [show (96 : Int32) + nI k = nI (96 + k) from nI_add 96 k, nI_clamp (show 96 + k < 2 ^ 31 by omega), t1 k z]
          refine ⟨pk_in (96 + k) 192 (by omega), xw_ops (h22 k z) hH (nm_r (nu_open (by omega)) (nm_r (nI_1 k) ?_))⟩
          have := h3 k z ft
          exact ih d (k+1) _ (by omega) (by omega) (by omega) h
      · unfold wX_faultOfDraft_34
        rw [if_pos (Or.inr ft)] at h
        exact br_c (fun _ => h) (fun _ => br_t rfl h)
theorem yw_fitsT {post : Int32 → Prop} {DK : Nat → Nat} {DV : Nat → Int32} {nc h k : Nat} (hk : k < 24) (hK : DK k < 22) (hK2 : DK k ≤ 10 ∨ 16 ≤ DK k) (hnc : nc ≤ 6) (hh : h < 4) (t1 : ykd (240 + k) = nI (DK k)) (t2 : tx_hv (DK k) → yvl (240 + k) = DV k)
    (h1 : dr_bT DK DV nc h k = true → post 1) (h0 : dr_bT DK DV nc h k = false → post 0) : wpY_fits post (nI nc, ypl, ysz, yus, yof, yre, ysa, ykd, ybh, yln, yhl, yvl, yks, yog, yvs, ypa, ysp, ytd, ywi, yun, ysd, you, yfr, ylf, yva, ysv, ywo, ysi, ywk, yph) (nI k) (nI h) := by
  unfold wpY_fits
  dsimp only
  rw [show (240 : Int32) + nI k = nI (240 + k) from nI_add 240 k, nI_clamp (show 240 + k < 2 ^ 31 by omega), t1]
  have i1 : vp_in (nI (240 + k)) 264 := pk_in (240 + k) 264 (by omega)
  refine ⟨i1, nm_e ⟨i1, nm_e (pk_lt (DK k) 16 (fun a => br_f (nI_pos (by omega)) (pk_le 12 k (fun y => h0 (dr_T0 (fun z => by omega))) (fun k12 => ?_))) (fun a => ?_))⟩⟩
  · refine pk_eq (DK k) 9 (fun e => ?_) (fun n9 => h1 (dr_T1 k12 (fun z => absurd z n9) (fun z => by omega)))
    rw [t2 (by unfold tx_hv; omega)]
    exact br_c (fun y => h0 (dr_T0 (fun z => absurd (z.2.1 e) (Int32.not_lt.mpr y)))) (fun y => h1 (dr_T1 k12 (fun _ => Int32.not_le.mp y) (fun z => by omega)))
  · rw [show nI (DK k) - 16 = nI (DK k - 16) from pk_sub (b := 16) a]
    refine pk_le nc (DK k - 16) (fun y => h0 (dr_T0 (fun z => by have := z.2.2 a; omega))) (fun y => br_f (nI_pos (by omega)) (pk_le 12 k (fun x => h0 (dr_T0 (fun z => by omega))) (fun k12 => h1 (dr_T1 k12 (fun z => by omega) (fun _ => y)))))
theorem yw_fitsS {post : Int32 → Prop} {DK : Nat → Nat} {DV : Nat → Int32} {nc k : Nat} (hk : k < 24) (hK : DK k < 22) (hK2 : DK k ≤ 10 ∨ 16 ≤ DK k) (hnc : nc ≤ 6) (t1 : ykd (240 + k) = nI (DK k)) (t2 : tx_hv (DK k) → yvl (240 + k) = DV k)
    (h1 : dr_bS DK DV nc k = true → post 1) (h0 : dr_bS DK DV nc k = false → post 0) : wpY_fits post (nI nc, ypl, ysz, yus, yof, yre, ysa, ykd, ybh, yln, yhl, yvl, yks, yog, yvs, ypa, ysp, ytd, ywi, yun, ysd, you, yfr, ylf, yva, ysv, ywo, ysi, ywk, yph) (nI k) (-1) := by
  unfold wpY_fits
  dsimp only
  rw [show (240 : Int32) + nI k = nI (240 + k) from nI_add 240 k, nI_clamp (show 240 + k < 2 ^ 31 by omega), t1]
  have i1 : vp_in (nI (240 + k)) 264 := pk_in (240 + k) 264 (by omega)
  have H : (DK k = 1 ∨ DK k = 7) → wY_fits_101 post (yvl (240 + k)) (nI nc) ypl ysz yus yof yre ysa ykd ybh yln yhl yvl yks yog yvs ypa ysp ytd ywi yun ysd you yfr ylf yva ysv ywo ysi ywk yph := by
    intro e
    unfold wY_fits_101
    rw [t2 (by unfold tx_hv; omega)]
    exact br_c (fun y => h0 (dr_S0 (fun z => absurd y (Int32.not_lt.mpr (z.1 e))))) (fun y => h1 (dr_S1 (fun _ => Int32.not_lt.mp y) (by omega) (by omega) (by omega)))
  refine ⟨i1, nm_e ⟨i1, nm_e (pk_lt (DK k) 16 (fun a => br_t (by decide) (pk_le 9 (DK k) (fun y => h0 (dr_S0 (fun z => by omega))) (fun n9 => pk_eq (DK k) 1 (fun e => H (Or.inl e)) (fun n1 => pk_eq (DK k) 7 (fun e => H (Or.inr e)) (fun n7 => h1 (dr_S1 (fun z => by omega) (by omega) (by omega) (by omega))))))) (fun a => ?_))⟩⟩
  rw [show nI (DK k) - 16 = nI (DK k - 16) from pk_sub (b := 16) a]
  exact pk_le nc (DK k - 16) (fun y => h0 (dr_S0 (fun z => by have := z.2.2.2 a; omega))) (fun y => br_t (by decide) (h1 (dr_S1 (fun z => by omega) (by omega) (by omega) (fun _ => y))))
theorem yw_check {post : Int32 → Prop} {DK : Nat → Nat} {Hn : Nat → Nat} {dn : Nat} {x1 : Int32} {fit : Nat → Bool} (hd : dn ≤ 24) (hH : ∀ c, c < 6 → yhl c = nI (Hn c)) (h22 : ∀ i, i < dn → DK i < 22) (t1 : ∀ i, i < dn → ykd (240 + i) = nI (DK i)) (l10 : yln 10 = nI dn)
    (h3 : ∀ i, i < dn → fit i = true → tx_a Hn (DK i) ≤ 3)
    (hfit : ∀ (k : Nat) (p : Int32 → Prop), k < dn → (fit k = true → p 1) → (fit k = false → p 0) → wpY_fits p (yco, ypl, ysz, yus, yof, yre, ysa, ykd, ybh, yln, yhl, yvl, yks, yog, yvs, ypa, ysp, ytd, ywi, yun, ysd, you, yfr, ylf, yva, ysv, ywo, ysi, ywk, yph) (nI k) x1) :
    ∀ (m d k o : Nat), k + d = dn → d < m → o ≤ 1 + 2 * k → post (ft_i (fd_go fit (fun i => tx_a Hn (DK i)) dn d k o)) → wY_check_4 post x1 yco ypl ysz yus yof yre ysa ykd ybh yln yhl yvl yks yog yvs ypa ysp ytd ywi yun ysd you yfr ylf yva ysv ywo ysi ywk yph m (nI o) (nI k) := by
  intro m
  induction m with
  | zero => intro d k o a b; omega
  | succ m ih =>
    intro d k o a b c h
    unfold wY_check_4
    rw [l10]
    cases d with
    | zero =>
      rw [fd_go] at h
      refine pk_le dn k (fun z => pk_le o 0 (fun e => ?_) (fun e => ?_)) (fun z => by omega)
      · rw [if_pos (by omega)] at h; exact h
      · rw [if_neg (by omega)] at h; exact h
    | succ d =>
      rw [fd_go] at h
      refine pk_le dn k (fun z => by omega) (fun z => pk_eq o 0 (fun e => ?_) (fun e => hfit k _ z (fun ft => br_f (by decide) ?_) (fun ft => br_t rfl ?_)))
      · rw [if_pos (Or.inl e)] at h; exact h
      · rw [if_neg (by rw [ft]; intro y; rcases y with y | y; exact e y; cases y)] at h
        rw [show (240 : Int32) + nI k = nI (240 + k) from nI_add 240 k, nI_clamp (show 240 + k < 2 ^ 31 by omega), t1 k z]
        refine ⟨pk_in (240 + k) 264 (by omega), yw_ops (h22 k z) hH (nm_r (nu_open (by omega)) (nm_r (nI_1 k) ?_))⟩
        have := h3 k z ft
        exact ih d (k+1) _ (by omega) (by omega) (by omega) h
      · rw [if_pos (Or.inr ft)] at h
        exact h
