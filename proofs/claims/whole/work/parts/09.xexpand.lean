variable {xds xcc xmi xre xpc xpl xtl xsc xou : Int32} {xtk xtv xss xts xho xfu xfa xfo xpn xpe xpf xqk xqv xqo xqp xqs xqh xwo xsi : Nat → Int32}
theorem nu_f1 (f : Nat) : (100 + (2 * (nI f - 1))) + ((-1) - (-1)) = nI (98 + 2 * f) := by
  rw [← nI_add, ← pk_mul]
  show _ = (98 : Int32) + 2 * nI f
  generalize nI f = x
  grind
theorem nu_f2 (f : Nat) : (100 + (2 * (nI f - 1))) + ((-1) - (-2)) = nI (99 + 2 * f) := by
  rw [← nI_add, ← pk_mul]
  show _ = (99 : Int32) + 2 * nI f
  generalize nI f = x
  grind
theorem xw_org {post : Int32 → Prop} {j f og : Nat} {z : Int32} (hj : j < 4001) (hf : f < 2001) (e1 : xpf j = nI f) (h0 : f = 0 → xpn j - z = nI og) (h1 : 0 < f → xfo f = nI og) (h : post (nI og)) : wpX_originOfNext post (xds, xcc, xmi, xre, xpc, xpl, xtl, xsc, xou, xtk, xtv, xss, xts, xho, xfu, xfa, xfo, xpn, xpe, xpf, xqk, xqv, xqo, xqp, xqs, xqh, xwo, xsi) (nI j) z :=
  xw_origin hj hf e1 (fun e => by rw [h0 e]; exact h) (fun _ _ => h) h1
theorem xw_openTemplate {post : SX → Prop} {K : Nat → Nat} {V : Nat → Int32} {Hn Len : Nat → Nat} {nc r j f p nf og : Nat} {z : Int32} (w : tx_WF K V Hn Len nc) (T : xs_T K V Len nc xtk xtv) (hH : ∀ c, c < 6 → xho c = nI (Hn c))
    (hL : ∀ c, c < 6 → xts c = nI (Len c)) (hj : j + 1 < 4001) (hnf : nf < 2000) (hf : f ≤ nf) (hp : tx_pos Len nc r p) (hk : 16 ≤ K p)
    (e1 : xpn j = nI (xs_b r + (p - 24 * r))) (e2 : xpf j = nI f) (h0 : f = 0 → xpn j - z = nI og) (h1 : 0 < f → xfo f = nI og)
    (h : post (xds, xcc, xmi, nI (nf+1), nI (j+1+1), xpl, xtl, xsc, xou, xtk, xtv, xss, xts, xho, upd xfu (nf+1) (nI (xs_b r + (p - 24 * r))), upd xfa (nf+1) (nI f), upd xfo (nf+1) (nI og), upd (upd xpn j (nI (xs_b r + (gx_en (fun i => tx_a Hn (K i)) p - 24 * r)))) (j+1) (nI (xs_b (K p - 16))), upd xpe (j+1) (nI (xs_b (K p - 16) + Len (K p - 16))), upd xpf (j+1) (nI (nf+1)), xqk, xqv, xqo, xqp, xqs, xqh, xwo, xsi)) :
    wpX_openTemplate post (xds, xcc, xmi, nI nf, nI (j+1), xpl, xtl, xsc, xou, xtk, xtv, xss, xts, xho, xfu, xfa, xfo, xpn, xpe, xpf, xqk, xqv, xqo, xqp, xqs, xqh, xwo, xsi) (nI j) z := by
  obtain ⟨u1, u2, u3⟩ := tx_useRow w hp hk
  have hb := xs_b192 w hp.1
  have t1 := (xs_Tp T hp).1
  have p2 := hp.2.1
  have p3 := hp.2.2
  have eb : xs_b (K p - 16) = 120 + (K p - 16) * 12 := by
    unfold xs_b
    rw [if_pos u2]; omega
  unfold wpX_openTemplate
  refine pk_lt nf 2000 (fun _ => ?_) (fun z => by omega)
  rw [nI_clamp (show j < 2 ^ 31 by omega)]
  refine ⟨pk_in j 4001 (by omega), nm_r e1 (nm_r (nI_1 nf) ?_)⟩
  rw [nI_clamp (show nf + 1 < 2 ^ 31 by omega)]
  refine ⟨pk_in (nf+1) 2001 (by omega), nm_e ⟨pk_in j 4001 (by omega), ⟨pk_in (nf+1) 2001 (by omega), nm_r (by rw [e2]) ?_⟩⟩⟩
  refine xw_org (og := og) (by omega) (by omega) e2 h0 h1 ⟨pk_in (nf+1) 2001 (by omega), nm_e ?_⟩
  refine xw_behind w T hH hp ⟨pk_in j 4001 (by omega), nm_e ⟨vp_in_nI (by omega) (by omega), ?_⟩⟩
  rw [nI_clamp (show xs_b r + (p - 24 * r) < 2 ^ 31 by omega), t1]
  refine nm_r (pk_sub (b := 16) hk) (nm_r (e' := nI (xs_b (K p - 16))) ?_ ⟨pk_in (K p - 16) 6 u2, ?_⟩)
  · rw [eb, ← nI_add, ← pk_mul]
    rfl
  · rw [nI_clamp (show K p - 16 < 2 ^ 31 by omega), hL _ u2, nI_add]
    exact xw_openPiece hj h
theorem xw_openOperand {post : SX → Prop} {K : Nat → Nat} {V : Nat → Int32} {Hn Len : Nat → Nat} {nc r r' j f p su ou hv : Nat} (w : tx_WF K V Hn Len nc) (T : xs_T K V Len nc xtk xtv) (hH : ∀ c, c < 6 → xho c = nI (Hn c))
    (hj : j + 1 < 4001) (hf : f < 2001) (hp : tx_pos Len nc r p) (e1 : xpn j = nI (xs_b r + (p - 24 * r))) (e2 : xpf j = nI f) (ev : V p = nI hv)
    (hs : tx_pos Len nc r' su) (hh : hv < tx_a Hn (K su)) (h3 : hv < 3) (e3 : xfu f = nI (xs_b r' + (su - 24 * r'))) (e4 : xfa f = nI ou)
    (h : post (xds, xcc, xmi, xre, nI (j+1+1), xpl, xtl, xsc, xou, xtk, xtv, xss, xts, xho, xfu, xfa, xfo, upd (upd xpn j (nI (xs_b r + (p + 1 - 24 * r)))) (j+1) (nI (xs_b r' + (gx_op (fun i => tx_a Hn (K i)) (su+1) hv - 24 * r'))), upd xpe (j+1) (nI (xs_b r' + (gx_op (fun i => tx_a Hn (K i)) (su+1) (hv+1) - 24 * r'))), upd xpf (j+1) (nI ou), xqk, xqv, xqo, xqp, xqs, xqh, xwo, xsi)) :
    wpX_openOperand post (xds, xcc, xmi, xre, nI (j+1), xpl, xtl, xsc, xou, xtk, xtv, xss, xts, xho, xfu, xfa, xfo, xpn, xpe, xpf, xqk, xqv, xqo, xqp, xqs, xqh, xwo, xsi) (nI j) := by
  have hb := xs_b192 w hp.1
  have t1 := (xs_Tp T hp).2
  have p2 := hp.2.1
  have p3 := hp.2.2
  have s2 := hs.2.1
  have s3 := hs.2.2
  have hb' := xs_b192 w hs.1
  unfold wpX_openOperand
  dsimp only
  rw [nI_clamp (show j < 2 ^ 31 by omega), e1, nI_clamp (show xs_b r + (p - 24 * r) < 2 ^ 31 by omega), t1]
  refine ⟨pk_in j 4001 (by omega), ⟨vp_in_nI (by omega) (by omega), nm_r ev ⟨pk_in j 4001 (by omega), nm_r e2 ⟨pk_in f 2001 hf, ?_⟩⟩⟩⟩
  rw [nI_clamp (show f < 2 ^ 31 by omega)]
  refine nm_r (e' := nI (xs_b r' + (gx_op (fun i => tx_a Hn (K i)) (su+1) 0 - 24 * r'))) ?_ ?_
  · rw [e3, nI_1, gx_op]
    exact congrArg nI (by omega)
  have L : ∀ (n k : Nat), k ≤ hv → hv < n + k → wX_openOperand_32 post (nI j) (nI hv) (nI f) xds xcc xmi xre (nI (j+1)) xpl xtl xsc xou xtk xtv xss xts xho xfu xfa xfo xpn xpe xpf xqk xqv xqo xqp xqs xqh xwo xsi n (nI (xs_b r' + (gx_op (fun i => tx_a Hn (K i)) (su+1) k - 24 * r'))) (nI k) := by
    intro n
    induction n with
    | zero => intro k h1 h2; omega
    | succ n ih =>
      intro k h1 h2
      have hq := pm_opE w hs (o := k) (by omega)
      refine pk_le hv k (fun y => ?_) (fun y => ?_)
      · have ek : k = hv := by omega
        subst ek
        refine xw_behind w T hH hq ⟨pk_in j 4001 (by omega), ⟨pk_in j 4001 (by omega), ?_⟩⟩
        rw [nI_clamp (show j < 2 ^ 31 by omega)]
        refine nm_r (by rw [e1, nI_1, show xs_b r + (p - 24 * r) + 1 = xs_b r + (p + 1 - 24 * r) from by omega]) ⟨pk_in f 2001 hf, ?_⟩
        rw [nI_clamp (show f < 2 ^ 31 by omega), e4]
        exact xw_openPiece hj h
      · refine xw_behind w T hH hq (nm_r (nI_1 k) ?_)
        exact ih (k+1) (by omega) (by omega)
  exact ⟨hv + 1, L (hv+1) 0 (by omega) (by omega)⟩
theorem xw_addPlain {post : SX → Prop} {K : Nat → Nat} {V : Nat → Int32} {Hn Len : Nat → Nat} {nc r j f p n og : Nat} {F : pm_F} {z : Int32} (w : tx_WF K V Hn Len nc) (T : xs_T K V Len nc xtk xtv)
    (hj : j < 4001) (hf : f < 2001) (hp : tx_pos Len nc r p) (hn : n < 2000) (hk : ¬ 16 ≤ K p) (h9 : K p ≠ 9) (e1 : xpn j = nI (xs_b r + (p - 24 * r))) (e2 : xpf j = nI f)
    (h10 : K p = 10 → ∃ r', tx_pos Len nc r' (F f).1 ∧ 16 ≤ K (F f).1 ∧ xfu f = nI (xs_b r' + ((F f).1 - 24 * r')))
    (h0 : f = 0 → xpn j - z = nI og) (h1 : 0 < f → xfo f = nI og)
    (h : post (xds, xcc, xmi, xre, xpc, nI (n+1), xtl, xsc, xou, xtk, xtv, xss, xts, xho, xfu, xfa, xfo, upd xpn j (nI (xs_b r + (p + 1 - 24 * r))), xpe, xpf, upd xqk n (nI (pm_kind (K p))), upd xqv n (pm_val K V F f p), upd xqo n (nI og), xqp, xqs, xqh, xwo, xsi)) :
    wpX_addPlain post (xds, xcc, xmi, xre, xpc, nI n, xtl, xsc, xou, xtk, xtv, xss, xts, xho, xfu, xfa, xfo, xpn, xpe, xpf, xqk, xqv, xqo, xqp, xqs, xqh, xwo, xsi) (nI j) z := by
  have hb := xs_b192 w hp.1
  obtain ⟨t1, t2⟩ := xs_Tp T hp
  have p2 := hp.2.1
  have p3 := hp.2.2
  have tk := tx_tokE w hp
  have H : ∀ (a b : Int32), a = nI (pm_kind (K p)) → b = pm_val K V F f p → wX_addPlain_100 post (nI j) z a b xds xcc xmi xre xpc (nI n) xtl xsc xou xtk xtv xss xts xho xfu xfa xfo xpn xpe xpf xqk xqv xqo xqp xqs xqh xwo xsi := by
    intro a b ea eb
    subst ea eb
    unfold wX_addPlain_100
    rw [nI_clamp (show n < 2 ^ 31 by omega), nI_clamp (show j < 2 ^ 31 by omega)]
    refine ⟨pk_in n 2000 hn, nm_e ⟨pk_in n 2000 hn, nm_e ?_⟩⟩
    refine xw_org (og := og) hj hf e2 h0 h1 ⟨pk_in n 2000 hn, nm_e (nm_r (nI_1 n) ⟨pk_in j 4001 hj, ⟨pk_in j 4001 hj, ?_⟩⟩)⟩
    refine nm_r (by rw [e1, nI_1, show xs_b r + (p - 24 * r) + 1 = xs_b r + (p + 1 - 24 * r) from by omega]) h
  unfold wpX_addPlain
  refine pk_lt n 2000 (fun _ => ?_) (fun z => by omega)
  rw [nI_clamp (show j < 2 ^ 31 by omega), e1, nI_clamp (show xs_b r + (p - 24 * r) < 2 ^ 31 by omega), t1, t2]
  have i1 : vp_in (nI j) 4001 := pk_in j 4001 hj
  have i2 : vp_in (nI (xs_b r + (p - 24 * r))) 192 := vp_in_nI (by omega) (by omega)
  refine ⟨i1, nm_r e2 ⟨i1, ⟨i2, nm_e ⟨i1, ⟨i2, nm_e ?_⟩⟩⟩⟩⟩
  refine pk_eq (K p) 10 (fun e => ?_) (fun e => ?_)
  · obtain ⟨r', q1, q2, q3⟩ := h10 e
    have hb' := xs_b192 w q1.1
    have q4 := q1.2.1
    have q5 := q1.2.2
    rw [nI_clamp (show f < 2 ^ 31 by omega), q3, nI_clamp (show xs_b r' + ((F f).1 - 24 * r') < 2 ^ 31 by omega), (xs_Tp T q1).2]
    refine ⟨pk_in f 2001 hf, ⟨vp_in_nI (by omega) (by omega), nm_e (H _ _ ?_ ?_)⟩⟩
    · unfold pm_kind
      rw [if_pos e]; rfl
    · unfold pm_val
      rw [if_pos e]
  · have ek : pm_kind (K p) = K p := by
      unfold pm_kind
      rw [if_neg e]
    refine pk_eq (K p) 0 (fun e0 => H _ _ (by rw [ek]) (by unfold pm_val; rw [if_neg e, if_pos e0])) (fun e0 => ?_)
    have ev : pm_val K V F f p = if K p = 1 ∨ K p = 7 then (if V p = -1 then nI (98 + 2 * f) else if V p = -2 then nI (99 + 2 * f) else V p) else 0 := by
      unfold pm_val
      rw [if_neg e, if_neg e0]
    have tk1 := tk.1
    refine br_c (fun hv => H _ _ (by rw [ek]) ?_) (fun hv => nm_e (H _ _ (by rw [ek]) ?_))
    · rw [ev]
      by_cases h17 : K p = 1 ∨ K p = 7
      · rw [if_pos h17, if_neg (fun y => by rw [y] at hv; exact absurd hv (by decide)), if_neg (fun y => by rw [y] at hv; exact absurd hv (by decide))]
      · rw [if_neg h17]
        exact tk.2.2.2 (by omega)
    · rw [ev]
      by_cases h17 : K p = 1 ∨ K p = 7
      · rw [if_pos h17]
        rcases tk.2.2.1 h17 with ⟨x, x1, x2⟩ | ⟨_, y | y⟩
        · rw [x2] at hv
          exact absurd (nI_pos' (by omega)) hv
        · rw [if_pos y, y]; exact nu_f1 f
        · rw [if_neg (by rw [y]; decide), if_pos y, y]; exact nu_f2 f
      · have := tk.2.2.2 (by omega)
        rw [this] at hv
        exact absurd hv (by decide)
