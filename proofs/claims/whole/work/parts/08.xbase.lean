variable {xds xcc xmi xre xpc xpl xtl xsc xou : Int32} {xtk xtv xss xts xho xfu xfa xfo xpn xpe xpf xqk xqv xqo xqp xqs xqh xwo xsi : Nat → Int32}
theorem gx_cd (ar : Nat → Nat) : ∀ (d c p : Nat), gx_ok ar d c p → c ≤ d
  | 0, c, p, h => by
    have h0 : c = 0 := h
    omega
  | d+1, c, p, h => by
    have h1 := gx_cd ar d _ _ h.2
    omega
theorem nu_open {c a : Nat} (h : 0 < c) : nI c + (nI a - 1) = nI (c - 1 + a) := by
  obtain ⟨c', rfl⟩ : ∃ c', c = c' + 1 := ⟨c - 1, by omega⟩
  rw [Nat.add_sub_cancel, nI_succ c', ← nI_add c' a]
  generalize nI c' = x
  generalize nI a = y
  grind
theorem xw_isUse {post : Int32 → Prop} {k : Nat} (hk : k < 2 ^ 31) (h1 : 16 ≤ k → k < 22 → post 1) (h0 : ¬ (16 ≤ k ∧ k < 22) → post 0) : wpX_isUse post (nI k) := by
  unfold wpX_isUse
  exact pk_lt k 16 (fun z => h0 (by omega)) (fun z => pk_le 22 k (fun y => h0 (by omega)) (fun y => h1 z y))
theorem xw_ops {post : Int32 → Prop} {Hn : Nat → Nat} {k : Nat} (hk : k < 22) (hH : ∀ c, c < 6 → xho c = nI (Hn c)) (h : post (nI (tx_a Hn k))) : wpX_operandsOf post (xds, xcc, xmi, xre, xpc, xpl, xtl, xsc, xou, xtk, xtv, xss, xts, xho, xfu, xfa, xfo, xpn, xpe, xpf, xqk, xqv, xqo, xqp, xqs, xqh, xwo, xsi) (nI k) := by
  unfold wpX_operandsOf
  unfold tx_a at h
  refine pk_lt k 16 (fun h1 => ?_) (fun h1 => ?_)
  · rw [if_neg (by omega)] at h
    unfold wX_operandsOf_22 wX_operandsOf_48
    refine pk_eq k 6 (fun e => by rw [if_pos e] at h; exact h) (fun e6 => ?_)
    rw [if_neg e6] at h
    refine pk_eq k 8 (fun e => by rw [if_pos e] at h; exact h) (fun e8 => ?_)
    rw [if_neg e8] at h
    refine pk_lt k 2 (fun e2 => pk_eq k 7 (fun e7 => by omega) (fun e7 => by rw [if_neg (by omega)] at h; exact h)) (fun e2 => ?_)
    refine pk_le k 5 (fun e5 => by rw [if_pos (by omega)] at h; exact h) (fun e5 => ?_)
    exact pk_eq k 7 (fun e7 => by rw [if_pos (by omega)] at h; exact h) (fun e7 => by rw [if_neg (by omega)] at h; exact h)
  · rw [if_pos h1] at h
    refine pk_le 22 k (fun e => by omega) (fun _ => ?_)
    have e : nI k - 16 = nI (k - 16) := pk_sub (b := 16) h1
    rw [e, nI_clamp (by omega), hH _ (by omega)]
    exact ⟨pk_in (k - 16) 6 (by omega), h⟩
theorem xw_behind4 {post : Int32 → Prop} {Hn KX : Nat → Nat} (hH : ∀ c, c < 6 → xho c = nI (Hn c)) : ∀ (n d c p : Nat), gx_ok (fun i => tx_a Hn (KX i)) d c p →
    (∀ i, p ≤ i → i < p + d → xtk i = nI (KX i) ∧ KX i < 22) → p + d ≤ 192 → d < n → post (nI (p+d)) → wX_behind_4 post xds xcc xmi xre xpc xpl xtl xsc xou xtk xtv xss xts xho xfu xfa xfo xpn xpe xpf xqk xqv xqo xqp xqs xqh xwo xsi n (nI c) (nI p)
  | 0, d, c, p, _, _, _, hn, _ => by omega
  | n+1, 0, c, p, g, hT, hp, hn, h => by
    have e : c = 0 := g
    subst e
    exact pk_le 192 p (fun _ => h) (fun _ => pk_le 0 0 (fun _ => h) (fun z => by omega))
  | n+1, d+1, c, p, g, hT, hp, hn, h => by
    have g0 := g.1
    have gc := gx_cd _ _ _ _ g
    obtain ⟨t1, t2⟩ := hT p (by omega) (by omega)
    refine pk_le 192 p (fun z => by omega) (fun _ => pk_le c 0 (fun z => by omega) (fun _ => ⟨pk_in p 192 (by omega), ?_⟩))
    rw [nI_clamp (by omega), t1]
    refine xw_ops t2 hH (nm_r (nu_open g0) (nm_r (nI_1 p) ?_))
    exact xw_behind4 hH n d _ (p+1) g.2 (fun i h1 h2 => hT i (by omega) (by omega)) (by omega) (by omega) (by rw [show p + 1 + d = p + (d+1) from by omega]; exact h)
theorem xw_behind {post : Int32 → Prop} {K : Nat → Nat} {V : Nat → Int32} {Hn Len : Nat → Nat} {nc r i : Nat} (w : tx_WF K V Hn Len nc) (T : xs_T K V Len nc xtk xtv) (hH : ∀ c, c < 6 → xho c = nI (Hn c))
    (hp : tx_pos Len nc r i) (h : post (nI (xs_b r + (gx_en (fun i => tx_a Hn (K i)) i - 24 * r)))) : wpX_behind post (xds, xcc, xmi, xre, xpc, xpl, xtl, xsc, xou, xtk, xtv, xss, xts, xho, xfu, xfa, xfo, xpn, xpe, xpf, xqk, xqv, xqo, xqp, xqs, xqh, xwo, xsi) (nI (xs_b r + (i - 24 * r))) := by
  obtain ⟨d, d1, d2, d3, d4⟩ := tx_expr w hp
  obtain ⟨p1, p2, p3⟩ := hp
  have hb := xs_b192 w p1
  unfold wpX_behind
  refine ⟨d + 1, xw_behind4 (KX := fun x => K (24 * r + (x - xs_b r))) hH (d+1) d 1 _ ?_ ?_ (by omega) (by omega) ?_⟩
  · refine gx_congr _ _ _ _ _ _ ?_ d1
    intro j hj
    rw [show 24 * r + (xs_b r + (i - 24 * r) + j - xs_b r) = i + j from by omega]
  · intro x h1 h2
    obtain ⟨t1, t2⟩ := T r p1 (x - xs_b r) (by omega)
    rw [show xs_b r + (x - xs_b r) = x from by omega] at t1
    refine ⟨t1, ?_⟩
    have t3 := (tx_tokE w ⟨p1, by omega, by omega⟩ : tx_tok K V Hn nc r (24 * r + (x - xs_b r))).1
    have w0 := w.1
    unfold tx_lim at t3
    split at t3 <;> omega
  · rw [gx_enE d1 (by omega)] at h
    rw [show xs_b r + (i - 24 * r) + d = xs_b r + (i + d - 24 * r) from by omega]
    exact h
theorem xw_openPiece {post : SX → Prop} {j : Nat} {a b c : Int32} (hj : j < 4001) (h : post (xds, xcc, xmi, xre, nI (j+1), xpl, xtl, xsc, xou, xtk, xtv, xss, xts, xho, xfu, xfa, xfo, upd xpn j a, upd xpe j b, upd xpf j c, xqk, xqv, xqo, xqp, xqs, xqh, xwo, xsi)) : wpX_openPiece post (xds, xcc, xmi, xre, nI j, xpl, xtl, xsc, xou, xtk, xtv, xss, xts, xho, xfu, xfa, xfo, xpn, xpe, xpf, xqk, xqv, xqo, xqp, xqs, xqh, xwo, xsi) a b c := by
  unfold wpX_openPiece
  refine pk_le 4001 j (fun z => by omega) (fun _ => ⟨pk_in j 4001 hj, ?_⟩)
  rw [nI_clamp (by omega)]
  exact nm_e ⟨pk_in j 4001 hj, nm_e ⟨pk_in j 4001 hj, nm_e (nm_r (nI_1 j) h)⟩⟩
theorem xw_origin {post : Int32 → Prop} {j f x : Nat} {z : Int32} (hj : j < 4001) (hf : f < 2001) (e1 : xpf j = nI f) (h0 : f = 0 → post (xpn j - z)) (h1 : 0 < f → xfo f = nI x → post (nI x)) (e2 : 0 < f → xfo f = nI x) : wpX_originOfNext post (xds, xcc, xmi, xre, xpc, xpl, xtl, xsc, xou, xtk, xtv, xss, xts, xho, xfu, xfa, xfo, xpn, xpe, xpf, xqk, xqv, xqo, xqp, xqs, xqh, xwo, xsi) (nI j) z := by
  unfold wpX_originOfNext
  rw [nI_clamp (by omega)]
  refine ⟨pk_in j 4001 hj, nm_r e1 ?_⟩
  refine pk_eq f 0 (fun e => ⟨pk_in j 4001 hj, h0 e⟩) (fun e => ⟨pk_in f 2001 hf, ?_⟩)
  rw [nI_clamp (by omega), e2 (by omega)]
  exact h1 (by omega) (e2 (by omega))
