variable {xds xcc xmi xre xpc xpl xtl xsc xou : Int32} {xtk xtv xss xts xho xfu xfa xfo xpn xpe xpf xqk xqv xqo xqp xqs xqh xwo xsi : Nat → Int32}
/-- what the linking has laid when all tokens from q on have been linked -/
def xl_L (n : Nat) (O : pm_O) (q : Nat) (qp qs qh : Nat → Int32) : Prop :=
  (∀ m, q ≤ m → m < n → qs m = nI (tr_sp (pm_ar O) m) ∧ qh m = nI (tr_ht (pm_ar O) m)) ∧
  (∀ o, o < n → q + 1 ≤ (O o).2.2.2 → qp o = nI ((O o).2.2.2 - 1))
def xl_R (n : Nat) (O : pm_O) (qp qs qh : Nat → Int32) : Prop :=
  ∀ m, m < n → qs m = nI (tr_sp (pm_ar O) m) ∧ qh m = nI (tr_ht (pm_ar O) m) ∧ qp m = ys_i (O m).2.2.2
theorem tr_htB {n : Nat} {O : pm_O} (h : tr_G n O) {k : Nat} (hk : k < n) : tr_ht (pm_ar O) k ≤ 2000 := by
  obtain ⟨R, dj, e1, e2, e3, e4, e5, e6, e7⟩ := tr_ch h hk (j := 0) (Nat.zero_le _)
  have hd : dj = 0 := by
    rw [gx_op] at e2
    omega
  subst hd
  have h3 := h.1
  obtain ⟨s1, s2, s3, s4⟩ := tr_spE h hk
  have := tr_hfB (pm_ar O) 2500 _ _ _ e5 (by omega)
  unfold tr_ht
  rw [Nat.sub_zero, Nat.add_zero] at this
  omega
theorem xw_link32 {post : SX → Prop} {J : Int32 → (Nat → Int32) → (Nat → Int32) → (Nat → Int32) → (Nat → Int32) → (Nat → Int32) → (Nat → Int32) → (Nat → Int32) → (Nat → Int32) → (Nat → Int32) → (Nat → Int32) → (Nat → Int32) → (Nat → Int32) → (Nat → Int32) → (Nat → Int32) → (Nat → Int32) → (Nat → Int32) → (Nat → Int32) → (Nat → Int32) → (Nat → Int32) → Prop}
    {n k : Nat} {O : pm_O} (G : tr_G n O) (hk : k < n)
    (hJ : ∀ (qp qs qh : Nat → Int32), xl_L n O k qp qs qh → J (ys_i k) xtk xtv xss xts xho xfu xfa xfo xpn xpe xpf xqk xqv xqo qp qs qh xwo xsi) (L0 : ∀ m, k + 1 ≤ m → m < n → xqs m = nI (tr_sp (pm_ar O) m) ∧ xqh m = nI (tr_ht (pm_ar O) m)) :
    ∀ (m j hi : Nat) (xqp : Nat → Int32), j ≤ pm_ar O k → pm_ar O k < m + j → max hi (tr_hf (pm_ar O) 2500 (pm_ar O k - j) (gx_op (pm_ar O) (k+1) j)) = tr_hf (pm_ar O) 2500 (pm_ar O k) (k+1) →
      (∀ o, o < n → k + 2 ≤ (O o).2.2.2 → xqp o = nI ((O o).2.2.2 - 1)) → (∀ i, i < j → xqp (gx_op (pm_ar O) (k+1) i) = nI k) →
      wX_linkPlain_32 post J (nI k) (nI (pm_ar O k)) xds xcc xmi xre xpc (nI n) xtl xsc xou m (nI (gx_op (pm_ar O) (k+1) j)) (nI hi) (nI j) xtk xtv xss xts xho xfu xfa xfo xpn xpe xpf xqk xqv xqo xqp xqs xqh xwo xsi := by
  have h3 := G.1
  have ha3 : pm_ar O k ≤ 3 := tr_a3 O (G.2.2 k hk).1
  have hB := tr_htB G hk
  have hBe : tr_ht (pm_ar O) k = tr_hf (pm_ar O) 2500 (pm_ar O k) (k+1) + 1 := rfl
  intro m
  induction m with
  | zero => intro j hi xqp h1 h2; omega
  | succ m ih =>
    intro j hi xqp h1 h2 h5 h6 h7
    obtain ⟨R, dj, c1, c2, c3, c4, c5, c6, c7⟩ := tr_ch G hk h1
    refine pk_le (pm_ar O k) j (fun z => ?_) (fun z => ?_)
    · have ej : j = pm_ar O k := by omega
      subst ej
      rw [Nat.sub_self, tr_hf0] at h5
      have eh : hi = tr_hf (pm_ar O) 2500 (pm_ar O k) (k+1) := by omega
      unfold wX_linkPlain_92
      rw [nI_clamp (show k < 2 ^ 31 by omega), tr_lastE G hk, pk_sub (by omega), nI_1]
      refine ⟨pk_in k 2000 (by omega), nm_e ⟨pk_in k 2000 (by omega), nm_e (nm_r (e' := ys_i k) ?_ (hJ _ _ _ ⟨?_, ?_⟩))⟩⟩
      · cases k with
        | zero => rfl
        | succ k => exact pk_m1 k
      · intro x hx1 hx2
        by_cases e : x = k
        · subst e
          rw [pk_us, pk_us, show x + tr_sp (pm_ar O) x - x = tr_sp (pm_ar O) x from by omega, hBe, eh]
          exact ⟨rfl, rfl⟩
        · rw [pk_un e, pk_un e]
          exact L0 x (by omega) hx2
      · intro o ho1 ho2
        by_cases e : (O o).2.2.2 = k + 1
        · obtain ⟨i, i1, i2⟩ := tr_isch G hk ho1 e
          rw [e, i2]
          exact h7 i i1
        · exact h6 o ho1 (by omega)
    · obtain ⟨d1, d2⟩ := c7 z
      rw [c2]
      have hp : k + 1 + dj < n := d1
      obtain ⟨l1, l2⟩ := L0 (k+1+dj) (by omega) hp
      obtain ⟨s1, s2, s3, s4⟩ := tr_spE G hp
      have hBp := tr_htB G hp
      obtain ⟨c, ec⟩ : ∃ c, pm_ar O k - j = c + 1 := ⟨pm_ar O k - j - 1, by omega⟩
      rw [ec] at c5
      obtain ⟨sk1, sk2, sk3, sk4⟩ := tr_spE G hk
      have hS := tr_hfS c5 (by omega)
      have ec2 : pm_ar O k - (j+1) = c := by omega
      have eop : gx_op (pm_ar O) (k+1) (j+1) = gx_en (pm_ar O) (k+1+dj) := by
        show gx_en (pm_ar O) (gx_op (pm_ar O) (k+1) j) = _
        rw [c2]
      rw [ec, c2, hS] at h5
      refine pk_le n (k+1+dj) (fun y => by omega) (fun _ => ⟨vp_in_nI (by omega) (by omega), ?_⟩)
      rw [nI_clamp (show k + 1 + dj < 2 ^ 31 by omega), l2]
      have N : ∀ z0 : Nat, z0 = max hi (tr_ht (pm_ar O) (k+1+dj)) → wX_linkPlain_75 post J (wX_linkPlain_32 post J (nI k) (nI (pm_ar O k)) xds xcc xmi xre xpc (nI n) xtl xsc xou m) (nI k) (nI (pm_ar O k)) (nI (k+1+dj)) (nI j) (nI z0) xds xcc xmi xre xpc (nI n) xtl xsc xou xtk xtv xss xts xho xfu xfa xfo xpn xpe xpf xqk xqv xqo (upd xqp (k+1+dj) (nI k)) xqs xqh xwo xsi := by
        intro z0 ez
        unfold wX_linkPlain_75
        rw [nI_clamp (show k + 1 + dj < 2 ^ 31 by omega), l1]
        refine ⟨vp_in_nI (by omega) (by omega), nm_r (e' := nI (gx_op (pm_ar O) (k+1) (j+1))) ?_ (nm_r (nI_1 j) ?_)⟩
        · rw [eop, s4, nI_add]
        · refine ih (j+1) z0 _ (by omega) (by omega) ?_ ?_ ?_
          · rw [ec2, eop, ez]
            omega
          · intro o ho1 ho2
            rw [pk_un (fun y => by rw [y, d2] at ho2; omega)]
            exact h6 o ho1 ho2
          · intro i hi2
            by_cases e : i = j
            · rw [e, c2, pk_us]
            · by_cases e3 : gx_op (pm_ar O) (k+1) i = k + 1 + dj
              · rw [e3, pk_us]
              · rw [pk_un e3]
                exact h7 i (by omega)
      refine nm_e ⟨vp_in_nI (by omega) (by omega), pk_le (tr_ht (pm_ar O) (k+1+dj)) hi (fun y => N hi (by omega)) (fun y => ⟨vp_in_nI (by omega) (by omega), N _ (by omega)⟩)⟩
theorem xw_link7 {post : SX → Prop} {n : Nat} {O : pm_O} {Hn : Nat → Nat} (G : tr_G n O) (hH : ∀ c, c < 6 → xho c = nI (Hn c)) (hO : ∀ m, m < n → xqk m = nI (O m).1)
    (h : ∀ (qp qs qh : Nat → Int32), xl_R n O qp qs qh → post (xds, xcc, xmi, xre, xpc, nI n, xtl, xsc, xou, xtk, xtv, xss, xts, xho, xfu, xfa, xfo, xpn, xpe, xpf, xqk, xqv, xqo, qp, qs, qh, xwo, xsi)) :
    ∀ (m q : Nat) (xqp xqs xqh : Nat → Int32), q < m → q ≤ n → xl_L n O q xqp xqs xqh → wX_linkPlain_7 post xds xcc xmi xre xpc (nI n) xtl xsc xou m (ys_i q) xtk xtv xss xts xho xfu xfa xfo xpn xpe xpf xqk xqv xqo xqp xqs xqh xwo xsi := by
  have h3 := G.1
  intro m
  induction m with
  | zero => intro q _ _ _ hq; omega
  | succ m ih =>
    intro q xqp xqs xqh hq hqn L
    cases q with
    | zero =>
      refine br_t (by decide) (nm_e (h _ _ _ ?_))
      intro x hx
      obtain ⟨a1, a2⟩ := L.1 x (by omega) hx
      refine ⟨a1, a2, ?_⟩
      obtain ⟨R, e⟩ := (G.2.2 x hx).2.2.2
      by_cases e0 : x = 0
      · subst e0
        rw [tr_pd] at e
        have e1 : (O 0).2.2.2 = 0 := (List.cons.inj e).1.symm
        rw [e1]; rfl
      · have hpos : 0 < (O x).2.2.2 := by
          rcases Nat.eq_zero_or_pos (O x).2.2.2 with z | z
          · exfalso
            rw [z] at e
            have hm : 0 ∈ tr_pd (pm_ar O) (1 + (x - 1)) := by
              rw [show 1 + (x - 1) = x from by omega, e]
              exact List.mem_cons_self
            rcases tr_hi (pm_ar O) 1 (x-1) 0 hm with y | y
            · rw [tr_pdS, List.mem_append] at y
              rcases y with y | y
              · have := List.eq_of_mem_replicate y
                omega
              · rw [tr_pd] at y
                cases y
            · omega
          · exact z
        rw [ys_iP hpos]
        show (upd xqp 0 (-1)) x = _
        rw [pk_un e0]
        exact L.2 x hx (by omega)
    | succ k =>
      have hk : k < n := by omega
      rw [ys_iS]
      refine br_f (nI_pos (by omega)) ⟨pk_in k 2000 (by omega), ?_⟩
      have o8 := (G.2.2 k hk).1
      rw [nI_clamp (show k < 2 ^ 31 by omega), hO k hk]
      refine xw_ops (Hn := Hn) (by omega) hH (nm_r (nI_1 k) ?_)
      have ea : tx_a Hn (O k).1 = pm_ar O k := tx_aI _ _ (by omega)
      rw [ea]
      have ha3 : pm_ar O k ≤ 3 := tr_a3 O o8
      refine ⟨pm_ar O k + 1, xw_link32 (n := n) (O := O) (k := k) G hk ?_ ?_ (pm_ar O k + 1) 0 0 xqp (by omega) (by omega) ?_ ?_ ?_⟩
      · intro qp qs qh L'
        exact ih k qp qs qh (by omega) (by omega) L'
      · intro x h1 h2
        exact L.1 x h1 h2
      · rw [Nat.sub_zero, gx_op]
        omega
      · intro o ho1 ho2
        exact L.2 o ho1 (by omega)
      · intro i hi; omega
theorem xw_link {post : SX → Prop} {n : Nat} {O : pm_O} {Hn : Nat → Nat} (G : tr_G n O) (hH : ∀ c, c < 6 → xho c = nI (Hn c)) (hO : ∀ m, m < n → xqk m = nI (O m).1)
    (h : ∀ (qp qs qh : Nat → Int32), xl_R n O qp qs qh → post (xds, xcc, xmi, xre, xpc, nI n, xtl, xsc, xou, xtk, xtv, xss, xts, xho, xfu, xfa, xfo, xpn, xpe, xpf, xqk, xqv, xqo, qp, qs, qh, xwo, xsi)) : wpX_linkPlain post (xds, xcc, xmi, xre, xpc, nI n, xtl, xsc, xou, xtk, xtv, xss, xts, xho, xfu, xfa, xfo, xpn, xpe, xpf, xqk, xqv, xqo, xqp, xqs, xqh, xwo, xsi) := by
  have hn := tr_n0 G
  unfold wpX_linkPlain
  refine nm_r (e' := ys_i n) ?_ ⟨n+1, xw_link7 G hH hO h (n+1) n _ _ _ (by omega) (Nat.le_refl _) ⟨?_, ?_⟩⟩
  · rw [ys_iP hn]
    exact pk_sub (b := 1) hn
  · intro x h1 h2; omega
  · intro o h1 h2
    obtain ⟨R, e⟩ := (G.2.2 o h1).2.2.2
    have := tr_pdB (pm_ar O) o (O o).2.2.2 (by rw [e]; exact List.mem_cons_self)
    omega
theorem xw_link0 {post : SX → Prop} (h : ∀ (qp : Nat → Int32), post (xds, xcc, xmi, xre, xpc, 0, xtl, xsc, xou, xtk, xtv, xss, xts, xho, xfu, xfa, xfo, xpn, xpe, xpf, xqk, xqv, xqo, qp, xqs, xqh, xwo, xsi)) : wpX_linkPlain post (xds, xcc, xmi, xre, xpc, 0, xtl, xsc, xou, xtk, xtv, xss, xts, xho, xfu, xfa, xfo, xpn, xpe, xpf, xqk, xqv, xqo, xqp, xqs, xqh, xwo, xsi) := by
  unfold wpX_linkPlain
  exact nm_e ⟨1, br_t (by decide) (nm_e (h _))⟩
