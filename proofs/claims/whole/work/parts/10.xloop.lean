variable {xds xcc xmi xre xpc xpl xtl xsc xou : Int32} {xtk xtv xss xts xho xfu xfa xfo xpn xpe xpf xqk xqv xqo xqp xqs xqh xwo xsi : Nat → Int32}
theorem xw_loopX {post : Int32 → SX → Prop} {z : Int32} {m step pc : Nat} (hm : 0 < m) (hs : step < 1000000) (h0 : 0 < pc) (h1 : pc < 2 ^ 31) (h : wX_expand_166 post xds xcc xmi xre (nI pc) xpl 1 xsc xou xtk xtv xss xts xho xfu xfa xfo xpn xpe xpf xqk xqv xqo xqp xqs xqh xwo xsi) : wX_expand_51 post z m (nI step) xds xcc xmi xre (nI pc) xpl 1 xsc xou xtk xtv xss xts xho xfu xfa xfo xpn xpe xpf xqk xqv xqo xqp xqs xqh xwo xsi := by
  obtain ⟨m', rfl⟩ : ∃ m', m = m' + 1 := ⟨m - 1, by omega⟩
  exact pk_le 1000000 step (fun z => by omega) (fun _ => pk_le pc 0 (fun z => by omega) (fun _ => br_f (by decide) h))
theorem xw_og {K : Nat → Nat} {V : Nat → Int32} {Hn Len : Nat → Nat} {nc s f p j nf : Nat} {F : pm_F} (w : tx_WF K V Hn Len nc) (hs : s < 4) (hf : f ≤ nf) (hp : tx_pos Len nc (pm_row K s F f) p)
    (e1 : xpn j = nI (xs_b (pm_row K s F f) + (p - 24 * pm_row K s F f))) (hF : xs_F (pm_row K s F) F nf xfu xfa xfo) :
    (f = 0 → xpn j - nI (24 * s) = nI (pm_org F f p)) ∧ (0 < f → xfo f = nI (pm_org F f p)) := by
  constructor
  · intro e
    subst e
    have er : pm_row K s F 0 = 6 + s := if_pos rfl
    rw [er] at e1 hp
    have hl := (w.2 (6+s) hp.1).1
    have h2 := hp.2.1
    have h3 := hp.2.2
    have eb : xs_b (6+s) = 24 * s := by
      unfold xs_b
      rw [if_neg (by omega)]; omega
    have eo : pm_org F 0 p = p % 24 := if_pos rfl
    rw [e1, eb, pk_sub (by omega), eo]
    exact congrArg nI (by omega)
  · intro h
    have eo : pm_org F f p = (F f).2.2.1 := if_neg (by omega)
    rw [eo]
    exact (hF f h hf).2.2
theorem xw_loop {post : Int32 → SX → Prop} {K : Nat → Nat} {V : Nat → Int32} {Hn Len : Nat → Nat} {nc s : Nat} (w : tx_WF K V Hn Len nc) (T : xs_T K V Len nc xtk xtv) (hH : ∀ c, c < 6 → xho c = nI (Hn c))
    (hL : ∀ c, c < 6 → xts c = nI (Len c)) (hs : s < 4) (R : Option (Nat × Nat × pm_O))
    (h : ∀ (re pc pl tl : Int32) (fu fa fo pn pe pf qk qv qo : Nat → Int32), (R = none → tl = 1) → (∀ nf' n' O', R = some (nf', n', O') → re = nI nf' ∧ pl = nI n' ∧ tl = 0 ∧ xs_O n' O' qk qv qo) →
      wX_expand_166 post xds xcc xmi re pc pl tl xsc xou xtk xtv xss xts xho fu fa fo pn pe pf qk qv qo xqp xqs xqh xwo xsi) :
    ∀ (m t step pc : Nat) (st : List pm_S) (nf : Nat) (F : pm_F) (n : Nat) (O : pm_O) (xfu xfa xfo xpn xpe xpf xqk xqv xqo : Nat → Int32), pm_I K Len nc s st nf F n →
      xs_P (fun i => tx_a Hn (K i)) (pm_row K s F) Len (fun f => (F f).2.2.2) nf xpn xpe xpf pc st → xs_F (pm_row K s F) F nf xfu xfa xfo → xs_O n O xqk xqv xqo →
      pm_go K V (fun i => tx_a Hn (K i)) t st nf F n O = R → pm_mu K s F st nf n < t → 2 * pm_mu K s F st nf n + pc < m → step + 2 * pm_mu K s F st nf n + pc < 1000000 →
      wX_expand_51 post (nI (24 * s)) m (nI step) xds xcc xmi (nI nf) (nI pc) (nI n) 0 xsc xou xtk xtv xss xts xho xfu xfa xfo xpn xpe xpf xqk xqv xqo xqp xqs xqh xwo xsi := by
  intro m
  induction m with
  | zero => intro t step pc st nf F n O xfu xfa xfo xpn xpe xpf xqk xqv xqo _ _ _ _ _ _ hm; omega
  | succ m ih =>
    intro t step pc st nf F n O xfu xfa xfo xpn xpe xpf xqk xqv xqo hI hP hF hO hR ht hm hst
    obtain ⟨t, rfl⟩ : ∃ t', t = t' + 1 := ⟨t - 1, by omega⟩
    refine pk_le 1000000 step (fun z => by omega) (fun _ => ?_)
    cases pc with
    | zero =>
      have e : st = [] := hP
      subst e
      rw [pm_go0] at hR
      refine pk_le 0 0 (fun _ => ?_) (fun z => by omega)
      refine h _ _ _ _ _ _ _ _ _ _ _ _ _ (fun z => by rw [z] at hR; cases hR) (fun nf' n' O' z => ?_)
      rw [z] at hR
      cases hR
      exact ⟨rfl, rfl, rfl, hO⟩
    | succ j =>
      obtain ⟨c, p, q, f, rest, g1, g2, g3, g4, g5, g6, g7, g8, g9⟩ := hP
      replace g5 : j + (F f).2.2.2 ≤ 2 * nf := g5
      have hnf := hI.2.1
      have hj : j < 4001 := by omega
      refine pk_le (j+1) 0 (fun z => by omega) (fun _ => br_t rfl (nm_r (nI_pred j) ⟨pk_in j 4001 hj, ?_⟩))
      rw [nI_clamp (show j < 2 ^ 31 by omega)]
      refine nm_r g6 ⟨pk_in j 4001 hj, ?_⟩
      rw [g7]
      cases c with
      | zero =>
        obtain ⟨e1, e2⟩ := g1
        subst e1 e2
        refine br_f (by rw [Int32.not_lt]; exact Int32.le_refl _) (nm_r (nI_1 step) ?_)
        exact ih (t+1) (step+1) j st nf F n O _ _ _ _ _ _ _ _ _ hI g9 hF hO hR ht (by omega) (by omega)
      | succ c =>
        obtain ⟨d, a, st', k1, k2, k3⟩ := g1
        subst k2
        obtain ⟨hf, hp⟩ := pm_head hI
        have hd := gx_pos k1
        have hle := xs_le _ _ _ _ _ _ _ k3
        have hb := xs_b192 w hp.1
        have hl24 := (w.2 _ hp.1).1
        obtain ⟨t1, t2⟩ := xs_Tp T hp
        obtain ⟨og0, og1⟩ := xw_og (j := j) w hs hf hp g6 hF
        have een : gx_en (fun i => tx_a Hn (K i)) p = p + d := gx_enE k1 (by omega)
        refine pk_lt (xs_b (pm_row K s F f) + (p - 24 * pm_row K s F f)) (xs_b (pm_row K s F f) + (q - 24 * pm_row K s F f)) (fun _ => ⟨vp_in_nI (by omega) (by omega), ?_⟩) (fun z => by omega)
        rw [nI_clamp (show xs_b (pm_row K s F f) + (p - 24 * pm_row K s F f) < 2 ^ 31 by omega), t1]
        have hk22 : K p < 22 := by
          have x1 := (tx_tokE w hp).1
          have x2 := w.1
          unfold tx_lim at x1
          split at x1 <;> omega
        refine xw_isUse (by omega) (fun hk _ => br_f (by decide) ?_) (fun hk' => br_t rfl ⟨vp_in_nI (by omega) (by omega), ?_⟩)
        · -- a USE
          by_cases hn : nf = 2000
          · rw [pm_goUx _ _ _ _ _ _ _ _ _ _ _ _ hk hn] at hR
            subst hn
            unfold wpX_openTemplate
            refine pk_lt 2000 2000 (fun z => by omega) (fun _ => nm_r (nI_1 step) ?_)
            refine xw_loopX (by omega) (by omega) (by omega) (by omega) ?_
            exact h _ _ _ _ _ _ _ _ _ _ _ _ _ (fun _ => rfl) (fun nf' n' O' z => by rw [z] at hR; cases hR)
          · rw [pm_goU _ _ _ _ _ _ _ _ _ _ _ _ hk hn] at hR
            obtain ⟨I', mu'⟩ := pm_IU w hI hk hn
            obtain ⟨u1, u2, u3⟩ := tx_useRow w hp hk
            have hr' := w.2 (K p - 16) (Or.inl u1)
            have hl' := hr'.2.1 u2
            refine xw_openTemplate w T hH hL (by omega) (by omega) hf hp hk g6 g8 og0 og1 (nm_r (nI_1 step) ?_)
            refine ih t (step+1) (j+1+1) _ (nf+1) (pm_nF F nf f p) n O _ _ _ _ _ _ _ _ _ I' ?_ ?_ hO hR (by omega) (by omega) (by omega)
            · have eS : pm_row K s (pm_nF F nf f p) (nf+1) = K p - 16 := pm_rowS
              have eF : pm_nF F nf f p (nf+1) = (p, f, pm_org F f p, (F f).2.2.2 + 1) := pm_fs
              refine ⟨1, 24 * (K p - 16), 24 * (K p - 16) + Len (K p - 16), nf+1, st', ⟨Len (K p - 16), a, st', hr'.2.2.1 (by omega), rfl, rfl, rfl⟩, Nat.le_refl _, by rw [eS]; omega, by rw [eS]; omega, by show j + 1 + (pm_nF F nf f p (nf+1)).2.2.2 ≤ _; rw [eF]; dsimp only; omega, ?_, ?_, ?_, ?_⟩
              · rw [pk_us, eS]
                exact congrArg nI (by omega)
              · rw [pk_us, eS]
                exact congrArg nI (by omega)
              · rw [pk_us]
              · have eR : pm_row K s (pm_nF F nf f p) f = pm_row K s F f := pm_rowN hf
                have eF2 : pm_nF F nf f p f = F f := pm_fn (by omega)
                refine ⟨c, p + d, q, f, rest, k3, by omega, by rw [eR]; omega, by rw [eR]; exact g4, by show j + (pm_nF F nf f p f).2.2.2 ≤ _; rw [eF2]; omega, ?_, ?_, ?_, ?_⟩
                · rw [pk_un (by omega), pk_us, eR, een]
                · rw [pk_un (by omega), eR]; exact g7
                · rw [pk_un (by omega)]; exact g8
                · refine xs_keep (nf := nf) (fun x hx => ⟨pm_rowN hx, ?_⟩) (by omega) j rest (fun x hx => ⟨?_, ?_, ?_⟩) g9
                  · show (pm_nF F nf f p x).2.2.2 = (F x).2.2.2
                    have : pm_nF F nf f p x = F x := pm_fn (by omega)
                    rw [this]
                  · rw [pk_un (by omega), pk_un (by omega)]
                  · rw [pk_un (by omega)]
                  · rw [pk_un (by omega)]
            · intro x hx1 hx2
              by_cases e : x = nf + 1
              · subst e
                have eF : pm_nF F nf f p (nf+1) = (p, f, pm_org F f p, (F f).2.2.2 + 1) := pm_fs
                rw [eF, pk_us, pk_us, pk_us]
                dsimp only
                rw [pm_rowN hf]
                exact ⟨rfl, rfl, rfl⟩
              · have eF : pm_nF F nf f p x = F x := pm_fn e
                have x5 := (hI.2.2.2.2.1 x hx1 (by omega)).1
                rw [eF, pk_un e, pk_un e, pk_un e, pm_rowN (by omega)]
                exact hF x hx1 (by omega)
        · -- no USE
          have hk : ¬ 16 ≤ K p := fun z => hk' ⟨z, hk22⟩
          refine pk_eq (K p) 9 (fun h9 => ?_) (fun h9 => ?_)
          · rw [pm_goH _ _ _ _ _ _ _ _ _ _ _ _ h9] at hR
            obtain ⟨I', mu'⟩ := pm_IH w hI h9
            obtain ⟨o1, o2, o3, o4, o5, o6, o7, o8, o9, o10⟩ := pm_holeE w hI h9
            obtain ⟨f1, f2, f3⟩ := hF f o1 o2
            have hdp := (hI.2.2.2.2.1 f o1 o2).2.2.2.1
            have hd1 : d = 1 := by
              have x1 : gx_ok (fun i => tx_a Hn (K i)) 1 1 p := by
                rw [gx_s]
                refine ⟨by omega, ?_⟩
                rw [tx_a9 Hn (Or.inl h9)]
                exact gx_00 _ _
              exact gx_det _ _ _ _ _ k1 x1
            subst hd1
            obtain ⟨d', d1, d2, d3, d4⟩ := tx_expr w o9
            refine xw_openOperand w T hH (by omega) (by omega) hp g6 g8 o5 o4 o7 o6 f1 f2 (nm_r (nI_1 step) ?_)
            refine ih t (step+1) (j+1+1) _ nf F n O _ _ _ _ _ _ _ _ _ I' ?_ hF hO hR (by omega) (by omega) (by omega)
            refine ⟨1, _, gx_op (fun i => tx_a Hn (K i)) ((F f).1 + 1) (pm_hole V p + 1), (F f).2.1, st', ⟨d', a, st', d1, rfl, (gx_enE d1 (by omega)).symm, rfl⟩, by omega, o9.2.1, ?_, by show j + 1 + (F (F f).2.1).2.2.2 ≤ _; omega, ?_, ?_, ?_, ?_⟩
            · have : gx_op (fun i => tx_a Hn (K i)) ((F f).1 + 1) (pm_hole V p + 1) = gx_op (fun i => tx_a Hn (K i)) ((F f).1 + 1) (pm_hole V p) + d' := gx_enE d1 (by omega)
              omega
            · rw [pk_us]
            · rw [pk_us]
            · rw [pk_us]
            · refine ⟨c, p + 1, q, f, rest, k3, g2, by omega, g4, g5, ?_, ?_, ?_, ?_⟩
              · rw [pk_un (by omega), pk_us]
              · rw [pk_un (by omega)]; exact g7
              · rw [pk_un (by omega)]; exact g8
              · refine xs_keep (nf := nf) (fun x hx => ⟨rfl, rfl⟩) (Nat.le_refl _) j rest (fun x hx => ⟨?_, ?_, ?_⟩) g9
                · rw [pk_un (by omega), pk_un (by omega)]
                · rw [pk_un (by omega)]
                · rw [pk_un (by omega)]
          · by_cases hn : n = 2000
            · rw [pm_goPx _ _ _ _ _ _ _ _ _ _ _ _ hk h9 hn] at hR
              subst hn
              unfold wpX_addPlain
              refine pk_lt 2000 2000 (fun z => by omega) (fun _ => nm_r (nI_1 step) ?_)
              refine xw_loopX (by omega) (by omega) (by omega) (by omega) ?_
              exact h _ _ _ _ _ _ _ _ _ _ _ _ _ (fun _ => rfl) (fun nf' n' O' z => by rw [z] at hR; cases hR)
            · rw [pm_goP _ _ _ _ _ _ _ _ _ _ _ _ hk h9 hn] at hR
              obtain ⟨I', mu'⟩ := pm_IP w hI hk hn (n+1)
              have hn2 := hI.2.2.1
              obtain ⟨d', ed⟩ : ∃ d', d = d' + 1 := ⟨d - 1, by omega⟩
              subst ed
              have k5 := k1.2
              rw [Nat.sub_self, Nat.zero_add] at k5
              refine xw_addPlain (F := F) w T hj (by omega) hp (by omega) hk h9 g6 g8 ?_ og0 og1 (nm_r (nI_1 step) ?_)
              · intro h10
                have hr6 : pm_row K s F f < 6 := by
                  have x1 := (tx_tokE w hp).1
                  omega
                have hf1 : 1 ≤ f := by
                  rcases Nat.eq_zero_or_pos f with x0 | x0
                  · rw [x0] at hr6
                    unfold pm_row at hr6
                    rw [if_pos rfl] at hr6
                    omega
                  · exact x0
                obtain ⟨y1, y2, y3, y4, y5⟩ := hI.2.2.2.2.1 f hf1 hf
                exact ⟨_, y2, y3, (hF f hf1 hf).1⟩
              · refine ih t (step+1) (j+1) _ nf F (n+1) _ _ _ _ _ _ _ _ _ _ I' ?_ hF ?_ hR (by omega) (by omega) (by omega)
                · refine ⟨tx_a Hn (K p) + c, p + 1, q, f, rest, ?_, g2, by omega, g4, g5, ?_, g7, g8, ?_⟩
                  · refine xs_push (fun i => tx_a Hn (K i)) q f (n+1) rest (p+1) (tx_a Hn (K p)) d' c st' k5 (by omega) ?_
                    rw [show p + 1 + d' = p + (d' + 1) from by omega]
                    exact k3
                  · rw [pk_us]
                  · exact xs_keep (nf := nf) (fun x hx => ⟨rfl, rfl⟩) (Nat.le_refl _) j rest (fun x hx => ⟨pk_un (by omega), rfl, rfl⟩) g9
                · intro x hx
                  by_cases e : x = n
                  · subst e
                    have eO : pm_nO K V F x O f p a x = (pm_kind (K p), pm_val K V F f p, pm_org F f p, a) := pm_fs
                    rw [eO, pk_us, pk_us, pk_us]
                    exact ⟨rfl, rfl, rfl⟩
                  · have eO : pm_nO K V F n O f p a x = O x := pm_fn e
                    rw [eO, pk_un e, pk_un e, pk_un e]
                    exact hO x (by omega)
