variable {yco ypl ysz yus yof yre ysa : Int32} {ykd ybh yln yhl yvl yks yog yvs ypa ysp ytd ywi yun ysd you yfr ylf yva ysv ywo ysi ywk yph : Nat → Int32}
theorem yw_loopX {post : Int32 → SY → Prop} {m : Nat} {x2 : Int32} (hm : 0 < m) (hz : 2000 < ysz ∨ 2000 < yus) (h : wY_expanded_534 post yco ypl ysz yus yof yre ysa ykd ybh yln yhl yvl yks yog yvs ypa ysp ytd ywi yun ysd you yfr ylf yva ysv ywo ysi ywk yph) : wY_expanded_80 post m x2 yco ypl ysz yus yof yre ysa ykd ybh yln yhl yvl yks yog yvs ypa ysp ytd ywi yun ysd you yfr ylf yva ysv ywo ysi ywk yph := by
  obtain ⟨m', rfl⟩ : ∃ m', m = m' + 1 := ⟨m - 1, by omega⟩
  exact br_c (fun _ => h) (fun _ => br_c (fun _ => h) (fun n1 => br_t (hz.resolve_left n1) h))
theorem yw_219 {post : Int32 → SY → Prop} {J : Int32 → Int32 → Int32 → Int32 → Int32 → Int32 → Int32 → Int32 → (Nat → Int32) → (Nat → Int32) → (Nat → Int32) → (Nat → Int32) → (Nat → Int32) → (Nat → Int32) → (Nat → Int32) → (Nat → Int32) → (Nat → Int32) → (Nat → Int32) → (Nat → Int32) → (Nat → Int32) → (Nat → Int32) → (Nat → Int32) → (Nat → Int32) → (Nat → Int32) → (Nat → Int32) → (Nat → Int32) → (Nat → Int32) → (Nat → Int32) → (Nat → Int32) → (Nat → Int32) → (Nat → Int32) → Prop}
    {j a k nf og : Nat} (hj : j < 4100) (ha : a < 32768) (hk : 16 ≤ k) (hk2 : k < 22) (hnf : nf < 2000) (hog : og < 24)
    (h : J (nI (j+1)) yco ypl ysz (nI (nf+1)) yof yre ysa ykd ybh yln yhl yvl yks yog yvs ypa ysp (upd ytd j (nI (24 * (k - 16)))) (upd ywi j (ys_i (nf+1))) (upd yun j (ys_i a)) ysd you (upd yfr nf (nI og)) ylf yva ysv ywo ysi ywk yph) : wY_expanded_219 post J (nI j) (ys_i a) (nI k) (nI og) (nI nf) yco ypl ysz (nI nf) yof yre ysa ykd ybh yln yhl yvl yks yog yvs ypa ysp ytd ywi yun ysd you yfr ylf yva ysv ywo ysi ywk yph := by
  unfold wY_expanded_219
  rw [nI_clamp (show nf < 2 ^ 31 by omega), nu_v8 (by omega), show nI k - 16 = nI (k - 16) from pk_sub (b := 16) hk, show (24 : Int32) * nI (k - 16) = nI (24 * (k - 16)) from pk_mul 24 (k - 16)]
  exact ⟨pk_in nf 2001 (by omega), nm_e (yw_later (f := nf+1) hj (by omega) (by omega) ha (nm_r (nI_1 nf) h))⟩
theorem yw_loop {post : Int32 → SY → Prop} {K : Nat → Nat} {V : Nat → Int32} {Hn Len : Nat → Nat} {nc s : Nat} (w : tx_WF K V Hn Len nc) (T : ys_T K V Hn Len nc ykd ybh yvl) (hH : ∀ c, c < 6 → yhl c = nI (Hn c))
    (R : Option (Nat × Nat × pm_O))
    (h : ∀ (sz us : Int32) (ks og vs pa td wi un sd ou fr : Nat → Int32), (R = none → (2000 < sz ∨ 2000 < us)) → (∀ nf' n' O', R = some (nf', n', O') → sz = nI n' ∧ us = nI nf' ∧ ys_O n' O' ks vs og pa) →
      wY_expanded_534 post yco ypl sz us yof yre ysa ykd ybh yln yhl yvl ks og vs pa ysp td wi un sd ou fr ylf yva ysv ywo ysi ywk yph) :
    ∀ (m t top : Nat) (st : List pm_S) (nf : Nat) (F : pm_F) (n : Nat) (O : pm_O) (yks yog yvs ypa ytd ywi yun ysd you yfr : Nat → Int32), pm_I K Len nc s st nf F n → (∀ x, x ∈ st → x.2.2 ≤ n) → top ≤ 1 + 2 * n →
      ys_P ytd ywi yun top st → ys_F F nf ysd you yfr → ys_O n O yks yvs yog ypa →
      pm_go K V (fun i => tx_a Hn (K i)) t st nf F n O = R → pm_mu K s F st nf n < t → pm_mu K s F st nf n + 1 < m →
      wY_expanded_80 post m (nI top) yco ypl (nI n) (nI nf) yof yre ysa ykd ybh yln yhl yvl yks yog yvs ypa ysp ytd ywi yun ysd you yfr ylf yva ysv ywo ysi ywk yph := by
  intro m
  induction m with
  | zero => intro t top st nf F n O yks yog yvs ypa ytd ywi yun ysd you yfr _ _ _ _ _ _ _ _ hm; omega
  | succ m ih =>
    intro t top st nf F n O yks yog yvs ypa ytd ywi yun ysd you yfr hI hA htop hP hF hO hR ht hm
    obtain ⟨t, rfl⟩ : ∃ t', t = t' + 1 := ⟨t - 1, by omega⟩
    cases top with
    | zero =>
      have e : st = [] := hP
      subst e
      rw [pm_go0] at hR
      refine pk_le 0 0 (fun _ => ?_) (fun z => by omega)
      refine h _ _ _ _ _ _ _ _ _ _ _ _ (fun z => by rw [z] at hR; cases hR) (fun nf' n' O' z => ?_)
      rw [z] at hR
      cases hR
      exact ⟨rfl, rfl, hO⟩
    | succ j =>
      obtain ⟨i, f, a, rest, e, g1, g2, g3, g4⟩ := hP
      subst e
      have hnf := hI.2.1
      have hn2 := hI.2.2.1
      obtain ⟨hf, hp⟩ := pm_head hI
      have p2 := hp.2.1
      have p3 := hp.2.2
      have hl := (w.2 _ hp.1).1
      have hr : pm_row K s F f < 10 := by
        have := w.1
        have h1 := hp.1
        unfold tx_row at h1
        omega
      have ha : a ≤ n := hA (i, f, a) List.mem_cons_self
      have hA' : ∀ x, x ∈ rest → x.2.2 ≤ n := fun x hx => hA x (List.mem_cons_of_mem _ hx)
      obtain ⟨y1, y2, y3⟩ := T _ hp.1 i p2 p3
      have i1 : vp_in (nI j) 4100 := pk_in j 4100 (by omega)
      have hk22 : K i < 22 := by
        have x1 := (tx_tokE w hp).1
        have x2 := w.1
        unfold tx_lim at x1
        split at x1 <;> omega
      refine pk_le (j+1) 0 (fun z => by omega) (fun _ => pk_lt 2000 n (fun z => by omega) (fun _ => pk_lt 2000 nf (fun z => by omega) (fun _ => nm_r (pk_m1 j) ⟨i1, ?_⟩)))
      rw [nI_clamp (show j < 2 ^ 31 by omega)]
      refine nm_r g1 ⟨i1, nm_r g2 ⟨i1, nm_r g3 ⟨pk_in i 264 (by omega), ?_⟩⟩⟩
      rw [nI_clamp (show i < 2 ^ 31 by omega)]
      refine nm_r y1 (pk_lt (K i) 16 (fun hk => ?_) (fun hk => ?_))
      · have hk' : ¬ 16 ≤ K i := by omega
        refine pk_eq (K i) 9 (fun h9 => ?_) (fun h9 => ?_)
        · rw [pm_goH _ _ _ _ _ _ _ _ _ _ _ _ h9] at hR
          obtain ⟨I', mu'⟩ := pm_IH w hI h9
          obtain ⟨o1, o2, o3, o4, o5, o6, o7, o8, o9, o10⟩ := pm_holeE w hI h9
          obtain ⟨f1, f2, f3⟩ := hF (f-1) (by omega)
          rw [show f - 1 + 1 = f from by omega] at f1 f2 f3
          have o93 := o9.2.2
          have hl' := (w.2 _ o9.1).1
          have hr' : pm_row K s F (F f).2.1 < 10 := by
            have := w.1
            have h1 := o9.1
            unfold tx_row at h1
            omega
          rw [ys_iP (show 0 < f by omega), nI_clamp (show f - 1 < 2 ^ 31 by omega), f1, f2, y2 (by unfold tx_hv; omega), o5]
          have i2 : vp_in (nI (f-1)) 2001 := pk_in (f-1) 2001 (by omega)
          refine ⟨i2, ⟨pk_in i 264 (by omega), ?_⟩⟩
          refine yw_operand w T o4 o7 (by omega) ⟨i2, ?_⟩
          refine yw_later (by omega) (by omega) (by omega) (by omega) ?_
          refine ih t (j+1) _ nf F n O _ _ _ _ _ _ _ _ _ _ I' ?_ htop (ys_put g4 rfl rfl rfl) hF hO hR (by omega) (by omega)
          intro x hx
          rcases List.mem_cons.mp hx with rfl | hx
          · exact ha
          · exact hA' x hx
        · refine pk_eq n 2000 (fun hn => ?_) (fun hn => ?_)
          · rw [pm_goPx _ _ _ _ _ _ _ _ _ _ _ _ hk' h9 hn] at hR
            refine nm_r (nI_1 n) (yw_loopX (by omega) (Or.inl ?_) ?_)
            · rw [hn]; decide
            · refine h _ _ _ _ _ _ _ _ _ _ _ _ (fun _ => Or.inl (by rw [hn]; decide)) (fun nf' n' O' z => by rw [z] at hR; cases hR)
          · rw [pm_goP _ _ _ _ _ _ _ _ _ _ _ _ hk' h9 hn] at hR
            obtain ⟨I', mu'⟩ := pm_IP w hI hk' hn (n+1)
            have ha3 := tx_a3 Hn (k := K i) (by omega)
            have N : wY_expanded_354 post (wY_expanded_80 post m) (nI j) (nI i) (ys_i f) (ys_i a) (nI (K i)) (nI n) (nI (pm_kind (K i))) (nI n) yco ypl (nI (n+1)) (nI nf) yof yre ysa ykd ybh yln yhl yvl yks yog yvs ypa ysp ytd ywi yun ysd you yfr ylf yva ysv ywo ysi ywk yph := by
              refine yw_plain w T hH hI hk' h9 (by omega) (by omega) (by omega) g4 hF ?_
              intro td wi un hP'
              refine ih t _ _ nf F (n+1) (pm_nO K V F n O f i a) _ _ _ _ _ _ _ _ _ _ I' ?_ (by omega) hP' hF ?_ hR (by omega) (by omega)
              · refine gx_push_all _ (fun x : pm_S => x.2.2 ≤ n + 1) _ _ (fun o _ => Nat.le_refl _) (fun x hx => ?_)
                have := hA' x hx
                omega
              · intro x hx
                by_cases e : x = n
                · subst e
                  have eO : pm_nO K V F x O f i a x = (pm_kind (K i), pm_val K V F f i, pm_org F f i, a) := pm_fs
                  rw [eO, pk_us, pk_us, pk_us, pk_us]
                  exact ⟨rfl, rfl, rfl, rfl⟩
                · have eO : pm_nO K V F n O f i a x = O x := pm_fn e
                  rw [eO, pk_un e, pk_un e, pk_un e, pk_un e]
                  exact hO x (by omega)
            refine nm_r (nI_1 n) (pk_eq (K i) 10 (fun e => ?_) (fun e => ?_))
            · have ek : pm_kind (K i) = 0 := if_pos e
              rw [ek] at N
              exact N
            · have ek : pm_kind (K i) = K i := if_neg e
              rw [ek] at N
              exact N
      · refine pk_eq nf 2000 (fun hn => ?_) (fun hn => ?_)
        · rw [pm_goUx _ _ _ _ _ _ _ _ _ _ _ _ hk hn] at hR
          refine nm_r (nI_1 nf) (yw_loopX (by omega) (Or.inr ?_) ?_)
          · rw [hn]; decide
          · refine h _ _ _ _ _ _ _ _ _ _ _ _ (fun _ => Or.inr (by rw [hn]; decide)) (fun nf' n' O' z => by rw [z] at hR; cases hR)
        · rw [pm_goU _ _ _ _ _ _ _ _ _ _ _ _ hk hn] at hR
          obtain ⟨I', mu'⟩ := pm_IU w hI hk hn
          have hog := pm_org24 hI (i := i) hf
          have i2 : vp_in (nI nf) 2001 := pk_in nf 2001 (by omega)
          rw [nI_clamp (show nf < 2 ^ 31 by omega), nu_16 (show i < 32768 by omega), nu_v16 (show i < 32768 by omega), ys_i16 (show f < 32768 by omega), ys_v16 (show f < 32768 by omega)]
          have N : ∀ z0 : Int32, z0 = nI (pm_org F f i) → wY_expanded_219 post (wY_expanded_80 post m) (nI j) (ys_i a) (nI (K i)) z0 (nI nf) yco ypl (nI n) (nI nf) yof yre ysa ykd ybh yln yhl yvl yks yog yvs ypa ysp ytd ywi yun (upd ysd nf (nI i)) (upd you nf (ys_i f)) yfr ylf yva ysv ywo ysi ywk yph := by
            intro z0 ez
            subst ez
            refine yw_219 (by omega) (by omega) hk hk22 (by omega) hog ?_
            refine ih t (j+1) _ (nf+1) (pm_nF F nf f i) n O _ _ _ _ _ _ _ _ _ _ I' ?_ htop (ys_put g4 rfl rfl rfl) ?_ hO hR (by omega) (by omega)
            · intro x hx
              rcases List.mem_cons.mp hx with rfl | hx
              · exact ha
              · exact hA' x hx
            · intro x hx
              by_cases e : x = nf
              · subst e
                have eF : pm_nF F x f i (x+1) = (i, f, pm_org F f i, (F f).2.2.2 + 1) := pm_fs
                rw [eF, pk_us, pk_us, pk_us]
                exact ⟨rfl, rfl, rfl⟩
              · have eF : pm_nF F nf f i (x+1) = F (x+1) := pm_fn (by omega)
                rw [eF, pk_un e, pk_un e, pk_un e]
                exact hF x (by omega)
          refine ⟨i2, nm_e ⟨i2, nm_e ?_⟩⟩
          rcases Nat.eq_zero_or_pos f with f0 | f0
          · have e0 : ¬ 0 ≤ ys_i f := by rw [f0]; decide
            refine br_f e0 ⟨by decide, N _ ?_⟩
            rw [nu_r24 (by omega)]
            unfold pm_org
            rw [if_pos f0]
          · refine br_t (nu_y0 f0 (by omega)) ?_
            have hF1 := (hF (f-1) (by omega)).2.2
            rw [show f - 1 + 1 = f from by omega] at hF1
            refine ⟨?_, N _ ?_⟩
            · rw [ys_iP f0]
              exact pk_in (f-1) 2001 (by omega)
            · rw [ys_iP f0, nI_clamp (show f - 1 < 2 ^ 31 by omega), hF1]
              unfold pm_org
              rw [if_neg (by omega)]
