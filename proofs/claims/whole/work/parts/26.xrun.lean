variable {xds xcc xmi xre xpc xpl xtl xsc xou : Int32} {xtk xtv xss xts xho xfu xfa xfo xpn xpe xpf xqk xqv xqo xqp xqs xqh xwo xsi : Nat → Int32}
def ev_E0 (a b c : Int32) : Nat → Int32 := fun v => if v = 0 then a else if v = 1 then b else if v = 2 then c else 0
/-- the laid expansion -/
def xr_A (n : Nat) (O : pm_O) (xqk xqv xqo xqp xqs xqh : Nat → Int32) : Prop := tr_G n O ∧ xs_O n O xqk xqv xqo ∧ xl_R n O xqp xqs xqh
theorem ev_vxE {n : Nat} {O : pm_O} (G : tr_G n O) {p : Nat} (hp : p < n) (hk : (O p).1 = 1 ∨ (O p).1 = 7) : ev_vx O p < 4110 ∧ (O p).2.1 = nI (ev_vx O p) := by
  obtain ⟨w, w1, w2⟩ := (G.2.2 p hp).2.2.1 hk
  have e : ev_vx O p = w := by
    unfold ev_vx
    rw [w2, nI_clamp (by omega)]
  rw [e]
  exact ⟨w1, w2⟩
theorem tr_par {n : Nat} {O : pm_O} (G : tr_G n O) {b : Nat} (hb : b < n) : (O b).2.2.2 ≤ b := by
  obtain ⟨R, e⟩ := (G.2.2 b hb).2.2.2
  exact tr_pdB (pm_ar O) b _ (by rw [e]; exact List.mem_cons_self)
theorem xw_var {post : Int32 → Prop} {n p : Nat} {O : pm_O} {a b c : Int32} (A : xr_A n O xqk xqv xqo xqp xqs xqh) (hp : p < n) (hk : (O p).1 = 1) (h : post (ev_wk O (ev_E0 a b c) xwo 2000 p (ev_vx O p))) : wpX_variableAt post (xds, xcc, xmi, xre, xpc, xpl, xtl, xsc, xou, xtk, xtv, xss, xts, xho, xfu, xfa, xfo, xpn, xpe, xpf, xqk, xqv, xqo, xqp, xqs, xqh, xwo, xsi) (nI p) a b c := by
  obtain ⟨G, hO, hL⟩ := A
  have h3 := G.1
  obtain ⟨v1, v2⟩ := ev_vxE G hp (Or.inl hk)
  have H109 : post (ev_E0 a b c (ev_vx O p)) → wX_variableAt_109 post a b c (nI (ev_vx O p)) xds xcc xmi xre xpc xpl xtl xsc xou xtk xtv xss xts xho xfu xfa xfo xpn xpe xpf xqk xqv xqo xqp xqs xqh xwo xsi := by
    intro h
    unfold ev_E0 at h
    unfold wX_variableAt_109
    refine br_f (nI_pos (by omega)) (pk_lt 2 (ev_vx O p) (fun z => ?_) (fun z => ?_))
    · rw [if_neg (by omega), if_neg (by omega), if_neg (by omega)] at h
      exact h
    · refine pk_eq (ev_vx O p) 0 (fun e => ?_) (fun e0 => pk_eq (ev_vx O p) 1 (fun e => ?_) (fun e1 => pk_eq (ev_vx O p) 2 (fun e => ?_) (fun e2 => True.intro)))
      · rw [if_pos e] at h; exact h
      · rw [if_neg e0, if_pos e] at h; exact h
      · rw [if_neg e0, if_neg e1, if_pos e] at h; exact h
  have L : ∀ (m t bl st : Nat), bl < n → bl ≤ t → bl < m → st + bl < 2000 → post (ev_wk O (ev_E0 a b c) xwo t bl (ev_vx O p)) → wX_variableAt_22 post a b c (nI (ev_vx O p)) xds xcc xmi xre xpc xpl xtl xsc xou xtk xtv xss xts xho xfu xfa xfo xpn xpe xpf xqk xqv xqo xqp xqs xqh xwo xsi m (nI bl) (ys_i (O bl).2.2.2) (nI st) := by
    intro m
    induction m with
    | zero => intro t bl st _ _ h1; omega
    | succ m ih =>
      intro t bl st hb ht hm hst h
      have hpar := tr_par G hb
      refine pk_le 2000 st (fun z => by omega) (fun _ => ?_)
      rcases Nat.eq_zero_or_pos (O bl).2.2.2 with z | z
      · refine br_t (by rw [z]; decide) (H109 ?_)
        cases t with
        | zero => exact h
        | succ t =>
          rw [ev_wk, if_pos z] at h
          exact h
      · obtain ⟨t, rfl⟩ : ∃ t', t = t' + 1 := ⟨t - 1, by omega⟩
        rw [ev_wk, if_neg (by omega)] at h
        obtain ⟨u, eu⟩ : ∃ u, (O bl).2.2.2 = u + 1 := ⟨(O bl).2.2.2 - 1, by omega⟩
        rw [eu, Nat.add_sub_cancel] at h
        have hu : u < n := by omega
        obtain ⟨o1, o2, o3⟩ := hO u hu
        have o8 := (G.2.2 u hu).1
        have l3 := (hL u hu).2.2
        rw [eu, ys_iS]
        have i1 : vp_in (nI u) 2000 := pk_in u 2000 (by omega)
        have H90 : ¬ ((O u).1 = 7 ∧ ev_vx O u = ev_vx O p ∧ bl ≠ u + 1) → wX_variableAt_90 post (wX_variableAt_22 post a b c (nI (ev_vx O p)) xds xcc xmi xre xpc xpl xtl xsc xou xtk xtv xss xts xho xfu xfa xfo xpn xpe xpf xqk xqv xqo xqp xqs xqh xwo xsi m) a b c (nI (ev_vx O p)) (nI u) (nI st) xds xcc xmi xre xpc xpl xtl xsc xou xtk xtv xss xts xho xfu xfa xfo xpn xpe xpf xqk xqv xqo xqp xqs xqh xwo xsi := by
          intro hne
          rw [if_neg hne] at h
          unfold wX_variableAt_90
          rw [nI_clamp (show u < 2 ^ 31 by omega)]
          exact ⟨i1, nm_r l3 (nm_r (nI_1 st) (ih t u (st+1) hu (by omega) (by omega) (by omega) h))⟩
        have H49 : ∀ z0 : Int32, (z0 = 0 ↔ bl = u + 1) → wX_variableAt_49 post (wX_variableAt_22 post a b c (nI (ev_vx O p)) xds xcc xmi xre xpc xpl xtl xsc xou xtk xtv xss xts xho xfu xfa xfo xpn xpe xpf xqk xqv xqo xqp xqs xqh xwo xsi m) a b c (nI (ev_vx O p)) (nI u) (nI st) z0 xds xcc xmi xre xpc xpl xtl xsc xou xtk xtv xss xts xho xfu xfa xfo xpn xpe xpf xqk xqv xqo xqp xqs xqh xwo xsi := by
          intro z0 hz
          unfold wX_variableAt_49
          rw [nI_clamp (show u < 2 ^ 31 by omega), o1, o2, nI_1]
          refine ⟨i1, pk_eq (O u).1 7 (fun e7 => ⟨i1, ?_⟩) (fun e7 => H90 (fun y => e7 y.1))⟩
          obtain ⟨q1, q2⟩ := ev_vxE G hu (Or.inr e7)
          rw [q2]
          refine pk_eq (ev_vx O u) (ev_vx O p) (fun ev => br_c (fun hz0 => H90 (fun y => y.2.2 (hz.mp hz0))) (fun hz0 => ?_)) (fun ev => H90 (fun y => ev y.2.1))
          have hbl : bl ≠ u + 1 := fun y => hz0 (hz.mpr y)
          rw [if_pos ⟨e7, ev, hbl⟩] at h
          rw [nI_clamp (show u + 1 < 2 ^ 31 by omega)]
          exact ⟨pk_in (u+1) 2000 (by omega), h⟩
        refine br_f (nI_pos (by omega)) ?_
        rw [nI_1]
        exact pk_eq bl (u+1) (fun e => H49 0 ⟨fun _ => e, fun _ => rfl⟩) (fun e => H49 1 ⟨fun y => absurd y (by decide), fun y => absurd y e⟩)
  obtain ⟨o1, o2, o3⟩ := hO p hp
  unfold wpX_variableAt
  dsimp only
  rw [nI_clamp (show p < 2 ^ 31 by omega)]
  exact ⟨pk_in p 2000 (by omega), nm_r (o2.trans v2) ⟨pk_in p 2000 (by omega), nm_r (hL p hp).2.2 ⟨p + 1, L (p+1) 2000 p 0 hp (by omega) (by omega) (by omega) h⟩⟩⟩
def ev_fin (O : pm_O) (p : Nat) (x y : Int32) (s : Nat × (Nat → Int32)) : Int32 × (Nat × (Nat → Int32)) :=
  if (O p).1 = 8 then (y, ev_say y s) else if (O p).1 ≤ 5 then (ev_bin (O p).1 x y, s) else (y, s)
theorem xw_finish {post : SX → Prop} {n p l : Nat} {O : pm_O} {s : Nat × (Nat → Int32)} (A : xr_A n O xqk xqv xqo xqp xqs xqh) (hp : p + 1 < n) (hl : l < n) (hs : s.1 < 100000) (h2 : 2 ≤ (O p).1)
    (h : post (xds, xcc, xmi, xre, xpc, xpl, xtl, nI (ev_fin O p (xwo (p+1)) (xwo l) s).2.1, xou, xtk, xtv, xss, xts, xho, xfu, xfa, xfo, xpn, xpe, xpf, xqk, xqv, xqo, xqp, xqs, xqh, upd xwo p (ev_fin O p (xwo (p+1)) (xwo l) s).1, (ev_fin O p (xwo (p+1)) (xwo l) s).2.2)) : wpX_finish post (xds, xcc, xmi, xre, xpc, xpl, xtl, nI s.1, xou, xtk, xtv, xss, xts, xho, xfu, xfa, xfo, xpn, xpe, xpf, xqk, xqv, xqo, xqp, xqs, xqh, xwo, s.2) (nI p) (nI l) := by
  obtain ⟨G, hO, hL⟩ := A
  have h3 := G.1
  have o1 := (hO p (by omega)).1
  have o8 := (G.2.2 p (by omega)).1
  have i1 : vp_in (nI p) 2000 := pk_in p 2000 (by omega)
  unfold ev_fin at h
  unfold wpX_finish
  refine br_t (nI_pos' (by omega)) ?_
  rw [nI_1, nI_clamp (show p + 1 < 2 ^ 31 by omega), nI_clamp (show l < 2 ^ 31 by omega), nI_clamp (show p < 2 ^ 31 by omega)]
  refine ⟨pk_in (p+1) 2000 (by omega), nm_e ⟨pk_in l 2000 (by omega), nm_e ⟨i1, nm_r o1 ?_⟩⟩⟩
  refine pk_lt (O p).1 2 (fun z => by omega) (fun _ => pk_lt 8 (O p).1 (fun z => by omega) (fun _ => ?_))
  refine pk_eq (O p).1 2 (fun e => ⟨i1, nm_e ?_⟩) (fun n2 => pk_eq (O p).1 3 (fun e => ⟨i1, nm_e ?_⟩) (fun n3 => pk_eq (O p).1 4 (fun e => ⟨i1, nm_e ?_⟩) (fun n4 => pk_eq (O p).1 5 (fun e => ?_) (fun n5 => pk_eq (O p).1 6 (fun e => ⟨i1, nm_e ?_⟩) (fun n6 => pk_eq (O p).1 7 (fun e => ⟨i1, nm_e ?_⟩) (fun n7 => pk_eq (O p).1 8 (fun e => ?_) (fun n8 => True.intro)))))))
  · rw [if_neg (by omega), if_pos (by omega)] at h
    unfold ev_bin at h
    rw [if_pos e] at h
    exact h
  · rw [if_neg (by omega), if_pos (by omega)] at h
    unfold ev_bin at h
    rw [if_neg n2, if_pos e] at h
    exact h
  · rw [if_neg (by omega), if_pos (by omega)] at h
    unfold ev_bin at h
    rw [if_neg n2, if_neg n3, if_pos e] at h
    exact h
  · rw [if_neg (by omega), if_pos (by omega)] at h
    unfold ev_bin at h
    rw [if_neg n2, if_neg n3, if_neg n4] at h
    refine br_c (fun y => ⟨i1, nm_e ?_⟩) (fun y => ⟨i1, nm_e ?_⟩)
    · rw [if_neg (Int32.not_lt.mpr y)] at h
      exact h
    · rw [if_pos (Int32.not_le.mp y)] at h
      exact h
  · rw [if_neg (by omega), if_neg (by omega)] at h
    exact h
  · rw [if_neg (by omega), if_neg (by omega)] at h
    exact h
  · rw [if_pos e] at h
    unfold ev_say at h
    unfold wpX_say
    refine pk_le 20 s.1 (fun y => nm_r (nI_1 _) ⟨i1, ?_⟩) (fun y => ?_)
    · rw [if_neg (show ¬ s.1 < 20 by omega)] at h
      exact nm_e h
    · rw [if_pos y] at h
      rw [nI_clamp (show s.1 < 2 ^ 31 by omega)]
      refine ⟨pk_in s.1 20 y, nm_e (nm_r (nI_1 _) ⟨i1, ?_⟩)⟩
      exact nm_e h
/-- the last operand of p has been worked out: p is done -/
theorem xa_fin {post : SX → Prop} {n p k m st : Nat} {O : pm_O} {a b c : Int32} {s : Nat × (Nat → Int32)} (A : xr_A n O xqk xqv xqo xqp xqs xqh) (hp : p + 1 < n) (hk : k < n) (hs : s.1 < 100000) (h2 : 2 ≤ (O p).1) (epar : (O k).2.2.2 = p + 1) (hst : st + 1 < 1000000)
    (hl : k ≠ p + 1 ∨ (O p).1 = 8)
    (h : wX_workOut_87 post (wX_workOut_9 post a b c m) a b c (nI p) (nI (st+1)) xds xcc xmi xre xpc xpl xtl (nI (ev_fin O p (xwo (p+1)) (xwo k) s).2.1) xou xtk xtv xss xts xho xfu xfa xfo xpn xpe xpf xqk xqv xqo xqp xqs xqh (upd xwo p (ev_fin O p (xwo (p+1)) (xwo k) s).1) ((ev_fin O p (xwo (p+1)) (xwo k) s).2.2)) :
    wX_workOut_87 post (wX_workOut_9 post a b c (m+1)) a b c (nI k) (nI st) xds xcc xmi xre xpc xpl xtl (nI s.1) xou xtk xtv xss xts xho xfu xfa xfo xpn xpe xpf xqk xqv xqo xqp xqs xqh xwo s.2 := by
  have A' := A
  obtain ⟨G, hO, hL⟩ := A
  have h3 := G.1
  have l3 := (hL k hk).2.2
  have o1 := (hO p (by omega)).1
  have o8 := (G.2.2 p (by omega)).1
  rw [epar, ys_iS] at l3
  have N : wX_workOut_105 post (wX_workOut_9 post a b c (m+1)) a b c (nI k) (nI st) (-1) 1 xds xcc xmi xre xpc xpl xtl (nI s.1) xou xtk xtv xss xts xho xfu xfa xfo xpn xpe xpf xqk xqv xqo xqp xqs xqh xwo s.2 := by
    unfold wX_workOut_105
    refine br_f (by decide) ⟨pk_in k 2000 (by omega), ?_⟩
    rw [nI_clamp (show k < 2 ^ 31 by omega)]
    refine nm_r l3 (xw_finish A' hp hk hs h2 (nm_r (nI_1 st) ?_))
    refine pk_le 1000000 (st+1) (fun z => by omega) (fun _ => br_f (nI_pos (by omega)) (br_f (by decide) ?_))
    unfold wX_workOut_46
    exact br_f (by decide) h
  unfold wX_workOut_87 wpX_operandAfter
  dsimp only
  rw [nI_clamp (show k < 2 ^ 31 by omega)]
  refine ⟨pk_in k 2000 (by omega), nm_r l3 (br_f (nI_pos (by omega)) ?_)⟩
  rw [nI_1]
  refine pk_eq k (p+1) (fun e => ⟨pk_in p 2000 (by omega), ?_⟩) (fun e => br_f (by decide) N)
  rw [nI_clamp (show p < 2 ^ 31 by omega), o1]
  refine pk_eq (O p).1 8 (fun _ => br_f (by decide) N) (fun e8 => ?_)
  rcases hl with y | y
  · exact absurd e y
  · exact absurd y e8
/-- the first operand of p has been worked out: on to another -/
theorem xa_next {post : SX → Prop} {n p m st : Nat} {O : pm_O} {a b c : Int32} (A : xr_A n O xqk xqv xqo xqp xqs xqh) (hp : p < n) (ha : 2 ≤ pm_ar O p) (h8 : (O p).1 ≠ 8)
    (h : wX_workOut_9 post a b c m (nI (if (O p).1 = 6 ∧ xwo (p+1) = 0 then ev_r O p else ev_q O p)) 0 (nI (st+1)) xds xcc xmi xre xpc xpl xtl xsc xou xtk xtv xss xts xho xfu xfa xfo xpn xpe xpf xqk xqv xqo xqp xqs xqh xwo xsi) :
    wX_workOut_87 post (wX_workOut_9 post a b c m) a b c (nI (p+1)) (nI st) xds xcc xmi xre xpc xpl xtl xsc xou xtk xtv xss xts xho xfu xfa xfo xpn xpe xpf xqk xqv xqo xqp xqs xqh xwo xsi := by
  obtain ⟨G, hO, hL⟩ := A
  have h3 := G.1
  have o8 := (G.2.2 p hp).1
  have o1 := (hO p hp).1
  obtain ⟨k1, k2⟩ := tr_k1 G hp (by omega)
  obtain ⟨q1, q2, q3, q4⟩ := tr_k2 G hp ha
  obtain ⟨l1, l2, l3⟩ := hL (p+1) k1
  rw [k2, ys_iS] at l3
  have N : ∀ x : Nat, x < n → wX_workOut_9 post a b c m (nI x) 0 (nI (st+1)) xds xcc xmi xre xpc xpl xtl xsc xou xtk xtv xss xts xho xfu xfa xfo xpn xpe xpf xqk xqv xqo xqp xqs xqh xwo xsi → ((0 ≤ nI x → wX_workOut_105 post (wX_workOut_9 post a b c m) a b c (nI (p+1)) (nI st) (nI x) 0 xds xcc xmi xre xpc xpl xtl xsc xou xtk xtv xss xts xho xfu xfa xfo xpn xpe xpf xqk xqv xqo xqp xqs xqh xwo xsi) ∧ (¬ 0 ≤ nI x → wX_workOut_105 post (wX_workOut_9 post a b c m) a b c (nI (p+1)) (nI st) (nI x) 1 xds xcc xmi xre xpc xpl xtl xsc xou xtk xtv xss xts xho xfu xfa xfo xpn xpe xpf xqk xqv xqo xqp xqs xqh xwo xsi)) := by
    intro x hx hh
    refine br_t (nI_pos' (by omega)) ?_
    unfold wX_workOut_105
    exact br_t rfl (nm_r (nI_1 st) hh)
  have i1 : vp_in (nI (p+1)) 2000 := pk_in (p+1) 2000 (by omega)
  have i2 : vp_in (nI p) 2000 := pk_in p 2000 (by omega)
  unfold wX_workOut_87 wpX_operandAfter
  dsimp only
  rw [nI_clamp (show p + 1 < 2 ^ 31 by omega)]
  refine ⟨i1, nm_r l3 (br_f (nI_pos (by omega)) ?_)⟩
  rw [nI_1]
  refine br_t rfl ⟨i2, ?_⟩
  rw [nI_clamp (show p < 2 ^ 31 by omega), o1]
  refine pk_eq (O p).1 8 (fun e => absurd e h8) (fun _ => ⟨i1, nm_r (e' := nI (ev_q O p)) (by rw [l1, nI_add, q3]) ⟨i2, ?_⟩⟩)
  have M64 : ¬ ((O p).1 = 6 ∧ xwo (p+1) = 0) → wX_operandAfter_64 (fun r_5 => (0 ≤ r_5 → wX_workOut_105 post (wX_workOut_9 post a b c m) a b c (nI (p+1)) (nI st) r_5 0 xds xcc xmi xre xpc xpl xtl xsc xou xtk xtv xss xts xho xfu xfa xfo xpn xpe xpf xqk xqv xqo xqp xqs xqh xwo xsi) ∧ (¬ 0 ≤ r_5 → wX_workOut_105 post (wX_workOut_9 post a b c m) a b c (nI (p+1)) (nI st) r_5 1 xds xcc xmi xre xpc xpl xtl xsc xou xtk xtv xss xts xho xfu xfa xfo xpn xpe xpf xqk xqv xqo xqp xqs xqh xwo xsi)) (nI (ev_q O p)) xds xcc xmi xre xpc xpl xtl xsc xou xtk xtv xss xts xho xfu xfa xfo xpn xpe xpf xqk xqv xqo xqp xqs xqh xwo xsi := by
    intro hne
    rw [if_neg hne] at h
    unfold wX_operandAfter_64 wX_operandAfter_65
    exact br_t rfl (N _ q1 h)
  refine pk_eq (O p).1 6 (fun e6 => ⟨i1, br_c (fun w0 => ?_) (fun w0 => M64 (fun y => w0 y.2))⟩) (fun e6 => M64 (fun y => e6 y.1))
  rw [if_pos ⟨e6, w0⟩] at h
  obtain ⟨r1, r2, r3, r4⟩ := tr_k3 G hp (by rw [tr_ar3 e6]; omega)
  unfold wX_operandAfter_65
  refine br_f (by decide) ⟨pk_in _ 2000 (by omega) rfl, ?_⟩
  rw [nI_clamp (show ev_q O p < 2 ^ 31 by omega), (hL _ q1).1, nI_add, ← r3]
  exact N _ r1 h
