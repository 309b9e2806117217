/-! calls: fire, set, undo, become -/
/-- the net behind a step -/
def fiN (n : NN) (s : Nat) : NN := (n.1, n.2.1, (fun p => if p < 10 then mv n (nH n) s p else 0), n.2.2.2)
theorem fiN_ar (n : NN) (s : Nat) : arN (fiN n s) = arN n := rfl
theorem fiN_wf {n : NN} {tp ts s : Nat} (w : WF n tp ts) (hs : s < 8) (h : can n (nH n) s = true) : WF (fiN n s) tp ts := by
  obtain ⟨a1, a2, a3, a4, a5, a6, a7, a8, a9, a10⟩ := w
  have w : WF n tp ts := ⟨a1, a2, a3, a4, a5, a6, a7, a8, a9, a10⟩
  have c := (can_iff.mp h).2
  refine ⟨a1, a2, a3, a4, a5, a6, a7, a8, fun p => ?_, fun p hp => ?_⟩
  · show (if p < 10 then mv n (nH n) s p else 0) ≤ 999
    split
    · rename_i q
      have := c p q
      unfold mv
      omega
    · omega
  · have hp : (if p < 10 then mv n (nH n) s p else 0) ≠ 0 := hp
    show (nP n).testBit p = true
    by_cases q : p < 10
    · rw [if_pos q] at hp
      unfold mv at hp
      by_cases g : nG n (10 * s + p) = 0
      · exact a10 p (by omega)
      · have := (a8 _ g).2.1
        rw [show (10 * s + p) % 10 = p by omega] at this
        exact this
    · rw [if_neg q] at hp; exact absurd rfl hp
theorem mvF_fi {T G row : Nat → Int32} {n : NN} {s : Nat} (hT : ∀ i, i < 80 → T i = nI (nT n i)) (hG : ∀ i, i < 80 → G i = nI (nG n i)) (hr : ∀ p, p < 10 → row p = nI (nH n p)) (hs : s < 8) (h : can n (nH n) s = true) : ∀ p, p < 10 → mvF T G row s 0 0 10 p = nI (nH (fiN n s) p) := fun p hp => by
  have c := (can_iff.mp h).2 p hp
  unfold mvF
  rw [if_pos (by omega), Nat.zero_add, Nat.sub_zero, hr p hp, hT _ (by omega), hG _ (by omega), nI_chg c.1]
  show nI (nH n p + nG n (10 * s + p) - nT n (10 * s + p)) = nI (if p < 10 then mv n (nH n) s p else 0)
  rw [if_pos hp]; rfl
theorem atC_H {M M' : Mem} {n n' : NN} {tp ts : Nat} (h : atC M 50 n tp ts) (w : WF n' tp ts) (har : arN n' = arN n) (e : ∀ b, b ≠ 53 → M'.1 b = M.1 b) (eH : ∀ p, p < 10 → M'.1 53 p = nI (nH n' p)) : atC M' 50 n' tp ts := by
  refine ⟨?_, by rw [e 50 (by decide)]; exact h.2.1, by rw [e 50 (by decide)]; exact h.2.2.1, w⟩
  have h1 := h.1
  have x1 : n'.1 = n.1 := by have t := congrArg (fun x : NN => x.1) har; exact t
  have x2 : n'.2.1 = n.2.1 := by have t := congrArg (fun x : NN => x.2.1) har; exact t
  have x3 : n'.2.2.2.1 = n.2.2.2.1 := by have t := congrArg (fun x : NN => x.2.2.2.1) har; exact t
  have x4 : n'.2.2.2.2 = n.2.2.2.2 := by have t := congrArg (fun x : NN => x.2.2.2.2) har; exact t
  unfold toR nt enc at *
  rw [e (50 + 1) (by decide), e (50 + 2) (by decide), e 50 (by decide), fun_tr (g := nH n') eH (fun i hi => Classical.byContradiction fun y => hi (wf_H0 w (by have := w.1; omega)))]
  unfold nT nG nP nS at *
  rw [x1, x2, x3, x4]
  have y1 := congrArg (fun x : Rt => x.1) h1
  have y2 := congrArg (fun x : Rt => x.2.1) h1
  have y3 := congrArg (fun x : Rt => x.2.2.2.1) h1
  have y4 := congrArg (fun x : Rt => x.2.2.2.2) h1
  dsimp only at y1 y2 y3 y4 ⊢
  rw [y1, y2, y3, y4]
theorem rt_Hs {M M' : Mem} {n n' : NN} {tp ts : Nat} (h : rt M 0 = enc n) (w : WF n' tp ts) (har : arN n' = arN n) (e : ∀ b, b ≠ 3 → M'.1 b = M.1 b) (eH : ∀ p, p < 10 → M'.1 3 p = nI (nH n' p)) : rt M' 0 = enc n' := by
  have x1 : n'.1 = n.1 := by have t := congrArg (fun x : NN => x.1) har; exact t
  have x2 : n'.2.1 = n.2.1 := by have t := congrArg (fun x : NN => x.2.1) har; exact t
  have x3 : n'.2.2.2.1 = n.2.2.2.1 := by have t := congrArg (fun x : NN => x.2.2.2.1) har; exact t
  have x4 : n'.2.2.2.2 = n.2.2.2.2 := by have t := congrArg (fun x : NN => x.2.2.2.2) har; exact t
  unfold rt enc at *
  have e3 : tr 10 (fun i => M'.1 3 (10 * 0 + i)) = fun i => nI (nH n' i) := fun_tr (g := nH n') (fun i hi => by rw [Nat.mul_zero, Nat.zero_add]; exact eH i hi) (fun i hi => Classical.byContradiction fun y => hi (wf_H0 w (by have := w.1; omega)))
  rw [e3, e 1 (by decide), e 2 (by decide), e 4 (by decide), e 5 (by decide)]
  unfold nT nG nP nS at *
  rw [x1, x2, x3, x4]
  have y1 := congrArg (fun x : Rt => x.1) h
  have y2 := congrArg (fun x : Rt => x.2.1) h
  have y3 := congrArg (fun x : Rt => x.2.2.2.1) h
  have y4 := congrArg (fun x : Rt => x.2.2.2.2) h
  dsimp only at y1 y2 y3 y4 ⊢
  rw [y1, y2, y3, y4]
def cnS (z : ZS) (v : Int32) : Bool := isSt (nI (nS (zsN z))) v && can (zsN z) (nH (zsN z)) v.toNatClampNeg
noncomputable def zFir (z : ZS) (v : Int32) : ZS := zNt (zKp z) (fiN (zsN z) v.toNatClampNeg)
theorem C_fire {c : Nat} {v : Int32} {M : Mem} {z : ZS} {K : Int32 → Mem → Prop} (h : IvC c M z) (k0 : cnS z v = false → K (-1) M) (k1 : cnS z v = true → ∀ M', IvC (c + 1) M' (zFir z v) → loC M M' → K (aCan (zFir z v)) M') : f_X8_fire v M K := by
  have hn := IvC_w h
  have w := hn.2.2.2
  obtain ⟨S, st, h⟩ := h
  unfold f_X8_fire
  cases q : isSt (nI (nS (zsN z))) v
  · have k := k0 (by unfold cnS; rw [q, Bool.false_and])
    unfold f_X1_allows
    refine X1_hasStep_sp ?_
    rw [ac_S hn, q]
    exact ⟨fun y => absurd rfl y, fun _ => ⟨fun y => absurd rfl y, fun _ => k⟩⟩
  · obtain ⟨s, s1, s2⟩ := isSt_n q
    have cl' : v.toNatClampNeg = s := by rw [s2, nI_CL (by omega)]
    have ec : cnS z v = can (zsN z) (nH (zsN z)) s := by unfold cnS; rw [q, Bool.true_and, cl']
    rw [ec] at k0 k1
    have ef : zFir z v = zNt (zKp z) (fiN (zsN z) s) := by unfold zFir; rw [cl']
    rw [ef] at k1
    rw [s2]
    refine X1_allows_nn (o := 0) (a := 53) (x := nH (zsN z)) hn s1 (show 0 + 10 ≤ 10 by decide) (show 10 < 100000 by decide) (fun p hp => ⟨by rw [Nat.zero_add]; exact ac_H hn hp, wf_H w p⟩) ⟨fun y => ?_, fun y => k0 (b_of0 y)⟩
    have y := b_ofn y
    have k := k1 y
    refine kp_c h (fun M3 a3 lo3 => ?_)
    have hn3 : atC M3 50 (zsN z) (zs3 z).2.1 (zs3 z).2.2 := IvC_w (z := zKp z) ⟨S, st, a3⟩
    refine X1_move_sp (t := 50) (a := 53) (o1 := 0) (o2 := 0) (by rw [ac_S hn3, isSt_bt s1, bt_nI (by have := wf_S w; omega) (by omega)]; exact (can_iff.mp y).1) s1 (by decide) (by decide) (by decide) (by decide) (by decide) (Or.inl rfl) ?_
    have eM : ∀ b, b ≠ 53 → (sA M3 53 (mvF (M3.1 (50 + 1)) (M3.1 (50 + 2)) (M3.1 53) s 0 0 10)).1 b = M3.1 b := fun b hb => sA_ne hb
    have ha : atC (sA M3 53 (mvF (M3.1 (50 + 1)) (M3.1 (50 + 2)) (M3.1 53) s 0 0 10)) 50 (fiN (zsN z) s) (zs3 z).2.1 (zs3 z).2.2 := atC_H hn3 (fiN_wf w s1 y) (fiN_ar _ _) eM (fun p hp => by rw [sA_eq]; exact mvF_fi (fun i hi => ac_T hn3 hi) (fun i hi => ac_G hn3 hi) (fun p hp => ac_H hn3 hp) s1 y p hp)
    refine nS_c (z := zKp z) a3 eM ha (fiN_ar _ _) (fun M5 a5 lo5 => ?_)
    exact allowed_nn (IvC_w a5) (k M5 a5 (fun b hb => by rw [lo5 b (by omega), lo3 b (by omega)]))
theorem R_fire {v : Int32} {M : Mem} {z : ZS} {K : Int32 → Mem → Prop} (h : IvR M z) (k0 : cnS z v = false → ∀ M', IvR M' z → hiC M M' → K (-1) M') (k1 : cnS z v = true → ∀ M', IvR M' (zFir z v) → hiC M M' → K (aCan (zFir z v)) M') : f_X9_fire v M K := by
  unfold f_X9_fire
  intro M2 e2
  have h2 : IvR M2 z := by rw [e2]; exact IvR_0 h
  have g2 : hiC M M2 := by rw [e2]; exact hiC_w (by decide)
  obtain ⟨hn, w⟩ := h2.2.2.1
  refine X9_isStep_sp ?_
  rw [rt_S hn]
  refine ⟨fun y => k0 (by unfold cnS; rw [b_of0 y, Bool.false_and]) M2 h2 g2, fun y => ?_⟩
  have q := b_ofn y
  obtain ⟨s, s1, s2⟩ := isSt_n q
  have cl' : v.toNatClampNeg = s := by rw [s2, nI_CL (by omega)]
  have ec : cnS z v = can (zsN z) (nH (zsN z)) s := by unfold cnS; rw [q, Bool.true_and, cl']
  rw [ec] at k0 k1
  have ef : zFir z v = zNt (zKp z) (fiN (zsN z) s) := by unfold zFir; rw [cl']
  rw [ef] at k1
  rw [s2]
  have rT : ∀ i, i < 80 → M2.1 1 i = nI (nT (zsN z) i) := fun i hi => by have := rt_T hn hi; rw [Nat.mul_zero, Nat.zero_add] at this; exact this
  have rG : ∀ i, i < 80 → M2.1 2 i = nI (nG (zsN z) i) := fun i hi => by have := rt_G hn hi; rw [Nat.mul_zero, Nat.zero_add] at this; exact this
  refine X9_canBe_sp (g := 0) (a := 3) (o := 0) (by decide) s1 (by decide) (by decide) ?_
  have cn : canN (fun i => M2.1 1 (80 * 0 + i)) (fun i => M2.1 2 (80 * 0 + i)) (M2.1 3) (M2.1 5 0) s 0 = can (zsN z) (nH (zsN z)) s := canN_can w s1 (fun i hi => rt_T hn hi) (fun i hi => rt_G hn hi) (rt_S hn) (fun p hp => ⟨by rw [Nat.zero_add]; exact rt0_H hn p hp, wf_H w p⟩)
  rw [cn]
  refine ⟨fun y => ?_, fun y => k0 (b_of0 y) M2 h2 g2⟩
  have y := b_ofn y
  have k := k1 y
  refine kp_r h2 (fun M5 a5 o5 o50 e52 => ?_)
  obtain ⟨hn5, w5⟩ := a5.2.2.1
  have hn5 : rt M5 0 = enc (zsN z) := hn5
  refine X9_does_sp s1 ?_
  have eM : ∀ b, b ≠ 3 → (sA M5 3 (mvF (M5.1 1) (M5.1 2) (M5.1 3) s 0 0 10)).1 b = M5.1 b := fun b hb => sA_ne hb
  have wf' := fiN_wf w s1 y
  have hr : rt (sA M5 3 (mvF (M5.1 1) (M5.1 2) (M5.1 3) s 0 0 10)) 0 = enc (fiN (zsN z) s) := rt_Hs hn5 wf' (fiN_ar _ _) eM (fun p hp => by
    rw [sA_eq]
    exact mvF_fi (fun i hi => by have := rt_T hn5 hi; rw [Nat.mul_zero, Nat.zero_add] at this; exact this) (fun i hi => by have := rt_G hn5 hi; rw [Nat.mul_zero, Nat.zero_add] at this; exact this) (rt0_H hn5) s1 y p hp)
  refine mv_r (z := zKp z) a5 eM rfl hr wf' (fiN_ar _ _) (fun M7 a7 l7 => ?_)
  exact allThat_nn a7.2.2.1.1 a7.2.2.1.2 (k M7 a7 (hiC_tr g2 (hiC_tr (fun b hb => ⟨o5 b (by omega) (by omega), by rw [e52]⟩) l7)))
/- set -/
def seN (n : NN) (p m : Nat) : NN := (n.1, n.2.1, pu (nH n) p m, n.2.2.2)
theorem seN_ar (n : NN) (p m : Nat) : arN (seN n p m) = arN n := rfl
theorem seN_wf {n : NN} {tp ts p m : Nat} (w : WF n tp ts) (hp : (nP n).testBit p = true) (hm : m ≤ 999) : WF (seN n p m) tp ts := by
  obtain ⟨a1, a2, a3, a4, a5, a6, a7, a8, a9, a10⟩ := w
  refine ⟨a1, a2, a3, a4, a5, a6, a7, a8, fun q => ?_, fun q hq => ?_⟩
  · show pu (nH n) p m q ≤ 999
    unfold pu
    split
    · exact hm
    · exact a9 q
  · have hq : pu (nH n) p m q ≠ 0 := hq
    show (nP n).testBit q = true
    unfold pu at hq
    by_cases e : q = p
    · rw [e]; exact hp
    · rw [if_neg e] at hq; exact a10 q hq
def seB (z : ZS) (v1 v2 : Int32) : Bool := isPl (nI (nP (zsN z))) v1 && isTk v2 && !decide (nI (nH (zsN z) v1.toNatClampNeg) = v2)
def zSet (z : ZS) (v1 v2 : Int32) : ZS := zNt (zKp z) (seN (zsN z) v1.toNatClampNeg v2.toNatClampNeg)
theorem C_set {c : Nat} {v1 v2 : Int32} {M : Mem} {z : ZS} {K : Int32 → Mem → Prop} (h : IvC c M z) (k0 : seB z v1 v2 = false → K (-1) M) (k1 : seB z v1 v2 = true → ∀ M', IvC (c + 1) M' (zSet z v1 v2) → loC M M' → K (nI (nH (zsN z) v1.toNatClampNeg)) M') : f_X8_set v1 v2 M K := by
  have hn := IvC_w h
  have w := hn.2.2.2
  obtain ⟨S, st, h⟩ := h
  unfold f_X8_set
  refine X1_hasPlace_sp ?_
  rw [ac_P hn]
  refine ⟨fun y => k0 (by unfold seB; rw [b_of0 y, Bool.false_and, Bool.false_and]), fun y => X8_isTokens_sp ⟨fun y2 => k0 (by unfold seB; rw [b_of0 y2, Bool.and_false, Bool.false_and]), fun y2 => ?_⟩⟩
  have q := b_ofn y
  have q2 := b_ofn y2
  obtain ⟨p, p1, p2⟩ := isPl_n q
  obtain ⟨m, m1, m2⟩ := isTk_n q2
  have cl' : v1.toNatClampNeg = p := by rw [p2, nI_CL (by omega)]
  have cl2 : v2.toNatClampNeg = m := by rw [m2, nI_CL (by omega)]
  have ec : seB z v1 v2 = !decide (nI (nH (zsN z) p) = v2) := by unfold seB; rw [q, q2, cl', Bool.true_and, Bool.true_and]
  rw [ec] at k0 k1
  have ef : zSet z v1 v2 = zNt (zKp z) (seN (zsN z) p m) := by unfold zSet; rw [cl', cl2]
  rw [ef, cl'] at k1
  have pb : (nP (zsN z)).testBit p = true := by rw [p2, isPl_bt p1, bt_nI (by have := wf_P w; omega) (by omega)] at q; exact q
  have g53 : gI M 53 (nI p) = nI (nH (zsN z) p) := by rw [gI, nI_CL (by omega)]; exact ac_H hn p1
  rw [p2, g53]
  refine ⟨(vp_nI (by omega) (by omega)).mpr p1, fun ne => ?_, fun e => k0 (by rw [decide_eq_true e]; rfl)⟩
  have k := k1 (by rw [decide_eq_false ne]; rfl)
  refine kp_c h (fun M3 a3 lo3 x3 e3 M4 e4 => ?_)
  have hn3 : atC M3 50 (zsN z) (zs3 z).2.1 (zs3 z).2.2 := IvC_w (z := zKp z) ⟨S, st, a3⟩
  have g3 : x3 = nI (nH (zsN z) p) := by rw [e3, gI, nI_CL (by omega)]; exact ac_H hn3 p1
  rw [nI_CL (by omega)] at e4
  have eM : ∀ b, b ≠ 53 → M4.1 b = M3.1 b := fun b hb => by rw [e4, w1_ne hb]
  have ha : atC M4 50 (seN (zsN z) p m) (zs3 z).2.1 (zs3 z).2.2 := atC_H hn3 (seN_wf w pb m1) (seN_ar _ _ _) eM (fun p' hp' => by
    show M4.1 53 p' = nI (pu (nH (zsN z)) p m p')
    unfold pu
    by_cases e : p' = p
    · rw [if_pos e, e, e4, w1_at]; exact m2
    · rw [if_neg e, e4, w1_no e]; exact ac_H hn3 hp')
  refine nS_c (z := zKp z) a3 eM ha (seN_ar _ _ _) (fun M5 a5 lo5 => ?_)
  rw [g3]
  exact k M5 a5 (fun b hb => by rw [lo5 b (by omega), lo3 b (by omega)])
theorem R_set {v1 v2 : Int32} {M : Mem} {z : ZS} {K : Int32 → Mem → Prop} (h : IvR M z) (k0 : seB z v1 v2 = false → ∀ M', IvR M' z → hiC M M' → K (-1) M') (k1 : seB z v1 v2 = true → ∀ M', IvR M' (zSet z v1 v2) → hiC M M' → K (nI (nH (zsN z) v1.toNatClampNeg)) M') : f_X9_set v1 v2 M K := by
  unfold f_X9_set
  intro M2 e2
  have h2 : IvR M2 z := by rw [e2]; exact IvR_0 h
  have g2 : hiC M M2 := by rw [e2]; exact hiC_w (by decide)
  obtain ⟨hn, w⟩ := h2.2.2.1
  refine X9_isPlace_sp ?_
  rw [rt_P hn]
  refine ⟨fun y => k0 (by unfold seB; rw [b_of0 y, Bool.false_and, Bool.false_and]) M2 h2 g2, fun y => X9_in_sp ⟨fun y2 => k0 (by have y2 : isTk v2 = false := b_of0 y2; unfold seB; rw [y2, Bool.and_false, Bool.false_and]) M2 h2 g2, fun y2 => ?_⟩⟩
  have q := b_ofn y
  have q2 : isTk v2 = true := b_ofn y2
  obtain ⟨p, p1, p2⟩ := isPl_n q
  obtain ⟨m, m1, m2⟩ := isTk_n q2
  have cl' : v1.toNatClampNeg = p := by rw [p2, nI_CL (by omega)]
  have cl2 : v2.toNatClampNeg = m := by rw [m2, nI_CL (by omega)]
  have ec : seB z v1 v2 = !decide (nI (nH (zsN z) p) = v2) := by unfold seB; rw [q, q2, cl', Bool.true_and, Bool.true_and]
  rw [ec] at k0 k1
  have ef : zSet z v1 v2 = zNt (zKp z) (seN (zsN z) p m) := by unfold zSet; rw [cl', cl2]
  rw [ef, cl'] at k1
  have pb : (nP (zsN z)).testBit p = true := by rw [p2, isPl_bt p1, bt_nI (by have := wf_P w; omega) (by omega)] at q; exact q
  have g53 : gI M2 3 (nI p) = nI (nH (zsN z) p) := by rw [gI, nI_CL (by omega)]; exact rt0_H hn p p1
  rw [p2, g53]
  refine ⟨(vp_nI (by omega) (by omega)).mpr (by omega), fun ne => ?_, fun e => k0 (by rw [decide_eq_true e]; rfl) M2 h2 g2⟩
  have k := k1 (by rw [decide_eq_false ne]; rfl)
  refine kp_r h2 (fun M5 a5 o5 o50 e52 x3 e3 M6 e6 => ?_)
  obtain ⟨hn5, w5⟩ := a5.2.2.1
  have hn5 : rt M5 0 = enc (zsN z) := hn5
  have g3 : x3 = nI (nH (zsN z) p) := by rw [e3, gI, nI_CL (by omega)]; exact rt0_H hn5 p p1
  rw [nI_CL (by omega)] at e6
  have eM : ∀ b, b ≠ 3 → M6.1 b = M5.1 b := fun b hb => by rw [e6, w1_ne hb]
  have wf' := seN_wf w pb m1
  have hr : rt M6 0 = enc (seN (zsN z) p m) := rt_Hs hn5 wf' (seN_ar _ _ _) eM (fun p' hp' => by
    show M6.1 3 p' = nI (pu (nH (zsN z)) p m p')
    unfold pu
    by_cases e : p' = p
    · rw [if_pos e, e, e6, w1_at]; exact m2
    · rw [if_neg e, e6, w1_no e]; exact rt0_H hn5 p' hp')
  refine mv_r (z := zKp z) a5 eM (by rw [e6]; rfl) hr wf' (seN_ar _ _ _) (fun M7 a7 l7 => ?_)
  rw [g3]
  exact k M7 a7 (hiC_tr g2 (hiC_tr (fun b hb => ⟨o5 b (by omega) (by omega), by rw [e52]⟩) l7))
