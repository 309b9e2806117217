/-! the reference: a net, read -/
theorem net40 {X : Mem → Prop} {K : Int32 → Mem → Prop} : ∀ d j, j + d = 80 → ∀ M : Mem, (∀ M' : Mem, (∀ b, b ≠ 1 → b ≠ 2 → M'.1 b = M.1 b) → (∀ i, i < 160 + j → M'.1 1 i = M.1 1 i ∧ M'.1 2 i = M.1 2 i) → (∀ i, 160 + j ≤ i → i < 240 → M'.1 1 i = 0 ∧ M'.1 2 i = 0) → M'.2 = M.2 → X M') → L_X9_net_40 X K (d + 1) (nI j) M := by
  intro d
  induction d with
  | zero =>
    intro j hj M h
    rw [L_X9_net_40, l_80, nI_LE (by omega) (by omega)]
    exact ⟨fun _ => h M (fun _ _ _ => rfl) (fun _ _ => ⟨rfl, rfl⟩) (fun i h1 h2 => by omega) rfl, by omega⟩
  | succ d ih =>
    intro j hj M h
    rw [L_X9_net_40, l_80, nI_LE (by omega) (by omega), l_160, nI_add, nI_A1, nI_CL (by omega)]
    refine ⟨by omega, fun _ => ⟨(vp_nI (by omega) (by omega)).mpr (by omega), fun M1 e1 M2 e2 => ih (j + 1) (by omega) M2 (fun M' a b c e => h M' (fun x y z => ?_) (fun i hi => ?_) (fun i h1 h2 => ?_) ?_)⟩⟩
    · rw [a x y z, e2, w1_ne z, e1, w1_ne y]
    · rw [(b i (by omega)).1, (b i (by omega)).2, e2, w1_ne (by decide), w1_no (by omega), e1, w1_no (by omega), w1_ne (by decide)]
      exact ⟨rfl, rfl⟩
    · by_cases q : i = 160 + j
      · rw [(b i (by omega)).1, (b i (by omega)).2, q, e2, w1_ne (by decide), w1_at, e1, w1_at]
        exact ⟨rfl, rfl⟩
      · exact c i (by omega) h2
    · rw [e, e2, e1]; rfl
theorem net76 {X : Mem → Prop} {K : Int32 → Mem → Prop} : ∀ d j, j + d = 10 → ∀ M : Mem, (∀ M' : Mem, (∀ b, b ≠ 3 → M'.1 b = M.1 b) → (∀ i, i < 20 + j → M'.1 3 i = M.1 3 i) → (∀ i, 20 + j ≤ i → i < 30 → M'.1 3 i = 0) → M'.2 = M.2 → X M') → L_X9_net_76 X K (d + 1) (nI j) M := by
  intro d
  induction d with
  | zero =>
    intro j hj M h
    rw [L_X9_net_76, l_10, nI_LE (by omega) (by omega)]
    exact ⟨fun _ => h M (fun _ _ => rfl) (fun _ _ => rfl) (fun i h1 h2 => by omega) rfl, by omega⟩
  | succ d ih =>
    intro j hj M h
    rw [L_X9_net_76, l_10, nI_LE (by omega) (by omega), l_20, nI_add, nI_A1, nI_CL (by omega)]
    refine ⟨by omega, fun _ => ⟨(vp_nI (by omega) (by omega)).mpr (by omega), fun M1 e1 => ih (j + 1) (by omega) M1 (fun M' a b c e => h M' (fun x y => ?_) (fun i hi => ?_) (fun i h1 h2 => ?_) ?_)⟩⟩
    · rw [a x y, e1, w1_ne y]
    · rw [b i (by omega), e1, w1_no (by omega)]
    · by_cases q : i = 20 + j
      · rw [b i (by omega), q, e1, w1_at]
      · exact c i (by omega) h2
    · rw [e, e1]; rfl
theorem net195 {X : Mem → Prop} {K : Int32 → Mem → Prop} : ∀ d j, j + d = 10 → ∀ M : Mem, (∀ M' : Mem, (∀ b, b ≠ 8 → M'.1 b = M.1 b) → (∀ i, i < j → M'.1 8 i = M.1 8 i) → (∀ i, j ≤ i → i < 10 → M'.1 8 i = 0) → M'.2 = M.2 → X M') → L_X9_net_195 X K (d + 1) (nI j) M := by
  intro d
  induction d with
  | zero =>
    intro j hj M h
    rw [L_X9_net_195, l_10, nI_LE (by omega) (by omega)]
    exact ⟨fun _ => h M (fun _ _ => rfl) (fun _ _ => rfl) (fun i h1 h2 => by omega) rfl, by omega⟩
  | succ d ih =>
    intro j hj M h
    rw [L_X9_net_195, l_10, nI_LE (by omega) (by omega), nI_A1, nI_CL (by omega)]
    refine ⟨by omega, fun _ => ⟨(vp_nI (by omega) (by omega)).mpr (by omega), fun M1 e1 => ih (j + 1) (by omega) M1 (fun M' a b c e => h M' (fun x y => ?_) (fun i hi => ?_) (fun i h1 h2 => ?_) ?_)⟩⟩
    · rw [a x y, e1, w1_ne y]
    · rw [b i (by omega), e1, w1_no (by omega)]
    · by_cases q : i = j
      · rw [b i (by omega), q, e1, w1_at]
      · exact c i (by omega) h2
    · rw [e, e1]; rfl
theorem PRn_0 {M : Mem} {z : PT} {j : Nat} {v : Int32} (h : PRn M z) (h1 : j ≠ 18) (h2 : j ≠ 20) (h3 : j ≠ 21) : PRn (wI M 0 j v) z := by
  unfold PRn nms at *
  rw [w1_no (Ne.symm h2), w1_no (Ne.symm h3), w1_no (Ne.symm h1), w1_ne (by decide), w1_ne (by decide), w1_ne (by decide), w1_ne (by decide), w1_ne (by decide)]
  exact h
theorem BR_0 {M : Mem} {e : Nat × Nat} {j : Nat} {v : Int32} (h : BR M e) (h1 : j ≠ 18) (h2 : j ≠ 19) : BR (wI M 0 j v) e := by
  unfold BR at *
  rw [w1_no (Ne.symm h1), w1_no (Ne.symm h2)]
  exact h
theorem rt_lo {M M' : Mem} (h1 : ∀ i, i < 160 → M'.1 1 i = M.1 1 i ∧ M'.1 2 i = M.1 2 i) (h3 : ∀ i, i < 20 → M'.1 3 i = M.1 3 i) (h4 : M'.1 4 0 = M.1 4 0) (h5 : M'.1 5 0 = M.1 5 0) : rt M' 0 = rt M 0 := by
  unfold rt
  rw [h4, h5]
  have e1 : tr 80 (fun i => M'.1 1 (80 * 0 + i)) = tr 80 (fun i => M.1 1 (80 * 0 + i)) := by
    funext i; unfold tr; split
    · exact (h1 (80 * 0 + i) (by omega)).1
    · rfl
  have e2 : tr 80 (fun i => M'.1 2 (80 * 0 + i)) = tr 80 (fun i => M.1 2 (80 * 0 + i)) := by
    funext i; unfold tr; split
    · exact (h1 (80 * 0 + i) (by omega)).2
    · rfl
  have e3 : tr 10 (fun i => M'.1 3 (10 * 0 + i)) = tr 10 (fun i => M.1 3 (10 * 0 + i)) := by
    funext i; unfold tr; split
    · exact h3 (10 * 0 + i) (by omega)
    · rfl
  rw [e1, e2, e3]
theorem rt_2 {M : Mem} {z : PT} (h : PRn M z) (hw : ptW z) (h4 : M.1 4 2 = nI (2 ^ z.2.1.1 - 1)) (h5 : M.1 5 2 = nI (2 ^ z.2.2.1.1 - 1)) : rt M 2 = enc (nnP z) := by
  unfold rt enc
  rw [h4, h5, fun_tr (g := z.2.2.2.1) (fun i hi => (h.2.2.2.1 i hi).1) (fun i hi => (hw.2.2.1 i hi).1), fun_tr (g := z.2.2.2.2.1) (fun i hi => (h.2.2.2.2.1 i hi).1) (fun i hi => (hw.2.2.2.1 i hi).1), fun_tr (g := z.2.2.2.2.2) (fun i hi => (h.2.2.2.2.2.1 i hi).1) (fun i hi => by have := hw.2.2.2.2 i hi; have := hw.1; omega)]
  rfl
theorem X9_net_sp {tp : Nat → Nat} {L : Nat} {M : Mem} {K : Int32 → Mem → Prop} (hL : L ≤ 900) (h10 : M.1 0 10 = nI L) (hT : ∀ i, i < L → M.1 9 i = nI (tp i) ∧ tp i ≤ 255)
    (hb : ∀ e M', pNet tp L L pt0 = .error e → M'.1 0 10 = 0 → M'.1 0 16 = nI e.1 → M'.1 0 17 = nI e.2 → (∀ j, 22 ≤ j → M'.1 0 j = M.1 0 j) → (∀ b, b ≠ 0 → b ≠ 1 → b ≠ 2 → b ≠ 3 → b ≠ 6 → b ≠ 7 → M'.1 b = M.1 b) → rt M' 0 = rt M 0 → M'.2 = M.2 → K (-1) M')
    (hk : ∀ y M', pNet tp L L pt0 = .ok y → ptW y → WF (nnP y) y.2.1.1 y.2.2.1.1 → M'.1 0 10 = 0 → M'.1 0 16 = 0 → M'.1 0 17 = -1 → M'.1 0 22 = 0 → M'.1 0 23 = 0 → M'.1 0 24 = 0 → M'.1 0 26 = 0 → (∀ b, 9 ≤ b → M'.1 b = M.1 b) → (∀ p, p < 10 → M'.1 8 p = 0) → rt M' 0 = enc (nnP y) → M'.2 = M.2 → K (nI y.2.1.1) M') : f_X9_net M K := by
  unfold f_X9_net
  intro M2 e2 M3 e3 M4 e4 M5 e5 M6 e6 M7 e7 M8 e8
  have f8 : ∀ j, M8.1 0 j = if j = 21 then 0 else if j = 20 then 0 else if j = 18 then 0 else if j = 13 then 0 else if j = 10 then 0 else if j = 11 then nI L else if j = 0 then 0 else M.1 0 j := by
    intro j
    have e3' : M3 = wI M2 0 11 (nI L) := by rw [e3]; exact congrArg _ (by rw [e2, w1_no (by decide)]; exact h10)
    rw [e8, w1_eq, e7, w1_eq, e6, w1_eq, e5, w1_eq, e4, w1_eq, e3', w1_eq, e2, w1_eq]
    rfl
  have g8 : ∀ b, b ≠ 0 → M8.1 b = M.1 b := fun b hb => by rw [e8, w1_ne hb, e7, w1_ne hb, e6, w1_ne hb, e5, w1_ne hb, e4, w1_ne hb, e3, w1_ne hb, e2, w1_ne hb]
  have h8 : M8.2 = M.2 := by rw [e8, e7, e6, e5, e4, e3, e2]; rfl
  clear e8 e7 e6 e5 e4 e3 e2
  refine ⟨_, net40 80 0 (by omega) M8 (fun M9 a1 a2 a3 a4 => ⟨_, net76 10 0 (by omega) M9 (fun M10 b1 b2 b3 b4 => ?_)⟩)⟩
  have s10 : M10.1 0 = M8.1 0 := by rw [b1 0 (by decide), a1 0 (by decide) (by decide)]
  have tR : tpR M10 tp L := ⟨hL, by rw [s10, f8]; rfl, fun i hi => by rw [b1 9 (by decide), a1 9 (by decide) (by decide), g8 9 (by decide)]; exact hT i hi⟩
  refine X9_next_sp (p := 0) tR (by omega) (by rw [s10, f8]; rfl) (fun M14 t14 f14 => ?_)
  have sl : ∀ j, j ≠ 12 → j ≠ 13 → j ≠ 14 → j ≠ 15 → M14.1 0 j = M8.1 0 j := fun j q1 q2 q3 q4 => by rw [f14.2.1 j q1 q2 q3 q4, s10]
  have P0 : PRn M14 pt0 := by
    refine ⟨⟨?_, by decide, ?_, by decide⟩, fun i hi => absurd hi (Nat.not_lt_zero _), fun i hi => absurd hi (Nat.not_lt_zero _), fun i hi => ⟨?_, Nat.zero_le _⟩, fun i hi => ⟨?_, Nat.zero_le _⟩, fun i hi => ⟨?_, Nat.zero_le _⟩, ?_⟩
    · rw [sl 20 (by decide) (by decide) (by decide) (by decide), f8]; rfl
    · rw [sl 21 (by decide) (by decide) (by decide) (by decide), f8]; rfl
    · rw [f14.1 1 (by decide), b1 1 (by decide), (a3 (160 + i) (by omega) (by omega)).1]; rfl
    · rw [f14.1 2 (by decide), b1 2 (by decide), (a3 (160 + i) (by omega) (by omega)).2]; rfl
    · rw [f14.1 3 (by decide), b3 (20 + i) (by omega) (by omega)]; rfl
    · rw [sl 18 (by decide) (by decide) (by decide) (by decide), f8]; rfl
  refine ⟨L + 2, netLp L pt0 M14 (tpR_f tR f14) t14 (Nat.zero_le _) (by omega) P0 (fun M17 r17 f17 => ?_)⟩
  have lo1 : ∀ i, i < 160 → M17.1 1 i = M.1 1 i ∧ M17.1 2 i = M.1 2 i := fun i hi => by
    rw [(f17.2.2.1 i hi).1, (f17.2.2.1 i hi).2, f14.1 1 (by decide), f14.1 2 (by decide), b1 1 (by decide), b1 2 (by decide), (a2 i (by omega)).1, (a2 i (by omega)).2, g8 1 (by decide), g8 2 (by decide)]
    exact ⟨rfl, rfl⟩
  have lo3 : ∀ i, i < 20 → M17.1 3 i = M.1 3 i := fun i hi => by
    rw [f17.2.2.2.1 i hi, f14.1 3 (by decide), b2 i (by omega), a1 3 (by decide) (by decide), g8 3 (by decide)]
  have ot : ∀ b, b ≠ 0 → b ≠ 1 → b ≠ 2 → b ≠ 3 → b ≠ 6 → b ≠ 7 → M17.1 b = M.1 b := fun b q0 q1 q2 q3 q6 q7 => by
    rw [f17.1 b q0 q1 q2 q3 q6 q7, f14.1 b q0, b1 b q3, a1 b q1 q2, g8 b q0]
  have m2 : M17.2 = M.2 := by rw [f17.2.2.2.2, f14.2.2, b4, a4, h8]
  have s17 : ∀ j, ¬ (12 ≤ j ∧ j ≤ 15) → ¬ (18 ≤ j ∧ j ≤ 21) → M17.1 0 j = M8.1 0 j := fun j q1 q2 => by rw [f17.2.1 j q1 q2]; exact sl j (by omega) (by omega) (by omega) (by omega)
  intro M18 e18
  cases c : pNet tp L L pt0 with
  | error e =>
    rw [c] at r17
    have r17 : BR M17 e := r17
    have B18 : BR M18 e := by rw [e18]; exact BR_0 r17 (by decide) (by decide)
    refine X9_good_0 B18 (fun M20 e20 => ?_)
    have B20 : BR M20 e := by rw [e20]; exact BR_0 B18 (by decide) (by decide)
    have sM : ∀ j, j ≠ 16 → j ≠ 17 → M20.1 0 j = M17.1 0 j := fun j q1 q2 => by rw [e20, w1_no q2, e18, w1_no q1]
    have sb : ∀ b, b ≠ 0 → M20.1 b = M17.1 b := fun b q => by rw [e20, w1_ne q, e18, w1_ne q]
    refine X9_good_0 B20 ⟨fun y => absurd rfl y, fun _ => hb e M20 c ?_ ?_ ?_ (fun j hj => ?_) (fun b q0 q1 q2 q3 q6 q7 => ?_) (rt_lo (fun i hi => ?_) (fun i hi => ?_) ?_ ?_) ?_⟩
    · rw [sM 10 (by decide) (by decide), s17 10 (by omega) (by omega), f8]; rfl
    · rw [e20, w1_no (by decide), e18, w1_at]; exact r17.1
    · rw [e20, w1_at, if_pos rfl]; exact B18.2.1
    · rw [sM j (by omega) (by omega), s17 j (by omega) (by omega), f8, if_neg (by omega), if_neg (by omega), if_neg (by omega), if_neg (by omega), if_neg (by omega), if_neg (by omega), if_neg (by omega)]
    · rw [sb b q0, ot b q0 q1 q2 q3 q6 q7]
    · rw [sb 1 (by decide), sb 2 (by decide)]; exact lo1 i hi
    · rw [sb 3 (by decide)]; exact lo3 i hi
    · rw [sb 4 (by decide), ot 4 (by decide) (by decide) (by decide) (by decide) (by decide) (by decide)]
    · rw [sb 5 (by decide), ot 5 (by decide) (by decide) (by decide) (by decide) (by decide) (by decide)]
    · rw [e20, e18]; exact m2
  | ok y =>
    rw [c] at r17
    have r17 : PRn M17 y ∧ TS9 M17 tp L y.1 ∧ y.1 ≤ L := r17
    have yw := pNet_w L pt0 y pt0_w c
    have ywf := nnP_wf yw (fun i hi => (r17.1.2.2.2.1 i hi).2) (fun i hi => (r17.1.2.2.2.2.1 i hi).2) (fun i hi => (r17.1.2.2.2.2.2.1 i hi).2)
    have P18 : PRn M18 y := by rw [e18]; exact PRn_0 r17.1 (by decide) (by decide) (by decide)
    refine X9_good_1 P18 (fun M20 e20 => ?_)
    have P20 : PRn M20 y := by rw [e20]; exact PRn_0 P18 (by decide) (by decide) (by decide)
    have p1 := Nat.two_pow_pos y.2.1.1
    have p2 := Nat.two_pow_pos y.2.2.1.1
    refine X9_good_1 P20 ⟨fun _ M22 e22 M23 e23 => ?_, fun z => absurd z (by decide)⟩
    have y1 := P20.1.2.1
    have y2 := P20.1.2.2.2
    have v22 : M22.1 4 2 = nI (2 ^ y.2.1.1 - 1) := by
      rw [e22, show (2 : Int32).toNatClampNeg = 2 from rfl, w1_at, P20.1.1, shl_nI (by omega), l_1, nI_sb (by omega)]
    have v23 : M23.1 5 2 = nI (2 ^ y.2.2.1.1 - 1) := by
      rw [e23, show (2 : Int32).toNatClampNeg = 2 from rfl, w1_at, e22, w1_ne (by decide), P20.1.2.2.1, shl_nI (by omega), l_1, nI_sb (by omega)]
    have v234 : M23.1 4 2 = nI (2 ^ y.2.1.1 - 1) := by rw [e23, w1_ne (by decide)]; exact v22
    have sb : ∀ b, b ≠ 4 → b ≠ 5 → M23.1 b = M20.1 b := fun b q4 q5 => by rw [e23, w1_ne q5, e22, w1_ne q4]
    have P23 : PRn M23 y := by
      unfold PRn nms at *
      rw [sb 0 (by decide) (by decide), sb 1 (by decide) (by decide), sb 2 (by decide) (by decide), sb 3 (by decide) (by decide), sb 6 (by decide) (by decide), sb 7 (by decide) (by decide)]
      exact P20
    refine X9_copies_sp (g1 := 2) (g2 := 0) (by decide) (by decide) (by decide) (fun M24 k1 k2 k3 k4 => ⟨_, net195 10 0 (by omega) M24 (fun M26 c1 c2 c3 c4 => ?_)⟩)
    intro M27 e27
    unfold f_X9_another f_X9_moved
    intro M28 e28 M29 e29 M30 e30
    have z0 : ∀ j, j ≠ 22 → j ≠ 23 → j ≠ 24 → j ≠ 26 → M30.1 0 j = M20.1 0 j := fun j q1 q2 q3 q4 => by rw [e30, w1_no q3, e29, w1_no q2, e28, w1_no q1, e27, w1_no q4, c1 0 (by decide), k3 0 (by decide) (by decide) (by decide) (by decide) (by decide), sb 0 (by decide) (by decide)]
    have zb : ∀ b, b ≠ 0 → M30.1 b = M26.1 b := fun b q => by rw [e30, w1_ne q, e29, w1_ne q, e28, w1_ne q, e27, w1_ne q]
    have z20 : ∀ j, j ≠ 16 → j ≠ 17 → M20.1 0 j = M17.1 0 j := fun j q1 q2 => by rw [e20, w1_no q2, e18, w1_no q1]
    have zr : M30.1 0 20 = nI y.2.1.1 := by rw [z0 20 (by decide) (by decide) (by decide) (by decide)]; exact P20.1.1
    show K (M30.1 0 20) M30
    rw [zr]
    refine hk y M30 c yw ywf ?_ ?_ ?_ ?_ ?_ ?_ ?_ (fun b hb9 => ?_) (fun p hp => ?_) ?_ ?_
    · rw [z0 10 (by decide) (by decide) (by decide) (by decide), z20 10 (by decide) (by decide), s17 10 (by omega) (by omega), f8]; rfl
    · rw [z0 16 (by decide) (by decide) (by decide) (by decide), e20, w1_no (by decide), e18, w1_at]; exact r17.1.2.2.2.2.2.2
    · rw [z0 17 (by decide) (by decide) (by decide) (by decide), e20, w1_at, if_neg (by decide)]
    · rw [e30, w1_no (by decide), e29, w1_no (by decide), e28, w1_at]
    · rw [e30, w1_no (by decide), e29, w1_at]
    · rw [e30, w1_at]
    · rw [e30, w1_no (by decide), e29, w1_no (by decide), e28, w1_no (by decide), e27, w1_at]
    · rw [zb b (by omega), c1 b (by omega), k3 b (by omega) (by omega) (by omega) (by omega) (by omega), sb b (by omega) (by omega), e20, w1_ne (by omega), e18, w1_ne (by omega), ot b (by omega) (by omega) (by omega) (by omega) (by omega) (by omega)]
    · rw [zb 8 (by decide), c3 p (by omega) hp]
    · have r24 : rt M30 0 = rt M24 0 := by unfold rt; rw [zb 1 (by decide), zb 2 (by decide), zb 3 (by decide), zb 4 (by decide), zb 5 (by decide), c1 1 (by decide), c1 2 (by decide), c1 3 (by decide), c1 4 (by decide), c1 5 (by decide)]
      rw [r24, k1]; exact rt_2 P23 yw v234 v23
    · rw [e30, e29, e28, e27]
      show M26.2 = M.2
      rw [c4, k4, e23, e22]
      show M20.2 = M.2
      rw [e20, e18]; exact m2
