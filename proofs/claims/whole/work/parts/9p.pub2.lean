/-! calls: fault, about, arc, tokens, can -/
theorem IvC_w {c : Nat} {M : Mem} {z : ZS} (h : IvC c M z) : atC M 50 (zsN z) (zs3 z).2.1 (zs3 z).2.2 := by
  obtain ⟨S, st, a1, a2, ⟨f, s, b1, b2, b3, b4, b5, b6, b7⟩, a4⟩ := h
  exact b7
def aFault (z : ZS) (v : Int32) : Int32 := if v = 0 then zsK z else if v = 1 then zsF z else -1
theorem C_fault {c : Nat} {v : Int32} {M : Mem} {z : ZS} {K : Int32 → Mem → Prop} (h : IvC c M z) (k : K (aFault z v) M) : f_X8_fault v M K := by
  obtain ⟨S, st, a1, ⟨_, t4, t5⟩, a3⟩ := h
  unfold f_X8_fault
  unfold aFault at k
  refine ⟨fun q => ?_, fun q => ?_, fun q1 q2 => ?_⟩
  · rw [if_pos q] at k; rw [t4]; exact k
  · rw [if_neg (by rw [q]; decide), if_pos q] at k; rw [t5]; exact k
  · rw [if_neg q1, if_neg q2] at k; exact k
theorem R_fault {v : Int32} {M : Mem} {z : ZS} {K : Int32 → Mem → Prop} (h : IvR M z) (k : ∀ M', IvR M' z → hiC M M' → K (aFault z v) M') : f_X9_fault v M K := by
  unfold f_X9_fault
  intro M2 e2
  have h2 : IvR M2 z := by rw [e2]; exact IvR_0 h
  have g2 : hiC M M2 := by rw [e2]; exact hiC_w (by decide)
  have k := k M2 h2 g2
  unfold aFault at k
  refine ⟨fun q => ⟨fun q2 => ?_, fun q2 => ?_⟩, fun q => ?_⟩
  · rw [if_neg q, if_neg q2] at k; exact k
  · rw [if_neg q, if_pos q2] at k; rw [h2.2.1.2]; exact k
  · rw [if_pos q] at k; rw [h2.2.1.1]; exact k
/-- about, but the rank -/
def aAbout (z : ZS) (v : Int32) : Int32 := if v = 0 then nI (pop (nP (zsN z))) else if v = 1 then nI (pop (nS (zsN z))) else if v = 2 then nI (nP (zsN z)) else if v = 3 then nI (nS (zsN z)) else if v = 4 then sumN (fun p => nI (nH (zsN z) p)) 10 else if v = 5 then nI (zsP z).length else if v = 6 then nI (zsL z) else -1
theorem wf_H0 {n : NN} {tp ts p : Nat} (w : WF n tp ts) (h : tp ≤ p) : nH n p = 0 := Classical.byContradiction fun y => by
  have := wf_Hn w y
  rw [wf_Ph w h] at this
  cases this
theorem C_about {c : Nat} {v : Int32} {M : Mem} {z : ZS} {K : Int32 → Mem → Prop} (h : IvC c M z) (k7 : v = 7 → f_X7_rankOf 104 50 M (fun r M' => K r M')) (k : ¬ v = 7 → K (aAbout z v) M) : f_X8_about v M K := by
  have hn := IvC_w h
  have w := hn.2.2.2
  have wP := wf_P w
  have wS := wf_S w
  obtain ⟨S, st, a1, ⟨t0, t4, t5⟩, a3, ⟨f, p1, p2, p3, p4⟩, a5⟩ := h
  unfold f_X8_about
  unfold aAbout at k
  refine ⟨fun q => ?_, fun q => ?_, fun q => ?_, fun q => ?_, fun q => ?_, fun q => ?_, fun q => ?_, k7, fun q0 q1 q2 q3 q4 q5 q6 q7 => ?_⟩
  · have k := k (by rw [q]; decide)
    rw [if_pos q] at k
    rw [ac_P hn]; exact J6_bitCount_sp (by omega) k
  · have k := k (by rw [q]; decide)
    rw [if_neg (by rw [q]; decide), if_pos q] at k
    rw [ac_S hn]; exact J6_bitCount_sp (by omega) k
  · have k := k (by rw [q]; decide)
    rw [if_neg (by rw [q]; decide), if_neg (by rw [q]; decide), if_pos q] at k
    rw [ac_P hn]; exact k
  · have k := k (by rw [q]; decide)
    rw [if_neg (by rw [q]; decide), if_neg (by rw [q]; decide), if_neg (by rw [q]; decide), if_pos q] at k
    rw [ac_S hn]; exact k
  · have k := k (by rw [q]; decide)
    rw [if_neg (by rw [q]; decide), if_neg (by rw [q]; decide), if_neg (by rw [q]; decide), if_neg (by rw [q]; decide), if_pos q] at k
    refine X1_allTokens_sp hn.2.1 w.1 ?_
    rw [sumN_out w.1 (fun j h1 h2 => by show nI (nH (zsN z) j) = 0; rw [wf_H0 w h1]; rfl)] at k
    rw [sumN_cong (g := fun p => nI (nH (zsN z) p)) (fun j hj => ac_H hn (by have := w.1; omega))]
    exact k
  · have k := k (by rw [q]; decide)
    rw [if_neg (by rw [q]; decide), if_neg (by rw [q]; decide), if_neg (by rw [q]; decide), if_neg (by rw [q]; decide), if_neg (by rw [q]; decide), if_pos q] at k
    rw [p3]; exact k
  · have k := k (by rw [q]; decide)
    rw [if_neg (by rw [q]; decide), if_neg (by rw [q]; decide), if_neg (by rw [q]; decide), if_neg (by rw [q]; decide), if_neg (by rw [q]; decide), if_neg (by rw [q]; decide), if_pos q] at k
    rw [t0.2.1]; exact k
  · have k := k q7
    rw [if_neg q0, if_neg q1, if_neg q2, if_neg q3, if_neg q4, if_neg q5, if_neg q6] at k
    exact k
theorem R_about {v : Int32} {M : Mem} {z : ZS} {K : Int32 → Mem → Prop} (h : IvR M z) (k7 : v = 7 → ∀ M', IvR M' z → hiC M M' → f_X9_rank M' (fun r M' => K r M')) (k : ¬ v = 7 → ∀ M', IvR M' z → hiC M M' → K (aAbout z v) M') : f_X9_about v M K := by
  unfold f_X9_about
  intro M2 e2
  have h2 : IvR M2 z := by rw [e2]; exact IvR_0 h
  have g2 : hiC M M2 := by rw [e2]; exact hiC_w (by decide)
  obtain ⟨hn, w⟩ := h2.2.2.1
  have wP := wf_P w
  have wS := wf_S w
  have gP : gI M2 4 (0 : Int32) = nI (nP (zsN z)) := rt_P hn
  have gS : gI M2 5 (0 : Int32) = nI (nS (zsN z)) := rt_S hn
  have k := fun q => k q M2 h2 g2
  unfold aAbout at k
  refine ⟨fun q => ?_, fun q => ?_, fun q => ?_, fun q => ?_, fun q => ?_, fun q => ?_, fun q => ?_, fun q => k7 q M2 h2 g2, fun q0 q1 q2 q3 q4 q5 q6 q7 => ?_⟩
  · have k := k (by rw [q]; decide)
    rw [if_pos q] at k
    rw [gP]; exact X9_many_sp (by omega) k
  · have k := k (by rw [q]; decide)
    rw [if_neg (by rw [q]; decide), if_pos q] at k
    rw [gS]; exact X9_many_sp (by omega) k
  · have k := k (by rw [q]; decide)
    rw [if_neg (by rw [q]; decide), if_neg (by rw [q]; decide), if_pos q] at k
    rw [gP]; exact k
  · have k := k (by rw [q]; decide)
    rw [if_neg (by rw [q]; decide), if_neg (by rw [q]; decide), if_neg (by rw [q]; decide), if_pos q] at k
    rw [gS]; exact k
  · have k := k (by rw [q]; decide)
    rw [if_neg (by rw [q]; decide), if_neg (by rw [q]; decide), if_neg (by rw [q]; decide), if_neg (by rw [q]; decide), if_pos q] at k
    refine upT (fun n j => L_X9_about_92 (fun (v2_2 : Int32) (M_5 : Mem) => K v2_2 M_5) K n (sumN (fun p => nI (nH (zsN z) p)) j) (nI j) M2) 0 10 (Nat.zero_le _) (fun n => ?_) (fun j _ hj n ih => ?_)
    · rw [L_X9_about_92, l_10, nI_LE (by omega) (by omega)]
      exact ⟨fun _ => k, by omega⟩
    · rw [L_X9_about_92, l_10, nI_LE (by omega) (by omega), gI, nI_CL (by omega), nI_A1]
      refine ⟨by omega, fun _ => ⟨(vp_nI (by omega) (by omega)).mpr (by omega), fun x e => ?_⟩⟩
      have := rt_H hn (i := j) hj
      rw [Nat.mul_zero, Nat.zero_add] at this
      rw [e, this]
      exact ih
  · have k := k (by rw [q]; decide)
    rw [if_neg (by rw [q]; decide), if_neg (by rw [q]; decide), if_neg (by rw [q]; decide), if_neg (by rw [q]; decide), if_neg (by rw [q]; decide), if_pos q] at k
    rw [h2.2.2.2.1.1]; exact k
  · have k := k (by rw [q]; decide)
    rw [if_neg (by rw [q]; decide), if_neg (by rw [q]; decide), if_neg (by rw [q]; decide), if_neg (by rw [q]; decide), if_neg (by rw [q]; decide), if_neg (by rw [q]; decide), if_pos q] at k
    rw [h2.1.2.1]; exact k
  · have k := k q7
    rw [if_neg q0, if_neg q1, if_neg q2, if_neg q3, if_neg q4, if_neg q5, if_neg q6] at k
    exact k
/-- arc -/
def aArc (z : ZS) (v1 v2 v3 : Int32) : Int32 := if isSt (nI (nS (zsN z))) v1 = true then (if isPl (nI (nP (zsN z))) v2 = true then (if v3 = 0 then nI (nT (zsN z) (10 * v1.toNatClampNeg + v2.toNatClampNeg)) else if v3 = 1 then nI (nG (zsN z) (10 * v1.toNatClampNeg + v2.toNatClampNeg)) else if v3 = 2 then nI (nG (zsN z) (10 * v1.toNatClampNeg + v2.toNatClampNeg)) - nI (nT (zsN z) (10 * v1.toNatClampNeg + v2.toNatClampNeg)) else -2147483648) else -2147483648) else -2147483648
theorem C_arc {c : Nat} {v1 v2 v3 : Int32} {M : Mem} {z : ZS} {K : Int32 → Mem → Prop} (h : IvC c M z) (k : K (aArc z v1 v2 v3) M) : f_X8_arc v1 v2 v3 M K := by
  have hn := IvC_w h
  unfold f_X8_arc
  unfold aArc at k
  refine X1_hasStep_sp ?_
  rw [ac_S hn]
  refine ⟨fun q => ?_, fun q => X1_hasPlace_sp ?_⟩
  · rw [if_neg (by rw [b_of0 q]; decide)] at k; exact k
  · have q := b_ofn q
    rw [if_pos q] at k
    rw [ac_P hn]
    refine ⟨fun q2 => ?_, fun q2 => ?_⟩
    · have q2 := b_ofn q2
      rw [if_pos q2] at k
      obtain ⟨s, s1, s2⟩ := isSt_n q
      obtain ⟨p, p1, p2⟩ := isPl_n q2
      rw [s2, p2, nI_CL (by omega), nI_CL (by omega)] at k
      rw [s2, p2, ix_s s1 p1]
      have vp : vp_in (nI (10 * s + p)) 80 := (vp_nI (by omega) (by omega)).mpr (by omega)
      refine ⟨fun e => ⟨vp, ?_⟩, fun e => ⟨vp, ?_⟩, fun e => X1_change_sp s1 p1 ?_, fun e0 e1 e2 => ?_⟩
      · rw [if_pos e] at k
        rw [gI, nI_CL (by omega), show M.1 51 (10 * s + p) = nI (nT (zsN z) (10 * s + p)) from ac_T hn (by omega)]; exact k
      · rw [if_neg (by rw [e]; decide), if_pos e] at k
        rw [gI, nI_CL (by omega), show M.1 52 (10 * s + p) = nI (nG (zsN z) (10 * s + p)) from ac_G hn (by omega)]; exact k
      · rw [if_neg (by rw [e]; decide), if_neg (by rw [e]; decide), if_pos e] at k
        rw [ac_T hn (by omega), ac_G hn (by omega)]; exact k
      · rw [if_neg e0, if_neg e1, if_neg e2] at k; exact k
    · rw [if_neg (by rw [b_of0 q2]; decide)] at k; exact k
theorem in02 {v : Int32} : (0 ≤ v ∧ v ≤ 2) ↔ (v = 0 ∨ v = 1 ∨ v = 2) := by
  rw [i_le, i_le, i_eq, i_eq, i_eq, t_0, t_1, t_2]; omega
theorem in01 {v : Int32} : (0 ≤ v ∧ v ≤ 1) ↔ (v = 0 ∨ v = 1) := by
  rw [i_le, i_le, i_eq, i_eq, t_0, t_1]; omega
theorem arc0_sp {s p : Nat} {M : Mem} {K : Int32 → Mem → Prop} (hs : s < 8) (hp : p < 10) (h : K (nI (10 * s + p)) M) : f_X9_arcAt (0 : Int32) (nI s) (nI p) M K := by
  unfold f_X9_arcAt
  have e : (((80 : Int32) * 0) + ((10 : Int32) * nI s)) + nI p = nI (10 * s + p) := by
    rw [show (80 : Int32) * 0 = 0 from rfl, l_0, l_10, pk_mul, nI_add, nI_add, Nat.zero_add]
  rw [e]; exact h
theorem R_arc {v1 v2 v3 : Int32} {M : Mem} {z : ZS} {K : Int32 → Mem → Prop} (h : IvR M z) (k : ∀ M', IvR M' z → hiC M M' → K (aArc z v1 v2 v3) M') : f_X9_arc v1 v2 v3 M K := by
  unfold f_X9_arc
  intro M2 e2
  have h2 : IvR M2 z := by rw [e2]; exact IvR_0 h
  have g2 : hiC M M2 := by rw [e2]; exact hiC_w (by decide)
  obtain ⟨hn, w⟩ := h2.2.2.1
  have k := k M2 h2 g2
  unfold aArc at k
  refine X9_isStep_sp ?_
  rw [rt_S hn]
  refine ⟨fun q => ?_, fun q => X9_isPlace_sp ?_⟩
  · rw [if_neg (by rw [b_of0 q]; decide)] at k; exact k
  · have q := b_ofn q
    rw [if_pos q] at k
    rw [rt_P hn]
    refine ⟨fun q2 => ?_, fun q2 => X9_in_sp ⟨fun q3 => ?_, fun q3 => ?_⟩⟩
    · rw [if_neg (by rw [b_of0 q2]; decide)] at k; exact k
    · have q2 := b_ofn q2
      have q3 := in02.mp (of_decide_eq_true (b_ofn q3))
      rw [if_pos q2] at k
      obtain ⟨s, s1, s2⟩ := isSt_n q
      obtain ⟨p, p1, p2⟩ := isPl_n q2
      rw [s2, p2, nI_CL (by omega), nI_CL (by omega)] at k
      rw [s2, p2]
      have vp : vp_in (nI (10 * s + p)) 240 := (vp_nI (by omega) (by omega)).mpr (by omega)
      have rT := rt_T hn (i := 10 * s + p) (by omega)
      have rG := rt_G hn (i := 10 * s + p) (by omega)
      rw [Nat.mul_zero, Nat.zero_add] at rT rG
      refine ⟨fun e => ⟨fun e1 => ?_, fun e1 => arc0_sp s1 p1 ⟨vp, ?_⟩⟩, fun e => arc0_sp s1 p1 ⟨vp, ?_⟩⟩
      · have e2' : v3 = 2 := (q3.resolve_left e).resolve_left e1
        rw [if_neg e, if_neg e1, if_pos e2'] at k
        refine X9_change_sp (g := 0) (by decide) s1 p1 ?_
        rw [Nat.mul_zero, Nat.zero_add, rT, rG]; exact k
      · rw [if_neg e, if_pos e1] at k
        rw [gI, nI_CL (by omega), rG]; exact k
      · rw [if_pos e] at k
        rw [gI, nI_CL (by omega), rT]; exact k
    · have q2 := b_ofn q2
      have q3 := of_decide_eq_false (b_of0 q3)
      rw [in02] at q3
      rw [if_pos q2, if_neg (fun y => q3 (Or.inl y)), if_neg (fun y => q3 (Or.inr (Or.inl y))), if_neg (fun y => q3 (Or.inr (Or.inr y)))] at k
      exact k
/-- tokens -/
def aTok (z : ZS) (v : Int32) : Int32 := if isPl (nI (nP (zsN z))) v = true then nI (nH (zsN z) v.toNatClampNeg) else -1
theorem C_tokens {c : Nat} {v : Int32} {M : Mem} {z : ZS} {K : Int32 → Mem → Prop} (h : IvC c M z) (k : K (aTok z v) M) : f_X8_tokens v M K := by
  have hn := IvC_w h
  unfold f_X8_tokens
  unfold aTok at k
  refine X1_hasPlace_sp ?_
  rw [ac_P hn]
  refine ⟨fun q => ?_, fun q => ?_⟩
  · rw [if_neg (by rw [b_of0 q]; decide)] at k; exact k
  · have q := b_ofn q
    rw [if_pos q] at k
    obtain ⟨p, p1, p2⟩ := isPl_n q
    rw [p2, nI_CL (by omega)] at k
    rw [p2, gI, nI_CL (by omega), show M.1 53 p = nI (nH (zsN z) p) from ac_H hn p1]
    exact ⟨(vp_nI (by omega) (by omega)).mpr (by omega), k⟩
theorem R_tokens {v : Int32} {M : Mem} {z : ZS} {K : Int32 → Mem → Prop} (h : IvR M z) (k : ∀ M', IvR M' z → hiC M M' → K (aTok z v) M') : f_X9_tokens v M K := by
  unfold f_X9_tokens
  intro M2 e2
  have h2 : IvR M2 z := by rw [e2]; exact IvR_0 h
  have g2 : hiC M M2 := by rw [e2]; exact hiC_w (by decide)
  obtain ⟨hn, w⟩ := h2.2.2.1
  have k := k M2 h2 g2
  unfold aTok at k
  refine X9_isPlace_sp ?_
  rw [rt_P hn]
  refine ⟨fun q => ?_, fun q => ?_⟩
  · rw [if_neg (by rw [b_of0 q]; decide)] at k; exact k
  · have q := b_ofn q
    rw [if_pos q] at k
    obtain ⟨p, p1, p2⟩ := isPl_n q
    have rH := rt_H hn (i := p) p1
    rw [Nat.mul_zero, Nat.zero_add] at rH
    rw [p2, nI_CL (by omega)] at k
    rw [p2, gI, nI_CL (by omega), rH]
    exact ⟨(vp_nI (by omega) (by omega)).mpr (by omega), k⟩
/-- can -/
noncomputable def aCan (z : ZS) : Int32 := nI (mN (can (zsN z) (nH (zsN z))) 8)
theorem canN_cx {T G row : Nat → Int32} {n : NN} {x : Nat → Nat} {s : Nat} (hT : ∀ i, i < 80 → T i = nI (nT n i) ∧ nT n i ≤ 3) (hG : ∀ i, i < 80 → G i = nI (nG n i) ∧ nG n i ≤ 3) (hr : ∀ p, p < 10 → row p = nI (x p) ∧ x p ≤ 999) (hS : nS n < 256) (hs : s < 8) : canN T G row (nI (nS n)) s 0 = can n x s := by
  unfold canN can
  rw [bt_nI (by omega) (by omega)]
  congr 1
  refine allB_cong (fun p hp => ?_)
  have a := hT (10 * s + p) (by omega)
  have b := hG (10 * s + p) (by omega)
  have c := hr p hp
  unfold can1
  rw [Nat.zero_add, a.1, b.1, c.1, decide_eq_decide.mpr (show nI (nT n (10 * s + p)) ≤ nI (x p) ↔ nT n (10 * s + p) ≤ x p by rw [nI_LE (by omega) (by omega)])]
  by_cases q : nT n (10 * s + p) ≤ x p
  · rw [decide_eq_true q, Bool.true_and]
    refine decide_eq_decide.mpr ?_
    rw [nI_sb q, nI_add, l_999, nI_LE (by omega) (by omega)]
    exact ⟨fun y => ⟨q, by omega⟩, fun y => by omega⟩
  · rw [decide_eq_false q, Bool.false_and]
    exact (decide_eq_false (fun y => q y.1)).symm
theorem orB_mN (c : Nat → Bool) : ∀ {n : Nat}, n ≤ 31 → orB c n = nI (mN c n)
  | 0, _ => rfl
  | n + 1, h => by
    rw [orB, mN, orB_mN c (by omega)]
    cases e : c n
    · show nI (mN c n) ||| 0 = nI (mN c n ||| 0)
      rw [or0, Nat.or_zero]
    · show nI (mN c n) ||| (1 : Int32) <<< (nI n &&& 31) = nI (mN c n ||| 2 ^ n)
      rw [shl_nI (by omega), nI_or]
theorem allowed_nn {M : Mem} {n : NN} {tp ts : Nat} {K : Int32 → Mem → Prop} (hn : atC M 50 n tp ts) (k : K (nI (mN (can n (nH n)) 8)) M) : f_X1_allowed 50 M K := by
  have w := hn.2.2.2
  refine X1_allowed_sp (t := 50) hn.2.1 w.1 hn.2.2.1 w.2.1 (ac_okT hn) (ac_okG hn) (ac_oT hn) (ac_oG hn) (fun p hp => ?_) rfl (fun s h1 h2 => ?_) ?_
  · rw [Nat.zero_add, show M.1 (50 + 3) p = nI (nH n p) from ac_H hn hp, i_nI (by have := wf_H w p; omega)]
    have := wf_H w p
    omega
  · rw [ac_S hn, bt_nI (by have := wf_S w; omega) (by omega), wf_Sh w h1]
  · rw [ac_S hn, orB_cong (d := can n (nH n)) (fun s hs => canN_cx (fun i hi => ac_TA hn i hi) (fun i hi => ac_GA hn i hi) (fun p hp => ⟨ac_H hn hp, wf_H w p⟩) (wf_S w) hs), orB_mN _ (by decide)]
    exact k
theorem allThat_nn {M : Mem} {n : NN} {tp ts : Nat} {K : Int32 → Mem → Prop} (hn : rt M 0 = enc n) (w : WF n tp ts) (k : K (nI (mN (can n (nH n)) 8)) M) : f_X9_allThatCan M K := by
  have rT : ∀ i, i < 80 → M.1 1 i = nI (nT n i) ∧ nT n i ≤ 3 := fun i hi => ⟨by have := rt_T hn hi; rw [Nat.mul_zero, Nat.zero_add] at this; exact this, wf_T3 w i⟩
  have rG : ∀ i, i < 80 → M.1 2 i = nI (nG n i) ∧ nG n i ≤ 3 := fun i hi => ⟨by have := rt_G hn hi; rw [Nat.mul_zero, Nat.zero_add] at this; exact this, wf_G3 w i⟩
  have rH : ∀ i, i < 10 → M.1 3 i = nI (nH n i) ∧ nH n i ≤ 999 := fun i hi => ⟨by have := rt_H hn hi; rw [Nat.mul_zero, Nat.zero_add] at this; exact this, wf_H w i⟩
  refine X9_allThatCan_sp ?_
  rw [rt_S hn, orB_cong (d := can n (nH n)) (fun s hs => canN_cx rT rG rH (wf_S w) hs), orB_mN _ (by decide)]
  exact k
theorem C_can {c : Nat} {M : Mem} {z : ZS} {K : Int32 → Mem → Prop} (h : IvC c M z) (k : K (aCan z) M) : f_X8_can M K := allowed_nn (IvC_w h) k
theorem R_can {M : Mem} {z : ZS} {K : Int32 → Mem → Prop} (h : IvR M z) (k : ∀ M', IvR M' z → hiC M M' → K (aCan z) M') : f_X9_can M K := by
  unfold f_X9_can
  intro M2 e2
  have h2 : IvR M2 z := by rw [e2]; exact IvR_0 h
  have g2 : hiC M M2 := by rw [e2]; exact hiC_w (by decide)
  exact allThat_nn h2.2.2.1.1 h2.2.2.1.2 (k M2 h2 g2)
