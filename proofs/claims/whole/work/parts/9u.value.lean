/-! calls: value, bound -/
theorem nI_L {a : Nat} (h : a < 2147483648) : (nI a).toInt64 = oL (a : Int) := by rw [i2l, i_nI h]
noncomputable def wtN (n : NN) (k : Nat) : Nat := sm (fun p => nmN n false k p * nH n p) 10
theorem wt_le {n : NN} {tp ts k : Nat} (hwf : WF n tp ts) (hk : k < cNw n false) : ∀ j, j ≤ 10 → sm (fun p => nmN n false k p * nH n p) j ≤ j * 654345000000
  | 0, _ => Nat.le_refl _
  | j + 1, hj => by
    have ih := wt_le hwf hk j (by omega)
    have a := nmN_le (i := j) hwf hk (by omega)
    have b := wf_H hwf j
    have : nmN n false k j * nH n j ≤ 655000000 * 999 := Nat.mul_le_mul a b
    rw [sm]
    omega
theorem weigh_sp {t k : Nat} {n : NN} {tp ts : Nat} {M : Mem} {K : Int64 → Mem → Prop} (hwf : WF n tp ts) (hk : k < cNw n false) (hm : ∀ p, p < 10 → M.1 (t + 4) (10 * k + p) = nI (nmN n false k p)) (hh : ∀ p, p < 10 → M.1 53 p = nI (nH n p)) (h : K (oL ((wtN n k : Nat) : Int)) M) : f_X7_weigh t (nI k) 50 M K := by
  have c2 := cNw_le n false
  unfold f_X7_weigh
  intro x3 e3
  rw [e3]
  refine upT (fun m j => L_X7_weigh_5 t (nI k) 50 (fun (v3_2 : Int64) (M_2 : Mem) => K v3_2 M_2) K m (oL ((sm (fun p => nmN n false k p * nH n p) j : Nat) : Int)) (nI j) M) 0 10 (Nat.zero_le _) (fun m => ?_) (fun j _ hj m ih => ?_)
  · rw [L_X7_weigh_5, l_10, nI_LE (by omega) (by omega)]
    exact ⟨fun _ => h, by omega⟩
  · have a := nmN_le (i := j) hwf hk hj
    have b := wf_H hwf j
    rw [L_X7_weigh_5, l_10, nI_LE (by omega) (by omega), m_10, nI_add, nI_A1, gI, gI, nI_CL (by omega), nI_CL (by omega), hm j hj, show M.1 (50 + 3) j = nI (nH n j) from hh j hj, nI_L (by omega), nI_L (by omega), oL_mn, oL_add, ← Int.natCast_add]
    exact ⟨by omega, fun _ => ⟨(vp_nI (by omega) (by omega)).mpr (by omega), (vp_nI (by omega) (by omega)).mpr (by omega), fun x e => by rw [e]; exact ih⟩⟩
theorem valueOf_sp {k : Nat} {n : NN} {tp ts : Nat} {M : Mem} {K : Int64 → Mem → Prop} (hwf : WF n tp ts) (hk : k < cNw n false) (hm : ∀ p, p < 10 → M.1 15 (10 * k + p) = nI (nmN n false k p)) (hh : ∀ p, p < 10 → M.1 3 p = nI (nH n p)) (h : K (oL ((wtN n k : Nat) : Int)) M) : f_X9_valueOf (nI k) M K := by
  have c2 := cNw_le n false
  unfold f_X9_valueOf
  intro x3 e3
  rw [e3]
  refine upT (fun m j => L_X9_valueOf_5 (nI k) (fun (v3_2 : Int64) (M_2 : Mem) => K v3_2 M_2) K m (oL ((sm (fun p => nmN n false k p * nH n p) j : Nat) : Int)) (nI j) M) 0 10 (Nat.zero_le _) (fun m => ?_) (fun j _ hj m ih => ?_)
  · rw [L_X9_valueOf_5, l_10, nI_LE (by omega) (by omega)]
    exact ⟨fun _ => h, by omega⟩
  · have a := nmN_le (i := j) hwf hk hj
    have b := wf_H hwf j
    rw [L_X9_valueOf_5, l_10, nI_LE (by omega) (by omega), m10_, nI_add, nI_A1, gI, gI, nI_CL (by omega), nI_CL (by omega), hm j hj, hh j hj, nI_L (by omega), nI_L (by omega), oL_mn, oL_add, ← Int.natCast_add]
    exact ⟨by omega, fun _ => ⟨(vp_nI (by omega) (by omega)).mpr (by omega), (vp_nI (by omega) (by omega)).mpr (by omega), fun x e => by rw [e]; exact ih⟩⟩
theorem rt0_H {M : Mem} {n : NN} (h : rt M 0 = enc n) : ∀ p, p < 10 → M.1 3 p = nI (nH n p) := fun p hp => by
  have := rt_H h hp
  rw [Nat.mul_zero, Nat.zero_add] at this
  exact this
noncomputable def aVal (z : ZS) (v : Int32) : Int64 := if 0 ≤ v ∧ v < nI (cNw (zsN z) false) then oL ((wtN (zsN z) v.toNatClampNeg : Nat) : Int) else -1
theorem C_value {c : Nat} {v : Int32} {M : Mem} {z : ZS} {K : Int64 → Mem → Prop} (hc : c < 100000) (h : IvC c M z) (k : ∀ M', IvC c M' z → loC M M' → K (aVal z v) M') : f_X8_value v M K := by
  unfold f_X8_value
  refine X8_weights_sp (w := false) hc rfl h (fun M' a b lo => ⟨isX7_wt _, ?_⟩)
  have k := k M' a lo
  have hn := IvC_w a
  have c2 := cNw_le (zsN z) false
  unfold aVal at k
  rw [b.1]
  refine ⟨fun y2 => ?_, fun y2 => ⟨fun y3 => ?_, fun y3 => ?_⟩⟩
  · rw [if_neg (fun t => i_nlt.mpr t.1 y2)] at k; exact k
  · rw [if_neg (fun t => i_nle.mpr t.2 y3)] at k; exact k
  · rw [if_pos ⟨i_nlt.mp y2, i_nle.mp y3⟩] at k
    obtain ⟨j, j1, j2⟩ := nn_of y2
    have y3 : v < nI (cNw (zsN z) false) := i_nle.mp y3
    rw [j2, nI_LT (by omega) (by omega)] at y3
    rw [j2, nI_CL (by omega)] at k
    rw [j2]
    exact weigh_sp hn.2.2.2 y3 (lsW_k b y3).2 (fun p hp => ac_H hn hp) k
theorem R_value {v : Int32} {M : Mem} {z : ZS} {K : Int64 → Mem → Prop} (h : IvR M z) (k : ∀ M', IvR M' z → hiC M M' → K (aVal z v) M') : f_X9_value v M K := by
  unfold f_X9_value
  intro M2 e2
  have h2 : IvR M2 z := by rw [e2]; exact IvR_0 h
  have g2 : hiC M M2 := by rw [e2]; exact hiC_w (by decide)
  refine iS_r h2 (fun M' a b lo => ?_)
  have k := k M' a (hiC_tr g2 lo)
  obtain ⟨hn, w⟩ := a.2.2.1
  unfold aVal at k
  refine ⟨fun q => ?_, fun q => ?_⟩
  · have q := b_of0 q
    unfold isSm at q
    rw [decide_eq_true (Or.inl rfl), Bool.true_and] at q
    have q : ¬ (0 ≤ v ∧ v < nI (cNw (zsN z) false)) := of_decide_eq_false q
    rw [if_neg q] at k
    exact k
  · obtain ⟨q1, q2, j, q3, q4⟩ := isSm_n (b_ofn q)
    have q2 : 0 ≤ v ∧ v < nI (cNw (zsN z) false) := q2
    have q4 : j < cNw (zsN z) false := q4
    have c2 := cNw_le (zsN z) false
    rw [if_pos q2, q3, nI_CL (by omega)] at k
    rw [q3]
    exact valueOf_sp w q4 (fun p hp => by
      have := (rSw_k (b false).1 q4).2 p hp
      rw [show 260 * bN false + j = j from Nat.zero_add _] at this
      exact this) (rt0_H hn) k
/-- the least bound that the first so many sums give -/
noncomputable def bdI (n : NN) (p : Nat) : Nat → Int
  | 0 => -1
  | k + 1 => if nmN n false k p = 0 then bdI n p k else if bdI n p k = -1 ∨ ((wtN n k / nmN n false k p : Nat) : Int) < bdI n p k then ((wtN n k / nmN n false k p : Nat) : Int) else bdI n p k
theorem bd_rg {n : NN} {tp ts p : Nat} (hwf : WF n tp ts) : ∀ k, k ≤ cNw n false → -1 ≤ bdI n p k ∧ bdI n p k ≤ 6543450000000
  | 0, _ => by rw [bdI]; omega
  | k + 1, h => by
    have ih := bd_rg (p := p) hwf k (by omega)
    have a := wt_le hwf (show k < cNw n false by omega) 10 (Nat.le_refl _)
    have b : wtN n k / nmN n false k p ≤ wtN n k := Nat.div_le_self _ _
    have c : wtN n k ≤ 10 * 654345000000 := a
    rw [bdI]
    generalize wtN n k / nmN n false k p = m at b ⊢
    split
    · exact ih
    · split
      · omega
      · exact ih
noncomputable def aBnd (z : ZS) (v : Int32) : Int64 := if isPl (nI (nP (zsN z))) v = true then oL (bdI (zsN z) v.toNatClampNeg (cNw (zsN z) false)) else -1
theorem lB_sp {t p : Nat} {n : NN} {tp ts : Nat} {M : Mem} {K : Int64 → Mem → Prop} (hwf : WF n tp ts) (hp : p < 10) (h5 : M.1 t 5 = nI (cNw n false)) (hm : ∀ k, k < cNw n false → ∀ p, p < 10 → M.1 (t + 4) (10 * k + p) = nI (nmN n false k p)) (hh : ∀ p, p < 10 → M.1 53 p = nI (nH n p)) (h : K (oL (bdI n p (cNw n false))) M) : f_X7_leastBound t (nI p) 50 M K := by
  have c2 := cNw_le n false
  unfold f_X7_leastBound
  intro x3 e3
  rw [e3]
  refine upT (fun m j => L_X7_leastBound_7 t (nI p) 50 (fun (v3_2 : Int64) (M_3 : Mem) => K v3_2 M_3) K m (oL (bdI n p j)) (nI j) M) 0 (cNw n false) (Nat.zero_le _) (fun m => ?_) (fun k _ hk m ih => ?_)
  · rw [L_X7_leastBound_7, h5, nI_LE (by omega) (by omega)]
    exact ⟨fun _ => h, fun y => absurd (Nat.le_refl _) y⟩
  · have a := nmN_le (i := p) hwf hk hp
    have b := bd_rg (p := p) hwf k (by omega)
    have c : wtN n k ≤ 10 * 654345000000 := wt_le hwf hk 10 (Nat.le_refl _)
    have d : wtN n k / nmN n false k p ≤ wtN n k := Nat.div_le_self _ _
    have rb : rg (bdI n p k) := by unfold rg; omega
    rw [bdI] at ih
    rw [L_X7_leastBound_7, h5, nI_LE (by omega) (by omega), l_10, m_10, nI_add, nI_A1, gI, nI_CL (by omega), hm k hk p hp]
    refine ⟨by omega, fun _ => ⟨(vp_nI (by omega) (by omega)).mpr (by omega), fun x6 e6 => ?_⟩⟩
    rw [e6, nI_L0 (by omega)]
    refine ⟨fun q => ?_, fun q => weigh_sp hwf hk (hm k hk) hh ?_⟩
    · rw [if_pos q] at ih; exact ih
    · rw [if_neg q] at ih
      rw [nI_L (by omega), oL_Zn (by omega), oL_dn (by omega) (by omega)]
      refine ⟨q, fun x7 e7 => ⟨fun r x3 e3 => ?_, fun r => ?_⟩⟩
      · rw [show (-1 : Int64) = oL (-1) from rfl, oL_EQ rb rg_m1] at r
        rw [e3, e7]
        by_cases y : ((wtN n k / nmN n false k p : Nat) : Int) < bdI n p k
        · rw [if_pos (Or.inr y)] at ih
          rw [if_pos (by rw [oL_LT (rg_n (by omega)) rb]; exact y)]; exact ih
        · rw [if_neg (fun t => t.elim r y)] at ih
          rw [if_neg (by rw [oL_LT (rg_n (by omega)) rb]; exact y)]; exact ih
      · rw [show (-1 : Int64) = oL (-1) from rfl, oL_EQ rb rg_m1] at r
        rw [if_pos (Or.inl r)] at ih
        rw [e7]; exact ih
theorem C_bound {c : Nat} {v : Int32} {M : Mem} {z : ZS} {K : Int64 → Mem → Prop} (hc : c < 100000) (h : IvC c M z) (k : ∀ M', IvC c M' z → loC M M' → K (aBnd z v) M') : f_X8_bound v M K := by
  unfold f_X8_bound
  have hn := IvC_w h
  refine X1_hasPlace_sp ?_
  rw [ac_P hn]
  refine ⟨fun q => ?_, fun q => ?_⟩
  · have k := k M h (loC_rf M)
    unfold aBnd at k
    rw [if_neg (by rw [b_of0 q]; decide)] at k; exact k
  · have q := b_ofn q
    refine X8_weights_sp (w := false) hc rfl h (fun M' a b lo => ⟨isX7_wt _, ?_⟩)
    have k := k M' a lo
    have hn := IvC_w a
    unfold aBnd at k
    rw [if_pos q] at k
    obtain ⟨p, p1, p2⟩ := isPl_n q
    rw [p2, nI_CL (by omega)] at k
    rw [p2]
    exact lB_sp hn.2.2.2 p1 b.1 (fun k hk => (lsW_k b hk).2) (fun p hp => ac_H hn hp) k
theorem R_bound {v : Int32} {M : Mem} {z : ZS} {K : Int64 → Mem → Prop} (h : IvR M z) (k : ∀ M', IvR M' z → hiC M M' → K (aBnd z v) M') : f_X9_bound v M K := by
  unfold f_X9_bound
  intro M2 e2 x2 ex
  have h2 : IvR M2 z := by rw [e2]; exact IvR_0 h
  have g2 : hiC M M2 := by rw [e2]; exact hiC_w (by decide)
  obtain ⟨hn, w⟩ := h2.2.2.1
  refine X9_isPlace_sp ?_
  rw [rt_P hn]
  refine ⟨fun q => ?_, fun q => ?_⟩
  · have q := b_ofn q
    refine lS_r h2 (fun M' a b lo => ?_)
    have k := k M' a (hiC_tr g2 lo)
    obtain ⟨hn, w⟩ := a.2.2.1
    unfold aBnd at k
    rw [if_pos q] at k
    obtain ⟨p, p1, p2⟩ := isPl_n q
    rw [p2, nI_CL (by omega)] at k
    rw [p2, ex]
    have c2 := cNw_le (zsN z) false
    have g : gI M' 17 (0 : Int32) = nI (cNw (zsN z) false) := (b false).1.1.1
    have hm : ∀ k, k < cNw (zsN z) false → ∀ p, p < 10 → M'.1 15 (10 * k + p) = nI (nmN (zsN z) false k p) := fun k hk p hp => by
      have := (rSw_k (b false).1 hk).2 p hp
      rw [show 260 * bN false + k = k from Nat.zero_add _] at this
      exact this
    refine upT (fun m j => L_X9_bound_26 (nI p) (fun (v3_2 : Int64) (M_3 : Mem) => K v3_2 M_3) K m (oL (bdI (zsN z) p j)) (nI j) M') 0 (cNw (zsN z) false) (Nat.zero_le _) (fun m => ?_) (fun j _ hj m ih => ?_)
    · rw [L_X9_bound_26, g, nI_LE (by omega) (by omega)]
      exact ⟨fun _ => k, fun y => absurd (Nat.le_refl _) y⟩
    · have a := nmN_le (i := p) w hj p1
      have b := bd_rg (p := p) w j (by omega)
      have c : wtN (zsN z) j ≤ 10 * 654345000000 := wt_le w hj 10 (Nat.le_refl _)
      have d : wtN (zsN z) j / nmN (zsN z) false j p ≤ wtN (zsN z) j := Nat.div_le_self _ _
      have rb : rg (bdI (zsN z) p j) := by unfold rg; omega
      rw [bdI] at ih
      rw [L_X9_bound_26, g, nI_LE (by omega) (by omega), l_10, m10_, nI_add, nI_A1, gI, nI_CL (by omega), hm j hj p p1]
      refine ⟨by omega, fun _ => ⟨(vp_nI (by omega) (by omega)).mpr (by omega), fun x5 e5 => ?_⟩⟩
      rw [e5]
      unfold S_X9_bound_53
      rw [nI_L0 (by omega), nI_Z (by omega)]
      refine ⟨fun q => valueOf_sp w hj (hm j hj) (rt0_H hn) ?_, fun q => ⟨fun _ => ?_, fun y => absurd q y⟩⟩
      · rw [if_neg q] at ih
        rw [nI_L (by omega), oL_Zn (by omega), oL_dn (by omega) (by omega)]
        refine ⟨q, fun y => absurd y q, fun _ => ⟨fun r => ?_, fun r => ⟨fun r2 => ?_, fun r2 => ?_⟩⟩⟩
        · rw [z_0, oL_LT rb rg_0] at r
          rw [if_pos (Or.inl (by omega))] at ih
          exact ih
        · rw [z_0, oL_LT rb rg_0] at r
          rw [oL_LE rb (rg_n (by omega))] at r2
          rw [if_neg (by omega)] at ih
          exact ih
        · rw [oL_LE rb (rg_n (by omega))] at r2
          rw [if_pos (Or.inr (by omega))] at ih
          exact ih
      · rw [if_pos q] at ih; exact ih
  · have k := k M2 h2 g2
    unfold aBnd at k
    rw [if_neg (by rw [b_of0 q]; decide)] at k
    rw [ex]; exact k
