/-! calls: sums, sum, support, covered, value, bound -/
noncomputable abbrev gNw (n : NN) (w : Bool) : Nat → Bool := gdB (CH n w) (unM n w)
noncomputable abbrev cNw (n : NN) (w : Bool) : Nat := ctB (gNw n w) 1024
noncomputable def nmN (n : NN) (w : Bool) (k i : Nat) : Nat := (yv (CH n w) (nthB (gNw n w) k) i).toNat
theorem cNw_le (n : NN) (w : Bool) : cNw n w ≤ 252 := gd_ct _ _
theorem nmN_le {n : NN} {tp ts : Nat} {w : Bool} {k i : Nat} (hwf : WF n tp ts) (hk : k < cNw n w) (hi : i < 10) : nmN n w k i ≤ 655000000 := by
  have s := nthB_sp hk
  have := yv_b hwf s.1 s.2.1 i hi
  unfold nmN
  omega
theorem lsW_k {M : Mem} {t k : Nat} {n : NN} {w : Bool} (h : lsW M t (CH n w) (unM n w) 1024) (hk : k < cNw n w) : M.1 (t + 3) k = nI (nthB (gNw n w) k) ∧ ∀ i, i < 10 → M.1 (t + 4) (10 * k + i) = nI (nmN n w k i) := by
  have s := nthB_sp hk
  have := h.2.2 _ s.1 s.2.1
  rw [s.2.2] at this
  exact this
theorem rSw_k {M : Mem} {k : Nat} {n : NN} {w : Bool} (h : rSw M w (CH n w) (unM n w) 1024) (hk : k < cNw n w) : M.1 14 (260 * bN w + k) = nI (nthB (gNw n w) k) ∧ ∀ i, i < 10 → M.1 15 (10 * (260 * bN w + k) + i) = nI (nmN n w k i) := by
  have s := nthB_sp hk
  have a := h.1.2 _ s.1 s.2.1
  have b := h.2 _ s.1 s.2.1
  rw [s.2.2] at a b
  exact ⟨a, b⟩
def wbv (v : Int32) : Bool := decide (v = 1)
theorem is01 {v : Int32} (h : v = 0 ∨ v = 1) : v = bI (wbv v) := by rcases h with e | e <;> rw [e] <;> rfl
theorem isX7_wt (w : Bool) : isX7 (wtC w) := by cases w; exact isX7_104; exact isX7_109
theorem in01_sp {v : Int32} {M : Mem} {K : Int32 → Mem → Prop} (h : K (bI (decide (v = 0 ∨ v = 1))) M) : f_X9_in v (0 : Int32) (1 : Int32) M K := by
  refine X9_in_sp ?_
  rw [show decide ((0 : Int32) ≤ v ∧ v ≤ 1) = decide (v = 0 ∨ v = 1) from decide_eq_decide.mpr in01]
  exact h
/- sums -/
noncomputable def aSums (z : ZS) (v : Int32) : Int32 := if v = 0 ∨ v = 1 then nI (cNw (zsN z) (wbv v)) else -1
theorem C_sums {c : Nat} {v : Int32} {M : Mem} {z : ZS} {K : Int32 → Mem → Prop} (hc : c < 100000) (h : IvC c M z) (k : ∀ M', IvC c M' z → loC M M' → K (aSums z v) M') : f_X8_sums v M K := by
  unfold f_X8_sums
  refine X8_isOneOfTwo_sp ⟨fun q => ?_, fun q => ?_⟩
  · have q := of_decide_eq_false (b_of0 q)
    have := k M h (loC_rf M)
    unfold aSums at this
    rw [if_neg q] at this; exact this
  · have q := of_decide_eq_true (b_ofn q)
    refine X8_weights_sp hc (is01 q) h (fun M' a b lo => ⟨isX7_wt _, ?_⟩)
    have := k M' a lo
    unfold aSums at this
    rw [if_pos q] at this
    rw [b.1]; exact this
theorem R_sums {v : Int32} {M : Mem} {z : ZS} {K : Int32 → Mem → Prop} (h : IvR M z) (k : ∀ M', IvR M' z → hiC M M' → K (aSums z v) M') : f_X9_sums v M K := by
  unfold f_X9_sums
  intro M2 e2
  have h2 : IvR M2 z := by rw [e2]; exact IvR_0 h
  have g2 : hiC M M2 := by rw [e2]; exact hiC_w (by decide)
  refine in01_sp ⟨fun q => ?_, fun q => ?_⟩
  · have q := of_decide_eq_true (b_ofn q)
    refine lS_r h2 (fun M' a b lo => ?_)
    have k := k M' a (hiC_tr g2 lo)
    unfold aSums at k
    rw [if_pos q] at k
    have e : v = nI (bN (wbv v)) := by rw [← bI_N]; exact is01 q
    have b2 := bN_2 (wbv v)
    rw [gI, e, nI_CL (by omega), (b (wbv v)).1.1.1]
    exact ⟨(vp_nI (by omega) (by omega)).mpr b2, k⟩
  · have q := of_decide_eq_false (b_of0 q)
    have := k M2 h2 g2
    unfold aSums at this
    rw [if_neg q] at this; exact this
/- sum -/
noncomputable def aSum (z : ZS) (v1 v2 v3 : Int32) : Int32 := if v1 = 0 ∨ v1 = 1 then (if (if v1 = 0 then isPl (nI (nP (zsN z))) v3 else isSt (nI (nS (zsN z))) v3) = true then (if 0 ≤ v2 ∧ v2 < nI (cNw (zsN z) (wbv v1)) then nI (nmN (zsN z) (wbv v1) v2.toNatClampNeg v3.toNatClampNeg) else -1) else -1) else -1
theorem i_nlt {v : Int32} : (¬ v < 0) ↔ 0 ≤ v := by rw [i_lt, i_le, t_0]; omega
theorem i_nle {v w : Int32} : (¬ v ≤ w) ↔ w < v := by rw [i_lt, i_le]; omega
theorem isS_10 {P v : Int32} (h : isSt P v = true) : ∃ p : Nat, p < 10 ∧ v = nI p := by
  obtain ⟨p, a, b⟩ := isSt_n h
  exact ⟨p, by omega, b⟩
theorem C_sum {c : Nat} {v1 v2 v3 : Int32} {M : Mem} {z : ZS} {K : Int32 → Mem → Prop} (hc : c < 100000) (h : IvC c M z) (k : ∀ M', IvC c M' z → loC M M' → K (aSum z v1 v2 v3) M') : f_X8_sum v1 v2 v3 M K := by
  unfold f_X8_sum
  refine X8_isOneOfTwo_sp ⟨fun q => ?_, fun q => ?_⟩
  · have q := of_decide_eq_true (b_ofn q)
    refine X8_weights_sp hc (is01 q) h (fun M' a b lo => ⟨isX7_wt _, ?_⟩)
    have k := k M' a lo
    have hn := IvC_w a
    have c2 := cNw_le (zsN z) (wbv v1)
    unfold aSum at k
    rw [if_pos q] at k
    have fin : ∀ x : Bool, (x = true → ∃ p : Nat, p < 10 ∧ v3 = nI p) → (K (if x = true then (if 0 ≤ v2 ∧ v2 < nI (cNw (zsN z) (wbv v1)) then nI (nmN (zsN z) (wbv v1) v2.toNatClampNeg v3.toNatClampNeg) else -1) else -1) M') → ((bI x = 0 → K (-1 : Int32) M') ∧ (¬ bI x = 0 → ((v2 < 0 → K (-1 : Int32) M') ∧ (¬ v2 < 0 → (((M'.1 (wtC (wbv v1)) 5) ≤ v2 → K (-1 : Int32) M') ∧ (¬ (M'.1 (wtC (wbv v1)) 5) ≤ v2 → vp_in ((v2 * (10 : Int32)) + v3) 2560 ∧ K (gI M' (wtC (wbv v1) + 4) ((v2 * (10 : Int32)) + v3)) M')))))) := fun x hx k => by
      rw [b.1]
      refine ⟨fun y => ?_, fun y => ⟨fun y2 => ?_, fun y2 => ⟨fun y3 => ?_, fun y3 => ?_⟩⟩⟩
      · rw [if_neg (by rw [b_of0 y]; decide)] at k; exact k
      · rw [if_pos (b_ofn y), if_neg (fun t => i_nlt.mpr t.1 y2)] at k; exact k
      · rw [if_pos (b_ofn y), if_neg (fun t => i_nle.mpr t.2 y3)] at k; exact k
      · rw [if_pos (b_ofn y), if_pos ⟨i_nlt.mp y2, i_nle.mp y3⟩] at k
        obtain ⟨p, p1, p2⟩ := hx (b_ofn y)
        obtain ⟨j, j1, j2⟩ := nn_of y2
        have y3 : v2 < nI (cNw (zsN z) (wbv v1)) := i_nle.mp y3
        rw [j2, nI_LT (by omega) (by omega)] at y3
        rw [j2, p2, nI_CL (by omega), nI_CL (by omega)] at k
        rw [j2, p2, l_10, m_10, nI_add, gI, nI_CL (by omega), (lsW_k b y3).2 p p1]
        exact ⟨(vp_nI (by omega) (by omega)).mpr (by omega), k⟩
    unfold S_X8_sum_17
    refine ⟨fun y => X1_hasStep_sp ?_, fun y => X1_hasPlace_sp ?_⟩
    · rw [if_neg y] at k
      rw [ac_S hn]
      exact fin _ isS_10 k
    · rw [if_pos y] at k
      rw [ac_P hn]
      exact fin _ isPl_n k
  · have q := of_decide_eq_false (b_of0 q)
    have := k M h (loC_rf M)
    unfold aSum at this
    rw [if_neg q] at this; exact this
/-- whether there is such a sum -/
noncomputable def isSm (n : NN) (v1 v2 : Int32) : Bool := decide (v1 = 0 ∨ v1 = 1) && decide (0 ≤ v2 ∧ v2 < nI (cNw n (wbv v1)))
theorem le_m1 {v : Int32} {k : Nat} (hk : k < 2147483648) : (v ≤ nI k - 1) ↔ v < nI k := by
  have e : (nI k - 1).toInt = (k : Int) - 1 := by rw [i_sub, i_nI hk, t_1] <;> rw [i_nI hk, t_1] <;> omega
  rw [i_le, i_lt, e, i_nI hk]; omega
theorem iS_r {v1 v2 : Int32} {M : Mem} {z : ZS} {K : Int32 → Mem → Prop} (h : IvR M z) (k : ∀ M', IvR M' z → rSmP M' (zsN z) → hiC M M' → K (bI (isSm (zsN z) v1 v2)) M') : f_X9_isSum v1 v2 M K := by
  unfold f_X9_isSum
  refine lS_r h (fun M' a b lo => in01_sp ⟨fun q => ?_, fun q => ?_⟩)
  · have q := of_decide_eq_false (b_of0 q)
    have := k M' a b lo
    unfold isSm at this
    rw [decide_eq_false q, Bool.false_and] at this; exact this
  · have q := of_decide_eq_true (b_ofn q)
    have k := k M' a b lo
    unfold isSm at k
    rw [decide_eq_true q, Bool.true_and] at k
    have e : v1 = nI (bN (wbv v1)) := by rw [← bI_N]; exact is01 q
    have b2 := bN_2 (wbv v1)
    have c2 := cNw_le (zsN z) (wbv v1)
    have g : gI M' 17 v1 = nI (cNw (zsN z) (wbv v1)) := by rw [gI]; rw [show v1.toNatClampNeg = bN (wbv v1) by rw [e, nI_CL (by omega)]; rw [← e]]; exact (b (wbv v1)).1.1.1
    rw [g]
    refine ⟨by rw [e]; exact (vp_nI (by omega) (by omega)).mpr b2, X9_in_sp ?_⟩
    rw [show decide (0 ≤ v2 ∧ v2 ≤ nI (cNw (zsN z) (wbv v1)) - 1) = decide (0 ≤ v2 ∧ v2 < nI (cNw (zsN z) (wbv v1))) from decide_eq_decide.mpr (by rw [le_m1 (by omega)])]
    refine ⟨fun y => ?_, fun y => ?_⟩
    · rw [b_of0 y] at k; exact k
    · rw [b_ofn y] at k; exact k
theorem isSm_n {n : NN} {v1 v2 : Int32} (h : isSm n v1 v2 = true) : (v1 = 0 ∨ v1 = 1) ∧ (0 ≤ v2 ∧ v2 < nI (cNw n (wbv v1))) ∧ ∃ j, v2 = nI j ∧ j < cNw n (wbv v1) := by
  unfold isSm at h
  rw [Bool.and_eq_true] at h
  have a := of_decide_eq_true h.1
  have b := of_decide_eq_true h.2
  have c2 := cNw_le n (wbv v1)
  obtain ⟨j, j1, j2⟩ := nn_of (i_nlt.mpr b.1)
  refine ⟨a, b, j, j2, ?_⟩
  have := b.2
  rw [j2, nI_LT (by omega) (by omega)] at this
  exact this
theorem ix260 {v1 : Int32} {j : Nat} (h : v1 = 0 ∨ v1 = 1) : ((260 : Int32) * v1) + nI j = nI (260 * bN (wbv v1) + j) := by
  have e : v1 = nI (bN (wbv v1)) := by rw [← bI_N]; exact is01 h
  have : (260 : Int32) * nI (bN (wbv v1)) + nI j = nI (260 * bN (wbv v1) + j) := by rw [l_260, pk_mul, nI_add]
  rw [← e] at this; exact this
theorem R_sum {v1 v2 v3 : Int32} {M : Mem} {z : ZS} {K : Int32 → Mem → Prop} (h : IvR M z) (k : ∀ M', IvR M' z → hiC M M' → K (aSum z v1 v2 v3) M') : f_X9_sum v1 v2 v3 M K := by
  unfold f_X9_sum
  intro M2 e2
  have h2 : IvR M2 z := by rw [e2]; exact IvR_0 h
  have g2 : hiC M M2 := by rw [e2]; exact hiC_w (by decide)
  refine iS_r h2 (fun M' a b lo => ?_)
  have k := k M' a (hiC_tr g2 lo)
  obtain ⟨hn, w⟩ := a.2.2.1
  unfold aSum at k
  refine ⟨fun q => ?_, fun q => ?_⟩
  · have q := b_of0 q
    unfold isSm at q
    by_cases q1 : v1 = 0 ∨ v1 = 1
    · rw [decide_eq_true q1, Bool.true_and] at q
      rw [if_pos q1, if_neg (of_decide_eq_false q)] at k
      rw [ite_self] at k
      exact k
    · rw [if_neg q1] at k; exact k
  · obtain ⟨q1, q2, j, q3, q4⟩ := isSm_n (b_ofn q)
    have c2 := cNw_le (zsN z) (wbv v1)
    have b2 := bN_2 (wbv v1)
    rw [if_pos q1, if_pos q2] at k
    have fin : ∀ x : Bool, (x = true → ∃ p : Nat, p < 10 ∧ v3 = nI p) → K (if x = true then nI (nmN (zsN z) (wbv v1) v2.toNatClampNeg v3.toNatClampNeg) else -1) M' → ((bI x = 0 → K (-1 : Int32) M') ∧ (¬ bI x = 0 → vp_in (((10 : Int32) * (((260 : Int32) * v1) + v2)) + v3) 5200 ∧ K (gI M' 15 (((10 : Int32) * (((260 : Int32) * v1) + v2)) + v3)) M')) := fun x hx k => by
      refine ⟨fun y => ?_, fun y => ?_⟩
      · rw [if_neg (by rw [b_of0 y]; decide)] at k; exact k
      · rw [if_pos (b_ofn y)] at k
        obtain ⟨p, p1, p2⟩ := hx (b_ofn y)
        rw [q3, p2, nI_CL (by omega), nI_CL (by omega)] at k
        rw [q3, p2, ix260 q1, l_10, m10_, nI_add, gI, nI_CL (by omega), (rSw_k (b (wbv v1)).1 q4).2 p p1]
        exact ⟨(vp_nI (by omega) (by omega)).mpr (by omega), k⟩
    refine ⟨fun y => X9_isStep_sp ?_, fun y => X9_isPlace_sp ?_⟩
    · rw [if_neg y] at k
      rw [rt_S hn]
      exact fin _ isS_10 k
    · rw [if_pos y] at k
      rw [rt_P hn]
      exact fin _ isPl_n k
/- support: the reference -/
theorem R_support {v1 v2 : Int32} {M : Mem} {z : ZS} {K : Int32 → Mem → Prop} (h : IvR M z) (k0 : isSm (zsN z) v1 v2 = false → ∀ M', IvR M' z → hiC M M' → M'.1 0 0 = 1 → K 0 M') (k1 : isSm (zsN z) v1 v2 = true → ∀ M', IvR M' z → hiC M M' → M'.1 0 0 = 0 → K (nI (nthB (gNw (zsN z) (wbv v1)) v2.toNatClampNeg)) M') : f_X9_support v1 v2 M K := by
  unfold f_X9_support
  refine iS_r h (fun M' a b lo M3 e3 => ?_)
  have a3 : IvR M3 z := by rw [e3]; exact IvR_0 a
  have l3 : hiC M M3 := hiC_tr lo (by rw [e3]; exact hiC_w (by decide))
  cases q : isSm (zsN z) v1 v2
  · have e : M3.1 0 0 = 1 := by rw [e3, w1_at, q]; rfl
    rw [e]
    exact ⟨fun _ => k0 q M3 a3 l3 e, fun y => absurd y (by decide)⟩
  · have e : M3.1 0 0 = 0 := by rw [e3, w1_at, q]; rfl
    rw [e]
    obtain ⟨q1, q2, j, q3, q4⟩ := isSm_n q
    have c2 := cNw_le (zsN z) (wbv v1)
    have b2 := bN_2 (wbv v1)
    have k := k1 q M3 a3 l3 e
    refine ⟨fun y => absurd rfl y, fun _ => ?_⟩
    rw [q3, nI_CL (by omega)] at k
    rw [q3, ix260 q1, gI, nI_CL (by omega), e3, w1_ne (by decide), (rSw_k (b (wbv v1)).1 q4).1]
    rw [← e3]
    exact ⟨(vp_nI (by omega) (by omega)).mpr (by omega), k⟩
/- covered -/
noncomputable def aCov (z : ZS) (v : Int32) : Int32 := if v = 0 ∨ v = 1 then nI (orK (gNw (zsN z) (wbv v)) (cNw (zsN z) (wbv v))) else -1
theorem C_covered {c : Nat} {v : Int32} {M : Mem} {z : ZS} {K : Int32 → Mem → Prop} (hc : c < 100000) (h : IvC c M z) (k : ∀ M', IvC c M' z → loC M M' → K (aCov z v) M') : f_X8_covered v M K := by
  unfold f_X8_covered
  refine X8_isOneOfTwo_sp ⟨fun q => ?_, fun q => ?_⟩
  · have q := of_decide_eq_false (b_of0 q)
    have := k M h (loC_rf M)
    unfold aCov at this
    rw [if_neg q] at this; exact this
  · have q := of_decide_eq_true (b_ofn q)
    refine X8_weights_sp hc (is01 q) h (fun M' a b lo => ⟨isX7_wt _, ?_⟩)
    have := k M' a lo
    unfold aCov at this
    rw [if_pos q] at this
    rw [b.2.1, cvN_orK 1024 (Nat.le_refl _)]; exact this
theorem R_covered {v : Int32} {M : Mem} {z : ZS} {K : Int32 → Mem → Prop} (h : IvR M z) (k : ∀ M', IvR M' z → hiC M M' → K (aCov z v) M') : f_X9_covered v M K := by
  unfold f_X9_covered
  intro M2 e2
  have h2 : IvR M2 z := by rw [e2]; exact IvR_0 h
  have g2 : hiC M M2 := by rw [e2]; exact hiC_w (by decide)
  refine in01_sp ⟨fun q => ?_, fun q => ?_⟩
  · have q := of_decide_eq_true (b_ofn q)
    refine lS_r h2 (fun M' a b lo => ?_)
    have k := k M' a (hiC_tr g2 lo)
    unfold aCov at k
    rw [if_pos q] at k
    have e : v = nI (bN (wbv v)) := by rw [← bI_N]; exact is01 q
    have b2 := bN_2 (wbv v)
    have c2 := cNw_le (zsN z) (wbv v)
    have g : gI M' 17 v = nI (cNw (zsN z) (wbv v)) := by rw [gI]; rw [show v.toNatClampNeg = bN (wbv v) by rw [e, nI_CL (by omega)]; rw [← e]]; exact (b (wbv v)).1.1.1
    have vp : vp_in v 2 := by rw [e]; exact (vp_nI (by omega) (by omega)).mpr b2
    refine upT (fun n j => L_X9_covered_24 v (fun (v2_2 : Int32) (M_5 : Mem) => K v2_2 M_5) K n (nI (orK (gNw (zsN z) (wbv v)) j)) (nI j) M') 0 (cNw (zsN z) (wbv v)) (Nat.zero_le _) (fun n => ?_) (fun j _ hj n ih => ?_)
    · rw [L_X9_covered_24, g, nI_LE (by omega) (by omega)]
      exact ⟨vp, fun _ => k, fun y => absurd (Nat.le_refl _) y⟩
    · rw [L_X9_covered_24, g, nI_LE (by omega) (by omega), ix260 q, gI, nI_CL (by omega), (rSw_k (b (wbv v)).1 hj).1, nI_or, nI_A1]
      exact ⟨vp, fun y => by omega, fun _ => ⟨(vp_nI (by omega) (by omega)).mpr (by omega), fun x e => by rw [e]; exact ih⟩⟩
  · have q := of_decide_eq_false (b_of0 q)
    have := k M2 h2 g2
    unfold aCov at this
    rw [if_neg q] at this; exact this
