theorem nI_Z {a : Nat} (h : a < 2147483648) : (nI a = 0) = (a = 0) := by rw [l_0, nI_EQ h (by omega)]
theorem nI_A1 (a : Nat) : nI a + 1 = nI (a + 1) := by rw [l_1, nI_add]
theorem nI_E1 {a : Nat} (h : a < 2147483648) : (nI a = 1) = (a = 1) := by rw [l_1, nI_EQ h (by omega)]
theorem nI_L1 {a : Nat} (h : a < 2147483648) : (nI a ≤ 1) = (a ≤ 1) := by rw [l_1, nI_LE h (by omega)]
theorem nI_1L {a : Nat} (h : a < 2147483648) : (1 ≤ nI a) = (1 ≤ a) := by rw [l_1, nI_LE (by omega) h]
theorem nI_1l {a : Nat} (h : a < 2147483648) : (1 < nI a) = (1 < a) := by rw [l_1, nI_LT (by omega) h]
theorem nI_L0 {a : Nat} (h : a < 2147483648) : (nI a ≤ 0) = (a = 0) := by rw [l_0, nI_LE h (by omega)]; exact propext ⟨fun x => by omega, fun x => by omega⟩
theorem nI_l0 {a : Nat} (h : a < 2147483648) : (nI a < 0) = False := by rw [l_0, nI_LT h (by omega)]; exact propext ⟨fun x => by omega, fun x => x.elim⟩
theorem m_10 (a : Nat) : nI a * nI 10 = nI (10 * a) := by rw [pk_mul, Nat.mul_comm]
theorem m10_ (a : Nat) : nI 10 * nI a = nI (10 * a) := by rw [pk_mul]
theorem m_80 (a : Nat) : nI a * nI 80 = nI (80 * a) := by rw [pk_mul, Nat.mul_comm]
theorem m300_ (a : Nat) : nI 300 * nI a = nI (300 * a) := by rw [pk_mul]
theorem m8_ (a : Nat) : nI 8 * nI a = nI (8 * a) := by rw [pk_mul]
theorem m_8 (a : Nat) : nI a * nI 8 = nI (8 * a) := by rw [pk_mul, Nat.mul_comm]
theorem m80_ (a : Nat) : nI 80 * nI a = nI (80 * a) := by rw [pk_mul]
theorem X1_sameOfPlaces_sp {t a ts p q : Nat} {A : Nat → Nat} {M : Mem} {K : Int32 → Mem → Prop} (hs : M.1 t 4 = nI ts) (h8 : ts ≤ 8) (ha : alen a = 80) (hA : ∀ i, i < 80 → M.1 a i = nI (A i) ∧ A i ≤ 3) (hp : p < 10) (hq : q < 10)
    (h : K (bI (allB (fun s => decide (A (10 * s + p) = A (10 * s + q))) ts)) M) : f_X1_sameOfPlaces t a (nI p) (nI q) M K := by
  unfold f_X1_sameOfPlaces
  refine lpA _ (fun b => K (bI b) M) (fun n j => L_X1_sameOfPlaces_3 t a (nI p) (nI q) _ K n (nI j) M) ts h (fun e n => ?_) (fun j hj n i1 i0 => ?_)
  · rw [L_X1_sameOfPlaces_3, hs]
    exact ⟨fun _ => e, fun x => absurd (by rw [nI_LE (by omega) (by omega)]; exact Nat.le_refl _) x⟩
  · have a1 := (hA (10 * j + p) (by omega)).2
    have a2 := (hA (10 * j + q) (by omega)).2
    rw [L_X1_sameOfPlaces_3]; simp (disch := omega) only [hs, ix_z, ha, vp_nI, nI_LE, gI, nI_CL, (hA (10 * j + p) (by omega)).1, (hA (10 * j + q) (by omega)).1, nI_EQ, l_1, nI_add]
    refine ⟨by omega, fun _ => ⟨by omega, by omega, fun e => i1 (decide_eq_true e), fun e => i0 (decide_eq_false e)⟩⟩
theorem X1_sameOfSteps_sp {t a tp p q : Nat} {A : Nat → Nat} {M : Mem} {K : Int32 → Mem → Prop} (hs : M.1 t 3 = nI tp) (h8 : tp ≤ 10) (ha : alen a = 80) (hA : ∀ i, i < 80 → M.1 a i = nI (A i) ∧ A i ≤ 3) (hp : p < 8) (hq : q < 8)
    (h : K (bI (allB (fun s => decide (A (10 * p + s) = A (10 * q + s))) tp)) M) : f_X1_sameOfSteps t a (nI p) (nI q) M K := by
  unfold f_X1_sameOfSteps
  refine lpA _ (fun b => K (bI b) M) (fun n j => L_X1_sameOfSteps_3 t a (nI p) (nI q) _ K n (nI j) M) tp h (fun e n => ?_) (fun j hj n i1 i0 => ?_)
  · rw [L_X1_sameOfSteps_3, hs]
    exact ⟨fun _ => e, fun x => absurd (by rw [nI_LE (by omega) (by omega)]; exact Nat.le_refl _) x⟩
  · have a1 := (hA (10 * p + j) (by omega)).2
    have a2 := (hA (10 * q + j) (by omega)).2
    rw [L_X1_sameOfSteps_3]; simp (disch := omega) only [hs, ha, forall_eq, gI, ix_z, m_10, m10_, m_80, m80_, m300_, m8_, m_8, nI_add, nI_A1, nI_E1, nI_L1, nI_1L, nI_1l, vp_nI, nI_LE, nI_LT, nI_EQ, nI_CL, nI_Z, l_2, l_3, l_4, l_5, l_6, l_7, l_8, l_9, l_10, l_11, l_12, l_13, l_14, l_15, l_16, l_17, l_18, l_19, l_20, l_21, l_22, l_23, l_24, l_25, l_26, l_27, l_28, l_29, l_30, l_32, l_48, l_57, l_59, l_63, l_80, l_96, l_97, l_99, l_122, l_128, l_160, l_170, l_171, l_172, l_200, l_240, l_255, l_256, l_260, l_300, l_900, l_999, l_1023, l_1024, l_1296, l_2064, l_2400, l_3010, l_4800, l_6000, l_600, l_10000, (hA (10 * p + j) (by omega)).1, (hA (10 * q + j) (by omega)).1]
    refine ⟨by omega, fun _ => ⟨by omega, by omega, fun e => i1 (decide_eq_true e), fun e => i0 (decide_eq_false e)⟩⟩
theorem nI_M {a : Nat} (h : a < 2147483648) : ¬ nI a = -1 := fun e => by
  have := congrArg Int32.toInt e
  rw [i_nI h, i_m1] at this; omega
theorem X1_onlyStepWith_sp {t a ts p : Nat} {A : Nat → Nat} {M : Mem} {K : Int32 → Mem → Prop} (hs : M.1 t 4 = nI ts) (h8 : ts ≤ 8) (ha : alen a = 80) (hA : ∀ i, i < 80 → M.1 a i = nI (A i) ∧ A i ≤ 3) (hp : p < 10)
    (h1 : ∀ s, s < ts → A (10 * s + p) ≠ 0 → (∀ i, i < ts → i ≠ s → A (10 * i + p) = 0) → K (nI s) M)
    (h0 : (¬ ∃ s, s < ts ∧ A (10 * s + p) ≠ 0 ∧ ∀ i, i < ts → i ≠ s → A (10 * i + p) = 0) → K (-1) M) : f_X1_onlyStepWith t a (nI p) M K := by
  unfold f_X1_onlyStepWith
  have key : ∀ d j, j + d = ts → ∀ v3 : Int32, ((v3 = -1 ∧ ∀ i, i < j → A (10 * i + p) = 0) ∨ ∃ s, s < j ∧ v3 = nI s ∧ A (10 * s + p) ≠ 0 ∧ ∀ i, i < j → i ≠ s → A (10 * i + p) = 0) → L_X1_onlyStepWith_5 t a (nI p) (fun v3_2 M_2 => K v3_2 M_2) K (d + 1) v3 (nI j) M := by
    intro d
    induction d with
    | zero =>
      intro j hj v3 hv
      rw [L_X1_onlyStepWith_5]; simp (disch := omega) only [hs, ha, forall_eq, gI, ix_z, m_10, m10_, m_80, m80_, m300_, m8_, m_8, nI_add, nI_A1, nI_E1, nI_L1, nI_1L, nI_1l, vp_nI, nI_LE, nI_LT, nI_EQ, nI_CL, nI_Z, l_2, l_3, l_4, l_5, l_6, l_7, l_8, l_9, l_10, l_11, l_12, l_13, l_14, l_15, l_16, l_17, l_18, l_19, l_20, l_21, l_22, l_23, l_24, l_25, l_26, l_27, l_28, l_29, l_30, l_32, l_48, l_57, l_59, l_63, l_80, l_96, l_97, l_99, l_122, l_128, l_160, l_170, l_171, l_172, l_200, l_240, l_255, l_256, l_260, l_300, l_900, l_999, l_1023, l_1024, l_1296, l_2064, l_2400, l_3010, l_4800, l_6000, l_600, l_10000]
      refine ⟨fun _ => ?_, by omega⟩
      have : j = ts := by omega
      subst this
      rcases hv with ⟨rfl, hv⟩ | ⟨s, hs', rfl, h2, h3⟩
      · exact h0 (fun ⟨s, a, b, _⟩ => b (hv s a))
      · exact h1 s hs' h2 h3
    | succ d ih =>
      intro j hj v3 hv
      have a1 := (hA (10 * j + p) (by omega)).2
      rw [L_X1_onlyStepWith_5]; simp (disch := omega) only [hs, ha, forall_eq, gI, ix_z, m_10, m10_, m_80, m80_, m300_, m8_, m_8, nI_add, nI_A1, nI_E1, nI_L1, nI_1L, nI_1l, vp_nI, nI_LE, nI_LT, nI_EQ, nI_CL, nI_Z, l_2, l_3, l_4, l_5, l_6, l_7, l_8, l_9, l_10, l_11, l_12, l_13, l_14, l_15, l_16, l_17, l_18, l_19, l_20, l_21, l_22, l_23, l_24, l_25, l_26, l_27, l_28, l_29, l_30, l_32, l_48, l_57, l_59, l_63, l_80, l_96, l_97, l_99, l_122, l_128, l_160, l_170, l_171, l_172, l_200, l_240, l_255, l_256, l_260, l_300, l_900, l_999, l_1023, l_1024, l_1296, l_2064, l_2400, l_3010, l_4800, l_6000, l_600, l_10000, (hA (10 * j + p) (by omega)).1]
      refine ⟨by omega, fun _ => ⟨by omega, fun hn => ⟨fun e => ?_, fun e => ?_⟩, fun hz => ?_⟩⟩
      · refine ih (j + 1) (by omega) _ (Or.inr ⟨j, by omega, rfl, hn, fun i hi hne => ?_⟩)
        rcases hv with ⟨_, hv⟩ | ⟨s, hs', e2, _⟩
        · exact hv i (by omega)
        · rw [e2] at e; exact absurd e (nI_M (by omega))
      · rcases hv with ⟨e2, _⟩ | ⟨s, hs', _, h2, h3⟩
        · exact absurd e2 e
        · refine h0 (fun ⟨u, hu, n1, n2⟩ => ?_)
          by_cases q : s = u
          · subst q; exact hn (n2 j (by omega) (by omega))
          · exact h2 (n2 s (by omega) q)
      · refine ih (j + 1) (by omega) _ ?_
        rcases hv with ⟨e2, hv⟩ | ⟨s, hs', e2, h2, h3⟩
        · refine Or.inl ⟨e2, fun i hi => ?_⟩
          rcases Nat.lt_succ_iff_lt_or_eq.mp hi with q | rfl
          · exact hv i q
          · exact hz
        · refine Or.inr ⟨s, by omega, e2, h2, fun i hi hne => ?_⟩
          rcases Nat.lt_succ_iff_lt_or_eq.mp hi with q | rfl
          · exact h3 i q hne
          · exact hz
  exact ⟨_, key ts 0 (by omega) (-1) (Or.inl ⟨rfl, fun i hi => absurd hi (Nat.not_lt_zero i)⟩)⟩
/-- the k-th bit of a set -/
theorem X8_bitAt_sp {v k : Nat} {M : Mem} {K : Int32 → Mem → Prop} (hv : v < 2147483648) (hk : k < 2147483648) (h1 : ∀ j, j < 10 → v.testBit j = true → ctB (fun i => v.testBit i) j = k → K (nI j) M) (h0 : ctB (fun i => v.testBit i) 10 ≤ k → K (-1) M) : f_X8_bitAt (nI v) (nI k) M K := by
  unfold f_X8_bitAt
  have key : ∀ d j, j + d = 10 → ∀ r, ctB (fun i => v.testBit i) j + r = k → L_X8_bitAt_4 (nI v) (fun M_2 => K (-1) M_2) K (d + 1) (nI r) (nI j) M := by
    intro d
    induction d with
    | zero =>
      intro j hj r hr
      rw [L_X8_bitAt_4]; simp (disch := omega) only [forall_eq, gI, ix_z, m_10, m10_, m_80, m80_, m300_, m8_, m_8, nI_add, nI_A1, nI_E1, nI_L1, nI_1L, nI_1l, vp_nI, nI_LE, nI_LT, nI_EQ, nI_CL, nI_Z, l_2, l_3, l_4, l_5, l_6, l_7, l_8, l_9, l_10, l_11, l_12, l_13, l_14, l_15, l_16, l_17, l_18, l_19, l_20, l_21, l_22, l_23, l_24, l_25, l_26, l_27, l_28, l_29, l_30, l_32, l_48, l_57, l_59, l_63, l_80, l_96, l_97, l_99, l_122, l_128, l_160, l_170, l_171, l_172, l_200, l_240, l_255, l_256, l_260, l_300, l_900, l_999, l_1023, l_1024, l_1296, l_2064, l_2400, l_3010, l_4800, l_6000, l_600, l_10000]
      refine ⟨fun _ => h0 ?_, by omega⟩
      rw [show (10 : Nat) = j by omega]; omega
    | succ d ih =>
      intro j hj r hr
      have hb := bt_nI hv (k := j) (by omega)
      unfold bt at hb
      rw [L_X8_bitAt_4]; simp (disch := omega) only [forall_eq, gI, ix_z, m_10, m10_, m_80, m80_, m300_, m8_, m_8, nI_add, nI_A1, nI_E1, nI_L1, nI_1L, nI_1l, vp_nI, nI_LE, nI_LT, nI_EQ, nI_CL, nI_Z, l_2, l_3, l_4, l_5, l_6, l_7, l_8, l_9, l_10, l_11, l_12, l_13, l_14, l_15, l_16, l_17, l_18, l_19, l_20, l_21, l_22, l_23, l_24, l_25, l_26, l_27, l_28, l_29, l_30, l_32, l_48, l_57, l_59, l_63, l_80, l_96, l_97, l_99, l_122, l_128, l_160, l_170, l_171, l_172, l_200, l_240, l_255, l_256, l_260, l_300, l_900, l_999, l_1023, l_1024, l_1296, l_2064, l_2400, l_3010, l_4800, l_6000, l_600, l_10000, bit_0]
      refine ⟨by omega, fun _ => ⟨fun hq => ?_, fun hq => ?_⟩⟩
      · have hq1 : v.testBit j = true := by rw [← hb]; exact decide_eq_true (Classical.not_not.mp hq)
        refine ⟨fun hz => ?_, fun hz => ?_⟩
        · have e : nI r + -1 = nI (r - 1) := by
            rw [i_eq, i_add (by rw [i_nI (by omega), i_m1]; omega) (by rw [i_nI (by omega), i_m1]; omega), i_nI (by omega), i_m1, i_nI (by omega)]; omega
          rw [e]
          exact ih (j + 1) (by omega) (r - 1) (by rw [ctB_t (c := fun i => v.testBit i) hq1]; omega)
        · exact h1 j (by omega) hq1 (by omega)
      · have hq1 : v.testBit j = false := by rw [← hb]; exact decide_eq_false hq
        exact ih (j + 1) (by omega) r (by rw [ctB_f (c := fun i => v.testBit i) hq1]; omega)
  exact ⟨_, key 10 0 (by omega) k (by rw [ctB]; omega)⟩
