theorem nI_sub0 {a b : Nat} (ha : a ≤ 3) (hb : b ≤ 3) : (nI a - nI b = 0) = (a = b) := by
  refine propext ⟨fun e => ?_, fun e => by rw [e]; exact Int32.sub_self _⟩
  have := congrArg Int32.toInt e
  rw [i_sub (by rw [i_nI (by omega), i_nI (by omega)]; omega) (by rw [i_nI (by omega), i_nI (by omega)]; omega), i_nI (by omega), i_nI (by omega), t_0] at this
  omega
theorem X5_isNeverChanged_sp {n : NN} {tp ts p : Nat} {M : Mem} {K : Int32 → Mem → Prop} (hn : atC M 147 n tp ts) (hp : p < 10) (h : K (bI (allB (fun s => decide (nT n (10 * s + p) = nG n (10 * s + p))) ts)) M) : f_X5_isNeverChanged (nI p) M K := by
  have w := hn.2.2.2
  have t8 := w.2.1
  unfold f_X5_isNeverChanged
  refine lpA _ (fun b => K (bI b) M) (fun k j => L_X5_isNeverChanged_2 (nI p) _ K k (nI j) M) ts h (fun e k => ?_) (fun j hj k i1 i0 => ?_)
  · rw [L_X5_isNeverChanged_2]; simp (disch := omega) only [hn.2.2.1, forall_eq, gI, ix_z, m_10, m10_, m_80, m80_, m300_, m8_, m_8, nI_add, nI_A1, nI_E1, nI_L1, nI_1L, nI_1l, vp_nI, nI_LE, nI_LT, nI_EQ, nI_CL, nI_Z, l_2, l_3, l_4, l_5, l_6, l_7, l_8, l_9, l_10, l_11, l_12, l_13, l_14, l_15, l_16, l_17, l_18, l_19, l_20, l_21, l_22, l_23, l_24, l_25, l_26, l_27, l_28, l_29, l_30, l_32, l_48, l_57, l_59, l_63, l_80, l_96, l_97, l_99, l_122, l_128, l_160, l_170, l_171, l_172, l_200, l_240, l_255, l_256, l_260, l_300, l_900, l_999, l_1023, l_1024, l_1296, l_2064, l_2400, l_3010, l_4800, l_6000, l_600, l_10000]
    exact ⟨fun _ => e, by omega⟩
  · rw [L_X5_isNeverChanged_2]; simp (disch := omega) only [hn.2.2.1, nI_LE, nI_A1]
    refine ⟨by omega, fun _ => X1_change_sp (by omega) hp ?_⟩
    rw [ac_G hn (by omega), ac_T hn (by omega), nI_sub0 (wf_G3 w _) (wf_T3 w _)]
    exact ⟨fun e => i1 (decide_eq_true e.symm), fun e => i0 (decide_eq_false (fun z => e z.symm))⟩
theorem X1_changesNothing_sp {n : NN} {t tp ts p : Nat} {M : Mem} {K : Int32 → Mem → Prop} (hn : atC M t n tp ts) (hp : p < 8) (h : K (bI (allB (fun s => decide (nT n (10 * p + s) = nG n (10 * p + s))) tp)) M) : f_X1_changesNothing t (nI p) M K := by
  have w := hn.2.2.2
  have t8 := w.1
  unfold f_X1_changesNothing
  refine lpA _ (fun b => K (bI b) M) (fun k j => L_X1_changesNothing_2 t (nI p) _ K k (nI j) M) tp h (fun e k => ?_) (fun j hj k i1 i0 => ?_)
  · rw [L_X1_changesNothing_2]; simp (disch := omega) only [hn.2.1, forall_eq, gI, ix_z, m_10, m10_, m_80, m80_, m300_, m8_, m_8, nI_add, nI_A1, nI_E1, nI_L1, nI_1L, nI_1l, vp_nI, nI_LE, nI_LT, nI_EQ, nI_CL, nI_Z, l_2, l_3, l_4, l_5, l_6, l_7, l_8, l_9, l_10, l_11, l_12, l_13, l_14, l_15, l_16, l_17, l_18, l_19, l_20, l_21, l_22, l_23, l_24, l_25, l_26, l_27, l_28, l_29, l_30, l_32, l_48, l_57, l_59, l_63, l_80, l_96, l_97, l_99, l_122, l_128, l_160, l_170, l_171, l_172, l_200, l_240, l_255, l_256, l_260, l_300, l_900, l_999, l_1023, l_1024, l_1296, l_2064, l_2400, l_3010, l_4800, l_6000, l_600, l_10000]
    exact ⟨fun _ => e, by omega⟩
  · rw [L_X1_changesNothing_2]; simp (disch := omega) only [hn.2.1, nI_LE, nI_A1]
    refine ⟨by omega, fun _ => X1_change_sp hp (by omega) ?_⟩
    rw [ac_G hn (by omega), ac_T hn (by omega), nI_sub0 (wf_G3 w _) (wf_T3 w _)]
    exact ⟨fun e => i1 (decide_eq_true e.symm), fun e => i0 (decide_eq_false (fun z => e z.symm))⟩
theorem X5_mostTaken_sp {n : NN} {tp ts p : Nat} {M : Mem} {K : Int32 → Mem → Prop} (hn : atC M 147 n tp ts) (hp : p < 10) (h : ∀ m, m ≤ 3 → (∀ x, m ≤ x ↔ ∀ s, s < ts → nT n (10 * s + p) ≤ x) → K (nI m) M) : f_X5_mostTaken (nI p) M K := by
  have w := hn.2.2.2
  have t8 := w.2.1
  unfold f_X5_mostTaken
  have key : ∀ d j, j + d = ts → ∀ m, m ≤ 3 → (∀ x, m ≤ x ↔ ∀ s, s < j → nT n (10 * s + p) ≤ x) → L_X5_mostTaken_4 (nI p) (fun v2_2 M_2 => K v2_2 M_2) K (d + 1) (nI m) (nI j) M := by
    intro d
    induction d with
    | zero =>
      intro j hj m m3 hm
      rw [L_X5_mostTaken_4]; simp (disch := omega) only [hn.2.2.1, nI_LE]
      exact ⟨fun _ => h m m3 (by rw [show ts = j by omega]; exact hm), by omega⟩
    | succ d ih =>
      intro j hj m m3 hm
      have b1 := wf_T3 w (10 * j + p)
      rw [L_X5_mostTaken_4]; simp (disch := omega) only [hn.2.2.1, forall_eq, gI, ix_z, m_10, m10_, m_80, m80_, m300_, m8_, m_8, nI_add, nI_A1, nI_E1, nI_L1, nI_1L, nI_1l, vp_nI, nI_LE, nI_LT, nI_EQ, nI_CL, nI_Z, l_2, l_3, l_4, l_5, l_6, l_7, l_8, l_9, l_10, l_11, l_12, l_13, l_14, l_15, l_16, l_17, l_18, l_19, l_20, l_21, l_22, l_23, l_24, l_25, l_26, l_27, l_28, l_29, l_30, l_32, l_48, l_57, l_59, l_63, l_80, l_96, l_97, l_99, l_122, l_128, l_160, l_170, l_171, l_172, l_200, l_240, l_255, l_256, l_260, l_300, l_900, l_999, l_1023, l_1024, l_1296, l_2064, l_2400, l_3010, l_4800, l_6000, l_600, l_10000, show M.1 148 (10 * j + p) = nI (nT n (10 * j + p)) from ac_T hn (by omega)]
      refine ⟨by omega, fun _ => ⟨by omega, ?_⟩⟩
      have e : (if m < nT n (10 * j + p) then nI (nT n (10 * j + p)) else nI m) = nI (if m < nT n (10 * j + p) then nT n (10 * j + p) else m) := by split <;> rfl
      rw [e]
      refine ih (j + 1) (by omega) _ (by split <;> omega) (fun x => ⟨fun hx s hs => ?_, fun hx => ?_⟩)
      · rcases Nat.lt_succ_iff_lt_or_eq.mp hs with q | rfl
        · exact (hm x).mp (by split at hx <;> omega) s q
        · split at hx <;> omega
      · have a1 := (hm x).mpr (fun s hs => hx s (by omega))
        have a2 := hx j (by omega)
        split <;> omega
  have := key ts 0 (by omega) 0 (by omega) (fun x => ⟨fun _ s hs => absurd hs (Nat.not_lt_zero s), fun _ => Nat.zero_le _⟩)
  exact ⟨_, this⟩
theorem X5_dropIdlePlace_sp {n : NN} {tp ts c : Nat} {M : Mem} {K : Int32 → Mem → Prop} (hn : atC M 147 n tp ts) (hc : M.1 146 4 = nI c) (hc18 : c < 18) (h : QC M K c (rl3 n)) : f_X5_dropIdlePlace M K := by
  have w := hn.2.2.2
  have t10 := w.1
  rw [rl3_tp w] at h
  unfold f_X5_dropIdlePlace
  refine lpF _ (QC M K c) (fun k j => L_X5_dropIdlePlace_2 (fun M_8 => K 0 M_8) K k (nI j) M) 0 tp (Nat.zero_le _) h (fun e k => ?_) (fun p _ hp k z0 z1 => ?_)
  · rw [L_X5_dropIdlePlace_2]; simp (disch := omega) only [hn.2.1, forall_eq, gI, ix_z, m_10, m10_, m_80, m80_, m300_, m8_, m_8, nI_add, nI_A1, nI_E1, nI_L1, nI_1L, nI_1l, vp_nI, nI_LE, nI_LT, nI_EQ, nI_CL, nI_Z, l_2, l_3, l_4, l_5, l_6, l_7, l_8, l_9, l_10, l_11, l_12, l_13, l_14, l_15, l_16, l_17, l_18, l_19, l_20, l_21, l_22, l_23, l_24, l_25, l_26, l_27, l_28, l_29, l_30, l_32, l_48, l_57, l_59, l_63, l_80, l_96, l_97, l_99, l_122, l_128, l_160, l_170, l_171, l_172, l_200, l_240, l_255, l_256, l_260, l_300, l_900, l_999, l_1023, l_1024, l_1296, l_2064, l_2400, l_3010, l_4800, l_6000, l_600, l_10000]
    exact ⟨fun _ => e.1 rfl, by omega⟩
  · have b1 := wf_H w p
    rw [L_X5_dropIdlePlace_2]; simp (disch := omega) only [hn.2.1, forall_eq, gI, ix_z, m_10, m10_, m_80, m80_, m300_, m8_, m_8, nI_add, nI_A1, nI_E1, nI_L1, nI_1L, nI_1l, vp_nI, nI_LE, nI_LT, nI_EQ, nI_CL, nI_Z, l_2, l_3, l_4, l_5, l_6, l_7, l_8, l_9, l_10, l_11, l_12, l_13, l_14, l_15, l_16, l_17, l_18, l_19, l_20, l_21, l_22, l_23, l_24, l_25, l_26, l_27, l_28, l_29, l_30, l_32, l_48, l_57, l_59, l_63, l_80, l_96, l_97, l_99, l_122, l_128, l_160, l_170, l_171, l_172, l_200, l_240, l_255, l_256, l_260, l_300, l_900, l_999, l_1023, l_1024, l_1296, l_2064, l_2400, l_3010, l_4800, l_6000, l_600, l_10000]
    have t1 := al_iff (c := fun s => decide (nT n (10 * s + p) = nG n (10 * s + p))) (P := fun s => nT n (10 * s + p) = nG n (10 * s + p)) w.2.1 (fun j _ => decide_eq_true_iff) (fun j a b => by rw [wf_T0s w (by omega) a, wf_G0s w (by omega) a])
    refine ⟨by omega, fun _ => X1_hasPlace_nn hn (by omega) ⟨fun e => z0 (ifP_f (fun z => by rw [b_of0 e] at z; exact absurd z.1 (by decide))), fun e1 => X5_isNeverChanged_sp hn (by omega) ⟨fun e => z0 (ifP_f (fun z => ?_)), fun e2 => ⟨by omega, X5_mostTaken_sp hn (by omega) (fun m m3 hm => ?_)⟩⟩⟩⟩
    · rw [t1.mpr (fun j hj => (z.2 j hj).1)] at e; exact absurd e (by decide)
    rw [ac_H hn (by omega), nI_LT (by omega) (by omega)]
    refine ⟨fun e => z0 (ifP_f (fun z => ?_)), fun e3 => ?_⟩
    · have := (hm (nH n p)).mpr (fun s hs => (z.2 s (by have := w.2.1; omega)).2)
      omega
    refine note_C (k := 3) (p := some p) (s := none) hc hc18 (fun x e => by cases e; omega) (fun x e => by cases e) (fun _ _ _ => rfl) rfl hn.1 ((z1 _ (ifP_t ⟨b_ofn e1, fun j hj => ⟨t1.mp (b_ofn e2) j hj, ?_⟩⟩)).2 _ rfl)
    rcases Nat.lt_or_ge j ts with q | q
    · exact (hm (nH n p)).mp (by omega) j q
    · rw [wf_T0s w (by omega) q]; exact Nat.zero_le _
theorem X5_dropIdleStep_sp {n : NN} {tp ts c : Nat} {M : Mem} {K : Int32 → Mem → Prop} (hn : atC M 147 n tp ts) (hc : M.1 146 4 = nI c) (hc18 : c < 18) (h : QC M K c (rl4 n)) : f_X5_dropIdleStep M K := by
  have w := hn.2.2.2
  have t10 := w.2.1
  have q10 := pop_le (nS n)
  unfold f_X5_dropIdleStep
  rw [show M.1 147 6 = nI (nS n) from ac_S hn]
  refine J6_bitCount_sp (Nat.lt_trans (wf_S w) (by omega)) ?_
  rw [l_2, nI_LE (by omega) (by omega)]
  refine ⟨fun hp2 => ?_, fun hp2 => h.1 (ff_none (fun j _ _ => ifP_f (fun z => by omega)))⟩
  rw [rl4_tp w] at h
  refine lpF _ (QC M K c) (fun k j => L_X5_dropIdleStep_18 (fun M_8 => K 0 M_8) K k (nI j) M) 0 ts (Nat.zero_le _) h (fun e k => ?_) (fun p _ hp k z0 z1 => ?_)
  · rw [L_X5_dropIdleStep_18]; simp (disch := omega) only [hn.2.2.1, forall_eq, gI, ix_z, m_10, m10_, m_80, m80_, m300_, m8_, m_8, nI_add, nI_A1, nI_E1, nI_L1, nI_1L, nI_1l, vp_nI, nI_LE, nI_LT, nI_EQ, nI_CL, nI_Z, l_2, l_3, l_4, l_5, l_6, l_7, l_8, l_9, l_10, l_11, l_12, l_13, l_14, l_15, l_16, l_17, l_18, l_19, l_20, l_21, l_22, l_23, l_24, l_25, l_26, l_27, l_28, l_29, l_30, l_32, l_48, l_57, l_59, l_63, l_80, l_96, l_97, l_99, l_122, l_128, l_160, l_170, l_171, l_172, l_200, l_240, l_255, l_256, l_260, l_300, l_900, l_999, l_1023, l_1024, l_1296, l_2064, l_2400, l_3010, l_4800, l_6000, l_600, l_10000]
    exact ⟨fun _ => e.1 rfl, by omega⟩
  · rw [L_X5_dropIdleStep_18]; simp (disch := omega) only [hn.2.2.1, nI_LE, nI_A1]
    have t1 := al_iff (c := fun s => decide (nT n (10 * p + s) = nG n (10 * p + s))) (P := fun s => nT n (10 * p + s) = nG n (10 * p + s)) w.1 (fun j _ => decide_eq_true_iff) (fun j a b => by rw [wf_T0p w (by omega) a, wf_G0p w (by omega) a])
    refine ⟨by omega, fun _ => X1_hasStep_nn hn (by omega) ⟨fun e => z0 (ifP_f (fun z => by rw [b_of0 e] at z; exact absurd z.2.1 (by decide))), fun e1 => X1_changesNothing_sp hn (by omega) ⟨fun e => z0 (ifP_f (fun z => ?_)), fun e2 => ?_⟩⟩⟩
    · rw [t1.mpr (fun j hj => z.2.2 j hj)] at e; exact absurd e (by decide)
    refine note_C (k := 4) (p := none) (s := some p) hc hc18 (fun x e => by cases e) (fun x e => by cases e; omega) (fun _ _ _ => rfl) rfl hn.1 ((z1 _ (ifP_t ⟨by omega, b_ofn e1, fun j hj => t1.mp (b_ofn e2) j hj⟩)).2 _ rfl)
