/-! the reference: the rules -/
theorem X9_taken_sp {n : NN} {s p : Nat} {M : Mem} {K : Int32 → Mem → Prop} (hn : rt M 1 = enc n) (hs : s < 8) (hp : p < 10) (h : K (nI (nT n (10 * s + p))) M) : f_X9_taken (nI s) (nI p) M K := by
  unfold f_X9_taken
  refine X9_arc1_sp hs hp ⟨(vp_nI (by omega) (by omega)).mpr (by omega), ?_⟩
  rw [gI, nI_CL (by omega), show (80 + (10 * s + p)) = 80 * 1 + (10 * s + p) by omega, rt_T hn (by omega)]
  exact h
theorem X9_given_sp {n : NN} {s p : Nat} {M : Mem} {K : Int32 → Mem → Prop} (hn : rt M 1 = enc n) (hs : s < 8) (hp : p < 10) (h : K (nI (nG n (10 * s + p))) M) : f_X9_given (nI s) (nI p) M K := by
  unfold f_X9_given
  refine X9_arc1_sp hs hp ⟨(vp_nI (by omega) (by omega)).mpr (by omega), ?_⟩
  rw [gI, nI_CL (by omega), show (80 + (10 * s + p)) = 80 * 1 + (10 * s + p) by omega, rt_G hn (by omega)]
  exact h
theorem X9_isThere_sp {n : NN} {p : Nat} {M : Mem} {K : Int32 → Mem → Prop} (hn : rt M 1 = enc n) (hP : nP n < 1024) (hp : p < 10) (h : K (bI ((nP n).testBit p)) M) : f_X9_isThere (nI p) M K := by
  unfold f_X9_isThere
  refine X9_isOf_sp ?_
  rw [show gI M 4 1 = nI (nP n) from rt_P hn]
  have := bt_nI (n := nP n) (k := p) (by omega) (by omega)
  unfold bt at this
  rw [this]
  exact ⟨bI_z _, h⟩
theorem X9_isLeft_sp {n : NN} {p : Nat} {M : Mem} {K : Int32 → Mem → Prop} (hn : rt M 1 = enc n) (hP : nS n < 256) (hp : p < 8) (h : K (bI ((nS n).testBit p)) M) : f_X9_isLeft (nI p) M K := by
  unfold f_X9_isLeft
  refine X9_isOf_sp ?_
  rw [show gI M 5 1 = nI (nS n) from rt_S hn]
  have := bt_nI (n := nS n) (k := p) (by omega) (by omega)
  unfold bt at this
  rw [this]
  exact ⟨bI_z _, h⟩
def QR (M : Mem) (K : Int32 → Mem → Prop) (c : Nat) (o : Option RR) : Prop := (o = none → K 0 M) ∧ ∀ r, o = some r → ∀ M', outR M M' c r → K 1 M'
theorem rt_1H {M : Mem} {n : NN} (h : rt M 1 = enc n) {i : Nat} (hi : i < 10) : M.1 3 (10 + i) = nI (nH n i) := rt_H h hi
theorem X9_arePlacesAlike_sp {n : NN} {tp ts p q : Nat} {M : Mem} {K : Int32 → Mem → Prop} (hn : rt M 1 = enc n) (w : WF n tp ts) (hp : p < 10) (hq : q < 10)
    (h1 : (∀ s, s < 8 → nT n (10 * s + p) = nT n (10 * s + q) ∧ nG n (10 * s + p) = nG n (10 * s + q)) → K 1 M) (h0 : ¬ (∀ s, s < 8 → nT n (10 * s + p) = nT n (10 * s + q) ∧ nG n (10 * s + p) = nG n (10 * s + q)) → K 0 M) : f_X9_arePlacesAlike (nI p) (nI q) M K := by
  unfold f_X9_arePlacesAlike
  have e3 : ∀ i, nT n i < 2147483648 := fun i => by have := wf_T3 w i; omega
  have e4 : ∀ i, nG n i < 2147483648 := fun i => by have := wf_G3 w i; omega
  refine up (fun k j => L_X9_arePlacesAlike_2 (nI p) (nI q) _ K k (nI j) M) (fun j => ∀ s, s < j → nT n (10 * s + p) = nT n (10 * s + q) ∧ nG n (10 * s + p) = nG n (10 * s + q)) 0 8 (by omega) (fun s hs => absurd hs (Nat.not_lt_zero s)) (fun e k => ?_) (fun j _ hj e k ih => ?_)
  · rw [L_X9_arePlacesAlike_2]
    exact ⟨fun _ => h1 e, fun q => absurd (by rw [l_8, nI_LE (by omega) (by omega)]; exact Nat.le_refl _) q⟩
  · rw [L_X9_arePlacesAlike_2]
    refine ⟨fun q => absurd q (by rw [l_8, nI_LE (by omega) (by omega)]; omega), fun _ => X9_taken_sp hn hj hp (X9_taken_sp hn hj hq ?_)⟩
    rw [nI_EQ (e3 _) (e3 _)]
    refine ⟨fun x => h0 (fun z => x (z j hj).1), fun x1 => X9_given_sp hn hj hp (X9_given_sp hn hj hq ?_)⟩
    rw [nI_EQ (e4 _) (e4 _), nI_A1]
    refine ⟨fun x2 => ih (fun s hs => ?_), fun x => h0 (fun z => x (z j hj).2)⟩
    rcases Nat.lt_succ_iff_lt_or_eq.mp hs with y | rfl
    · exact e s y
    · exact ⟨x1, x2⟩
theorem X9_areStepsAlike_sp {n : NN} {tp ts p q : Nat} {M : Mem} {K : Int32 → Mem → Prop} (hn : rt M 1 = enc n) (w : WF n tp ts) (hp : p < 8) (hq : q < 8)
    (h1 : (∀ s, s < 10 → nT n (10 * p + s) = nT n (10 * q + s) ∧ nG n (10 * p + s) = nG n (10 * q + s)) → K 1 M) (h0 : ¬ (∀ s, s < 10 → nT n (10 * p + s) = nT n (10 * q + s) ∧ nG n (10 * p + s) = nG n (10 * q + s)) → K 0 M) : f_X9_areStepsAlike (nI p) (nI q) M K := by
  unfold f_X9_areStepsAlike
  have e3 : ∀ i, nT n i < 2147483648 := fun i => by have := wf_T3 w i; omega
  have e4 : ∀ i, nG n i < 2147483648 := fun i => by have := wf_G3 w i; omega
  refine up (fun k j => L_X9_areStepsAlike_2 (nI p) (nI q) _ K k (nI j) M) (fun j => ∀ s, s < j → nT n (10 * p + s) = nT n (10 * q + s) ∧ nG n (10 * p + s) = nG n (10 * q + s)) 0 10 (by omega) (fun s hs => absurd hs (Nat.not_lt_zero s)) (fun e k => ?_) (fun j _ hj e k ih => ?_)
  · rw [L_X9_areStepsAlike_2]
    exact ⟨fun _ => h1 e, fun q => absurd (by rw [l_10, nI_LE (by omega) (by omega)]; exact Nat.le_refl _) q⟩
  · rw [L_X9_areStepsAlike_2]
    refine ⟨fun q => absurd q (by rw [l_10, nI_LE (by omega) (by omega)]; omega), fun _ => X9_taken_sp hn hp hj (X9_taken_sp hn hq hj ?_)⟩
    rw [nI_EQ (e3 _) (e3 _)]
    refine ⟨fun x => h0 (fun z => x (z j hj).1), fun x1 => X9_given_sp hn hp hj (X9_given_sp hn hq hj ?_)⟩
    rw [nI_EQ (e4 _) (e4 _), nI_A1]
    refine ⟨fun x2 => ih (fun s hs => ?_), fun x => h0 (fun z => x (z j hj).2)⟩
    rcases Nat.lt_succ_iff_lt_or_eq.mp hs with y | rfl
    · exact e s y
    · exact ⟨x1, x2⟩
theorem X9_fitsOne_sp {n : NN} {tp ts c : Nat} {M : Mem} {K : Int32 → Mem → Prop} (hn : rt M 1 = enc n) (w : WF n tp ts) (hc : M.1 0 58 = nI c) (hc18 : c < 20) (h : QR M K c (rl1 n)) : f_X9_fitsOne M K := by
  unfold f_X9_fitsOne
  have hP := wf_P w
  refine lpF _ (QR M K c) (fun k j => L_X9_fitsOne_2 (fun M_8 => K 0 M_8) K k (nI j) M) 0 10 (Nat.zero_le _) h (fun e k => ?_) (fun p _ hp k i0 i1 => ?_)
  · rw [L_X9_fitsOne_2]; simp (disch := omega) only [forall_eq, gI, ix_z, m_10, m10_, m_80, m80_, m300_, m8_, m_8, nI_add, nI_A1, nI_E1, nI_L1, nI_1L, nI_1l, vp_nI, nI_LE, nI_LT, nI_EQ, nI_CL, nI_Z, l_2, l_3, l_4, l_5, l_6, l_7, l_8, l_9, l_10, l_11, l_12, l_13, l_14, l_15, l_16, l_17, l_18, l_19, l_20, l_21, l_22, l_23, l_24, l_25, l_26, l_27, l_28, l_29, l_30, l_32, l_48, l_57, l_59, l_63, l_80, l_96, l_97, l_99, l_122, l_128, l_160, l_170, l_171, l_172, l_200, l_240, l_255, l_256, l_260, l_300, l_900, l_999, l_1023, l_1024, l_1296, l_2064, l_2400, l_3010, l_4800, l_6000, l_600, l_10000]
    exact ⟨fun _ => e.1 rfl, by omega⟩
  · rw [L_X9_fitsOne_2]; simp (disch := omega) only [forall_eq, gI, ix_z, m_10, m10_, m_80, m80_, m300_, m8_, m_8, nI_add, nI_A1, nI_E1, nI_L1, nI_1L, nI_1l, vp_nI, nI_LE, nI_LT, nI_EQ, nI_CL, nI_Z, l_2, l_3, l_4, l_5, l_6, l_7, l_8, l_9, l_10, l_11, l_12, l_13, l_14, l_15, l_16, l_17, l_18, l_19, l_20, l_21, l_22, l_23, l_24, l_25, l_26, l_27, l_28, l_29, l_30, l_32, l_48, l_57, l_59, l_63, l_80, l_96, l_97, l_99, l_122, l_128, l_160, l_170, l_171, l_172, l_200, l_240, l_255, l_256, l_260, l_300, l_900, l_999, l_1023, l_1024, l_1296, l_2064, l_2400, l_3010, l_4800, l_6000, l_600, l_10000]
    refine ⟨by omega, fun _ => ?_⟩
    refine lpF (g1 n p) (fun o => (o = none → L_X9_fitsOne_2 (fun M_8 => K 0 M_8) K k (nI (p + 1)) M) ∧ ∀ r, o = some r → QR M K c (some r)) (fun k' j => L_X9_fitsOne_12 (nI p) _ K k' (nI j) M) (p + 1) 10 hp ⟨i0, i1⟩ (fun e k' => ?_) (fun q hq1 hq2 k' z0 z1 => ?_)
    · rw [L_X9_fitsOne_12]; simp (disch := omega) only [forall_eq, gI, ix_z, m_10, m10_, m_80, m80_, m300_, m8_, m_8, nI_add, nI_A1, nI_E1, nI_L1, nI_1L, nI_1l, vp_nI, nI_LE, nI_LT, nI_EQ, nI_CL, nI_Z, l_2, l_3, l_4, l_5, l_6, l_7, l_8, l_9, l_10, l_11, l_12, l_13, l_14, l_15, l_16, l_17, l_18, l_19, l_20, l_21, l_22, l_23, l_24, l_25, l_26, l_27, l_28, l_29, l_30, l_32, l_48, l_57, l_59, l_63, l_80, l_96, l_97, l_99, l_122, l_128, l_160, l_170, l_171, l_172, l_200, l_240, l_255, l_256, l_260, l_300, l_900, l_999, l_1023, l_1024, l_1296, l_2064, l_2400, l_3010, l_4800, l_6000, l_600, l_10000]
      exact ⟨fun _ => e.1 rfl, by omega⟩
    · have b1 := wf_H w p
      have b2 := wf_H w q
      rw [L_X9_fitsOne_12]; simp (disch := omega) only [forall_eq, gI, ix_z, m_10, m10_, m_80, m80_, m300_, m8_, m_8, nI_add, nI_A1, nI_E1, nI_L1, nI_1L, nI_1l, vp_nI, nI_LE, nI_LT, nI_EQ, nI_CL, nI_Z, l_2, l_3, l_4, l_5, l_6, l_7, l_8, l_9, l_10, l_11, l_12, l_13, l_14, l_15, l_16, l_17, l_18, l_19, l_20, l_21, l_22, l_23, l_24, l_25, l_26, l_27, l_28, l_29, l_30, l_32, l_48, l_57, l_59, l_63, l_80, l_96, l_97, l_99, l_122, l_128, l_160, l_170, l_171, l_172, l_200, l_240, l_255, l_256, l_260, l_300, l_900, l_999, l_1023, l_1024, l_1296, l_2064, l_2400, l_3010, l_4800, l_6000, l_600, l_10000]
      refine ⟨by omega, fun _ => X9_isThere_sp hn hP hp ⟨fun e => z0 (ifP_f (fun z => by rw [b_of0 e] at z; exact absurd z.1 (by decide))), fun e1 => X9_isThere_sp hn hP hq2 ⟨fun e => z0 (ifP_f (fun z => by rw [b_of0 e] at z; exact absurd z.2.1 (by decide))), fun e2 => ⟨by omega, by omega, ?_⟩⟩⟩⟩
      rw [rt_1H hn hp, rt_1H hn hq2, nI_LT (by omega) (by omega)]
      refine ⟨fun e => z0 (ifP_f (fun z => by omega)), fun e3 => X9_arePlacesAlike_sp hn w hp hq2 (fun e4 => ⟨fun e => absurd e (by decide), fun _ => ?_⟩) (fun e4 => ⟨fun _ => z0 (ifP_f (fun z => e4 z.2.2.2)), fun e => absurd rfl e⟩)⟩
      exact note_R (k := 1) (p := some q) (s := none) hc hc18 (fun x e => by cases e; omega) (fun x e => by cases e) (fun _ _ _ => rfl) (frR_rf M) rfl hn (((z1 _ (ifP_t ⟨b_ofn e1, b_ofn e2, by omega, e4⟩)).2 _ rfl).2 _ rfl)
theorem X9_fitsTwo_sp {n : NN} {tp ts c : Nat} {M : Mem} {K : Int32 → Mem → Prop} (hn : rt M 1 = enc n) (w : WF n tp ts) (hc : M.1 0 58 = nI c) (hc18 : c < 20) (h : QR M K c (rl2 n)) : f_X9_fitsTwo M K := by
  unfold f_X9_fitsTwo
  have hS := wf_S w
  refine lpF _ (QR M K c) (fun k j => L_X9_fitsTwo_2 (fun M_8 => K 0 M_8) K k (nI j) M) 0 8 (Nat.zero_le _) h (fun e k => ?_) (fun p _ hp k i0 i1 => ?_)
  · rw [L_X9_fitsTwo_2]; simp (disch := omega) only [forall_eq, gI, ix_z, m_10, m10_, m_80, m80_, m300_, m8_, m_8, nI_add, nI_A1, nI_E1, nI_L1, nI_1L, nI_1l, vp_nI, nI_LE, nI_LT, nI_EQ, nI_CL, nI_Z, l_2, l_3, l_4, l_5, l_6, l_7, l_8, l_9, l_10, l_11, l_12, l_13, l_14, l_15, l_16, l_17, l_18, l_19, l_20, l_21, l_22, l_23, l_24, l_25, l_26, l_27, l_28, l_29, l_30, l_32, l_48, l_57, l_59, l_63, l_80, l_96, l_97, l_99, l_122, l_128, l_160, l_170, l_171, l_172, l_200, l_240, l_255, l_256, l_260, l_300, l_900, l_999, l_1023, l_1024, l_1296, l_2064, l_2400, l_3010, l_4800, l_6000, l_600, l_10000]
    exact ⟨fun _ => e.1 rfl, by omega⟩
  · rw [L_X9_fitsTwo_2]; simp (disch := omega) only [forall_eq, gI, ix_z, m_10, m10_, m_80, m80_, m300_, m8_, m_8, nI_add, nI_A1, nI_E1, nI_L1, nI_1L, nI_1l, vp_nI, nI_LE, nI_LT, nI_EQ, nI_CL, nI_Z, l_2, l_3, l_4, l_5, l_6, l_7, l_8, l_9, l_10, l_11, l_12, l_13, l_14, l_15, l_16, l_17, l_18, l_19, l_20, l_21, l_22, l_23, l_24, l_25, l_26, l_27, l_28, l_29, l_30, l_32, l_48, l_57, l_59, l_63, l_80, l_96, l_97, l_99, l_122, l_128, l_160, l_170, l_171, l_172, l_200, l_240, l_255, l_256, l_260, l_300, l_900, l_999, l_1023, l_1024, l_1296, l_2064, l_2400, l_3010, l_4800, l_6000, l_600, l_10000]
    refine ⟨by omega, fun _ => ?_⟩
    refine lpF (g2 n p) (fun o => (o = none → L_X9_fitsTwo_2 (fun M_8 => K 0 M_8) K k (nI (p + 1)) M) ∧ ∀ r, o = some r → QR M K c (some r)) (fun k' j => L_X9_fitsTwo_12 (nI p) _ K k' (nI j) M) (p + 1) 8 hp ⟨i0, i1⟩ (fun e k' => ?_) (fun q hq1 hq2 k' z0 z1 => ?_)
    · rw [L_X9_fitsTwo_12]; simp (disch := omega) only [forall_eq, gI, ix_z, m_10, m10_, m_80, m80_, m300_, m8_, m_8, nI_add, nI_A1, nI_E1, nI_L1, nI_1L, nI_1l, vp_nI, nI_LE, nI_LT, nI_EQ, nI_CL, nI_Z, l_2, l_3, l_4, l_5, l_6, l_7, l_8, l_9, l_10, l_11, l_12, l_13, l_14, l_15, l_16, l_17, l_18, l_19, l_20, l_21, l_22, l_23, l_24, l_25, l_26, l_27, l_28, l_29, l_30, l_32, l_48, l_57, l_59, l_63, l_80, l_96, l_97, l_99, l_122, l_128, l_160, l_170, l_171, l_172, l_200, l_240, l_255, l_256, l_260, l_300, l_900, l_999, l_1023, l_1024, l_1296, l_2064, l_2400, l_3010, l_4800, l_6000, l_600, l_10000]
      exact ⟨fun _ => e.1 rfl, by omega⟩
    · rw [L_X9_fitsTwo_12]; simp (disch := omega) only [forall_eq, gI, ix_z, m_10, m10_, m_80, m80_, m300_, m8_, m_8, nI_add, nI_A1, nI_E1, nI_L1, nI_1L, nI_1l, vp_nI, nI_LE, nI_LT, nI_EQ, nI_CL, nI_Z, l_2, l_3, l_4, l_5, l_6, l_7, l_8, l_9, l_10, l_11, l_12, l_13, l_14, l_15, l_16, l_17, l_18, l_19, l_20, l_21, l_22, l_23, l_24, l_25, l_26, l_27, l_28, l_29, l_30, l_32, l_48, l_57, l_59, l_63, l_80, l_96, l_97, l_99, l_122, l_128, l_160, l_170, l_171, l_172, l_200, l_240, l_255, l_256, l_260, l_300, l_900, l_999, l_1023, l_1024, l_1296, l_2064, l_2400, l_3010, l_4800, l_6000, l_600, l_10000]
      refine ⟨by omega, fun _ => X9_isLeft_sp hn hS hp ⟨fun e => z0 (ifP_f (fun z => by rw [b_of0 e] at z; exact absurd z.1 (by decide))), fun e1 => X9_isLeft_sp hn hS hq2 ⟨fun e => z0 (ifP_f (fun z => by rw [b_of0 e] at z; exact absurd z.2.1 (by decide))), fun e2 => X9_areStepsAlike_sp hn w hp hq2 (fun e4 => ⟨fun e => absurd e (by decide), fun _ => ?_⟩) (fun e4 => ⟨fun _ => z0 (ifP_f (fun z => e4 z.2.2)), fun e => absurd rfl e⟩)⟩⟩⟩
      exact note_R (k := 2) (p := none) (s := some q) hc hc18 (fun x e => by cases e) (fun x e => by cases e; omega) (fun _ _ _ => rfl) (frR_rf M) rfl hn (((z1 _ (ifP_t ⟨b_ofn e1, b_ofn e2, e4⟩)).2 _ rfl).2 _ rfl)
/-- a loop that ands -/
theorem and0 (b : Bool) : bI b &&& 0 = bI false := by cases b <;> decide
theorem and1 (b : Bool) : bI b &&& 1 = bI b := by cases b <;> decide
theorem X9_f3_sp {n : NN} {tp ts p : Nat} {b : Bool} {M : Mem} {X K : Int32 → Mem → Prop} (hn : rt M 1 = enc n) (w : WF n tp ts) (hp : p < 10) (h : X (bI (b && allB (fun s => decide (nT n (10 * s + p) = nG n (10 * s + p) ∧ nT n (10 * s + p) ≤ nH n p)) 8)) M) : ∃ k, L_X9_fitsThree_16 (nI p) X K k (bI b) 0 M := by
  have key : ∃ k, L_X9_fitsThree_16 (nI p) X K k (bI (b && allB (fun s => decide (nT n (10 * s + p) = nG n (10 * s + p) ∧ nT n (10 * s + p) ≤ nH n p)) 0)) (nI 0) M := by
    refine upT (fun k j => L_X9_fitsThree_16 (nI p) X K k (bI (b && allB (fun s => decide (nT n (10 * s + p) = nG n (10 * s + p) ∧ nT n (10 * s + p) ≤ nH n p)) j)) (nI j) M) 0 8 (by omega) (fun k => ?_) (fun j _ hj k ih => ?_)
    · rw [L_X9_fitsThree_16]
      exact ⟨fun _ => h, fun q => absurd (by rw [l_8, nI_LE (by omega) (by omega)]; exact Nat.le_refl _) q⟩
    · have b1 := wf_H w p
      have b3 := wf_T3 w (10 * j + p)
      have b4 := wf_G3 w (10 * j + p)
      rw [allB, ← Bool.and_assoc] at ih
      rw [L_X9_fitsThree_16]
      refine ⟨fun q => absurd q (by rw [l_8, nI_LE (by omega) (by omega)]; omega), fun _ => X9_taken_sp hn hj hp (X9_given_sp hn hj hp ?_)⟩
      rw [nI_EQ (by omega) (by omega), nI_A1]
      refine ⟨fun x x2 e => ?_, fun x => X9_taken_sp hn hj hp ⟨?_, ?_⟩⟩
      · rw [e, and0]
        rw [decide_eq_false (fun z => x z.1), Bool.and_false] at ih
        exact ih
      · rw [l_10, nI_add]; exact (vp_nI (by omega) (by omega)).mpr (by omega)
      · simp (disch := omega) only [gI, l_10, nI_add, nI_CL]
        rw [rt_1H hn hp, nI_LT (by omega) (by omega)]
        refine ⟨fun y x2 e => ?_, fun y x2 e => ?_⟩
        · rw [e, and0]
          rw [decide_eq_false (fun z => by omega), Bool.and_false] at ih
          exact ih
        · rw [e, and1]
          rw [decide_eq_true ⟨x, by omega⟩, Bool.and_true] at ih
          exact ih
  rw [allB, Bool.and_true] at key
  exact key
theorem X9_fitsThree_sp {n : NN} {tp ts c : Nat} {M : Mem} {K : Int32 → Mem → Prop} (hn : rt M 1 = enc n) (w : WF n tp ts) (hc : M.1 0 58 = nI c) (hc18 : c < 20) (h : QR M K c (rl3 n)) : f_X9_fitsThree M K := by
  unfold f_X9_fitsThree
  have hP := wf_P w
  refine lpF _ (QR M K c) (fun k j => L_X9_fitsThree_2 (fun M_8 => K 0 M_8) K k (nI j) M) 0 10 (Nat.zero_le _) h (fun e k => ?_) (fun p _ hp k z0 z1 => ?_)
  · rw [L_X9_fitsThree_2]; simp (disch := omega) only [forall_eq, gI, ix_z, m_10, m10_, m_80, m80_, m300_, m8_, m_8, nI_add, nI_A1, nI_E1, nI_L1, nI_1L, nI_1l, vp_nI, nI_LE, nI_LT, nI_EQ, nI_CL, nI_Z, l_2, l_3, l_4, l_5, l_6, l_7, l_8, l_9, l_10, l_11, l_12, l_13, l_14, l_15, l_16, l_17, l_18, l_19, l_20, l_21, l_22, l_23, l_24, l_25, l_26, l_27, l_28, l_29, l_30, l_32, l_48, l_57, l_59, l_63, l_80, l_96, l_97, l_99, l_122, l_128, l_160, l_170, l_171, l_172, l_200, l_240, l_255, l_256, l_260, l_300, l_900, l_999, l_1023, l_1024, l_1296, l_2064, l_2400, l_3010, l_4800, l_6000, l_600, l_10000]
    exact ⟨fun _ => e.1 rfl, by omega⟩
  · rw [L_X9_fitsThree_2]; simp (disch := omega) only [forall_eq, gI, ix_z, m_10, m10_, m_80, m80_, m300_, m8_, m_8, nI_add, nI_A1, nI_E1, nI_L1, nI_1L, nI_1l, vp_nI, nI_LE, nI_LT, nI_EQ, nI_CL, nI_Z, l_2, l_3, l_4, l_5, l_6, l_7, l_8, l_9, l_10, l_11, l_12, l_13, l_14, l_15, l_16, l_17, l_18, l_19, l_20, l_21, l_22, l_23, l_24, l_25, l_26, l_27, l_28, l_29, l_30, l_32, l_48, l_57, l_59, l_63, l_80, l_96, l_97, l_99, l_122, l_128, l_160, l_170, l_171, l_172, l_200, l_240, l_255, l_256, l_260, l_300, l_900, l_999, l_1023, l_1024, l_1296, l_2064, l_2400, l_3010, l_4800, l_6000, l_600, l_10000]
    refine ⟨by omega, fun _ => X9_isThere_sp hn hP hp (X9_f3_sp hn w hp ⟨fun e => z0 (ifP_f (fun z => ?_)), fun e => ?_⟩)⟩
    · have := b_of0 e
      rw [z.1, Bool.true_and, (allB_iff (c := fun s => decide (nT n (10 * s + p) = nG n (10 * s + p) ∧ nT n (10 * s + p) ≤ nH n p))).mpr (fun j hj => decide_eq_true (z.2 j hj))] at this
      cases this
    · have := b_ofn e
      rw [Bool.and_eq_true, allB_iff] at this
      exact note_R (k := 3) (p := some p) (s := none) hc hc18 (fun x e => by cases e; omega) (fun x e => by cases e) (fun _ _ _ => rfl) (frR_rf M) rfl hn ((z1 _ (ifP_t ⟨this.1, fun j hj => of_decide_eq_true (this.2 j hj)⟩)).2 _ rfl)
theorem X9_f4_sp {n : NN} {tp ts p : Nat} {b : Bool} {M : Mem} {X K : Int32 → Mem → Prop} (hn : rt M 1 = enc n) (w : WF n tp ts) (hp : p < 8) (h : X (bI (b && allB (fun s => decide (nT n (10 * p + s) = nG n (10 * p + s))) 10)) M) : ∃ k, L_X9_fitsFour_29 (nI p) X K k (bI b) 0 M := by
  have key : ∃ k, L_X9_fitsFour_29 (nI p) X K k (bI (b && allB (fun s => decide (nT n (10 * p + s) = nG n (10 * p + s))) 0)) (nI 0) M := by
    refine upT (fun k j => L_X9_fitsFour_29 (nI p) X K k (bI (b && allB (fun s => decide (nT n (10 * p + s) = nG n (10 * p + s))) j)) (nI j) M) 0 10 (by omega) (fun k => ?_) (fun j _ hj k ih => ?_)
    · rw [L_X9_fitsFour_29]
      exact ⟨fun _ => h, fun q => absurd (by rw [l_10, nI_LE (by omega) (by omega)]; exact Nat.le_refl _) q⟩
    · have b3 := wf_T3 w (10 * p + j)
      have b4 := wf_G3 w (10 * p + j)
      rw [allB, ← Bool.and_assoc] at ih
      rw [L_X9_fitsFour_29]
      refine ⟨fun q => absurd q (by rw [l_10, nI_LE (by omega) (by omega)]; omega), fun _ => X9_taken_sp hn hp hj (X9_given_sp hn hp hj ?_)⟩
      rw [nI_EQ (by omega) (by omega), nI_A1]
      refine ⟨fun x x2 e => ?_, fun x x2 e => ?_⟩
      · rw [e, and0]
        rw [decide_eq_false x, Bool.and_false] at ih
        exact ih
      · rw [e, and1]
        rw [decide_eq_true x, Bool.and_true] at ih
        exact ih
  rw [allB, Bool.and_true] at key
  exact key
theorem X9_fitsFour_sp {n : NN} {tp ts c : Nat} {M : Mem} {K : Int32 → Mem → Prop} (hn : rt M 1 = enc n) (w : WF n tp ts) (hc : M.1 0 58 = nI c) (hc18 : c < 20) (h : QR M K c (rl4 n)) : f_X9_fitsFour M K := by
  unfold f_X9_fitsFour
  have hS := wf_S w
  have q10 := pop_le (nS n)
  have eS : gI M 5 1 = nI (nS n) := rt_S hn
  refine lpF _ (QR M K c) (fun k j => L_X9_fitsFour_2 (fun M_8 => K 0 M_8) K k (nI j) M) 0 8 (Nat.zero_le _) h (fun e k => ?_) (fun p _ hp k z0 z1 => ?_)
  · rw [L_X9_fitsFour_2]; simp (disch := omega) only [forall_eq, gI, ix_z, m_10, m10_, m_80, m80_, m300_, m8_, m_8, nI_add, nI_A1, nI_E1, nI_L1, nI_1L, nI_1l, vp_nI, nI_LE, nI_LT, nI_EQ, nI_CL, nI_Z, l_2, l_3, l_4, l_5, l_6, l_7, l_8, l_9, l_10, l_11, l_12, l_13, l_14, l_15, l_16, l_17, l_18, l_19, l_20, l_21, l_22, l_23, l_24, l_25, l_26, l_27, l_28, l_29, l_30, l_32, l_48, l_57, l_59, l_63, l_80, l_96, l_97, l_99, l_122, l_128, l_160, l_170, l_171, l_172, l_200, l_240, l_255, l_256, l_260, l_300, l_900, l_999, l_1023, l_1024, l_1296, l_2064, l_2400, l_3010, l_4800, l_6000, l_600, l_10000]
    exact ⟨fun _ => e.1 rfl, by omega⟩
  · rw [L_X9_fitsFour_2, eS]; simp (disch := omega) only [nI_LE, l_8, nI_A1]
    refine ⟨by omega, fun _ => X9_many_sp (by omega) ?_⟩
    rw [nI_L1 (by omega)]
    refine ⟨fun x => h.1 (ff_none (fun j _ _ => ifP_f (fun z => by omega))), fun x => X9_isLeft_sp hn hS hp (X9_f4_sp hn w hp ⟨fun e => z0 (ifP_f (fun z => ?_)), fun e => ?_⟩)⟩
    · have := b_of0 e
      rw [z.2.1, Bool.true_and, (allB_iff (c := fun s => decide (nT n (10 * p + s) = nG n (10 * p + s)))).mpr (fun j hj => decide_eq_true (z.2.2 j hj))] at this
      cases this
    · have := b_ofn e
      rw [Bool.and_eq_true, allB_iff] at this
      exact note_R (k := 4) (p := none) (s := some p) hc hc18 (fun x e => by cases e) (fun x e => by cases e; omega) (fun _ _ _ => rfl) (frR_rf M) rfl hn ((z1 _ (ifP_t ⟨by omega, this.1, fun j hj => of_decide_eq_true (this.2 j hj)⟩)).2 _ rfl)
