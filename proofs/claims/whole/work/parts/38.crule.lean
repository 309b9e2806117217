/-! the class: the rules -/
theorem al_148 : alen 148 = 80 := rfl
theorem al_149 : alen 149 = 80 := rfl
theorem X1_hasPlace_nn {t tp ts p : Nat} {n : NN} {M : Mem} {K : Int32 → Mem → Prop} (hn : atC M t n tp ts) (hp : p < 10) (h : K (bI ((nP n).testBit p)) M) : f_X1_hasPlace t (nI p) M K := by
  apply X1_hasPlace_sp
  rw [isPl_bt hp, ac_P hn, bt_nI (Nat.lt_trans (wf_P hn.2.2.2) (by omega)) (by omega)]
  exact h
theorem X1_hasStep_nn {t tp ts p : Nat} {n : NN} {M : Mem} {K : Int32 → Mem → Prop} (hn : atC M t n tp ts) (hp : p < 8) (h : K (bI ((nS n).testBit p)) M) : f_X1_hasStep t (nI p) M K := by
  apply X1_hasStep_sp
  rw [isSt_bt hp, ac_S hn, bt_nI (Nat.lt_trans (wf_S hn.2.2.2) (by omega)) (by omega)]
  exact h
theorem ac_TA {M : Mem} {t tp ts : Nat} {n : NN} (h : atC M t n tp ts) : ∀ i, i < 80 → M.1 (t + 1) i = nI (n.1 i) ∧ n.1 i ≤ 3 := fun i hi => ⟨ac_T h hi, wf_T3 h.2.2.2 i⟩
theorem ac_GA {M : Mem} {t tp ts : Nat} {n : NN} (h : atC M t n tp ts) : ∀ i, i < 80 → M.1 (t + 2) i = nI (n.2.1 i) ∧ n.2.1 i ≤ 3 := fun i hi => ⟨ac_G h hi, wf_G3 h.2.2.2 i⟩
def outC (M M' : Mem) (c : Nat) (r : RR) : Prop := toR (nt M' 147) = enc r.2.2.2 ∧ M'.1 147 3 = M.1 147 3 ∧ M'.1 147 4 = M.1 147 4 ∧ M'.1 146 = upd (M.1 146) 4 (nI (c + 1)) ∧ M'.1 151 = upd (M.1 151) c (nI r.1) ∧ M'.1 152 = upd (M.1 152) c (oI r.2.1) ∧ M'.1 153 = upd (M.1 153) c (oI r.2.2.1) ∧ (∀ b, b < 146 ∨ 153 < b → M'.1 b = M.1 b) ∧ M'.2 = M.2
def QC (M : Mem) (K : Int32 → Mem → Prop) (c : Nat) (o : Option RR) : Prop := (o = none → K 0 M) ∧ ∀ r, o = some r → ∀ M', outC M M' c r → K 1 M'
theorem note_C {M0 M : Mem} {k c : Nat} {p s : Option Nat} {n : NN} {K : Int32 → Mem → Prop} (hc : M0.1 146 4 = nI c) (hc18 : c < 18) (hp : ∀ x, p = some x → x < 10) (hs : ∀ x, s = some x → x < 8) (hM : ∀ b, b ≠ 149 → b ≠ 150 → M.1 b = M0.1 b) (h2 : M.2 = M0.2) (hn : toR (nt M 147) = enc n) (h : ∀ M', outC M0 M' c (k, p, s, appN n p s) → K 1 M') : f_X5_note (nI k) (oI p) (oI s) M (fun r M' => (r &&& 1 = r) ∧ K r M') := by
  refine X5_note_sp (by rw [hM 146 (by decide) (by decide)]; exact hc) hc18 hp hs (fun M' a1 a2 a3 a4 a5 a6 a7 a8 a9 => ⟨by decide, h M' ⟨?_, ?_, ?_, ?_, ?_, ?_, ?_, fun b hb => ?_, ?_⟩⟩)
  · rw [a1, hn, enc_app hp hs]
  · rw [a2, hM 147 (by decide) (by decide)]
  · rw [a3, hM 147 (by decide) (by decide)]
  · rw [a4, hM 146 (by decide) (by decide)]
  · rw [a5, hM 151 (by decide) (by decide)]
  · rw [a6, hM 152 (by decide) (by decide)]
  · rw [a7, hM 153 (by decide) (by decide)]
  · rw [a8 b hb, hM b (by omega) (by omega)]
  · rw [a9, h2]
theorem ff_tp {α : Type} {c : Nat → Option α} {lo a b : Nat} (hab : a ≤ b) (hla : lo ≤ a) (h : ∀ j, a ≤ j → j < b → c j = none) : ff c lo (b - lo) = ff c lo (a - lo) := by
  rw [show b - lo = (a - lo) + (b - a) by omega]
  exact ff_out (fun j x y => h j (by omega) (by omega))
theorem rl1_tp {n : NN} {tp ts : Nat} (w : WF n tp ts) : rl1 n = ff (fun p => ff (g1 n p) (p + 1) (tp - (p + 1))) 0 tp := by
  unfold rl1
  have h1 : ∀ p, p < tp → ff (g1 n p) (p + 1) (10 - (p + 1)) = ff (g1 n p) (p + 1) (tp - (p + 1)) := fun p hp => ff_tp w.1 hp (fun j a b => ifP_f (fun z => by rw [wf_Ph w a] at z; exact absurd z.2.1 (by decide)))
  have h2 := ff_tp (c := fun p => ff (g1 n p) (p + 1) (10 - (p + 1))) w.1 (Nat.zero_le _) (fun j a b => ff_none (fun q _ _ => ifP_f (fun z => by rw [wf_Ph w a] at z; exact absurd z.1 (by decide))))
  rw [Nat.sub_zero, Nat.sub_zero] at h2
  rw [h2]
  exact ff_cong (fun j _ hj => h1 j (by omega))
theorem rl2_tp {n : NN} {tp ts : Nat} (w : WF n tp ts) : rl2 n = ff (fun p => ff (g2 n p) (p + 1) (ts - (p + 1))) 0 ts := by
  unfold rl2
  have h1 : ∀ p, p < ts → ff (g2 n p) (p + 1) (8 - (p + 1)) = ff (g2 n p) (p + 1) (ts - (p + 1)) := fun p hp => ff_tp w.2.1 hp (fun j a b => ifP_f (fun z => by rw [wf_Sh w a] at z; exact absurd z.2.1 (by decide)))
  have h2 := ff_tp (c := fun p => ff (g2 n p) (p + 1) (8 - (p + 1))) w.2.1 (Nat.zero_le _) (fun j a b => ff_none (fun q _ _ => ifP_f (fun z => by rw [wf_Sh w a] at z; exact absurd z.1 (by decide))))
  rw [Nat.sub_zero, Nat.sub_zero] at h2
  rw [h2]
  exact ff_cong (fun j _ hj => h1 j (by omega))
theorem rl3_tp {n : NN} {tp ts : Nat} (w : WF n tp ts) : rl3 n = ff (g3 n) 0 tp := ff_tp (lo := 0) w.1 (Nat.zero_le _) (fun j a b => ifP_f (fun z => by rw [wf_Ph w a] at z; exact absurd z.1 (by decide)))
theorem rl4_tp {n : NN} {tp ts : Nat} (w : WF n tp ts) : rl4 n = ff (g4 n) 0 ts := ff_tp (lo := 0) w.2.1 (Nat.zero_le _) (fun j a b => ifP_f (fun z => by rw [wf_Sh w a] at z; exact absurd z.2.1 (by decide)))
theorem rl5_tp {n : NN} {tp ts : Nat} (w : WF n tp ts) : rl5 n = ff (g5 n) 0 tp := ff_tp (lo := 0) w.1 (Nat.zero_le _) (fun j a b => ifP_f (fun z => by rw [wf_Ph w a] at z; exact absurd z.1 (by decide)))
theorem rl6_tp {n : NN} {tp ts : Nat} (w : WF n tp ts) : rl6 n = ff (g6 n) 0 ts := ff_tp (lo := 0) w.2.1 (Nat.zero_le _) (fun j a b => ifP_f (fun z => by rw [wf_Sh w a] at z; exact absurd z (by decide)))
theorem al_iff {c : Nat → Bool} {P : Nat → Prop} {m N : Nat} (hmN : m ≤ N) (hc : ∀ j, j < m → (c j = true ↔ P j)) (ho : ∀ j, m ≤ j → j < N → P j) : allB c m = true ↔ ∀ j, j < N → P j := by
  rw [allB_iff]
  constructor
  · intro h j hj
    rcases Nat.lt_or_ge j m with q | q
    · exact (hc j q).mp (h j q)
    · exact ho j q hj
  · intro h j hj; exact (hc j hj).mpr (h j (by omega))
theorem X5_dropLikePlace_sp {n : NN} {tp ts c : Nat} {M : Mem} {K : Int32 → Mem → Prop} (hn : atC M 147 n tp ts) (hc : M.1 146 4 = nI c) (hc18 : c < 18) (h : QC M K c (rl1 n)) : f_X5_dropLikePlace M K := by
  have w := hn.2.2.2
  have t10 := w.1
  rw [rl1_tp w] at h
  unfold f_X5_dropLikePlace
  refine lpF _ (QC M K c) (fun k j => L_X5_dropLikePlace_2 (fun M_8 => K 0 M_8) K k (nI j) M) 0 tp (Nat.zero_le _) h (fun e k => ?_) (fun p _ hp k i0 i1 => ?_)
  · rw [L_X5_dropLikePlace_2]; simp (disch := omega) only [hn.2.1, forall_eq, gI, ix_z, m_10, m10_, m_80, m80_, m300_, m8_, m_8, nI_add, nI_A1, nI_E1, nI_L1, nI_1L, nI_1l, vp_nI, nI_LE, nI_LT, nI_EQ, nI_CL, nI_Z, l_2, l_3, l_4, l_5, l_6, l_7, l_8, l_9, l_10, l_11, l_12, l_13, l_14, l_15, l_16, l_17, l_18, l_19, l_20, l_21, l_22, l_23, l_24, l_25, l_26, l_27, l_28, l_29, l_30, l_32, l_48, l_57, l_59, l_63, l_80, l_96, l_97, l_99, l_122, l_128, l_160, l_170, l_171, l_172, l_200, l_240, l_255, l_256, l_260, l_300, l_900, l_999, l_1023, l_1024, l_1296, l_2064, l_2400, l_3010, l_4800, l_6000, l_600, l_10000]
    exact ⟨fun _ => e.1 rfl, by omega⟩
  · rw [L_X5_dropLikePlace_2]; simp (disch := omega) only [hn.2.1, forall_eq, gI, ix_z, m_10, m10_, m_80, m80_, m300_, m8_, m_8, nI_add, nI_A1, nI_E1, nI_L1, nI_1L, nI_1l, vp_nI, nI_LE, nI_LT, nI_EQ, nI_CL, nI_Z, l_2, l_3, l_4, l_5, l_6, l_7, l_8, l_9, l_10, l_11, l_12, l_13, l_14, l_15, l_16, l_17, l_18, l_19, l_20, l_21, l_22, l_23, l_24, l_25, l_26, l_27, l_28, l_29, l_30, l_32, l_48, l_57, l_59, l_63, l_80, l_96, l_97, l_99, l_122, l_128, l_160, l_170, l_171, l_172, l_200, l_240, l_255, l_256, l_260, l_300, l_900, l_999, l_1023, l_1024, l_1296, l_2064, l_2400, l_3010, l_4800, l_6000, l_600, l_10000]
    refine ⟨by omega, fun _ => ?_⟩
    refine lpF (g1 n p) (fun o => (o = none → L_X5_dropLikePlace_2 (fun M_8 => K 0 M_8) K k (nI (p + 1)) M) ∧ ∀ r, o = some r → QC M K c (some r)) (fun k' j => L_X5_dropLikePlace_17 (nI p) _ K k' (nI j) M) (p + 1) tp hp ⟨i0, i1⟩ (fun e k' => ?_) (fun q hq1 hq2 k' z0 z1 => ?_)
    · rw [L_X5_dropLikePlace_17]; simp (disch := omega) only [hn.2.1, forall_eq, gI, ix_z, m_10, m10_, m_80, m80_, m300_, m8_, m_8, nI_add, nI_A1, nI_E1, nI_L1, nI_1L, nI_1l, vp_nI, nI_LE, nI_LT, nI_EQ, nI_CL, nI_Z, l_2, l_3, l_4, l_5, l_6, l_7, l_8, l_9, l_10, l_11, l_12, l_13, l_14, l_15, l_16, l_17, l_18, l_19, l_20, l_21, l_22, l_23, l_24, l_25, l_26, l_27, l_28, l_29, l_30, l_32, l_48, l_57, l_59, l_63, l_80, l_96, l_97, l_99, l_122, l_128, l_160, l_170, l_171, l_172, l_200, l_240, l_255, l_256, l_260, l_300, l_900, l_999, l_1023, l_1024, l_1296, l_2064, l_2400, l_3010, l_4800, l_6000, l_600, l_10000]
      exact ⟨fun _ => e.1 rfl, by omega⟩
    · have b1 := wf_H w p
      have b2 := wf_H w q
      rw [L_X5_dropLikePlace_17]; simp (disch := omega) only [hn.2.1, forall_eq, gI, ix_z, m_10, m10_, m_80, m80_, m300_, m8_, m_8, nI_add, nI_A1, nI_E1, nI_L1, nI_1L, nI_1l, vp_nI, nI_LE, nI_LT, nI_EQ, nI_CL, nI_Z, l_2, l_3, l_4, l_5, l_6, l_7, l_8, l_9, l_10, l_11, l_12, l_13, l_14, l_15, l_16, l_17, l_18, l_19, l_20, l_21, l_22, l_23, l_24, l_25, l_26, l_27, l_28, l_29, l_30, l_32, l_48, l_57, l_59, l_63, l_80, l_96, l_97, l_99, l_122, l_128, l_160, l_170, l_171, l_172, l_200, l_240, l_255, l_256, l_260, l_300, l_900, l_999, l_1023, l_1024, l_1296, l_2064, l_2400, l_3010, l_4800, l_6000, l_600, l_10000]
      refine ⟨by omega, fun _ => X1_hasPlace_nn hn (by omega) ⟨fun e => z0 (ifP_f (fun z => by rw [b_of0 e] at z; exact absurd z.1 (by decide))), fun e1 => X1_hasPlace_nn hn (by omega) ⟨fun e => z0 (ifP_f (fun z => by rw [b_of0 e] at z; exact absurd z.2.1 (by decide))), fun e2 => ⟨by omega, by omega, ?_⟩⟩⟩⟩
      rw [ac_H hn (by omega), ac_H hn (by omega), nI_LT (by omega) (by omega)]
      refine ⟨fun e => z0 (ifP_f (fun z => by omega)), fun e3 => ?_⟩
      refine X1_sameOfPlaces_sp hn.2.2.1 w.2.1 al_148 (ac_TA hn) (by omega) (by omega) ?_
      have t1 := al_iff (c := fun s => decide (n.1 (10 * s + p) = n.1 (10 * s + q))) (P := fun s => nT n (10 * s + p) = nT n (10 * s + q)) w.2.1 (fun j _ => decide_eq_true_iff) (fun j a b => by rw [wf_T0s w (by omega) a, wf_T0s w (by omega) a])
      have t2 := al_iff (c := fun s => decide (n.2.1 (10 * s + p) = n.2.1 (10 * s + q))) (P := fun s => nG n (10 * s + p) = nG n (10 * s + q)) w.2.1 (fun j _ => decide_eq_true_iff) (fun j a b => by rw [wf_G0s w (by omega) a, wf_G0s w (by omega) a])
      refine ⟨fun e => z0 (ifP_f (fun z => ?_)), fun e4 => ?_⟩
      · rw [t1.mpr (fun j hj => (z.2.2.2 j hj).1)] at e; exact absurd e (by decide)
      refine X1_sameOfPlaces_sp hn.2.2.1 w.2.1 al_149 (ac_GA hn) (by omega) (by omega) ?_
      refine ⟨fun e => z0 (ifP_f (fun z => ?_)), fun e5 => ?_⟩
      · rw [t2.mpr (fun j hj => (z.2.2.2 j hj).2)] at e; exact absurd e (by decide)
      refine note_C (k := 1) (p := some q) (s := none) hc hc18 (fun x e => by cases e; omega) (fun x e => by cases e) (fun _ _ _ => rfl) rfl hn.1 ((z1 _ (ifP_t ⟨b_ofn e1, b_ofn e2, by omega, fun j hj => ⟨t1.mp (b_ofn e4) j hj, t2.mp (b_ofn e5) j hj⟩⟩)).2 _ rfl |>.2 _ rfl)
theorem X5_dropLikeStep_sp {n : NN} {tp ts c : Nat} {M : Mem} {K : Int32 → Mem → Prop} (hn : atC M 147 n tp ts) (hc : M.1 146 4 = nI c) (hc18 : c < 18) (h : QC M K c (rl2 n)) : f_X5_dropLikeStep M K := by
  have w := hn.2.2.2
  have t10 := w.2.1
  rw [rl2_tp w] at h
  unfold f_X5_dropLikeStep
  refine lpF _ (QC M K c) (fun k j => L_X5_dropLikeStep_2 (fun M_8 => K 0 M_8) K k (nI j) M) 0 ts (Nat.zero_le _) h (fun e k => ?_) (fun p _ hp k i0 i1 => ?_)
  · rw [L_X5_dropLikeStep_2]; simp (disch := omega) only [hn.2.2.1, forall_eq, gI, ix_z, m_10, m10_, m_80, m80_, m300_, m8_, m_8, nI_add, nI_A1, nI_E1, nI_L1, nI_1L, nI_1l, vp_nI, nI_LE, nI_LT, nI_EQ, nI_CL, nI_Z, l_2, l_3, l_4, l_5, l_6, l_7, l_8, l_9, l_10, l_11, l_12, l_13, l_14, l_15, l_16, l_17, l_18, l_19, l_20, l_21, l_22, l_23, l_24, l_25, l_26, l_27, l_28, l_29, l_30, l_32, l_48, l_57, l_59, l_63, l_80, l_96, l_97, l_99, l_122, l_128, l_160, l_170, l_171, l_172, l_200, l_240, l_255, l_256, l_260, l_300, l_900, l_999, l_1023, l_1024, l_1296, l_2064, l_2400, l_3010, l_4800, l_6000, l_600, l_10000]
    exact ⟨fun _ => e.1 rfl, by omega⟩
  · rw [L_X5_dropLikeStep_2]; simp (disch := omega) only [hn.2.2.1, forall_eq, gI, ix_z, m_10, m10_, m_80, m80_, m300_, m8_, m_8, nI_add, nI_A1, nI_E1, nI_L1, nI_1L, nI_1l, vp_nI, nI_LE, nI_LT, nI_EQ, nI_CL, nI_Z, l_2, l_3, l_4, l_5, l_6, l_7, l_8, l_9, l_10, l_11, l_12, l_13, l_14, l_15, l_16, l_17, l_18, l_19, l_20, l_21, l_22, l_23, l_24, l_25, l_26, l_27, l_28, l_29, l_30, l_32, l_48, l_57, l_59, l_63, l_80, l_96, l_97, l_99, l_122, l_128, l_160, l_170, l_171, l_172, l_200, l_240, l_255, l_256, l_260, l_300, l_900, l_999, l_1023, l_1024, l_1296, l_2064, l_2400, l_3010, l_4800, l_6000, l_600, l_10000]
    refine ⟨by omega, fun _ => ?_⟩
    refine lpF (g2 n p) (fun o => (o = none → L_X5_dropLikeStep_2 (fun M_8 => K 0 M_8) K k (nI (p + 1)) M) ∧ ∀ r, o = some r → QC M K c (some r)) (fun k' j => L_X5_dropLikeStep_17 (nI p) _ K k' (nI j) M) (p + 1) ts hp ⟨i0, i1⟩ (fun e k' => ?_) (fun q hq1 hq2 k' z0 z1 => ?_)
    · rw [L_X5_dropLikeStep_17]; simp (disch := omega) only [hn.2.2.1, forall_eq, gI, ix_z, m_10, m10_, m_80, m80_, m300_, m8_, m_8, nI_add, nI_A1, nI_E1, nI_L1, nI_1L, nI_1l, vp_nI, nI_LE, nI_LT, nI_EQ, nI_CL, nI_Z, l_2, l_3, l_4, l_5, l_6, l_7, l_8, l_9, l_10, l_11, l_12, l_13, l_14, l_15, l_16, l_17, l_18, l_19, l_20, l_21, l_22, l_23, l_24, l_25, l_26, l_27, l_28, l_29, l_30, l_32, l_48, l_57, l_59, l_63, l_80, l_96, l_97, l_99, l_122, l_128, l_160, l_170, l_171, l_172, l_200, l_240, l_255, l_256, l_260, l_300, l_900, l_999, l_1023, l_1024, l_1296, l_2064, l_2400, l_3010, l_4800, l_6000, l_600, l_10000]
      exact ⟨fun _ => e.1 rfl, by omega⟩
    · rw [L_X5_dropLikeStep_17]; simp (disch := omega) only [hn.2.2.1, nI_LE, nI_A1]
      refine ⟨by omega, fun _ => X1_hasStep_nn hn (by omega) ⟨fun e => z0 (ifP_f (fun z => by rw [b_of0 e] at z; exact absurd z.1 (by decide))), fun e1 => X1_hasStep_nn hn (by omega) ⟨fun e => z0 (ifP_f (fun z => by rw [b_of0 e] at z; exact absurd z.2.1 (by decide))), fun e2 => ?_⟩⟩⟩
      refine X1_sameOfSteps_sp hn.2.1 w.1 al_148 (ac_TA hn) (by omega) (by omega) ?_
      have t1 := al_iff (c := fun s => decide (n.1 (10 * p + s) = n.1 (10 * q + s))) (P := fun s => nT n (10 * p + s) = nT n (10 * q + s)) w.1 (fun j _ => decide_eq_true_iff) (fun j a b => by rw [wf_T0p w (by omega) a, wf_T0p w (by omega) a])
      have t2 := al_iff (c := fun s => decide (n.2.1 (10 * p + s) = n.2.1 (10 * q + s))) (P := fun s => nG n (10 * p + s) = nG n (10 * q + s)) w.1 (fun j _ => decide_eq_true_iff) (fun j a b => by rw [wf_G0p w (by omega) a, wf_G0p w (by omega) a])
      refine ⟨fun e => z0 (ifP_f (fun z => ?_)), fun e4 => ?_⟩
      · rw [t1.mpr (fun j hj => (z.2.2 j hj).1)] at e; exact absurd e (by decide)
      refine X1_sameOfSteps_sp hn.2.1 w.1 al_149 (ac_GA hn) (by omega) (by omega) ?_
      refine ⟨fun e => z0 (ifP_f (fun z => ?_)), fun e5 => ?_⟩
      · rw [t2.mpr (fun j hj => (z.2.2 j hj).2)] at e; exact absurd e (by decide)
      refine note_C (k := 2) (p := none) (s := some q) hc hc18 (fun x e => by cases e) (fun x e => by cases e; omega) (fun _ _ _ => rfl) rfl hn.1 ((z1 _ (ifP_t ⟨b_ofn e1, b_ofn e2, fun j hj => ⟨t1.mp (b_ofn e4) j hj, t2.mp (b_ofn e5) j hj⟩⟩)).2 _ rfl |>.2 _ rfl)
