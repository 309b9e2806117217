/-! the reference: rule 6, and all rules -/
theorem X9_f6a_sp {n : NN} {tp ts p q s : Nat} {M : Mem} {X K : Int32 → Mem → Prop} (hn : rt M 1 = enc n) (w : WF n tp ts) (hp : p < 10) (hq : q < 10) (hs : s < 8)
    (h1 : (∀ t, t < 8 → t = s ∨ nG n (10 * t + p) + nG n (10 * t + q) ≤ 3) → X 1 M) (h0 : ¬ (∀ t, t < 8 → t = s ∨ nG n (10 * t + p) + nG n (10 * t + q) ≤ 3) → X 0 M) : ∃ k, L_X9_fitsSix_104 (nI s) (nI p) (nI q) X K k 1 0 M := by
  have key : ∀ d j, j + d = 8 → ((∀ t, t < j → t = s ∨ nG n (10 * t + p) + nG n (10 * t + q) ≤ 3) → L_X9_fitsSix_104 (nI s) (nI p) (nI q) X K (d + 1) 1 (nI j) M) := by
    intro d
    induction d with
    | zero =>
      intro j hj e
      rw [L_X9_fitsSix_104]; simp (disch := omega) only [forall_eq, gI, ix_z, m_10, m10_, m_80, m80_, m300_, m8_, m_8, nI_add, nI_A1, nI_E1, nI_L1, nI_1L, nI_1l, vp_nI, nI_LE, nI_LT, nI_EQ, nI_CL, nI_Z, l_2, l_3, l_4, l_5, l_6, l_7, l_8, l_9, l_10, l_11, l_12, l_13, l_14, l_15, l_16, l_17, l_18, l_19, l_20, l_21, l_22, l_23, l_24, l_25, l_26, l_27, l_28, l_29, l_30, l_32, l_48, l_57, l_59, l_63, l_80, l_96, l_97, l_99, l_122, l_128, l_160, l_170, l_171, l_172, l_200, l_240, l_255, l_256, l_260, l_300, l_900, l_999, l_1023, l_1024, l_1296, l_2064, l_2400, l_3010, l_4800, l_6000, l_600, l_10000]
      exact ⟨fun _ => h1 (fun t ht => e t (by omega)), by omega⟩
    | succ d ih =>
      intro j hj e
      have b3 := wf_G3 w (10 * j + p)
      have b4 := wf_G3 w (10 * j + q)
      rw [L_X9_fitsSix_104]; simp (disch := omega) only [forall_eq, gI, ix_z, m_10, m10_, m_80, m80_, m300_, m8_, m_8, nI_add, nI_A1, nI_E1, nI_L1, nI_1L, nI_1l, vp_nI, nI_LE, nI_LT, nI_EQ, nI_CL, nI_Z, l_2, l_3, l_4, l_5, l_6, l_7, l_8, l_9, l_10, l_11, l_12, l_13, l_14, l_15, l_16, l_17, l_18, l_19, l_20, l_21, l_22, l_23, l_24, l_25, l_26, l_27, l_28, l_29, l_30, l_32, l_48, l_57, l_59, l_63, l_80, l_96, l_97, l_99, l_122, l_128, l_160, l_170, l_171, l_172, l_200, l_240, l_255, l_256, l_260, l_300, l_900, l_999, l_1023, l_1024, l_1296, l_2064, l_2400, l_3010, l_4800, l_6000, l_600, l_10000]
      refine ⟨by omega, fun _ => ⟨fun x => absurd x (by decide), fun _ => ⟨fun x => ih (j + 1) (by omega) (fun t ht => ?_), fun x => X9_given_sp hn (by omega) hp (X9_given_sp hn (by omega) hq ?_)⟩⟩⟩
      · rcases Nat.lt_succ_iff_lt_or_eq.mp ht with y | rfl
        · exact e t y
        · exact Or.inl x
      · rw [nI_add, nI_LT (by omega) (by omega)]
        refine ⟨fun y => ?_, fun y => ih (j + 1) (by omega) (fun t ht => ?_)⟩
        · have no : ¬ (∀ t, t < 8 → t = s ∨ nG n (10 * t + p) + nG n (10 * t + q) ≤ 3) := fun z => by
            rcases z j (by omega) with v | v
            · exact x v
            · omega
          cases d with
          | zero =>
            rw [L_X9_fitsSix_104]; simp (disch := omega) only [forall_eq, gI, ix_z, m_10, m10_, m_80, m80_, m300_, m8_, m_8, nI_add, nI_A1, nI_E1, nI_L1, nI_1L, nI_1l, vp_nI, nI_LE, nI_LT, nI_EQ, nI_CL, nI_Z, l_2, l_3, l_4, l_5, l_6, l_7, l_8, l_9, l_10, l_11, l_12, l_13, l_14, l_15, l_16, l_17, l_18, l_19, l_20, l_21, l_22, l_23, l_24, l_25, l_26, l_27, l_28, l_29, l_30, l_32, l_48, l_57, l_59, l_63, l_80, l_96, l_97, l_99, l_122, l_128, l_160, l_170, l_171, l_172, l_200, l_240, l_255, l_256, l_260, l_300, l_900, l_999, l_1023, l_1024, l_1296, l_2064, l_2400, l_3010, l_4800, l_6000, l_600, l_10000]
            exact ⟨fun _ => h0 no, by omega⟩
          | succ d =>
            rw [L_X9_fitsSix_104]; simp (disch := omega) only [forall_eq, gI, ix_z, m_10, m10_, m_80, m80_, m300_, m8_, m_8, nI_add, nI_A1, nI_E1, nI_L1, nI_1L, nI_1l, vp_nI, nI_LE, nI_LT, nI_EQ, nI_CL, nI_Z, l_2, l_3, l_4, l_5, l_6, l_7, l_8, l_9, l_10, l_11, l_12, l_13, l_14, l_15, l_16, l_17, l_18, l_19, l_20, l_21, l_22, l_23, l_24, l_25, l_26, l_27, l_28, l_29, l_30, l_32, l_48, l_57, l_59, l_63, l_80, l_96, l_97, l_99, l_122, l_128, l_160, l_170, l_171, l_172, l_200, l_240, l_255, l_256, l_260, l_300, l_900, l_999, l_1023, l_1024, l_1296, l_2064, l_2400, l_3010, l_4800, l_6000, l_600, l_10000]
            exact ⟨by omega, fun _ => ⟨fun _ => h0 no, fun z => absurd trivial z⟩⟩
        · rcases Nat.lt_succ_iff_lt_or_eq.mp ht with v | rfl
          · exact e t v
          · exact Or.inr (by omega)
  exact ⟨_, key 8 0 (by omega) (fun t ht => absurd ht (Nat.not_lt_zero t))⟩
theorem X9_f6z_sp {p : Nat} {a b : Int32} {M : Mem} {X K : Int32 → Mem → Prop} (h0 : X 0 M) : ∃ k, L_X9_fitsSix_104 (nI p) a b X K k 0 0 M := by
  refine ⟨1, ?_⟩
  rw [L_X9_fitsSix_104]
  exact ⟨fun e => absurd e (by decide), fun _ => ⟨fun _ => h0, fun z => absurd rfl z⟩⟩
def kG (f : Nat → Int32) (p q k : Nat) : Nat → Int32 := fun i => if 80 ≤ i ∧ (i - 80) % 10 = q ∧ (i - 80) / 10 < k then f i + f (80 + (10 * ((i - 80) / 10) + p)) else f i
theorem kG_0 (f : Nat → Int32) (p q : Nat) : kG f p q 0 = f := by funext i; unfold kG; rw [if_neg (by omega)]
theorem kG_s (f : Nat → Int32) {p q k : Nat} (hq : q < 10) : upd (kG f p q k) (80 + (10 * k + q)) (f (80 + (10 * k + q)) + f (80 + (10 * k + p))) = kG f p q (k + 1) := by
  funext i
  by_cases h : i = 80 + (10 * k + q)
  · subst h; rw [upd_at]; unfold kG; rw [if_pos ⟨by omega, by omega, by omega⟩, show 80 + (10 * k + q) - 80 = 10 * k + q by omega, (md hq).2]
  · rw [upd_no h]; unfold kG
    by_cases h2 : 80 ≤ i ∧ (i - 80) % 10 = q ∧ (i - 80) / 10 < k
    · rw [if_pos h2, if_pos ⟨h2.1, h2.2.1, by omega⟩]
    · rw [if_neg h2, if_neg (fun z => h2 ⟨z.1, z.2.1, by omega⟩)]
theorem X9_f6j_sp {p q : Nat} {v : Int32} {M : Mem} {X : Mem → Prop} {K : Int32 → Mem → Prop} (hp : p < 10) (hq : q < 10) (hpq : p ≠ q) (h : X (sA M 2 (kG (M.1 2) p q 8))) : ∃ n, L_X9_fitsSix_165 v (nI p) (nI q) X K n 0 M := by
  have e0 : M = sA M 2 (kG (M.1 2) p q 0) := by rw [kG_0, sA_id]
  have key : ∃ n, L_X9_fitsSix_165 v (nI p) (nI q) X K n (nI 0) (sA M 2 (kG (M.1 2) p q 0)) := by
    refine upT (fun n j => L_X9_fitsSix_165 v (nI p) (nI q) X K n (nI j) (sA M 2 (kG (M.1 2) p q j))) 0 8 (by omega) (fun n => ?_) (fun j _ hj n ih => ?_)
    · rw [L_X9_fitsSix_165]
      exact ⟨fun _ => h, fun q => absurd (by rw [l_8, nI_LE (by omega) (by omega)]; exact Nat.le_refl _) q⟩
    · rw [L_X9_fitsSix_165]
      refine ⟨fun q => absurd q (by rw [l_8, nI_LE (by omega) (by omega)]; omega), fun _ => X9_arc1_sp hj hq ⟨(vp_nI (by omega) (by omega)).mpr (by omega), X9_gv_sp hj hp (fun M1 e1 => ?_)⟩⟩
      rw [gI, nI_CL (by omega), wI_of_sA, sA_eq, show kG (M.1 2) p q j (80 + (10 * j + q)) = M.1 2 (80 + (10 * j + q)) by unfold kG; rw [if_neg (by omega)], show kG (M.1 2) p q j (80 + (10 * j + p)) = M.1 2 (80 + (10 * j + p)) by unfold kG; rw [if_neg (by omega)], kG_s _ hq] at e1
      rw [e1, nI_A1]
      exact ih
  rw [← e0] at key
  exact key
theorem kG_enc {n : NN} {M M1 : Mem} {tp ts p q : Nat} (hn : rt M 1 = enc n) (w : WF n tp ts) (hp : p < 10) (hq : q < 10) (e1 : M1 = wI (sA M 2 (kG (M.1 2) p q 8)) 3 (10 + q) (nI (nH n q) + nI (nH n p))) : rt M1 1 = enc (j6 n p q) := by
  have q1 : M1.1 1 = M.1 1 := by rw [e1, w1_ne (by decide), sA_ne (by decide)]
  have q2 : M1.1 2 = kG (M.1 2) p q 8 := by rw [e1, w1_ne (by decide), sA_eq]
  have q3 : M1.1 3 = upd (M.1 3) (10 + q) (nI (nH n q) + nI (nH n p)) := by rw [e1, w1_eq, sA_ne (by decide)]
  have q4 : M1.1 4 = M.1 4 := by rw [e1, w1_ne (by decide), sA_ne (by decide)]
  have q5 : M1.1 5 = M.1 5 := by rw [e1, w1_ne (by decide), sA_ne (by decide)]
  unfold rt
  rw [q1, q2, q3, q4, q5]
  refine r5 ?_ ?_ ?_ ?_ ?_
  · exact congrArg (·.1) hn
  · show tr 80 (fun i => kG (M.1 2) p q 8 (80 * 1 + i)) = fun i => nI (if i % 10 = q ∧ i < 80 then nG n i + nG n (10 * (i / 10) + p) else nG n i)
    funext i
    unfold tr
    by_cases hi : i < 80
    · rw [if_pos hi]
      show kG (M.1 2) p q 8 (80 + i) = _
      unfold kG
      have f1 : M.1 2 (80 + i) = nI (nG n i) := rt_G hn hi
      have f2 : M.1 2 (80 + (10 * (i / 10) + p)) = nI (nG n (10 * (i / 10) + p)) := rt_G hn (by omega)
      rw [show 80 + i - 80 = i by omega]
      by_cases z : i % 10 = q
      · rw [if_pos (c := i % 10 = q ∧ i < 80) ⟨z, hi⟩, ← nI_add, f1, if_pos ⟨by omega, z, by omega⟩, f2]
      · rw [if_neg (c := i % 10 = q ∧ i < 80) (fun y => z y.1), if_neg (fun y => z y.2.1), f1]
    · rw [if_neg hi, if_neg (fun y => hi y.2)]
      rcases Nat.eq_zero_or_pos (nG n i) with z | z
      · rw [z]; rfl
      · exact absurd (wf_Gn w (by omega)).1 hi
  · show tr 10 (fun i => upd (M.1 3) (10 + q) (nI (nH n q) + nI (nH n p)) (10 * 1 + i)) = fun i => nI (if i = q then nH n q + nH n p else nH n i)
    funext i
    have hH : tr 10 (fun i => M.1 3 (10 * 1 + i)) i = nI (nH n i) := congrFun (congrArg (·.2.2.1) hn) i
    by_cases z : i = q
    · subst z; rw [tr_in hq, if_pos rfl, ← nI_add]; exact upd_at
    · rw [if_neg z, ← hH]
      show (if i < 10 then upd (M.1 3) (10 + q) (nI (nH n q) + nI (nH n p)) (10 * 1 + i) else 0) = if i < 10 then M.1 3 (10 * 1 + i) else 0
      rw [upd_no (by omega)]
  · exact congrArg (·.2.2.2.1) hn
  · exact congrArg (·.2.2.2.2) hn
theorem kG_fr {M M1 : Mem} {p q : Nat} {v : Int32} (hp : p < 10) (hq : q < 10) (e1 : M1 = wI (sA M 2 (kG (M.1 2) p q 8)) 3 (10 + q) v) : frR M M1 := by
  refine ⟨fun i hi => ⟨by rw [e1, w1_ne (by decide), sA_ne (by decide)], ?_⟩, fun i hi => ?_, fun i _ => ⟨by rw [e1, w1_ne (by decide), sA_ne (by decide)], by rw [e1, w1_ne (by decide), sA_ne (by decide)]⟩⟩
  · rw [e1, w1_ne (by decide), sA_eq]; unfold kG; rw [if_neg (by omega)]
  · rw [e1, w1_eq, upd_no (by omega), sA_ne (by decide)]
theorem X9_fitsSix_sp {n : NN} {tp ts c : Nat} {M : Mem} {K : Int32 → Mem → Prop} (hn : rt M 1 = enc n) (w : WF n tp ts) (hc : M.1 0 58 = nI c) (hc18 : c < 20) (h : QR M K c (rl6 n)) : f_X9_fitsSix M K := by
  unfold f_X9_fitsSix
  have hS := wf_S w
  refine lpF _ (QR M K c) (fun k j => L_X9_fitsSix_2 (fun M_8 => K 0 M_8) K k (nI j) M) 0 8 (Nat.zero_le _) h (fun e k => ?_) (fun s _ hs k z0 z1 => ?_)
  · rw [L_X9_fitsSix_2]; simp (disch := omega) only [forall_eq, gI, ix_z, m_10, m10_, m_80, m80_, m300_, m8_, m_8, nI_add, nI_A1, nI_E1, nI_L1, nI_1L, nI_1l, vp_nI, nI_LE, nI_LT, nI_EQ, nI_CL, nI_Z, l_2, l_3, l_4, l_5, l_6, l_7, l_8, l_9, l_10, l_11, l_12, l_13, l_14, l_15, l_16, l_17, l_18, l_19, l_20, l_21, l_22, l_23, l_24, l_25, l_26, l_27, l_28, l_29, l_30, l_32, l_48, l_57, l_59, l_63, l_80, l_96, l_97, l_99, l_122, l_128, l_160, l_170, l_171, l_172, l_200, l_240, l_255, l_256, l_260, l_300, l_900, l_999, l_1023, l_1024, l_1296, l_2064, l_2400, l_3010, l_4800, l_6000, l_600, l_10000]
    exact ⟨fun _ => e.1 rfl, by omega⟩
  · rw [L_X9_fitsSix_2, l_8, nI_LE (by omega) (by omega), nI_A1]
    refine ⟨by omega, fun _ => X9_isLeft_sp hn hS hs ?_⟩
    unfold S_X9_fitsSix_13
    have zz : g6 n s = none → ∀ a b : Int32, (∃ k104 : Nat, L_X9_fitsSix_104 (nI s) a b (fun (v4_2) (M_12) => ((¬ v4_2 = 0 → (∃ k165 : Nat, L_X9_fitsSix_165 (nI s) a b (fun (M_16) => vp_in ((10) + b) 30 ∧ vp_in ((10) + a) 30 ∧ ∀ M_17 : Mem, M_17 = wI M_16 3 ((10) + b).toNatClampNeg ((gI M_16 3 ((10) + b)) + (gI M_16 3 ((10) + a))) → f_X9_notes (6) a (nI s) M_17 (fun (M_18) => K (1) M_18)) K k165 (0) M_12)) ∧ (v4_2 = 0 → L_X9_fitsSix_2 (fun M_8 => K 0 M_8) K k (nI (s + 1)) M_12))) K k104 0 (0) M) := fun e a b => X9_f6z_sp ⟨fun q => absurd rfl q, fun _ => z0 e⟩
    refine ⟨fun e => ?_, fun e1 => ?_⟩
    · refine X9_isLeft_sp hn hS hs ?_
      unfold S_X9_fitsSix_32
      refine ⟨fun _ => ?_, fun x => absurd e x⟩
      unfold S_X9_fitsSix_47
      exact ⟨fun _ => zz (ifP_f (fun z => by rw [b_of0 e] at z; exact absurd z (by decide))) _ _, fun x => absurd (show (-1 : Int32) < 0 by decide) x⟩
    have hg0 : g6 n s = h6 n s (one (row n.1 s) 10) (one (row n.2.1 s) 10) := ifP_t (b_ofn e1)
    refine X9_onePlace_sp (b := true) hn w hs (X9_isLeft_sp hn hS hs ?_)
    unfold S_X9_fitsSix_32
    refine ⟨fun x => absurd x e1, fun _ => X9_onePlace_sp (b := false) hn w hs ?_⟩
    simp only [Bool.false_eq_true, if_false, if_true]
    unfold S_X9_fitsSix_47
    cases os : one (row n.1 s) 10 with
    | none =>
      rw [os] at hg0
      exact ⟨fun _ => zz hg0 _ _, fun e => absurd (show (-1 : Int32) < 0 by decide) e⟩
    | some p =>
      have p10 := (one_some os).1
      cases ot : one (row n.2.1 s) 10 with
      | none =>
        rw [os, ot] at hg0
        exact ⟨fun _ => zz hg0 _ _, fun _ => ⟨fun _ => zz hg0 _ _, fun e => absurd (show (-1 : Int32) < 0 by decide) e⟩⟩
      | some q =>
        have q10 := (one_some ot).1
        rw [os, ot] at hg0
        have b1 := wf_H w p
        have b2 := wf_H w q
        show (nI p < 0 → _) ∧ (¬ nI p < 0 → ((nI q < 0 → _) ∧ (¬ nI q < 0 → ((nI p = nI q → _) ∧ (¬ nI p = nI q → _)))))
        rw [nI_l0 (by omega), nI_l0 (by omega), nI_EQ (by omega) (by omega)]
        refine ⟨fun e => e.elim, fun _ => ⟨fun e => e.elim, fun _ => ⟨fun e => zz ?_ _ _, fun hne => ?_⟩⟩⟩
        · rw [hg0]; exact ifP_f (fun z => z.1 e)
        refine X9_oneAt_sp (b := true) hn w p10 ?_
        show (¬ oI (one (col n.1 p) 8) = nI s → _) ∧ (oI (one (col n.1 p) 8) = nI s → _)
        have oe := oI_eq (o := one (col n.1 p) 8) (x := s) (one_lt (by omega)) (by omega)
        refine ⟨fun e => zz ?_ _ _, fun e3 => ?_⟩
        · rw [hg0]; exact ifP_f (fun z => e (oe.mpr z.2.1))
        have i1 : (10 : Int32) + nI p = nI (10 + p) := by rw [l_10]; exact nI_add 10 p
        have i2 : (10 : Int32) + nI q = nI (10 + q) := by rw [l_10]; exact nI_add 10 q
        have r1 : gI M 3 (nI (10 + p)) = nI (nH n p) := by rw [gI, nI_CL (by omega)]; exact rt_1H hn p10
        have r2 : gI M 3 (nI (10 + q)) = nI (nH n q) := by rw [gI, nI_CL (by omega)]; exact rt_1H hn q10
        show vp_in ((10 : Int32) + nI p) 30 ∧ vp_in ((10 : Int32) + nI q) 30 ∧ (((999 : Int32) < gI M 3 ((10 : Int32) + nI p) + gI M 3 ((10 : Int32) + nI q) → _) ∧ (¬ (999 : Int32) < gI M 3 ((10 : Int32) + nI p) + gI M 3 ((10 : Int32) + nI q) → _))
        rw [i1, i2, r1, r2, nI_add, l_999, nI_LT (by omega) (by omega)]
        refine ⟨(vp_nI (by omega) (by omega)).mpr (by omega), (vp_nI (by omega) (by omega)).mpr (by omega), fun e => zz ?_ _ _, fun e5 => ?_⟩
        · rw [hg0]; exact ifP_f (fun z => by have := z.2.2.1; omega)
        refine X9_f6a_sp hn w p10 q10 hs (fun e4 => ⟨fun _ => ?_, fun e => absurd e (by decide)⟩) (fun e4 => ⟨fun e => absurd rfl e, fun _ => z0 ?_⟩)
        · have hg : g6 n s = some (6, some p, some s, dS (dP (j6 n p q) p) s) := by rw [hg0]; exact ifP_t ⟨hne, oe.mp e3, by omega, e4⟩
          refine X9_f6j_sp p10 q10 hne ?_
          show vp_in ((10 : Int32) + nI q) 30 ∧ vp_in ((10 : Int32) + nI p) 30 ∧ _
          rw [i1, i2]
          refine ⟨(vp_nI (by omega) (by omega)).mpr (by omega), (vp_nI (by omega) (by omega)).mpr (by omega), fun M1 e1 => ?_⟩
          have e1' : M1 = wI (sA M 2 (kG (M.1 2) p q 8)) 3 (10 + q) (nI (nH n q) + nI (nH n p)) := by
            rw [e1, show (10 : Int32) + oI (some p) = nI (10 + p) from i1, show (10 : Int32) + oI (some q) = nI (10 + q) from i2, nI_CL (by omega), ← r1, ← r2]; rfl
          exact note_R (k := 6) (p := some p) (s := some s) hc hc18 (fun x e => by cases e; omega) (fun x e => by cases e; omega) (fun b h1 h2 => by rw [e1', w1_ne h2, sA_ne h1]) (kG_fr p10 q10 e1') (by rw [e1', w1_2, sA_2]) (kG_enc hn w p10 q10 e1') ((z1 _ hg).2 _ rfl)
        · rw [hg0]; exact ifP_f (fun z => e4 z.2.2.2)
theorem X9_fits_sp {n : NN} {tp ts c k : Nat} {M : Mem} {X K : Mem → Prop} (hn : rt M 1 = enc n) (w : WF n tp ts) (hc : M.1 0 58 = nI c) (hc18 : c < 20) (hz : rl n = none → L_X9_layReduced_13 X K k 0 M) (h1 : ∀ r, rl n = some r → ∀ M', outR M M' c r → L_X9_layReduced_13 X K k 1 M') : L_X9_layReduced_13 X K (k + 1) 1 M := by
  unfold rl at hz h1
  rw [L_X9_layReduced_13]
  refine ⟨fun e => absurd e (by decide), fun _ => ?_⟩
  refine X9_fitsOne_sp hn w hc hc18 ⟨fun e => ?_, fun r e M' o => ?_⟩
  rotate_left
  · rw [e] at h1; exact ⟨fun _ => h1 _ rfl M' o, fun e => absurd e (by decide)⟩
  rw [e] at h1 hz
  refine ⟨fun e => absurd rfl e, fun _ => ?_⟩
  refine X9_fitsTwo_sp hn w hc hc18 ⟨fun e => ?_, fun r e M' o => ?_⟩
  rotate_left
  · rw [e] at h1; exact ⟨fun _ => h1 _ rfl M' o, fun e => absurd e (by decide)⟩
  rw [e] at h1 hz
  refine ⟨fun e => absurd rfl e, fun _ => ?_⟩
  refine X9_fitsThree_sp hn w hc hc18 ⟨fun e => ?_, fun r e M' o => ?_⟩
  rotate_left
  · rw [e] at h1; exact ⟨fun _ => h1 _ rfl M' o, fun e => absurd e (by decide)⟩
  rw [e] at h1 hz
  refine ⟨fun e => absurd rfl e, fun _ => ?_⟩
  refine X9_fitsFour_sp hn w hc hc18 ⟨fun e => ?_, fun r e M' o => ?_⟩
  rotate_left
  · rw [e] at h1; exact ⟨fun _ => h1 _ rfl M' o, fun e => absurd e (by decide)⟩
  rw [e] at h1 hz
  refine ⟨fun e => absurd rfl e, fun _ => ?_⟩
  refine X9_fitsFive_sp hn w hc hc18 ⟨fun e => ?_, fun r e M' o => ?_⟩
  rotate_left
  · rw [e] at h1; exact ⟨fun _ => h1 _ rfl M' o, fun e => absurd e (by decide)⟩
  rw [e] at h1 hz
  refine ⟨fun e => absurd rfl e, fun _ => ?_⟩
  refine X9_fitsSix_sp hn w hc hc18 ⟨fun e => ?_, fun r e M' o => ?_⟩
  rotate_left
  · rw [e] at h1; exact ⟨fun e => absurd e (by decide), fun _ => h1 _ rfl M' o⟩
  rw [e] at hz
  exact ⟨fun _ => hz rfl, fun e => absurd rfl e⟩
theorem upd_id {f : Nat → Int32} {k : Nat} {v : Int32} (h : f k = v) : f = upd f k v := by
  funext i
  by_cases q : i = k
  · subst q; rw [upd_at, h]
  · rw [upd_no q]
theorem X9_lrl_sp {tp ts : Nat} {X : Mem → Prop} {K : Mem → Prop} : ∀ {d c : Nat} {n : NN} {M : Mem}, c + d = 18 → mu n ≤ d → rt M 1 = enc n → WF n tp ts → M.1 0 58 = nI c → (∀ M', rt M' 1 = enc (redN d n) → M'.1 0 = upd (M.1 0) 58 (nI (c + (redL d n).length)) → rlsAt (M'.1 37) (M'.1 38) (M'.1 39) c (redL d n) → (∀ i, i < c → M'.1 37 i = M.1 37 i ∧ M'.1 38 i = M.1 38 i ∧ M'.1 39 i = M.1 39 i) → frR M M' → (∀ b, 5 < b → b ≠ 37 → b ≠ 38 → b ≠ 39 → M'.1 b = M.1 b) → M'.2 = M.2 → X M') → L_X9_layReduced_13 X K (d + 2) 1 M := by
  intro d
  induction d with
  | zero =>
    intro c n M hcd hmu hn w hc h
    refine X9_fits_sp hn w hc (by omega) (fun e => ?_) (fun r e => ?_)
    · rw [L_X9_layReduced_13]
      exact ⟨fun _ => h M hn (upd_id hc) (fun i hi => absurd hi (Nat.not_lt_zero i)) (fun _ _ => ⟨rfl, rfl, rfl⟩) (frR_rf M) (fun _ _ _ _ _ => rfl) rfl, fun e => absurd rfl e⟩
    · rw [rl_0 w (by omega)] at e; cases e
  | succ d ih =>
    intro c n M hcd hmu hn w hc h
    rw [redN, redL] at h
    refine X9_fits_sp hn w hc (by omega) (fun e => ?_) (fun r e M' o => ?_)
    · rw [e] at h
      rw [L_X9_layReduced_13]
      exact ⟨fun _ => h M hn (upd_id hc) (fun i hi => absurd hi (Nat.not_lt_zero i)) (fun _ _ => ⟨rfl, rfl, rfl⟩) (frR_rf M) (fun _ _ _ _ _ => rfl) rfl, fun e => absurd rfl e⟩
    · rw [e] at h
      have ok := rl_ok w e
      obtain ⟨o1, o2, o3, o4, o5, o6, o7, o8⟩ := o
      refine ih (c := c + 1) (n := r.2.2.2) (by omega) (by have := ok.2.1; omega) o1 ok.1 (by rw [o3, upd_at]) (fun M'' a1 a2 a3 a4 a5 a6 a7 => ?_)
      have a4c := a4 c (by omega)
      refine h M'' a1 ?_ (rls_cons a3 ?_ ?_ ?_) (fun i hi => ?_) (frR_tr o2 a5) (fun b h1 h2 h3 h4 => by rw [a6 b h1 h2 h3 h4, o7 b h1 h2 h3 h4]) (by rw [a7, o8])
      · rw [a2, o3]
        show _ = upd (M.1 0) 58 (nI (c + ((redL d r.2.2.2).length + 1)))
        rw [show c + ((redL d r.2.2.2).length + 1) = c + 1 + (redL d r.2.2.2).length by omega]
        funext k
        by_cases q : k = 58
        · subst q; rw [upd_at, upd_at]
        · rw [upd_no q, upd_no q, upd_no q]
      · rw [a4c.1, o4, upd_at]
      · rw [a4c.2.1, o5, upd_at]
      · rw [a4c.2.2, o6, upd_at]
      · have := a4 i (by omega)
        rw [this.1, this.2.1, this.2.2, o4, o5, o6, upd_no (by omega), upd_no (by omega), upd_no (by omega)]
        exact ⟨rfl, rfl, rfl⟩
