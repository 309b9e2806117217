/-! the reference: the graph -/
/-- what lies of the graph: markings, from, by, full -/
def rG (M : Mem) (o : Nat) (g : GS) : Prop := M.1 30 o = nI (gk g) ∧ M.1 33 o = bI (gl g) ∧ (∀ i, i < gk g → ∀ p, p < 10 → M.1 24 (10 * (300 * o + i) + p) = nI (gm g i p)) ∧ (∀ i, i < gk g → M.1 25 (300 * o + i) = gf g i ∧ M.1 26 (300 * o + i) = gy g i) ∧ (∃ d : Nat → Nat, ∀ i, i < gk g → d i ≤ i ∧ M.1 27 (300 * o + i) = nI (d i) ∧ (gf g i = -1 → d i = 0) ∧ ∀ j, j < i → gf g i = nI j → d i = d j + 1)
theorem X9_find17_sp {o i : Nat} {a x : Nat → Nat} {M : Mem} {X K : Int32 → Mem → Prop} (ho : o < 2) (hi : i < 300) (ha : ∀ p, p < 10 → M.1 24 (10 * (300 * o + i) + p) = nI (a p) ∧ a p ≤ 999) (hx : ∀ p, p < 10 → M.1 31 p = nI (x p) ∧ x p ≤ 999)
    (h1 : (∀ p, p < 10 → a p = x p) → X 1 M) (h0 : ¬ (∀ p, p < 10 → a p = x p) → X 0 M) : ∃ k, L_X9_find_17 (nI o) (nI i) X K k 1 0 M := by
  have key : ∀ d j, j + d = 10 → ((∀ p, p < j → a p = x p) → L_X9_find_17 (nI o) (nI i) X K (d + 1) 1 (nI j) M) := by
    intro d
    induction d with
    | zero =>
      intro j hj e
      rw [L_X9_find_17]; simp (disch := omega) only [forall_eq, gI, ix_z, m_10, m10_, m_80, m80_, m300_, m8_, m_8, nI_add, nI_A1, nI_E1, nI_L1, nI_1L, nI_1l, vp_nI, nI_LE, nI_LT, nI_EQ, nI_CL, nI_Z, l_2, l_3, l_4, l_5, l_6, l_7, l_8, l_9, l_10, l_11, l_12, l_13, l_14, l_15, l_16, l_17, l_18, l_19, l_20, l_21, l_22, l_23, l_24, l_25, l_26, l_27, l_28, l_29, l_30, l_32, l_48, l_57, l_59, l_63, l_80, l_96, l_97, l_99, l_122, l_128, l_160, l_170, l_171, l_172, l_200, l_240, l_255, l_256, l_260, l_300, l_900, l_999, l_1023, l_1024, l_1296, l_2064, l_2400, l_3010, l_4800, l_6000, l_600, l_10000]
      exact ⟨fun _ => h1 (fun t ht => e t (by omega)), by omega⟩
    | succ d ih =>
      intro j hj e
      have b3 := (ha j (by omega)).2
      have b4 := (hx j (by omega)).2
      rw [L_X9_find_17]; simp (disch := omega) only [forall_eq, gI, ix_z, m_10, m10_, m_80, m80_, m300_, m8_, m_8, nI_add, nI_A1, nI_E1, nI_L1, nI_1L, nI_1l, vp_nI, nI_LE, nI_LT, nI_EQ, nI_CL, nI_Z, l_2, l_3, l_4, l_5, l_6, l_7, l_8, l_9, l_10, l_11, l_12, l_13, l_14, l_15, l_16, l_17, l_18, l_19, l_20, l_21, l_22, l_23, l_24, l_25, l_26, l_27, l_28, l_29, l_30, l_32, l_48, l_57, l_59, l_63, l_80, l_96, l_97, l_99, l_122, l_128, l_160, l_170, l_171, l_172, l_200, l_240, l_255, l_256, l_260, l_300, l_900, l_999, l_1023, l_1024, l_1296, l_2064, l_2400, l_3010, l_4800, l_6000, l_600, l_10000, (ha j (by omega)).1, (hx j (by omega)).1]
      refine ⟨by omega, fun _ => ⟨fun x => absurd x (by decide), fun _ => ⟨by omega, by omega, fun y => ?_, fun y => ih (j + 1) (by omega) (fun p hp => ?_)⟩⟩⟩
      · have no : ¬ (∀ p, p < 10 → a p = x p) := fun z => y (z j (by omega))
        cases d with
        | zero =>
          rw [L_X9_find_17]; simp (disch := omega) only [forall_eq, gI, ix_z, m_10, m10_, m_80, m80_, m300_, m8_, m_8, nI_add, nI_A1, nI_E1, nI_L1, nI_1L, nI_1l, vp_nI, nI_LE, nI_LT, nI_EQ, nI_CL, nI_Z, l_2, l_3, l_4, l_5, l_6, l_7, l_8, l_9, l_10, l_11, l_12, l_13, l_14, l_15, l_16, l_17, l_18, l_19, l_20, l_21, l_22, l_23, l_24, l_25, l_26, l_27, l_28, l_29, l_30, l_32, l_48, l_57, l_59, l_63, l_80, l_96, l_97, l_99, l_122, l_128, l_160, l_170, l_171, l_172, l_200, l_240, l_255, l_256, l_260, l_300, l_900, l_999, l_1023, l_1024, l_1296, l_2064, l_2400, l_3010, l_4800, l_6000, l_600, l_10000]
          exact ⟨fun _ => h0 no, by omega⟩
        | succ d =>
          rw [L_X9_find_17]; simp (disch := omega) only [forall_eq, gI, ix_z, m_10, m10_, m_80, m80_, m300_, m8_, m_8, nI_add, nI_A1, nI_E1, nI_L1, nI_1L, nI_1l, vp_nI, nI_LE, nI_LT, nI_EQ, nI_CL, nI_Z, l_2, l_3, l_4, l_5, l_6, l_7, l_8, l_9, l_10, l_11, l_12, l_13, l_14, l_15, l_16, l_17, l_18, l_19, l_20, l_21, l_22, l_23, l_24, l_25, l_26, l_27, l_28, l_29, l_30, l_32, l_48, l_57, l_59, l_63, l_80, l_96, l_97, l_99, l_122, l_128, l_160, l_170, l_171, l_172, l_200, l_240, l_255, l_256, l_260, l_300, l_900, l_999, l_1023, l_1024, l_1296, l_2064, l_2400, l_3010, l_4800, l_6000, l_600, l_10000]
          exact ⟨by omega, fun _ => ⟨fun _ => h0 no, fun z => absurd trivial z⟩⟩
      · rcases Nat.lt_succ_iff_lt_or_eq.mp hp with v | rfl
        · exact e p v
        · exact y
  exact ⟨_, key 10 0 (by omega) (fun t ht => absurd ht (Nat.not_lt_zero t))⟩
theorem X9_find_sp {o : Nat} {g : GS} {x : Nat → Nat} {M : Mem} {K : Int32 → Mem → Prop} (ho : o < 2) (v : GV g) (hg : rG M o g) (hx : ∀ p, p < 10 → M.1 31 p = nI (x p) ∧ x p ≤ 999) (h : K (oI (look g x)) M) : f_X9_find (nI o) M K := by
  have k3 := v.1
  unfold f_X9_find
  refine lpF _ (fun r => K (oI r) M) (fun k j => L_X9_find_2 (nI o) (fun M_3 => K (-1) M_3) K k (nI j) M) 0 (gk g) (Nat.zero_le _) h (fun e k => ?_) (fun i _ hi k z0 z1 => ?_)
  · rw [L_X9_find_2]; simp (disch := omega) only [forall_eq, gI, ix_z, m_10, m10_, m_80, m80_, m300_, m8_, m_8, nI_add, nI_A1, nI_E1, nI_L1, nI_1L, nI_1l, vp_nI, nI_LE, nI_LT, nI_EQ, nI_CL, nI_Z, l_2, l_3, l_4, l_5, l_6, l_7, l_8, l_9, l_10, l_11, l_12, l_13, l_14, l_15, l_16, l_17, l_18, l_19, l_20, l_21, l_22, l_23, l_24, l_25, l_26, l_27, l_28, l_29, l_30, l_32, l_48, l_57, l_59, l_63, l_80, l_96, l_97, l_99, l_122, l_128, l_160, l_170, l_171, l_172, l_200, l_240, l_255, l_256, l_260, l_300, l_900, l_999, l_1023, l_1024, l_1296, l_2064, l_2400, l_3010, l_4800, l_6000, l_600, l_10000, hg.1]
    exact ⟨by omega, fun _ => e, by omega⟩
  · rw [L_X9_find_2]; simp (disch := omega) only [forall_eq, gI, ix_z, m_10, m10_, m_80, m80_, m300_, m8_, m_8, nI_add, nI_A1, nI_E1, nI_L1, nI_1L, nI_1l, vp_nI, nI_LE, nI_LT, nI_EQ, nI_CL, nI_Z, l_2, l_3, l_4, l_5, l_6, l_7, l_8, l_9, l_10, l_11, l_12, l_13, l_14, l_15, l_16, l_17, l_18, l_19, l_20, l_21, l_22, l_23, l_24, l_25, l_26, l_27, l_28, l_29, l_30, l_32, l_48, l_57, l_59, l_63, l_80, l_96, l_97, l_99, l_122, l_128, l_160, l_170, l_171, l_172, l_200, l_240, l_255, l_256, l_260, l_300, l_900, l_999, l_1023, l_1024, l_1296, l_2064, l_2400, l_3010, l_4800, l_6000, l_600, l_10000, hg.1]
    refine ⟨by omega, by omega, fun _ => ?_⟩
    exact X9_find17_sp ho (by omega) (fun p hp => ⟨hg.2.2.1 i hi p hp, v.2.2.2.1 i hi p hp⟩) hx (fun e => ⟨fun q => absurd q (by decide), fun _ => z1 i (ifP_t e)⟩) (fun e => ⟨fun _ => z0 (ifP_f e), fun q => absurd rfl q⟩)
/-- what a step of the graph at o may change -/
def frG (o : Nat) (M M' : Mem) : Prop := (∀ b, b ≠ 24 → b ≠ 25 → b ≠ 26 → b ≠ 27 → b ≠ 28 → b ≠ 29 → b ≠ 30 → b ≠ 31 → b ≠ 33 → M'.1 b = M.1 b) ∧ M'.2 = M.2 ∧ (∀ i, i < 3000 * o ∨ 3000 * o + 3000 ≤ i → M'.1 24 i = M.1 24 i) ∧ (∀ i, i < 300 * o ∨ 300 * o + 300 ≤ i → M'.1 25 i = M.1 25 i ∧ M'.1 26 i = M.1 26 i ∧ M'.1 27 i = M.1 27 i ∧ M'.1 28 i = M.1 28 i) ∧ (∀ i, i < 2400 * o ∨ 2400 * o + 2400 ≤ i → M'.1 29 i = M.1 29 i) ∧ (∀ i, i ≠ o → M'.1 30 i = M.1 30 i ∧ M'.1 33 i = M.1 33 i)
theorem frG_rf (o : Nat) (M : Mem) : frG o M M := ⟨fun _ _ _ _ _ _ _ _ _ _ => rfl, rfl, fun _ _ => rfl, fun _ _ => ⟨rfl, rfl, rfl, rfl⟩, fun _ _ => rfl, fun _ _ => ⟨rfl, rfl⟩⟩
theorem frG_tr {o : Nat} {M M1 M2 : Mem} (h : frG o M M1) (h' : frG o M1 M2) : frG o M M2 := by
  refine ⟨fun b h1 h2 h3 h4 h5 h6 h7 h8 h9 => ?_, ?_, fun i hi => ?_, fun i hi => ?_, fun i hi => ?_, fun i hi => ?_⟩
  · rw [h'.1 b h1 h2 h3 h4 h5 h6 h7 h8 h9, h.1 b h1 h2 h3 h4 h5 h6 h7 h8 h9]
  · rw [h'.2.1, h.2.1]
  · rw [h'.2.2.1 i hi, h.2.2.1 i hi]
  · have a := h.2.2.2.1 i hi
    have b := h'.2.2.2.1 i hi
    exact ⟨by rw [b.1, a.1], by rw [b.2.1, a.2.1], by rw [b.2.2.1, a.2.2.1], by rw [b.2.2.2, a.2.2.2]⟩
  · rw [h'.2.2.2.2.1 i hi, h.2.2.2.2.1 i hi]
  · have a := h.2.2.2.2.2 i hi
    have b := h'.2.2.2.2.2 i hi
    exact ⟨by rw [b.1, a.1], by rw [b.2, a.2]⟩
