theorem X9_c62_sp {a : Nat} {v1 v2 v3 : Int32} {M : Mem} {X : Mem → Prop} {K : Int32 → Mem → Prop} (ha : a < 600) (h : X (sA M 24 (cpF (M.1 31) (M.1 24) 0 (10 * a) 10))) : ∃ n, L_X9_comes_62 v1 v2 v3 (nI a) X K n 0 M := by
  have e0 : M = sA M 24 (cpF (M.1 31) (M.1 24) 0 (10 * a) 0) := by rw [cpF_0, sA_id]
  have key : ∃ n, L_X9_comes_62 v1 v2 v3 (nI a) X K n (nI 0) (sA M 24 (cpF (M.1 31) (M.1 24) 0 (10 * a) 0)) := by
    refine upT (fun n j => L_X9_comes_62 v1 v2 v3 (nI a) X K n (nI j) (sA M 24 (cpF (M.1 31) (M.1 24) 0 (10 * a) j))) 0 10 (by omega) (fun n => ?_) (fun j _ hj n ih => ?_)
    · rw [L_X9_comes_62]
      exact ⟨fun _ => h, fun q => absurd (by rw [l_10, nI_LE (by omega) (by omega)]; exact Nat.le_refl _) q⟩
    · rw [L_X9_comes_62]; simp (disch := omega) only [forall_eq, gI, ix_z, m_10, m10_, m_80, m80_, m300_, m8_, m_8, nI_add, nI_A1, nI_E1, nI_L1, nI_1L, nI_1l, vp_nI, nI_LE, nI_LT, nI_EQ, nI_CL, nI_Z, l_2, l_3, l_4, l_5, l_6, l_7, l_8, l_9, l_10, l_11, l_12, l_13, l_14, l_15, l_16, l_17, l_18, l_19, l_20, l_21, l_22, l_23, l_24, l_25, l_26, l_27, l_28, l_29, l_30, l_32, l_48, l_57, l_59, l_63, l_80, l_96, l_97, l_99, l_122, l_128, l_160, l_170, l_171, l_172, l_200, l_240, l_255, l_256, l_260, l_300, l_900, l_999, l_1023, l_1024, l_1296, l_2064, l_2400, l_3010, l_4800, l_6000, l_600, l_10000]
      refine ⟨by omega, fun _ => ⟨by omega, by omega, ?_⟩⟩
      have s1 := cpF_s (M.1 31) (M.1 24) 0 (10 * a) j
      rw [Nat.zero_add] at s1
      rw [sA_ne (by decide), wI_of_sA, s1]
      exact ih
  rw [← e0] at key
  exact key
theorem bI_0' {b : Bool} : (bI b = 0) = (b = false) := propext bI_0
theorem X9_comes_sp {o : Nat} {g : GS} {x : Nat → Nat} {f y : Int32} {M : Mem} {K : Int32 → Mem → Prop} (ho : o < 2) (v : GV g) (hg : rG M o g) (hx : ∀ p, p < 10 → M.1 31 p = nI (x p) ∧ x p ≤ 999) (hf : (gk g = 0 ∧ f = -1) ∨ ∃ j, j < gk g ∧ f = nI j)
    (h : ∀ M', rG M' o (come g x f y).1 → frG o M M' → M'.1 28 = M.1 28 → M'.1 29 = M.1 29 → K (come g x f y).2 M') : f_X9_comes (nI o) f y M K := by
  have k3 := v.1
  unfold f_X9_comes
  refine X9_find_sp ho v hg hx ?_
  unfold come at h
  cases e : look g x with
  | some i =>
    rw [e] at h
    have hi := (look_s e).1
    show (nI i < 0 → _) ∧ (¬ nI i < 0 → K (nI i) M)
    rw [nI_l0 (by omega)]
    exact ⟨fun q => q.elim, fun _ => h M hg (frG_rf o M) rfl rfl⟩
  | none =>
    rw [e] at h
    dsimp only at h
    refine ⟨fun _ => ⟨(vp_nI (by omega) (by omega)).mpr ho, ?_⟩, fun q => absurd (show (-1 : Int32) < 0 by decide) q⟩
    have g30 : gI M 30 (nI o) = nI (gk g) := by rw [gI, nI_CL (by omega)]; exact hg.1
    have g33 : gI M 33 (nI o) = bI (gl g) := by rw [gI, nI_CL (by omega)]; exact hg.2.1
    have full : gk g = 300 → vp_in (nI o) 2 ∧ ∀ M11 : Mem, M11 = wI M 33 (nI o).toNatClampNeg ((1 : Int32) &&& 1) → K (-1) M11 := fun q => by
      rw [if_pos q] at h
      refine ⟨(vp_nI (by omega) (by omega)).mpr ho, fun M11 e11 => ?_⟩
      rw [nI_CL (by omega), show (1 : Int32) &&& 1 = 1 by decide] at e11
      have ne : ∀ b, b ≠ 33 → M11.1 b = M.1 b := fun b hb => by rw [e11, w1_ne hb]
      have r33 : ∀ i, i ≠ o → M11.1 33 i = M.1 33 i := fun i hi => by rw [e11, w1_no hi]
      refine h M11 ⟨?_, ?_, ?_, ?_, ?_⟩ ⟨fun b _ _ _ _ _ _ _ _ h9 => ne b h9, by rw [e11, w1_2], fun i _ => by rw [ne 24 (by decide)], fun i _ => by rw [ne 25 (by decide), ne 26 (by decide), ne 27 (by decide), ne 28 (by decide)]; exact ⟨rfl, rfl, rfl, rfl⟩, fun i _ => by rw [ne 29 (by decide)], fun i hi => ⟨by rw [ne 30 (by decide)], r33 i hi⟩⟩ (ne 28 (by decide)) (ne 29 (by decide))
      · rw [ne 30 (by decide)]; exact hg.1
      · rw [e11, w1_at]; rfl
      · rw [ne 24 (by decide)]; exact hg.2.2.1
      · rw [ne 25 (by decide), ne 26 (by decide)]; exact hg.2.2.2.1
      · rw [ne 27 (by decide)]; exact hg.2.2.2.2
    unfold S_X9_comes_24
    rw [g30, g33, l_300, nI_EQ (by omega) (by omega)]
    refine ⟨full, fun q => ⟨(vp_nI (by omega) (by omega)).mpr ho, fun _ x5 e5 => ?_, fun z => full (v.2.1 (b_ofn z))⟩⟩
    rw [if_neg q] at h
    rw [m300_, nI_add] at e5
    subst e5
    refine X9_c62_sp (by omega) ?_
    refine ⟨(vp_nI (by omega) (by omega)).mpr (by omega), fun M5 e5 M6 e6 => ?_⟩
    rw [nI_CL (by omega)] at e5 e6
    obtain ⟨d, hd⟩ := hg.2.2.2.2
    -- the depth
    have fin : ∀ dd : Nat, dd ≤ gk g → (f = -1 → dd = 0) → (∀ j, j < gk g → f = nI j → dd = d j + 1) → ∀ w : Int32, w = nI dd → vp_in (nI (300 * o + gk g)) 600 ∧ ∀ M_8 : Mem, M_8 = wI M6 27 (nI (300 * o + gk g)).toNatClampNeg w → vp_in (nI o) 2 ∧ ∀ M_9 : Mem, M_9 = wI M_8 30 (nI o).toNatClampNeg ((gI M_8 30 (nI o)) + (1)) → K ((gI M_9 30 (nI o)) - (1)) M_9 := by
      intro dd hdk hd0 hdj w ew
      refine ⟨(vp_nI (by omega) (by omega)).mpr (by omega), fun M8 e8 => ⟨(vp_nI (by omega) (by omega)).mpr ho, fun M9 e9 => ?_⟩⟩
      rw [nI_CL (by omega), ew] at e8
      have c30 : M8.1 30 = M.1 30 := by rw [e8, w1_ne (by decide), e6, w1_ne (by decide), e5, w1_ne (by decide), sA_ne (by decide)]
      rw [nI_CL (by omega), gI, nI_CL (by omega), c30, hg.1, nI_A1] at e9
      have q30 : M9.1 30 = upd (M.1 30) o (nI (gk g + 1)) := by rw [e9, w1_eq, c30]
      have q24 : M9.1 24 = cpF (M.1 31) (M.1 24) 0 (10 * (300 * o + gk g)) 10 := by rw [e9, w1_ne (by decide), e8, w1_ne (by decide), e6, w1_ne (by decide), e5, w1_ne (by decide), sA_eq]
      have q25 : M9.1 25 = upd (M.1 25) (300 * o + gk g) f := by rw [e9, w1_ne (by decide), e8, w1_ne (by decide), e6, w1_ne (by decide), e5, w1_eq, sA_ne (by decide)]
      have q26 : M9.1 26 = upd (M.1 26) (300 * o + gk g) y := by rw [e9, w1_ne (by decide), e8, w1_ne (by decide), e6, w1_eq, e5, w1_ne (by decide), sA_ne (by decide)]
      have q27 : M9.1 27 = upd (M.1 27) (300 * o + gk g) (nI dd) := by rw [e9, w1_ne (by decide), e8, w1_eq, e6, w1_ne (by decide), e5, w1_ne (by decide), sA_ne (by decide)]
      have qn : ∀ b, b ≠ 24 → b ≠ 25 → b ≠ 26 → b ≠ 27 → b ≠ 30 → M9.1 b = M.1 b := fun b h1 h2 h3 h4 h5 => by rw [e9, w1_ne h5, e8, w1_ne h4, e6, w1_ne h3, e5, w1_ne h2, sA_ne h1]
      have r9 : gI M9 30 (nI o) - 1 = nI (gk g) := by
        rw [gI, nI_CL (by omega), q30, upd_at, ← nI_A1]
        exact Int32.add_sub_cancel _ _
      rw [r9]
      refine h M9 ⟨?_, ?_, fun i hi p hp => ?_, fun i hi => ?_, ⟨fun i => if i = gk g then dd else d i, fun i hi => ?_⟩⟩ ⟨fun b h1 h2 h3 h4 _ _ h7 _ _ => qn b h1 h2 h3 h4 h7, by rw [e9, w1_2, e8, w1_2, e6, w1_2, e5, w1_2, sA_2], fun i hi => ?_, fun i hi => ⟨?_, ?_, ?_, ?_⟩, fun i _ => ?_, fun i hi => ⟨?_, ?_⟩⟩ (qn 28 (by decide) (by decide) (by decide) (by decide) (by decide)) (qn 29 (by decide) (by decide) (by decide) (by decide) (by decide))
      · rw [q30, upd_at]
      · rw [qn 33 (by decide) (by decide) (by decide) (by decide) (by decide)]; exact hg.2.1
      · change i < gk g + 1 at hi
        show _ = nI ((if i = gk g then x else gm g i) p)
        rw [q24]
        by_cases z : i = gk g
        · subst z
          rw [cpF_in (by omega) (by omega), if_pos rfl, show 0 + (10 * (300 * o + gk g) + p - 10 * (300 * o + gk g)) = p by omega]
          exact (hx p hp).1
        · rw [cpF_out (by omega), if_neg z]
          exact hg.2.2.1 i (by omega) p hp
      · change i < gk g + 1 at hi
        show _ = upd (gf g) (gk g) f i ∧ _ = upd (gy g) (gk g) y i
        rw [q25, q26]
        by_cases z : i = gk g
        · subst z; rw [upd_at, upd_at, upd_at, upd_at]; exact ⟨rfl, rfl⟩
        · rw [upd_no (f := M.1 25) (by omega), upd_no (f := M.1 26) (by omega), upd_no z, upd_no z]; exact hg.2.2.2.1 i (by omega)
      · change i < gk g + 1 at hi
        show (if i = gk g then dd else d i) ≤ i ∧ _ = nI (if i = gk g then dd else d i) ∧ (upd (gf g) (gk g) f i = -1 → (if i = gk g then dd else d i) = 0) ∧ ∀ j, j < i → upd (gf g) (gk g) f i = nI j → (if i = gk g then dd else d i) = (if j = gk g then dd else d j) + 1
        rw [q27]
        by_cases z : i = gk g
        · subst z
          rw [if_pos rfl, upd_at, upd_at]
          exact ⟨hdk, rfl, hd0, fun j hj ej => by rw [if_neg (by omega)]; exact hdj j hj ej⟩
        · rw [if_neg z, upd_no (by omega), upd_no z]
          have := hd i (by omega)
          exact ⟨this.1, this.2.1, this.2.2.1, fun j hj ej => by rw [if_neg (by omega)]; exact this.2.2.2 j hj ej⟩
      · rw [q24, cpF_out (by omega)]
      · rw [q25, upd_no (by omega)]
      · rw [q26, upd_no (by omega)]
      · rw [q27, upd_no (by omega)]
      · rw [qn 28 (by decide) (by decide) (by decide) (by decide) (by decide)]
      · rw [qn 29 (by decide) (by decide) (by decide) (by decide) (by decide)]
      · rw [q30, upd_no hi]
      · rw [qn 33 (by decide) (by decide) (by decide) (by decide) (by decide)]
    unfold S_X9_comes_118
    rcases hf with ⟨h0, hf⟩ | ⟨j, hj, hf⟩
    · refine ⟨fun z => absurd z (by rw [hf]; decide), fun _ => fin 0 (by omega) (fun _ => rfl) (fun j hj ej => absurd hj (by omega)) 0 rfl⟩
    · have hdj := hd j hj
      have c27 : M6.1 27 = M.1 27 := by rw [e6, w1_ne (by decide), e5, w1_ne (by decide), sA_ne (by decide)]
      refine ⟨fun _ => ?_, fun z => absurd (by rw [hf, l_0, nI_LE (by omega) (by omega)]; omega) z⟩
      rw [hf, l_300, m300_, nI_add]
      refine ⟨(vp_nI (by omega) (by omega)).mpr (by omega), ?_⟩
      have := fin (d j + 1) (by omega) (fun ej => absurd (by rw [← hf]; exact ej) (nI_M (a := j) (by omega))) (fun j' hj' ej => by rw [hf, nI_EQ (by omega) (by omega)] at ej; rw [ej]) (gI M6 27 (nI (300 * o + j)) + 1) (by rw [gI, nI_CL (by omega), c27, hdj.2.1, nI_A1])
      exact this
