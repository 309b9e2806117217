theorem X9_undo_35_sp {o : Nat} {M : Mem} {X : Mem → Prop} {K : Int32 → Mem → Prop} (ho : o + 172 ≤ 2064) (h : X (sA (sA M 1 (cpF (M.1 10) (M.1 1) o 0 80)) 2 (cpF (M.1 10) (M.1 2) (o + 80) 0 80))) : ∃ n, L_X9_undo_35 (nI o) X K n 0 M := by
  have e0 : M = sA (sA M 1 (cpF (M.1 10) (M.1 1) o 0 0)) 2 (cpF (M.1 10) (M.1 2) (o + 80) 0 0) := by rw [cpF_0, cpF_0, sA_id, sA_id]
  have key : ∃ n, L_X9_undo_35 (nI o) X K n (nI 0) (sA (sA M 1 (cpF (M.1 10) (M.1 1) o 0 0)) 2 (cpF (M.1 10) (M.1 2) (o + 80) 0 0)) := by
    refine upT (fun n j => L_X9_undo_35 (nI o) X K n (nI j) (sA (sA M 1 (cpF (M.1 10) (M.1 1) o 0 j)) 2 (cpF (M.1 10) (M.1 2) (o + 80) 0 j))) 0 80 (by omega) (fun n => ?_) (fun j _ hj n ih => ?_)
    · rw [L_X9_undo_35]
      exact ⟨fun _ => h, fun q => absurd (by rw [l_80, nI_LE (by omega) (by omega)]; exact Nat.le_refl _) q⟩
    · rw [L_X9_undo_35, nI_add, l_80, nI_add, nI_add]
      refine ⟨fun q => absurd q (by rw [nI_LE (by omega) (by omega)]; omega), fun _ => ⟨(vp_nI (by omega) (by omega)).mpr (by omega), (vp_nI (by omega) (by omega)).mpr (by omega), fun M1 e1 => ⟨(vp_nI (by omega) (by omega)).mpr (by omega), fun M2 e2 => ?_⟩⟩⟩
      have s1 := cpF_s (M.1 10) (M.1 1) o 0 j
      have s2 := cpF_s (M.1 10) (M.1 2) (o + 80) 0 j
      rw [Nat.zero_add] at s1 s2
      rw [gI, nI_CL (by omega), nI_CL (by omega), sA_ne (by decide), sA_ne (by decide), sA_cm _ (by decide), wI_of_sA, s1] at e1
      rw [gI, nI_CL (by omega), nI_CL (by omega), e1, sA_ne (by decide), sA_ne (by decide), sA_cm _ (by decide), wI_of_sA, s2] at e2
      rw [e2, l_1, nI_add]
      exact ih
  rw [← e0] at key
  exact key
theorem X9_undo_80_sp {o : Nat} {M : Mem} {X : Mem → Prop} {K : Int32 → Mem → Prop} (ho : o + 172 ≤ 2064) (h : X (sA M 3 (cpF (M.1 10) (M.1 3) (o + 160) 0 10))) : ∃ n, L_X9_undo_80 (nI o) X K n 0 M := by
  have e0 : M = sA M 3 (cpF (M.1 10) (M.1 3) (o + 160) 0 0) := by rw [cpF_0, sA_id]
  have key : ∃ n, L_X9_undo_80 (nI o) X K n (nI 0) (sA M 3 (cpF (M.1 10) (M.1 3) (o + 160) 0 0)) := by
    refine upT (fun n j => L_X9_undo_80 (nI o) X K n (nI j) (sA M 3 (cpF (M.1 10) (M.1 3) (o + 160) 0 j))) 0 10 (by omega) (fun n => ?_) (fun j _ hj n ih => ?_)
    · rw [L_X9_undo_80]
      exact ⟨fun _ => h, fun q => absurd (by rw [l_10, nI_LE (by omega) (by omega)]; exact Nat.le_refl _) q⟩
    · rw [L_X9_undo_80, l_160, nI_add, nI_add]
      refine ⟨fun q => absurd q (by rw [l_10, nI_LE (by omega) (by omega)]; omega), fun _ => ⟨(vp_nI (by omega) (by omega)).mpr (by omega), (vp_nI (by omega) (by omega)).mpr (by omega), fun M1 e1 => ?_⟩⟩
      have s1 := cpF_s (M.1 10) (M.1 3) (o + 160) 0 j
      rw [Nat.zero_add] at s1
      rw [gI, nI_CL (by omega), nI_CL (by omega), sA_ne (by decide), wI_of_sA, s1] at e1
      rw [e1, l_1, nI_add]
      exact ih
  rw [← e0] at key
  exact key
theorem X9_undo_sp {M : Mem} {K : Int32 → Mem → Prop} {k : Nat} (hk : M.1 0 26 = nI k) (hk12 : k ≤ 12) (h0 : k = 0 → K 0 (wI M 0 0 0))
    (h : 0 < k → ∀ M' : Mem, M'.1 0 26 = nI (k - 1) → M'.1 0 22 = 0 → M'.1 0 23 = 0 → M'.1 0 24 = 0 → (∀ j, j ≠ 0 → j ≠ 22 → j ≠ 23 → j ≠ 24 → j ≠ 26 → M'.1 0 j = M.1 0 j) → rt M' 0 = kb M (k - 1) →
      (∀ b, b ≠ 0 → b ≠ 1 → b ≠ 2 → b ≠ 3 → b ≠ 4 → b ≠ 5 → M'.1 b = M.1 b) → M'.2 = M.2 → K 1 M') : f_X9_undo M K := by
  unfold f_X9_undo
  intro M1 e1
  have hk1 : M1.1 0 26 = nI k := by rw [e1, w1_no (by decide), hk]
  refine ⟨fun q M2 e2 x ex => ?_, fun q => by rw [e1]; exact h0 (by rw [hk1, l_0, nI_EQ (by omega) (by omega)] at q; exact q)⟩
  have hk0 : 0 < k := by
    rcases Nat.eq_zero_or_pos k with e | e
    · exact absurd (by rw [hk1, e]; rfl) q
    · exact e
  have hk2 : M2.1 0 26 = nI (k - 1) := by rw [e2, w1_at, hk1, l_1, pk_sub (by omega)]
  rw [hk2, l_172, pk_mul] at ex
  subst ex
  have b2 : ∀ b, b ≠ 0 → M2.1 b = M.1 b := fun b hb => by rw [e2, w1_ne hb, e1, w1_ne hb]
  refine X9_undo_35_sp (by omega) (X9_undo_80_sp (by omega) ⟨?_, fun M3 e3 => ⟨?_, fun M4 e4 => ?_⟩⟩)
  · rw [l_170, nI_add]; exact (vp_nI (by omega) (by omega)).mpr (by omega)
  · rw [l_171, nI_add]; exact (vp_nI (by omega) (by omega)).mpr (by omega)
  · rw [l_170, nI_add, gI, nI_CL (by omega), show (0 : Int32).toNatClampNeg = 0 from rfl] at e3
    rw [l_171, nI_add, gI, nI_CL (by omega), show (0 : Int32).toNatClampNeg = 0 from rfl] at e4
    unfold f_X9_another f_X9_moved
    intro M5 e5 M6 e6 M7 e7
    simp only [sA_ne (show (10 : Nat) ≠ 1 by decide), sA_ne (show (10 : Nat) ≠ 2 by decide), sA_ne (show (10 : Nat) ≠ 3 by decide), sA_ne (show (3 : Nat) ≠ 1 by decide), sA_ne (show (3 : Nat) ≠ 2 by decide), b2 10 (by decide), b2 1 (by decide), b2 2 (by decide), b2 3 (by decide)] at e3
    have m3 : M4.1 10 = M.1 10 := by rw [e4, w1_ne (by decide), e3, w1_ne (by decide), sA_ne (by decide), sA_ne (by decide), sA_ne (by decide), b2 10 (by decide)]
    have p0 : ∀ j, j ≠ 22 → j ≠ 23 → j ≠ 24 → M7.1 0 j = M2.1 0 j := fun j h1 h2 h3 => by rw [e7, w1_no h3, e6, w1_no h2, e5, w1_no h1, e4, w1_ne (by decide), e3, w1_ne (by decide), sA_ne (by decide), sA_ne (by decide), sA_ne (by decide)]
    have pb : ∀ b, b ≠ 0 → M7.1 b = M4.1 b := fun b hb => by rw [e7, w1_ne hb, e6, w1_ne hb, e5, w1_ne hb]
    refine h hk0 M7 ?_ ?_ ?_ ?_ ?_ ?_ ?_ ?_
    · rw [p0 26 (by decide) (by decide) (by decide), hk2]
    · rw [e7, w1_no (by decide), e6, w1_no (by decide), e5, w1_at]
    · rw [e7, w1_no (by decide), e6, w1_at]
    · rw [e7, w1_at]
    · intro j j0 j22 j23 j24 j26
      rw [p0 j j22 j23 j24, e2, w1_no j26, e1, w1_no j0]
    · unfold rt kb
      rw [pb 1 (by decide), pb 2 (by decide), pb 3 (by decide), pb 4 (by decide), pb 5 (by decide)]
      refine r5 (tr_eq fun i hi => ?_) (tr_eq fun i hi => ?_) (tr_eq fun i hi => ?_) ?_ ?_
      · rw [e4, w1_ne (by decide), e3, w1_ne (by decide), sA_ne (by decide), sA_ne (by decide), sA_eq, cpF_in (by omega) (by omega)]; exact at_eq (by omega)
      · rw [e4, w1_ne (by decide), e3, w1_ne (by decide), sA_ne (by decide), sA_eq, cpF_in (by omega) (by omega)]; exact at_eq (by omega)
      · rw [e4, w1_ne (by decide), e3, w1_ne (by decide), sA_eq, cpF_in (by omega) (by omega)]; exact at_eq (by omega)
      · rw [e4, w1_ne (by decide), e3, w1_at]
      · have m10 : M3.1 10 = M.1 10 := by rw [e3, w1_ne (by decide), sA_ne (by decide), sA_ne (by decide), sA_ne (by decide), b2 10 (by decide)]
        rw [e4, w1_at, m10]
    · intro b h0 h1 h2 h3 h4 h5
      rw [pb b h0, e4, w1_ne h5, e3, w1_ne h4, sA_ne h3, sA_ne h2, sA_ne h1, b2 b h0]
    · rw [e7, w1_2, e6, w1_2, e5, w1_2, e4, w1_2, e3, w1_2, sA_2, sA_2, sA_2, e2, w1_2, e1, w1_2]
theorem X9_copies_2_sp {g1 g2 : Nat} {M : Mem} {X K : Mem → Prop} (h1 : g1 < 3) (h2 : g2 < 3) (hg : g1 ≠ g2) (h : X (sA (sA M 1 (cpF (M.1 1) (M.1 1) (80 * g1) (80 * g2) 80)) 2 (cpF (M.1 2) (M.1 2) (80 * g1) (80 * g2) 80))) : ∃ n, L_X9_copies_2 (nI g1) (nI g2) X K n 0 M := by
  have e0 : M = sA (sA M 1 (cpF (M.1 1) (M.1 1) (80 * g1) (80 * g2) 0)) 2 (cpF (M.1 2) (M.1 2) (80 * g1) (80 * g2) 0) := by rw [cpF_0, cpF_0, sA_id, sA_id]
  have key : ∃ n, L_X9_copies_2 (nI g1) (nI g2) X K n (nI 0) (sA (sA M 1 (cpF (M.1 1) (M.1 1) (80 * g1) (80 * g2) 0)) 2 (cpF (M.1 2) (M.1 2) (80 * g1) (80 * g2) 0)) := by
    refine upT (fun n j => L_X9_copies_2 (nI g1) (nI g2) X K n (nI j) (sA (sA M 1 (cpF (M.1 1) (M.1 1) (80 * g1) (80 * g2) j)) 2 (cpF (M.1 2) (M.1 2) (80 * g1) (80 * g2) j))) 0 80 (by omega) (fun n => ?_) (fun j _ hj n ih => ?_)
    · rw [L_X9_copies_2]
      exact ⟨fun _ => h, fun q => absurd (by rw [l_80, nI_LE (by omega) (by omega)]; exact Nat.le_refl _) q⟩
    · rw [L_X9_copies_2, l_80, pk_mul, pk_mul, nI_add, nI_add]
      refine ⟨fun q => absurd q (by rw [nI_LE (by omega) (by omega)]; omega), fun _ => ⟨(vp_nI (by omega) (by omega)).mpr (by omega), (vp_nI (by omega) (by omega)).mpr (by omega), fun M1 e1 M2 e2 => ?_⟩⟩
      have s1 := cpF_s (M.1 1) (M.1 1) (80 * g1) (80 * g2) j
      have s2 := cpF_s (M.1 2) (M.1 2) (80 * g1) (80 * g2) j
      rw [gI, nI_CL (by omega), nI_CL (by omega), sA_ne (by decide), sA_eq, cpF_out (by omega), sA_cm _ (by decide), wI_of_sA, s1] at e1
      rw [gI, nI_CL (by omega), nI_CL (by omega), e1, sA_ne (by decide), sA_eq, cpF_out (by omega), sA_cm _ (by decide), wI_of_sA, s2] at e2
      rw [e2, l_1, nI_add]
      exact ih
  rw [← e0] at key
  exact key
theorem X9_copies_60_sp {g1 g2 : Nat} {M : Mem} {X K : Mem → Prop} (h1 : g1 < 3) (h2 : g2 < 3) (hg : g1 ≠ g2) (h : X (sA M 3 (cpF (M.1 3) (M.1 3) (10 * g1) (10 * g2) 10))) : ∃ n, L_X9_copies_60 (nI g1) (nI g2) X K n 0 M := by
  have e0 : M = sA M 3 (cpF (M.1 3) (M.1 3) (10 * g1) (10 * g2) 0) := by rw [cpF_0, sA_id]
  have key : ∃ n, L_X9_copies_60 (nI g1) (nI g2) X K n (nI 0) (sA M 3 (cpF (M.1 3) (M.1 3) (10 * g1) (10 * g2) 0)) := by
    refine upT (fun n j => L_X9_copies_60 (nI g1) (nI g2) X K n (nI j) (sA M 3 (cpF (M.1 3) (M.1 3) (10 * g1) (10 * g2) j))) 0 10 (by omega) (fun n => ?_) (fun j _ hj n ih => ?_)
    · rw [L_X9_copies_60]
      exact ⟨fun _ => h, fun q => absurd (by rw [l_10, nI_LE (by omega) (by omega)]; exact Nat.le_refl _) q⟩
    · rw [L_X9_copies_60, l_10, pk_mul, pk_mul, nI_add, nI_add]
      refine ⟨fun q => absurd q (by rw [nI_LE (by omega) (by omega)]; omega), fun _ => ⟨(vp_nI (by omega) (by omega)).mpr (by omega), (vp_nI (by omega) (by omega)).mpr (by omega), fun M1 e1 => ?_⟩⟩
      have s1 := cpF_s (M.1 3) (M.1 3) (10 * g1) (10 * g2) j
      rw [gI, nI_CL (by omega), nI_CL (by omega), sA_eq, cpF_out (by omega), wI_of_sA, s1] at e1
      rw [e1, l_1, nI_add]
      exact ih
  rw [← e0] at key
  exact key
/-- a net of the reference is copied to another place -/
theorem X9_copies_sp {g1 g2 : Nat} {M : Mem} {K : Mem → Prop} (h1 : g1 < 3) (h2 : g2 < 3) (hg : g1 ≠ g2)
    (h : ∀ M' : Mem, rt M' g2 = rt M g1 → (∀ g, g < 3 → g ≠ g2 → rt M' g = rt M g) → (∀ b, b ≠ 1 → b ≠ 2 → b ≠ 3 → b ≠ 4 → b ≠ 5 → M'.1 b = M.1 b) → M'.2 = M.2 → K M') : f_X9_copies (nI g1) (nI g2) M K := by
  unfold f_X9_copies
  refine X9_copies_2_sp h1 h2 hg (X9_copies_60_sp h1 h2 hg ⟨(vp_nI (by omega) (by omega)).mpr h1, (vp_nI (by omega) (by omega)).mpr h2, fun M1 e1 M2 e2 => ?_⟩)
  rw [gI, nI_CL (by omega), nI_CL (by omega), sA_ne (by decide), sA_ne (by decide), sA_ne (by decide), wI_sA, sA_ne (by decide), sA_ne (by decide), sA_ne (by decide)] at e1
  rw [gI, nI_CL (by omega), nI_CL (by omega), wI_sA, e1, sA_ne (show (5 : Nat) ≠ 4 by decide), sA_ne (show (5 : Nat) ≠ 3 by decide), sA_ne (show (5 : Nat) ≠ 2 by decide), sA_ne (show (5 : Nat) ≠ 1 by decide)] at e2
  have a1 : M2.1 1 = cpF (M.1 1) (M.1 1) (80 * g1) (80 * g2) 80 := by rw [e2, sA_ne (by decide), sA_ne (by decide), sA_ne (by decide), sA_ne (by decide), sA_eq]
  have a2 : M2.1 2 = cpF (M.1 2) (M.1 2) (80 * g1) (80 * g2) 80 := by rw [e2, sA_ne (by decide), sA_ne (by decide), sA_ne (by decide), sA_eq]
  have a3 : M2.1 3 = cpF (M.1 3) (M.1 3) (10 * g1) (10 * g2) 10 := by rw [e2, sA_ne (by decide), sA_ne (by decide), sA_eq]
  have a4 : M2.1 4 = upd (M.1 4) g2 (M.1 4 g1) := by rw [e2, sA_ne (by decide), sA_eq]
  have a5 : M2.1 5 = upd (M.1 5) g2 (M.1 5 g1) := by rw [e2, sA_eq]
  refine h M2 ?_ ?_ ?_ ?_
  · unfold rt
    rw [a1, a2, a3, a4, a5]
    refine r5 (tr_eq fun i hi => ?_) (tr_eq fun i hi => ?_) (tr_eq fun i hi => ?_) upd_at upd_at
    · rw [cpF_in (by omega) (by omega)]; exact at_eq (by omega)
    · rw [cpF_in (by omega) (by omega)]; exact at_eq (by omega)
    · rw [cpF_in (by omega) (by omega)]; exact at_eq (by omega)
  · intro g hg3 hgg
    unfold rt
    rw [a1, a2, a3, a4, a5]
    refine r5 (tr_eq fun i hi => ?_) (tr_eq fun i hi => ?_) (tr_eq fun i hi => ?_) (upd_no hgg) (upd_no hgg)
    · rw [cpF_out (by omega)]
    · rw [cpF_out (by omega)]
    · rw [cpF_out (by omega)]
  · intro b h1 h2 h3 h4 h5
    rw [e2, sA_ne h5, sA_ne h4, sA_ne h3, sA_ne h2, sA_ne h1]
  · rw [e2, sA_2, sA_2, sA_2, sA_2, sA_2]
