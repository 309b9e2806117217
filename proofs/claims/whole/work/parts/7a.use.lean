/-! steps of use: such a one changes something, and no later one changes just the same -/
def alkN (n : NN) (s t : Nat) : Prop := ∀ p, p < 10 → cgI n s p = cgI n t p
def noN (n : NN) (s : Nat) : Prop := ∀ p, p < 10 → nT n (10 * s + p) = nG n (10 * s + p)
def usN (n : NN) (s : Nat) : Prop := (∀ t, s < t → t < 8 → ¬ alkN n s t) ∧ ¬ noN n s
theorem nI_subE {a b c d : Nat} (ha : a ≤ 3) (hb : b ≤ 3) (hc : c ≤ 3) (hd : d ≤ 3) : (nI a - nI b = nI c - nI d) = ((a : Int) - (b : Int) = (c : Int) - (d : Int)) := by
  have e : ∀ {a b : Nat}, a ≤ 3 → b ≤ 3 → (nI a - nI b).toInt = (a : Int) - (b : Int) := fun ha hb => by
    rw [i_sub (by rw [i_nI (by omega), i_nI (by omega)]; omega) (by rw [i_nI (by omega), i_nI (by omega)]; omega), i_nI (by omega), i_nI (by omega)]
  rw [i_eq, e ha hb, e hc hd]
theorem alk_iff {n : NN} {tp ts s t : Nat} (w : WF n tp ts) : allB (fun p => decide (cgI n s p = cgI n t p)) tp = true ↔ alkN n s t :=
  al_iff (P := fun p => cgI n s p = cgI n t p) w.1 (fun j _ => decide_eq_true_iff) (fun j a b => by unfold cgI; rw [wf_T0p w b a, wf_G0p w b a, wf_T0p w b a, wf_G0p w b a])
theorem no_iff {n : NN} {tp ts s : Nat} (w : WF n tp ts) : allB (fun p => decide (nT n (10 * s + p) = nG n (10 * s + p))) tp = true ↔ noN n s :=
  al_iff (P := fun p => nT n (10 * s + p) = nG n (10 * s + p)) w.1 (fun j _ => decide_eq_true_iff) (fun j a b => by rw [wf_T0p w b a, wf_G0p w b a])
theorem us_in {n : NN} {tp ts s : Nat} (w : WF n tp ts) (h : usN n s) : (nS n).testBit s = true := by
  cases hb : (nS n).testBit s
  · refine absurd (fun p hp => ?_) h.2
    have tz : ∀ f : Nat → Nat, (f (10 * s + p) ≠ 0 → (nS n).testBit ((10 * s + p) / 10) = true) → f (10 * s + p) = 0 := fun f hf => Classical.byContradiction fun w => by
      have := hf w
      rw [(md hp).2, hb] at this; cases this
    have z1 : nG n (10 * s + p) = 0 := tz n.2.1 (fun z => (wf_Gn w z).2.2)
    have z2 : nT n (10 * s + p) = 0 := tz n.1 (fun z => (wf_Tn w z).2.2)
    rw [z1, z2]
  · rfl
theorem X1_changeAlike_sp {n : NN} {c tp ts s t : Nat} {M : Mem} {K : Int32 → Mem → Prop} (hn : atC M c n tp ts) (hs : s < 8) (ht : t < 8) (h : K (bI (allB (fun p => decide (cgI n s p = cgI n t p)) tp)) M) : f_X1_changeAlike c (nI s) (nI t) M K := by
  have w := hn.2.2.2
  have t8 := w.1
  unfold f_X1_changeAlike
  refine lpA _ (fun b => K (bI b) M) (fun k j => L_X1_changeAlike_2 c (nI s) (nI t) _ K k (nI j) M) tp h (fun e k => ?_) (fun j hj k i1 i0 => ?_)
  · rw [L_X1_changeAlike_2]; simp (disch := omega) only [hn.2.1, forall_eq, gI, ix_z, m_10, m10_, m_80, m80_, m300_, m8_, m_8, nI_add, nI_A1, nI_E1, nI_L1, nI_1L, nI_1l, vp_nI, nI_LE, nI_LT, nI_EQ, nI_CL, nI_Z, l_2, l_3, l_4, l_5, l_6, l_7, l_8, l_9, l_10, l_11, l_12, l_13, l_14, l_15, l_16, l_17, l_18, l_19, l_20, l_21, l_22, l_23, l_24, l_25, l_26, l_27, l_28, l_29, l_30, l_32, l_48, l_57, l_59, l_63, l_80, l_96, l_97, l_99, l_122, l_128, l_160, l_170, l_171, l_172, l_200, l_240, l_255, l_256, l_260, l_300, l_900, l_999, l_1023, l_1024, l_1296, l_2064, l_2400, l_3010, l_4800, l_6000, l_600, l_10000]
    exact ⟨fun _ => e, by omega⟩
  · rw [L_X1_changeAlike_2]; simp (disch := omega) only [hn.2.1, nI_LE, nI_A1]
    refine ⟨by omega, fun _ => X1_change_sp hs (by omega) (X1_change_sp ht (by omega) ?_)⟩
    rw [ac_G hn (by omega), ac_T hn (by omega), ac_G hn (by omega), ac_T hn (by omega), nI_subE (wf_G3 w _) (wf_T3 w _) (wf_G3 w _) (wf_T3 w _)]
    exact ⟨fun e => i1 (decide_eq_true e), fun e => i0 (decide_eq_false e)⟩
theorem X6_isUseful_sp {n : NN} {c tp ts s : Nat} {M : Mem} {K : Int32 → Mem → Prop} (hn : atC M c n tp ts) (hs : s < 8) (h1 : usN n s → K 1 M) (h0 : ¬ usN n s → K 0 M) : f_X6_isUseful c (nI s) M K := by
  have w := hn.2.2.2
  unfold f_X6_isUseful
  intro x2 e2
  rw [nI_A1] at e2
  subst e2
  have key : ∀ d t, t + d = 8 → s < t → (∀ t', s < t' → t' < t → ¬ alkN n s t') → L_X6_isUseful_4 c (nI s) (fun M_3 => f_X1_changesNothing c (nI s) M_3 (fun (r_2 : Int32) (M_4 : Mem) => ((¬ r_2 = 0 → K (0 : Int32) M_4) ∧ (r_2 = 0 → K (1 : Int32) M_4)))) K (d + 1) (nI t) M := by
    intro d
    induction d with
    | zero =>
      intro t ht hs' c1
      rw [L_X6_isUseful_4, l_8, nI_LE (by omega) (by omega)]
      refine ⟨fun _ => X1_changesNothing_sp hn hs ⟨fun q => h0 (fun u => u.2 ((no_iff w).mp (b_ofn q))), fun q => h1 ⟨fun t' a b => c1 t' a (by omega), fun u => ?_⟩⟩, by omega⟩
      rw [(no_iff w).mpr u] at q
      exact absurd q (by decide)
    | succ d ih =>
      intro t ht hs' c1
      rw [L_X6_isUseful_4, l_8, nI_LE (by omega) (by omega), nI_A1]
      refine ⟨by omega, fun _ => X1_changeAlike_sp hn hs (by omega) ⟨fun q => ih (t + 1) (by omega) (by omega) (fun t' a b => ?_), fun q => h0 (fun u => u.1 t hs' (by omega) ((alk_iff w).mp (b_ofn q)))⟩⟩
      rcases Nat.lt_succ_iff_lt_or_eq.mp b with z | z
      · exact c1 t' a z
      · rw [z]
        intro u
        rw [(alk_iff w).mpr u] at q
        exact absurd q (by decide)
  exact ⟨_, key (8 - (s + 1)) (s + 1) (by omega) (by omega) (fun t' a b => by omega)⟩
/-- the steps of use below k, as a mask -/
def UU (n : NN) (u k : Nat) : Prop := u < 256 ∧ ∀ s, s < 8 → (u.testBit s = true ↔ s < k ∧ usN n s)
theorem X6_findUseful_sp {n : NN} {c tp ts : Nat} {M : Mem} {K : Mem → Prop} (hc : c + 3 < 124) (hn : atC M c n tp ts) (h : ∀ M' u, UU n u 8 → M'.1 124 11 = nI u → (∀ j, j ≠ 11 → M'.1 124 j = M.1 124 j) → (∀ b, b ≠ 124 → M'.1 b = M.1 b) → M'.2 = M.2 → K M') : f_X6_findUseful c M K := by
  unfold f_X6_findUseful
  intro M2 e2
  have key : ∀ d s, s + d = 8 → ∀ (M1 : Mem) u, UU n u s → M1.1 124 11 = nI u → (∀ j, j ≠ 11 → M1.1 124 j = M.1 124 j) → (∀ b, b ≠ 124 → M1.1 b = M.1 b) → M1.2 = M.2 → L_X6_findUseful_7 c (fun M_5 => K M_5) K (d + 1) (nI s) M1 := by
    intro d
    induction d with
    | zero =>
      intro s hs M1 u c1 c2 c3 c4 c5
      have : s = 8 := by omega
      subst this
      rw [L_X6_findUseful_7, l_8, nI_LE (by omega) (by omega)]
      exact ⟨fun _ => h M1 u c1 c2 c3 c4 c5, by omega⟩
    | succ d ih =>
      intro s hs M1 u c1 c2 c3 c4 c5
      have hn1 : atC M1 c n tp ts := atC_fr hn (c4 _ (by omega)) (c4 _ (by omega)) (c4 _ (by omega)) (c4 _ (by omega))
      rw [L_X6_findUseful_7, l_8, nI_LE (by omega) (by omega), nI_A1]
      refine ⟨by omega, fun _ => X6_isUseful_sp hn1 (by omega) (fun q => ⟨fun z => absurd z (by decide), fun _ M4 e4 => ?_⟩) (fun q => ⟨fun _ => ih (s + 1) (by omega) M1 u ⟨c1.1, fun s' hs' => ?_⟩ c2 c3 c4 c5, fun z => absurd rfl z⟩)⟩
      · rw [c2, shl_nI (by omega), nI_or] at e4
        refine ih (s + 1) (by omega) M4 (u ||| 2 ^ s) ⟨Nat.or_lt_two_pow (n := 8) c1.1 (Nat.pow_lt_pow_right (by omega) (by omega)), fun s' hs' => ?_⟩ (by rw [e4, w1_at]) (fun j hj => by rw [e4, w1_no hj, c3 j hj]) (fun b hb => by rw [e4, w1_ne hb, c4 b hb]) (by rw [e4, w1_2, c5])
        rw [Nat.testBit_or, tb_one, Bool.or_eq_true, c1.2 s' hs', decide_eq_true_iff]
        constructor
        · intro z
          rcases z with ⟨a, b⟩ | a
          · exact ⟨by omega, b⟩
          · rw [← a]; exact ⟨by omega, q⟩
        · intro ⟨a, b⟩
          rcases Nat.lt_succ_iff_lt_or_eq.mp a with z | z
          · exact Or.inl ⟨z, b⟩
          · exact Or.inr z.symm
      · rw [c1.2 s' hs']
        constructor
        · intro ⟨a, b⟩; exact ⟨by omega, b⟩
        · intro ⟨a, b⟩
          rcases Nat.lt_succ_iff_lt_or_eq.mp a with z | z
          · exact ⟨z, b⟩
          · rw [z] at b; exact absurd b q
  exact ⟨_, key 8 0 (by omega) M2 0 ⟨by decide, fun s hs => ⟨fun z => (by rw [Nat.zero_testBit] at z; cases z), fun z => absurd z.1 (Nat.not_lt_zero _)⟩⟩ (by rw [e2, w1_at]; rfl) (fun j hj => by rw [e2, w1_no hj]) (fun b hb => by rw [e2, w1_ne hb]) (by rw [e2, w1_2])⟩
