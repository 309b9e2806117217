/-! rules 5 and 6 of the class -/
theorem only_one {f : Nat → Nat} {m N s s' : Nat} (hmN : m ≤ N) (h1 : f s ≠ 0) (h0 : ∀ i, i < m → i ≠ s → f i = 0) (ho : ∀ i, m ≤ i → i < N → f i = 0) (hs : s < m) (e : one f N = some s') : s' = s ∧ f s = 1 := by
  obtain ⟨a, b, c⟩ := one_some e
  by_cases q : s = s'
  · subst q; exact ⟨rfl, b⟩
  · exact absurd (c s (by omega) q) h1
theorem only_of {f : Nat → Nat} {m N s : Nat} (hmN : m ≤ N) (h1 : f s = 1) (h0 : ∀ i, i < m → i ≠ s → f i = 0) (ho : ∀ i, m ≤ i → i < N → f i = 0) (hs : s < m) : one f N = some s :=
  one_of (by omega) h1 (fun i hi hne => by
    rcases Nat.lt_or_ge i m with q | q
    · exact h0 i q hne
    · exact ho i q hi)
theorem only_no {f : Nat → Nat} {m N : Nat} (hmN : m ≤ N) (ho : ∀ i, m ≤ i → i < N → f i = 0) (h : ¬ ∃ s, s < m ∧ f s ≠ 0 ∧ ∀ i, i < m → i ≠ s → f i = 0) : one f N = none := by
  refine one_none (fun ⟨s, a, b, c⟩ => ?_)
  rcases Nat.lt_or_ge s m with q | q
  · exact h ⟨s, q, by omega, fun i hi hne => c i (by omega) hne⟩
  · rw [ho s q a] at b; cases b
theorem aks_tb {A : Nat → Nat} {M : Mem} {a s : Nat} (hA : ∀ i, i < 80 → M.1 a i = nI (A i) ∧ A i ≤ 3) (hs : s < 8) (q : Nat) : (aks (M.1 a) s).testBit q = (decide (q < 10) && decide (A (10 * s + q) ≠ 0)) := by
  unfold aks
  rw [mN_tb]
  rcases Nat.lt_or_ge q 10 with hq | hq
  · have := (hA (10 * s + q) (by omega)).2
    rw [decide_eq_true hq, (hA (10 * s + q) (by omega)).1, Bool.true_and, Bool.true_and]
    exact decide_eq_decide.mpr (not_congr (by rw [nI_L0 (by omega)]))
  · rw [decide_eq_false (by omega)]; rfl
theorem aks_one {A : Nat → Nat} {M : Mem} {a s p : Nat} (hA : ∀ i, i < 80 → M.1 a i = nI (A i) ∧ A i ≤ 3) (hs : s < 8) (hp : p < 10) : (aks (M.1 a) s = 2 ^ p) ↔ ∀ q, q < 10 → (A (10 * s + q) ≠ 0 ↔ q = p) := by
  constructor
  · intro e q hq
    have := aks_tb hA hs q
    rw [e, tb_one, decide_eq_true hq, Bool.true_and] at this
    have := decide_eq_decide.mp this
    exact ⟨fun z => (this.mpr z).symm, fun z => this.mp z.symm⟩
  · intro h
    refine Nat.eq_of_testBit_eq (fun q => ?_)
    rw [aks_tb hA hs q, tb_one]
    rcases Nat.lt_or_ge q 10 with hq | hq
    · rw [decide_eq_true hq, Bool.true_and]
      exact decide_eq_decide.mpr ⟨fun z => ((h q hq).mp z).symm, fun z => (h q hq).mpr z.symm⟩
    · rw [decide_eq_false (show ¬ q < 10 by omega), decide_eq_false (show ¬ p = q by omega)]; rfl
theorem ac_oT {M : Mem} {t tp ts : Nat} {n : NN} (h : atC M t n tp ts) : arcOut (M.1 (t + 1)) tp := fun s p hs a b => by rw [ac_T h (by omega), wf_T0p h.2.2.2 b a]; rfl
theorem ac_oG {M : Mem} {t tp ts : Nat} {n : NN} (h : atC M t n tp ts) : arcOut (M.1 (t + 2)) tp := fun s p hs a b => by rw [ac_G h (by omega), wf_G0p h.2.2.2 b a]; rfl
theorem X5_isJoint_sp {n : NN} {tp ts s p t : Nat} {M : Mem} {K : Int32 → Mem → Prop} (hn : atC M 147 n tp ts) (hs : s < 8) (hp : p < 10) (ht : t < 8)
    (h1 : nG n (10 * s + p) = 1 → nT n (10 * t + p) = 1 → (∀ q, q < 10 → (nT n (10 * t + q) ≠ 0 ↔ q = p)) → (∀ q, q < tp → nG n (10 * s + q) + nG n (10 * t + q) ≤ 3) → K 1 M)
    (h0 : ¬ (nG n (10 * s + p) = 1 ∧ nT n (10 * t + p) = 1 ∧ (∀ q, q < 10 → (nT n (10 * t + q) ≠ 0 ↔ q = p)) ∧ (∀ q, q < tp → nG n (10 * s + q) + nG n (10 * t + q) ≤ 3)) → K 0 M) : f_X5_isJoint (nI s) (nI p) (nI t) M K := by
  have w := hn.2.2.2
  have t10 := w.1
  have b1 := wf_G3 w (10 * s + p)
  have b2 := wf_T3 w (10 * t + p)
  unfold f_X5_isJoint
  simp (disch := omega) only [forall_eq, gI, ix_z, m_10, m10_, m_80, m80_, m300_, m8_, m_8, nI_add, nI_A1, nI_E1, nI_L1, nI_1L, nI_1l, vp_nI, nI_LE, nI_LT, nI_EQ, nI_CL, nI_Z, l_2, l_3, l_4, l_5, l_6, l_7, l_8, l_9, l_10, l_11, l_12, l_13, l_14, l_15, l_16, l_17, l_18, l_19, l_20, l_21, l_22, l_23, l_24, l_25, l_26, l_27, l_28, l_29, l_30, l_32, l_48, l_57, l_59, l_63, l_80, l_96, l_97, l_99, l_122, l_128, l_160, l_170, l_171, l_172, l_200, l_240, l_255, l_256, l_260, l_300, l_900, l_999, l_1023, l_1024, l_1296, l_2064, l_2400, l_3010, l_4800, l_6000, l_600, l_10000, show M.1 149 (10 * s + p) = nI (nG n (10 * s + p)) from ac_G hn (by omega), show M.1 148 (10 * t + p) = nI (nT n (10 * t + p)) from ac_T hn (by omega)]
  refine ⟨by omega, fun e => h0 (fun z => e z.1), fun e1 => ⟨by omega, fun e => h0 (fun z => e z.2.1), fun e2 => ?_⟩⟩
  refine X1_takenFrom_sp hn.2.1 t10 al_148 ht (ac_oT hn) ?_
  have hl := aks_lt (M.1 (147 + 1)) t
  have hpw : 2 ^ p < 1024 := Nat.lt_of_lt_of_le (Nat.pow_lt_pow_right (by omega) hp) (Nat.le_refl (2 ^ 10))
  rw [shl_nI (by omega), nI_EQ (by omega) (by omega), aks_one (ac_TA hn) ht hp]
  refine ⟨fun e3 => ?_, fun e => h0 (fun z => e z.2.2.1)⟩
  refine lpA (fun q => decide (nG n (10 * s + q) + nG n (10 * t + q) ≤ 3)) (fun b => K (bI b) M) (fun k j => L_X5_isJoint_55 (nI s) (nI t) _ K k (nI j) M) tp ?_ (fun e k => ?_) (fun j hj k i1 i0 => ?_)
  · cases q : allB (fun q => decide (nG n (10 * s + q) + nG n (10 * t + q) ≤ 3)) tp
    · refine h0 (fun z => ?_)
      rw [(allB_iff (c := fun q => decide (nG n (10 * s + q) + nG n (10 * t + q) ≤ 3))).mpr (fun j hj => decide_eq_true (z.2.2.2 j hj))] at q
      cases q
    · rw [allB_iff] at q
      exact h1 e1 e2 e3 (fun j hj => of_decide_eq_true (q j hj))
  · rw [L_X5_isJoint_55]; simp (disch := omega) only [hn.2.1, nI_LE]
    exact ⟨fun _ => e, by omega⟩
  · have b3 := wf_G3 w (10 * s + j)
    have b4 := wf_G3 w (10 * t + j)
    rw [L_X5_isJoint_55]
    simp (disch := omega) only [hn.2.1, forall_eq, gI, ix_z, m_10, m10_, m_80, m80_, m300_, m8_, m_8, nI_add, nI_A1, nI_E1, nI_L1, nI_1L, nI_1l, vp_nI, nI_LE, nI_LT, nI_EQ, nI_CL, nI_Z, l_2, l_3, l_4, l_5, l_6, l_7, l_8, l_9, l_10, l_11, l_12, l_13, l_14, l_15, l_16, l_17, l_18, l_19, l_20, l_21, l_22, l_23, l_24, l_25, l_26, l_27, l_28, l_29, l_30, l_32, l_48, l_57, l_59, l_63, l_80, l_96, l_97, l_99, l_122, l_128, l_160, l_170, l_171, l_172, l_200, l_240, l_255, l_256, l_260, l_300, l_900, l_999, l_1023, l_1024, l_1296, l_2064, l_2400, l_3010, l_4800, l_6000, l_600, l_10000, show M.1 149 (10 * s + j) = nI (nG n (10 * s + j)) from ac_G hn (by omega), show M.1 149 (10 * t + j) = nI (nG n (10 * t + j)) from ac_G hn (by omega)]
    exact ⟨by omega, fun _ => ⟨by omega, by omega, fun e => i1 (decide_eq_true e), fun e => i0 (decide_eq_false e)⟩⟩
/-- gives, joined -/
def jF (f : Nat → Int32) (s t k : Nat) : Nat → Int32 := fun i => if i / 10 = s ∧ i % 10 < k then f i + f (10 * t + i % 10) else f i
theorem jF_0 (f : Nat → Int32) (s t : Nat) : jF f s t 0 = f := by funext i; unfold jF; rw [if_neg (by omega)]
theorem jF_s (f : Nat → Int32) {s t k : Nat} (hk : k < 10) : upd (jF f s t k) (10 * s + k) (f (10 * s + k) + f (10 * t + k)) = jF f s t (k + 1) := by
  funext i
  by_cases h : i = 10 * s + k
  · subst h; rw [upd_at]; unfold jF; rw [if_pos ⟨by omega, by omega⟩, (md hk).1]
  · rw [upd_no h]; unfold jF
    by_cases h2 : i / 10 = s ∧ i % 10 < k
    · rw [if_pos h2, if_pos ⟨h2.1, by omega⟩]
    · rw [if_neg h2, if_neg (fun z => h2 ⟨z.1, by omega⟩)]
theorem X5_join5_sp {s t tp : Nat} {v : Int32} {M : Mem} {X : Mem → Prop} {K : Int32 → Mem → Prop} (hs : s < 8) (ht : t < 8) (hst : s ≠ t) (htp : M.1 147 3 = nI tp) (h10 : tp ≤ 10) (h : X (sA M 149 (jF (M.1 149) s t tp))) : ∃ n, L_X5_joinSteps_99 v (nI s) (nI t) X K n 0 M := by
  have e0 : M = sA M 149 (jF (M.1 149) s t 0) := by rw [jF_0, sA_id]
  have key : ∃ n, L_X5_joinSteps_99 v (nI s) (nI t) X K n (nI 0) (sA M 149 (jF (M.1 149) s t 0)) := by
    refine upT (fun n j => L_X5_joinSteps_99 v (nI s) (nI t) X K n (nI j) (sA M 149 (jF (M.1 149) s t j))) 0 tp (by omega) (fun n => ?_) (fun j _ hj n ih => ?_)
    · rw [L_X5_joinSteps_99, sA_ne (by decide), htp]
      exact ⟨fun _ => h, fun q => absurd (by rw [nI_LE (by omega) (by omega)]; exact Nat.le_refl _) q⟩
    · rw [L_X5_joinSteps_99, sA_ne (by decide), htp]
      simp (disch := omega) only [forall_eq, gI, ix_z, m_10, m10_, m_80, m80_, m300_, m8_, m_8, nI_add, nI_A1, nI_E1, nI_L1, nI_1L, nI_1l, vp_nI, nI_LE, nI_LT, nI_EQ, nI_CL, nI_Z, l_2, l_3, l_4, l_5, l_6, l_7, l_8, l_9, l_10, l_11, l_12, l_13, l_14, l_15, l_16, l_17, l_18, l_19, l_20, l_21, l_22, l_23, l_24, l_25, l_26, l_27, l_28, l_29, l_30, l_32, l_48, l_57, l_59, l_63, l_80, l_96, l_97, l_99, l_122, l_128, l_160, l_170, l_171, l_172, l_200, l_240, l_255, l_256, l_260, l_300, l_900, l_999, l_1023, l_1024, l_1296, l_2064, l_2400, l_3010, l_4800, l_6000, l_600, l_10000]
      refine ⟨by omega, fun _ => ⟨by omega, by omega, ?_⟩⟩
      rw [wI_of_sA, sA_eq, show jF (M.1 149) s t j (10 * s + j) = M.1 149 (10 * s + j) by unfold jF; rw [if_neg (by omega)], show jF (M.1 149) s t j (10 * t + j) = M.1 149 (10 * t + j) by unfold jF; rw [if_neg (by omega)], jF_s _ (by omega)]
      exact ih
  rw [← e0] at key
  exact key
theorem jF_enc {n : NN} {M : Mem} {tp ts s t : Nat} (hn : atC M 147 n tp ts) (hs : s < 8) (ht : t < 8) : toR (nt (sA M 149 (jF (M.1 149) s t tp)) 147) = enc (j5 n s t) := by
  have w := hn.2.2.2
  refine r5 ?_ ?_ ?_ ?_ ?_
  · exact congrArg (·.1) hn.1
  · show tr 80 (jF (M.1 149) s t tp) = fun i => nI (if i / 10 = s then nG n i + nG n (10 * t + i % 10) else nG n i)
    funext i
    unfold tr
    by_cases hi : i < 80
    · rw [if_pos hi]
      unfold jF
      have e1 : M.1 149 i = nI (nG n i) := ac_G hn hi
      have e2 : M.1 149 (10 * t + i % 10) = nI (nG n (10 * t + i % 10)) := ac_G hn (by omega)
      by_cases q : i / 10 = s
      · rw [if_pos q, ← nI_add, e1]
        by_cases q2 : i % 10 < tp
        · rw [if_pos ⟨q, q2⟩, e2]
        · rw [if_neg (fun z => q2 z.2), wf_G0p w (by omega) (by omega)]; exact (Int32.add_zero _).symm
      · rw [if_neg q, if_neg (fun z => q z.1), e1]
    · rw [if_neg hi, if_neg (by omega)]
      rcases Nat.eq_zero_or_pos (nG n i) with z | z
      · rw [z]; rfl
      · exact absurd (wf_Gn w (by omega)).1 hi
  · exact congrArg (·.2.2.1) hn.1
  · exact congrArg (·.2.2.2.1) hn.1
  · exact congrArg (·.2.2.2.2) hn.1
theorem X5_joinSteps_sp {n : NN} {tp ts c : Nat} {M : Mem} {K : Int32 → Mem → Prop} (hn : atC M 147 n tp ts) (hc : M.1 146 4 = nI c) (hc18 : c < 18) (h : QC M K c (rl5 n)) : f_X5_joinSteps M K := by
  have w := hn.2.2.2
  have t10 := w.1
  have t8 := w.2.1
  rw [rl5_tp w] at h
  unfold f_X5_joinSteps
  refine lpF _ (QC M K c) (fun k j => L_X5_joinSteps_2 (fun M_8 => K 0 M_8) K k (nI j) M) 0 tp (Nat.zero_le _) h (fun e k => ?_) (fun p _ hp k z0 z1 => ?_)
  · rw [L_X5_joinSteps_2]; simp (disch := omega) only [hn.2.1, forall_eq, gI, ix_z, m_10, m10_, m_80, m80_, m300_, m8_, m_8, nI_add, nI_A1, nI_E1, nI_L1, nI_1L, nI_1l, vp_nI, nI_LE, nI_LT, nI_EQ, nI_CL, nI_Z, l_2, l_3, l_4, l_5, l_6, l_7, l_8, l_9, l_10, l_11, l_12, l_13, l_14, l_15, l_16, l_17, l_18, l_19, l_20, l_21, l_22, l_23, l_24, l_25, l_26, l_27, l_28, l_29, l_30, l_32, l_48, l_57, l_59, l_63, l_80, l_96, l_97, l_99, l_122, l_128, l_160, l_170, l_171, l_172, l_200, l_240, l_255, l_256, l_260, l_300, l_900, l_999, l_1023, l_1024, l_1296, l_2064, l_2400, l_3010, l_4800, l_6000, l_600, l_10000]
    exact ⟨fun _ => e.1 rfl, by omega⟩
  · have b1 := wf_H w p
    have eH : M.1 150 p = nI (nH n p) := ac_H hn (by omega)
    rw [L_X5_joinSteps_2]; simp (disch := omega) only [hn.2.1, nI_LE, nI_A1, gI, nI_CL, vp_nI, eH, nI_Z]
    refine ⟨by omega, fun _ => X1_hasPlace_nn hn (by omega) ⟨fun e => z0 (ifP_f (fun z => by rw [b_of0 e] at z; exact absurd z.1 (by decide))), fun e1 => ⟨by omega, ?_⟩⟩⟩
    rw [eH, nI_Z (by omega)]
    refine ⟨fun e2 => ?_, fun e2 => z0 (ifP_f (fun z => e2 z.2))⟩
    have oG : ∀ i, ts ≤ i → i < 8 → col n.2.1 p i = 0 := fun i a _ => wf_G0s w (by omega) a
    have oT : ∀ i, ts ≤ i → i < 8 → col n.1 p i = 0 := fun i a _ => wf_T0s w (by omega) a
    have nogo : h5 n p (one (col n.2.1 p) 8) (one (col n.1 p) 8) = none → g5 n p = none := fun e => by unfold g5; rw [e]; unfold ifP; split <;> rfl
    refine X1_onlyStepWith_sp hn.2.2.1 t8 al_149 (ac_GA hn) (by omega) (fun s hs sn s0 => ?_) (fun no => ?_)
    · refine X1_onlyStepWith_sp hn.2.2.1 t8 al_148 (ac_TA hn) (by omega) (fun t ht tn t0 => ?_) (fun no => ?_)
      · refine ⟨fun e => absurd e (nI_M (by omega)), fun _ => ⟨fun e => absurd e (nI_M (by omega)), fun _ => ?_⟩⟩
        rw [nI_EQ (by omega) (by omega)]
        have aG : ∀ x, one (col n.2.1 p) 8 = some x → x = s ∧ nG n (10 * s + p) = 1 := fun x e => only_one (f := col n.2.1 p) t8 sn s0 oG hs e
        have aT : ∀ x, one (col n.1 p) 8 = some x → x = t ∧ nT n (10 * t + p) = 1 := fun x e => only_one (f := col n.1 p) t8 tn t0 oT ht e
        have no1 : (nG n (10 * s + p) = 1 → nT n (10 * t + p) = 1 → ¬ (s ≠ t ∧ one (row n.1 t) 10 = some p ∧ ∀ q, q < 10 → q = p ∨ nG n (10 * s + q) + nG n (10 * t + q) ≤ 3)) → g5 n p = none := fun hno => by
          apply nogo
          cases oG' : one (col n.2.1 p) 8 with
          | none => rfl
          | some x => cases oT' : one (col n.1 p) 8 with
            | none => rfl
            | some y =>
              obtain ⟨rfl, f1⟩ := aG x oG'
              obtain ⟨rfl, f2⟩ := aT y oT'
              exact ifP_f (hno f1 f2)
        refine ⟨fun e => z0 (no1 (fun _ _ z => z.1 e)), fun hne => ?_⟩
        refine X5_isJoint_sp hn (by omega) (by omega) (by omega) (fun j1 j2 j3 j4 => ?_) (fun j => ?_)
        · refine ⟨fun e => absurd e (by decide), fun _ => ?_⟩
          have o1 := only_of (f := col n.2.1 p) t8 j1 s0 oG hs
          have o2 := only_of (f := col n.1 p) t8 j2 t0 oT ht
          have hg : g5 n p = some (5, some p, some t, dS (dP (j5 n s t) p) t) := by
            unfold g5
            rw [ifP_t ⟨b_ofn e1, e2⟩, o1, o2]
            refine ifP_t ⟨hne, one_of (by omega) j2 (fun i hi hni => ?_), fun q hq => ?_⟩
            · rcases Nat.eq_zero_or_pos (row n.1 t i) with z | z
              · exact z
              · exact absurd ((j3 i hi).mp (Nat.pos_iff_ne_zero.mp z)) hni
            · rcases Nat.lt_or_ge q tp with z | z
              · exact Or.inr (j4 q z)
              · rw [wf_G0p w hq z, wf_G0p w hq z]; exact Or.inr (by omega)
          refine X5_join5_sp (by omega) (by omega) hne hn.2.1 t10 ?_
          exact note_C (k := 5) (p := some p) (s := some t) hc hc18 (fun x e => by cases e; omega) (fun x e => by cases e; omega) (fun b h1 _ => sA_ne h1) rfl (jF_enc hn (by omega) (by omega)) ((z1 _ hg).2 _ rfl)
        · refine ⟨fun _ => z0 (no1 (fun f1 f2 z => j ⟨f1, f2, fun q hq => ?_, fun q hq => ?_⟩)), fun e => absurd rfl e⟩
          · obtain ⟨a, b, c⟩ := one_some z.2.1
            refine ⟨fun y => ?_, fun y => by rw [y]; omega⟩
            by_cases x : q = p
            · exact x
            · exact absurd (c q hq x) y
          · rcases z.2.2 q (by omega) with y | y
            · rw [y, f1]
              have : nG n (10 * t + p) = 0 := s0 t ht (fun e => hne e.symm)
              omega
            · exact y
      · refine ⟨fun _ => z0 (nogo ?_), fun _ => ⟨fun _ => z0 (nogo ?_), fun e => absurd rfl e⟩⟩
        · rw [only_no (f := col n.1 p) t8 oT no]; unfold h5; split <;> first | rfl | (rename_i h; cases h)
        · rw [only_no (f := col n.1 p) t8 oT no]; unfold h5; split <;> first | rfl | (rename_i h; cases h)
    · have hz : g5 n p = none := nogo (by rw [only_no (f := col n.2.1 p) t8 oG no]; rfl)
      exact X1_onlyStepWith_sp hn.2.2.1 t8 al_148 (ac_TA hn) (by omega) (fun t ht tn t0 => ⟨fun _ => z0 hz, fun e => absurd rfl e⟩) (fun _ => ⟨fun _ => z0 hz, fun e => absurd rfl e⟩)
