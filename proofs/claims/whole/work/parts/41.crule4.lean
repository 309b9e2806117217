/-! rule 6 of the class -/
theorem sm_out {f : Nat → Nat} {m : Nat} : ∀ {n : Nat}, m ≤ n → (∀ j, m ≤ j → j < n → f j = 0) → sm f n = sm f m
  | 0, h, _ => by cases Nat.le_zero.mp h; rfl
  | n + 1, h, hc => by
    rcases Nat.lt_or_ge n m with q | q
    · rw [show m = n + 1 by omega]
    · rw [sm, hc n q (by omega), sm_out q (fun j h1 h2 => hc j h1 (by omega))]; rfl
theorem bitAt_one {p : Nat} {M : Mem} {K : Int32 → Mem → Prop} (hp : p < 10) (h : K (nI p) M) : f_X8_bitAt (nI (2 ^ p)) 0 M K := by
  have hpw : 2 ^ p < 1024 := Nat.lt_of_lt_of_le (Nat.pow_lt_pow_right (by omega) hp) (Nat.le_refl (2 ^ 10))
  refine X8_bitAt_sp (k := 0) (by omega) (by omega) (fun j hj hb _ => ?_) (fun hz => ?_)
  · rw [tb_one] at hb; rw [← of_decide_eq_true hb]; exact h
  · have := ctB_lt (c := fun i => (2 ^ p).testBit i) hp (by show (2 ^ p).testBit p = true; rw [tb_one]; exact decide_eq_true rfl)
    omega
theorem X5_canJoin_sp {n : NN} {tp ts p q : Nat} {M : Mem} {K : Int32 → Mem → Prop} (hn : atC M 147 n tp ts) (hp : p < 10) (hq : q < 10)
    (h1 : nH n p + nH n q ≤ 999 → (∀ u, u < ts → nG n (10 * u + p) + nG n (10 * u + q) ≤ 3) → K 1 M)
    (h0 : ¬ (nH n p + nH n q ≤ 999 ∧ ∀ u, u < ts → nG n (10 * u + p) + nG n (10 * u + q) ≤ 3) → K 0 M) : f_X5_canJoin (nI p) (nI q) M K := by
  have w := hn.2.2.2
  have t8 := w.2.1
  have b1 := wf_H w p
  have b2 := wf_H w q
  unfold f_X5_canJoin
  simp (disch := omega) only [forall_eq, gI, ix_z, m_10, m10_, m_80, m80_, m300_, m8_, m_8, nI_add, nI_A1, nI_E1, nI_L1, nI_1L, nI_1l, vp_nI, nI_LE, nI_LT, nI_EQ, nI_CL, nI_Z, l_2, l_3, l_4, l_5, l_6, l_7, l_8, l_9, l_10, l_11, l_12, l_13, l_14, l_15, l_16, l_17, l_18, l_19, l_20, l_21, l_22, l_23, l_24, l_25, l_26, l_27, l_28, l_29, l_30, l_32, l_48, l_57, l_59, l_63, l_80, l_96, l_97, l_99, l_122, l_128, l_160, l_170, l_171, l_172, l_200, l_240, l_255, l_256, l_260, l_300, l_900, l_999, l_1023, l_1024, l_1296, l_2064, l_2400, l_3010, l_4800, l_6000, l_600, l_10000, show M.1 150 p = nI (nH n p) from ac_H hn (by omega), show M.1 150 q = nI (nH n q) from ac_H hn (by omega)]
  refine ⟨by omega, by omega, fun e1 => ?_, fun e => h0 (fun z => e z.1)⟩
  refine lpA (fun u => decide (nG n (10 * u + p) + nG n (10 * u + q) ≤ 3)) (fun b => K (bI b) M) (fun k j => L_X5_canJoin_29 (nI p) (nI q) _ K k (nI j) M) ts ?_ (fun e k => ?_) (fun j hj k i1 i0 => ?_)
  · cases z : allB (fun u => decide (nG n (10 * u + p) + nG n (10 * u + q) ≤ 3)) ts
    · refine h0 (fun y => ?_)
      rw [(allB_iff (c := fun u => decide (nG n (10 * u + p) + nG n (10 * u + q) ≤ 3))).mpr (fun j hj => decide_eq_true (y.2 j hj))] at z
      cases z
    · rw [allB_iff] at z
      exact h1 e1 (fun j hj => of_decide_eq_true (z j hj))
  · rw [L_X5_canJoin_29]; simp (disch := omega) only [hn.2.2.1, nI_LE]
    exact ⟨fun _ => e, by omega⟩
  · have b3 := wf_G3 w (10 * j + p)
    have b4 := wf_G3 w (10 * j + q)
    rw [L_X5_canJoin_29]
    simp (disch := omega) only [hn.2.2.1, forall_eq, gI, ix_z, m_10, m10_, m_80, m80_, m300_, m8_, m_8, nI_add, nI_A1, nI_E1, nI_L1, nI_1L, nI_1l, vp_nI, nI_LE, nI_LT, nI_EQ, nI_CL, nI_Z, l_2, l_3, l_4, l_5, l_6, l_7, l_8, l_9, l_10, l_11, l_12, l_13, l_14, l_15, l_16, l_17, l_18, l_19, l_20, l_21, l_22, l_23, l_24, l_25, l_26, l_27, l_28, l_29, l_30, l_32, l_48, l_57, l_59, l_63, l_80, l_96, l_97, l_99, l_122, l_128, l_160, l_170, l_171, l_172, l_200, l_240, l_255, l_256, l_260, l_300, l_900, l_999, l_1023, l_1024, l_1296, l_2064, l_2400, l_3010, l_4800, l_6000, l_600, l_10000, show M.1 149 (10 * j + p) = nI (nG n (10 * j + p)) from ac_G hn (by omega), show M.1 149 (10 * j + q) = nI (nG n (10 * j + q)) from ac_G hn (by omega)]
    exact ⟨by omega, fun _ => ⟨by omega, by omega, fun e => i1 (decide_eq_true e), fun e => i0 (decide_eq_false e)⟩⟩
def kF (f : Nat → Int32) (p q k : Nat) : Nat → Int32 := fun i => if i % 10 = q ∧ i / 10 < k then f i + f (10 * (i / 10) + p) else f i
theorem kF_0 (f : Nat → Int32) (p q : Nat) : kF f p q 0 = f := by funext i; unfold kF; rw [if_neg (by omega)]
theorem kF_s (f : Nat → Int32) {p q k : Nat} (hq : q < 10) : upd (kF f p q k) (10 * k + q) (f (10 * k + q) + f (10 * k + p)) = kF f p q (k + 1) := by
  funext i
  by_cases h : i = 10 * k + q
  · subst h; rw [upd_at]; unfold kF; rw [if_pos ⟨by omega, by omega⟩, (md hq).2]
  · rw [upd_no h]; unfold kF
    by_cases h2 : i % 10 = q ∧ i / 10 < k
    · rw [if_pos h2, if_pos ⟨h2.1, by omega⟩]
    · rw [if_neg h2, if_neg (fun z => h2 ⟨z.1, by omega⟩)]
theorem X5_join6_sp {p q ts : Nat} {v : Int32} {M : Mem} {X : Mem → Prop} {K : Int32 → Mem → Prop} (hp : p < 10) (hq : q < 10) (hpq : p ≠ q) (hts : M.1 147 4 = nI ts) (h8 : ts ≤ 8) (h : X (sA M 149 (kF (M.1 149) p q ts))) : ∃ n, L_X5_joinPlaces_170 v (nI p) (nI q) X K n 0 M := by
  have e0 : M = sA M 149 (kF (M.1 149) p q 0) := by rw [kF_0, sA_id]
  have key : ∃ n, L_X5_joinPlaces_170 v (nI p) (nI q) X K n (nI 0) (sA M 149 (kF (M.1 149) p q 0)) := by
    refine upT (fun n j => L_X5_joinPlaces_170 v (nI p) (nI q) X K n (nI j) (sA M 149 (kF (M.1 149) p q j))) 0 ts (by omega) (fun n => ?_) (fun j _ hj n ih => ?_)
    · rw [L_X5_joinPlaces_170, sA_ne (by decide), hts]
      exact ⟨fun _ => h, fun z => absurd (by rw [nI_LE (by omega) (by omega)]; exact Nat.le_refl _) z⟩
    · rw [L_X5_joinPlaces_170, sA_ne (by decide), hts]
      simp (disch := omega) only [forall_eq, gI, ix_z, m_10, m10_, m_80, m80_, m300_, m8_, m_8, nI_add, nI_A1, nI_E1, nI_L1, nI_1L, nI_1l, vp_nI, nI_LE, nI_LT, nI_EQ, nI_CL, nI_Z, l_2, l_3, l_4, l_5, l_6, l_7, l_8, l_9, l_10, l_11, l_12, l_13, l_14, l_15, l_16, l_17, l_18, l_19, l_20, l_21, l_22, l_23, l_24, l_25, l_26, l_27, l_28, l_29, l_30, l_32, l_48, l_57, l_59, l_63, l_80, l_96, l_97, l_99, l_122, l_128, l_160, l_170, l_171, l_172, l_200, l_240, l_255, l_256, l_260, l_300, l_900, l_999, l_1023, l_1024, l_1296, l_2064, l_2400, l_3010, l_4800, l_6000, l_600, l_10000]
      refine ⟨by omega, fun _ => ⟨by omega, by omega, ?_⟩⟩
      rw [wI_of_sA, sA_eq, show kF (M.1 149) p q j (10 * j + q) = M.1 149 (10 * j + q) by unfold kF; rw [if_neg (by omega)], show kF (M.1 149) p q j (10 * j + p) = M.1 149 (10 * j + p) by unfold kF; rw [if_neg (by omega)], kF_s _ (by omega)]
      exact ih
  rw [← e0] at key
  exact key
theorem kF_enc {n : NN} {M M1 : Mem} {tp ts p q : Nat} (hn : atC M 147 n tp ts) (hp : p < 10) (hq : q < 10) (e1 : M1 = wI M 150 q (nI (nH n q) + nI (nH n p))) : toR (nt (sA M1 149 (kF (M1.1 149) p q ts)) 147) = enc (j6 n p q) := by
  have w := hn.2.2.2
  have e149 : M1.1 149 = M.1 149 := by rw [e1]; exact w1_ne (by decide)
  have e148 : M1.1 148 = M.1 148 := by rw [e1]; exact w1_ne (by decide)
  have e147 : M1.1 147 = M.1 147 := by rw [e1]; exact w1_ne (by decide)
  have e150 : M1.1 150 = upd (M.1 150) q (nI (nH n q) + nI (nH n p)) := by rw [e1]; exact w1_eq
  refine r5 ?_ ?_ ?_ ?_ ?_
  · show tr 80 (M1.1 148) = _
    rw [e148]
    exact congrArg (·.1) hn.1
  · show tr 80 (kF (M1.1 149) p q ts) = fun i => nI (if i % 10 = q ∧ i < 80 then nG n i + nG n (10 * (i / 10) + p) else nG n i)
    rw [e149]
    funext i
    unfold tr
    by_cases hi : i < 80
    · rw [if_pos hi]
      unfold kF
      have f1 : M.1 149 i = nI (nG n i) := ac_G hn hi
      have f2 : M.1 149 (10 * (i / 10) + p) = nI (nG n (10 * (i / 10) + p)) := ac_G hn (by omega)
      by_cases z : i % 10 = q
      · rw [if_pos (c := i % 10 = q ∧ i < 80) ⟨z, hi⟩, ← nI_add, f1]
        by_cases z2 : i / 10 < ts
        · rw [if_pos ⟨z, z2⟩, f2]
        · rw [if_neg (fun y => z2 y.2), wf_G0s (s := i / 10) w hp (by omega)]; exact (Int32.add_zero _).symm
      · rw [if_neg (fun y => z y.1), if_neg (fun y => z y.1), f1]
    · rw [if_neg hi, if_neg (fun y => hi y.2)]
      rcases Nat.eq_zero_or_pos (nG n i) with z | z
      · rw [z]; rfl
      · exact absurd (wf_Gn w (by omega)).1 hi
  · show tr 10 (M1.1 150) = fun i => nI (if i = q then nH n q + nH n p else nH n i)
    rw [e150]
    funext i
    have hH : tr 10 (M.1 150) i = nI (nH n i) := congrFun (congrArg (·.2.2.1) hn.1) i
    by_cases z : i = q
    · subst z; rw [tr_in hq, upd_at, if_pos rfl, nI_add]
    · rw [if_neg z, ← hH]
      unfold tr
      rw [upd_no z]
  · show M1.1 147 5 = _
    rw [e147]
    exact congrArg (·.2.2.2.1) hn.1
  · show M1.1 147 6 = _
    rw [e147]
    exact congrArg (·.2.2.2.2) hn.1
theorem X5_joinPlaces_sp {n : NN} {tp ts c : Nat} {M : Mem} {K : Int32 → Mem → Prop} (hn : atC M 147 n tp ts) (hc : M.1 146 4 = nI c) (hc18 : c < 18) (h : QC M K c (rl6 n)) : f_X5_joinPlaces M K := by
  have w := hn.2.2.2
  have t10 := w.1
  have t8 := w.2.1
  rw [rl6_tp w] at h
  unfold f_X5_joinPlaces
  refine lpF _ (QC M K c) (fun k j => L_X5_joinPlaces_2 (fun M_8 => K 0 M_8) K k (nI j) M) 0 ts (Nat.zero_le _) h (fun e k => ?_) (fun s _ hs k z0 z1 => ?_)
  · rw [L_X5_joinPlaces_2]; simp (disch := omega) only [hn.2.2.1, forall_eq, gI, ix_z, m_10, m10_, m_80, m80_, m300_, m8_, m_8, nI_add, nI_A1, nI_E1, nI_L1, nI_1L, nI_1l, vp_nI, nI_LE, nI_LT, nI_EQ, nI_CL, nI_Z, l_2, l_3, l_4, l_5, l_6, l_7, l_8, l_9, l_10, l_11, l_12, l_13, l_14, l_15, l_16, l_17, l_18, l_19, l_20, l_21, l_22, l_23, l_24, l_25, l_26, l_27, l_28, l_29, l_30, l_32, l_48, l_57, l_59, l_63, l_80, l_96, l_97, l_99, l_122, l_128, l_160, l_170, l_171, l_172, l_200, l_240, l_255, l_256, l_260, l_300, l_900, l_999, l_1023, l_1024, l_1296, l_2064, l_2400, l_3010, l_4800, l_6000, l_600, l_10000]
    exact ⟨fun _ => e.1 rfl, by omega⟩
  · rw [L_X5_joinPlaces_2]; simp (disch := omega) only [hn.2.2.1, nI_LE, nI_A1]
    have nogo : h6 n s (one (row n.1 s) 10) (one (row n.2.1 s) 10) = none → g6 n s = none := fun e => by unfold g6; rw [e]; unfold ifP; split <;> rfl
    refine ⟨by omega, fun _ => X1_hasStep_nn hn (by omega) ⟨fun e => z0 (ifP_f (fun z => by rw [b_of0 e] at z; exact absurd z (by decide))), fun e1 => ?_⟩⟩
    have sT : sm (row n.1 s) 10 = sm (row n.1 s) tp := sm_out t10 (fun j a b => wf_T0p w b a)
    have sG : sm (row n.2.1 s) 10 = sm (row n.2.1 s) tp := sm_out t10 (fun j a b => wf_G0p w b a)
    have lT : sm (row n.1 s) tp ≤ tp * 3 := sm_le (fun i => wf_T3 w _) tp
    have lG : sm (row n.2.1 s) tp ≤ tp * 3 := sm_le (fun i => wf_G3 w _) tp
    refine X1_allOfStep_sp hn.2.1 t10 al_148 (by omega) ?_
    rw [sumN_nI (g := row n.1 s) (fun i hi => ac_T hn (by omega)), nI_E1 (by omega)]
    refine ⟨fun e => z0 (nogo (by rw [one_sm, if_neg (by omega)]; rfl)), fun e2 => ?_⟩
    refine X1_allOfStep_sp hn.2.1 t10 al_149 (by omega) ?_
    rw [sumN_nI (g := row n.2.1 s) (fun i hi => ac_G hn (by omega)), nI_E1 (by omega)]
    refine ⟨fun e3 => ?_, fun e => z0 (nogo (by rw [one_sm (f := row n.2.1 s), if_neg (by omega)]; cases one (row n.1 s) 10 <;> rfl))⟩
    obtain ⟨p, p10, _, p1, p0⟩ := sm_1 (f := row n.1 s) (n := 10) (by omega)
    obtain ⟨q, q10, _, q1, q0⟩ := sm_1 (f := row n.2.1 s) (n := 10) (by omega)
    have oT := one_of p10 p1 p0
    have oG := one_of q10 q1 q0
    have aT : aks (M.1 (147 + 1)) s = 2 ^ p := (aks_one (ac_TA hn) (by omega) p10).mpr (fun x hx => ⟨fun y => by
      by_cases z : x = p
      · exact z
      · exact absurd (p0 x hx z) y, fun y => by rw [y]; show row n.1 s p ≠ 0; omega⟩)
    have aG : aks (M.1 (147 + 2)) s = 2 ^ q := (aks_one (ac_GA hn) (by omega) q10).mpr (fun x hx => ⟨fun y => by
      by_cases z : x = q
      · exact z
      · exact absurd (q0 x hx z) y, fun y => by rw [y]; show row n.2.1 s q ≠ 0; omega⟩)
    have pP : (nP n).testBit p = true := by
      have := (wf_Tn w (i := 10 * s + p) (by show row n.1 s p ≠ 0; omega)).2.1
      rw [(md p10).1] at this; exact this
    have qP : (nP n).testBit q = true := by
      have := (wf_Gn w (i := 10 * s + q) (by show row n.2.1 s q ≠ 0; omega)).2.1
      rw [(md q10).1] at this; exact this
    have no1 : ¬ (p ≠ q ∧ one (col n.1 p) 8 = some s ∧ nH n p + nH n q ≤ 999 ∧ ∀ t, t < 8 → t = s ∨ nG n (10 * t + p) + nG n (10 * t + q) ≤ 3) → g6 n s = none := fun hno => nogo (by rw [oT, oG]; exact ifP_f hno)
    refine X1_takenFrom_sp hn.2.1 t10 al_148 (by omega) (ac_oT hn) ?_
    rw [aT]
    refine bitAt_one p10 ?_
    refine X1_givenTo_sp hn.2.1 t10 al_149 (by omega) (ac_oG hn) ?_
    rw [aG]
    refine bitAt_one q10 ?_
    rw [nI_EQ (by omega) (by omega)]
    refine ⟨fun e => z0 (no1 (fun z => z.1 e)), fun hpq => X1_hasPlace_nn hn p10 ?_⟩
    rw [pP]
    refine ⟨fun e => absurd e (by decide), fun _ => X1_hasPlace_nn hn q10 ?_⟩
    rw [qP]
    refine ⟨fun e => absurd e (by decide), fun _ => ?_⟩
    have oT8 : ∀ i, ts ≤ i → i < 8 → col n.1 p i = 0 := fun i a _ => wf_T0s w (by omega) a
    refine X1_onlyStepWith_sp hn.2.2.1 t8 al_148 (ac_TA hn) (by omega) (fun t ht tn t0 => ?_) (fun no => ?_)
    · have : t = s := by
        by_cases z : s = t
        · exact z.symm
        · have := t0 s hs z
          have p1' : n.1 (10 * s + p) = 1 := p1
          omega
      subst this
      refine ⟨fun e => absurd rfl e, fun _ => ?_⟩
      have o8 := only_of (f := col n.1 p) t8 p1 t0 oT8 ht
      refine X5_canJoin_sp hn p10 q10 (fun j1 j2 => ⟨fun e => absurd e (by decide), fun _ => ?_⟩) (fun j => ⟨fun _ => z0 (no1 (fun z => j ⟨z.2.2.1, fun u hu => ?_⟩)), fun e => absurd rfl e⟩)
      · have hg : g6 n t = some (6, some p, some t, dS (dP (j6 n p q) p) t) := by
          unfold g6
          rw [ifP_t (b_ofn e1), oT, oG]
          refine ifP_t ⟨hpq, o8, j1, fun u hu => ?_⟩
          rcases Nat.lt_or_ge u ts with z | z
          · exact Or.inr (j2 u z)
          · rw [wf_G0s w p10 z, wf_G0s w q10 z]; exact Or.inr (by omega)
        have b1 := wf_H w p
        have b2 := wf_H w q
        simp (disch := omega) only [forall_eq, gI, ix_z, m_10, m10_, m_80, m80_, m300_, m8_, m_8, nI_add, nI_A1, nI_E1, nI_L1, nI_1L, nI_1l, vp_nI, nI_LE, nI_LT, nI_EQ, nI_CL, nI_Z, l_2, l_3, l_4, l_5, l_6, l_7, l_8, l_9, l_10, l_11, l_12, l_13, l_14, l_15, l_16, l_17, l_18, l_19, l_20, l_21, l_22, l_23, l_24, l_25, l_26, l_27, l_28, l_29, l_30, l_32, l_48, l_57, l_59, l_63, l_80, l_96, l_97, l_99, l_122, l_128, l_160, l_170, l_171, l_172, l_200, l_240, l_255, l_256, l_260, l_300, l_900, l_999, l_1023, l_1024, l_1296, l_2064, l_2400, l_3010, l_4800, l_6000, l_600, l_10000, show M.1 150 p = nI (nH n p) from ac_H hn (by omega), show M.1 150 q = nI (nH n q) from ac_H hn (by omega)]
        refine ⟨by omega, by omega, ?_⟩
        refine X5_join6_sp p10 q10 hpq (by rw [w1_ne (by decide)]; exact hn.2.2.1) t8 ?_
        rw [← nI_add]
        exact note_C (k := 6) (p := some p) (s := some t) hc hc18 (fun x e => by cases e; omega) (fun x e => by cases e; omega) (fun b h1 h2 => by rw [sA_ne h1, w1_ne h2]) rfl (kF_enc hn p10 q10 rfl) ((z1 _ hg).2 _ rfl)
      · rcases z.2.2.2 u (by omega) with y | y
        · rw [y]
          have y1 : nG n (10 * t + q) = 1 := q1
          have y2 : nG n (10 * t + p) = 0 := q0 p p10 hpq
          omega
        · exact y
    · exact ⟨fun _ => z0 (no1 (fun z => by rw [only_no (f := col n.1 p) t8 oT8 no] at z; cases z.2.1)), fun e => absurd e.symm (nI_M (by omega))⟩
