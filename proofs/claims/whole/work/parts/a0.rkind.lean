/-! the reference: kind -/
theorem bI_and1 (b : Bool) : bI b &&& 1 = bI b := bI_z b
theorem bI_and0 (b : Bool) : bI b &&& 0 = 0 := by cases b <;> rfl
theorem isOne_sp {s : Nat} {b : Bool} {n : NN} {tp ts : Nat} {M : Mem} {K : Int32 → Mem → Prop} (hn : rt M 0 = enc n) (w : WF n tp ts) (hs : s < 8) (k : K (bI (decide (sm (fun p => (if b then nT n (10 * s + p) else nG n (10 * s + p))) 10 = 1))) M) : f_X9_isOne (nI s) (bI b) M K := by
  have rT : ∀ i, i < 80 → M.1 1 i = nI (nT n i) := fun i hi => by have := rt_T hn hi; rw [Nat.mul_zero, Nat.zero_add] at this; exact this
  have rG : ∀ i, i < 80 → M.1 2 i = nI (nG n i) := fun i hi => by have := rt_G hn hi; rw [Nat.mul_zero, Nat.zero_add] at this; exact this
  have l3 : ∀ i, (if b then nT n (10 * s + i) else nG n (10 * s + i)) ≤ 3 := fun i => by cases b; exact wf_G3 w _; exact wf_T3 w _
  have a := sm_30 (f := fun p => (if b then nT n (10 * s + p) else nG n (10 * s + p))) l3 10 (by omega)
  refine upT (fun m j => L_X9_isOne_5 (nI s) (bI b) (fun (v3_2 : Int32) (M_4 : Mem) => ((¬ v3_2 = (1 : Int32) → K (0 : Int32) M_4) ∧ (v3_2 = (1 : Int32) → K (1 : Int32) M_4))) K m (nI (sm (fun p => (if b then nT n (10 * s + p) else nG n (10 * s + p))) j)) (nI j) M) 0 10 (Nat.zero_le _) (fun m => ?_) (fun j _ hj m ih => ?_)
  · rw [L_X9_isOne_5, l_10, nI_LE (by omega) (by omega)]
    refine ⟨fun _ => ?_, fun y => absurd (Nat.le_refl _) y⟩
    rw [nI_E1 (by omega)]
    exact ⟨fun q => k_f k (decide_eq_false q), fun q => k_t k (decide_eq_true q)⟩
  · rw [sm] at ih
    have vp : vp_in (nI (10 * s + j)) 240 := (vp_nI (by omega) (by omega)).mpr (by omega)
    rw [L_X9_isOne_5, l_10, nI_LE (by omega) (by omega), nI_A1]
    refine ⟨by omega, fun _ => ⟨fun q => arc0_sp hs hj ⟨vp, fun x e => ?_⟩, fun q => arc0_sp hs hj ⟨vp, fun x e => ?_⟩⟩⟩
    · have eb := b_of0 q
      rw [eb] at ih ⊢ e
      rw [e, gI, nI_CL (by omega), rG _ (by omega), nI_add]
      exact ih
    · have eb := b_ofn q
      rw [eb] at ih ⊢ e
      rw [e, gI, nI_CL (by omega), rT _ (by omega), nI_add]
      exact ih
theorem isOneAt_sp {p : Nat} {b : Bool} {n : NN} {tp ts : Nat} {M : Mem} {K : Int32 → Mem → Prop} (hn : rt M 0 = enc n) (w : WF n tp ts) (hp : p < 10) (k : K (bI (decide (sm (fun s => (if b then nT n (10 * s + p) else nG n (10 * s + p))) 8 = 1))) M) : f_X9_isOneAt (nI p) (bI b) M K := by
  have rT : ∀ i, i < 80 → M.1 1 i = nI (nT n i) := fun i hi => by have := rt_T hn hi; rw [Nat.mul_zero, Nat.zero_add] at this; exact this
  have rG : ∀ i, i < 80 → M.1 2 i = nI (nG n i) := fun i hi => by have := rt_G hn hi; rw [Nat.mul_zero, Nat.zero_add] at this; exact this
  have l3 : ∀ i, (if b then nT n (10 * i + p) else nG n (10 * i + p)) ≤ 3 := fun i => by cases b; exact wf_G3 w _; exact wf_T3 w _
  have a := sm_30 (f := fun s => (if b then nT n (10 * s + p) else nG n (10 * s + p))) l3 8 (by omega)
  refine upT (fun m j => L_X9_isOneAt_5 (nI p) (bI b) (fun (v3_2 : Int32) (M_4 : Mem) => ((¬ v3_2 = (1 : Int32) → K (0 : Int32) M_4) ∧ (v3_2 = (1 : Int32) → K (1 : Int32) M_4))) K m (nI (sm (fun s => (if b then nT n (10 * s + p) else nG n (10 * s + p))) j)) (nI j) M) 0 8 (Nat.zero_le _) (fun m => ?_) (fun j _ hj m ih => ?_)
  · rw [L_X9_isOneAt_5, l_8, nI_LE (by omega) (by omega)]
    refine ⟨fun _ => ?_, fun y => absurd (Nat.le_refl _) y⟩
    rw [nI_E1 (by omega)]
    exact ⟨fun q => k_f k (decide_eq_false q), fun q => k_t k (decide_eq_true q)⟩
  · rw [sm] at ih
    have vp : vp_in (nI (10 * j + p)) 240 := (vp_nI (by omega) (by omega)).mpr (by omega)
    rw [L_X9_isOneAt_5, l_8, nI_LE (by omega) (by omega), nI_A1]
    refine ⟨by omega, fun _ => ⟨fun q => arc0_sp hj hp ⟨vp, fun x e => ?_⟩, fun q => arc0_sp hj hp ⟨vp, fun x e => ?_⟩⟩⟩
    · have eb := b_of0 q
      rw [eb] at ih ⊢ e
      rw [e, gI, nI_CL (by omega), rG _ (by omega), nI_add]
      exact ih
    · have eb := b_ofn q
      rw [eb] at ih ⊢ e
      rw [e, gI, nI_CL (by omega), rT _ (by omega), nI_add]
      exact ih
theorem isFair_sp {s t : Nat} {n : NN} {tp ts : Nat} {M : Mem} {K : Int32 → Mem → Prop} (hn : rt M 0 = enc n) (w : WF n tp ts) (hs : s < 8) (ht : t < 8) (k : K (bI (pB (fairS n s t))) M) : f_X9_isFair (nI s) (nI t) M K := by
  have rT : ∀ i, i < 80 → M.1 1 i = nI (nT n i) := fun i hi => by have := rt_T hn hi; rw [Nat.mul_zero, Nat.zero_add] at this; exact this
  refine upT (fun m j => L_X9_isFair_8 (nI s) (nI t) (fun (v3_2 : Int32) (v4_2 : Int32) (M_4 : Mem) => ((v3_2 = 0 → K (1 : Int32) M_4) ∧ (¬ v3_2 = 0 → ((v4_2 = 0 → K (0 : Int32) M_4) ∧ (¬ v4_2 = 0 → K (1 : Int32) M_4))))) K m (bI (!allB (fun p => decide (nT n (10 * s + p) = 0) || decide (nT n (10 * t + p) = 0)) j)) (bI (allB (fun p => decide (nT n (10 * s + p) = nT n (10 * t + p))) j)) (nI j) M) 0 10 (Nat.zero_le _) (fun m => ?_) (fun j _ hj m ih => ?_)
  · rw [L_X9_isFair_8, l_10, nI_LE (by omega) (by omega)]
    refine ⟨fun _ => ⟨fun q => k_t k (pB_t (fun ⟨p, p1, p2, p3⟩ => ?_)), fun q => ⟨fun q2 => k_f k (pB_f (fun f => ?_)), fun q2 => k_t k (pB_t (fun _ p hp => ?_))⟩⟩, fun y => absurd (Nat.le_refl _) y⟩
    · have q := b_of0 q
      have : allB (fun p => decide (nT n (10 * s + p) = 0) || decide (nT n (10 * t + p) = 0)) 10 = true := by
        cases e : allB (fun p => decide (nT n (10 * s + p) = 0) || decide (nT n (10 * t + p) = 0)) 10
        · rw [e] at q; cases q
        · rfl
      have := allB_iff.mp this p p1
      rw [decide_eq_false p2, decide_eq_false p3] at this
      cases this
    · have q := b_ofn q
      have ex : ∃ p, p < 10 ∧ nT n (10 * s + p) ≠ 0 ∧ nT n (10 * t + p) ≠ 0 := Classical.byContradiction fun y => by
        rw [allB_iff.mpr (fun p hp => ?_)] at q
        · cases q
        · by_cases z1 : nT n (10 * s + p) = 0
          · rw [decide_eq_true z1, Bool.true_or]
          · by_cases z2 : nT n (10 * t + p) = 0
            · rw [decide_eq_true z2, Bool.or_true]
            · exact absurd ⟨p, hp, z1, z2⟩ y
      have g := f ex
      have := b_of0 q2
      rw [allB_iff.mpr (fun p hp => decide_eq_true (g p hp))] at this
      cases this
    · exact of_decide_eq_true (allB_iff.mp (b_ofn q2) p hp)
  · have l1 := wf_T3 w (10 * s + j)
    have l2 := wf_T3 w (10 * t + j)
    rw [allB, allB] at ih
    rw [L_X9_isFair_8, l_10, nI_LE (by omega) (by omega), nI_A1]
    refine ⟨by omega, fun _ => arc0_sp hs hj ⟨(vp_nI (by omega) (by omega)).mpr (by omega), fun x6 e6 => arc0_sp ht hj ⟨(vp_nI (by omega) (by omega)).mpr (by omega), fun x7 e7 x3 e3 => ?_⟩⟩⟩
    rw [gI, nI_CL (by omega), rT _ (by omega)] at e6 e7
    rw [e6, e7] at e3
    have L1 : (nI (nT n (10 * s + j)) ≤ 0) = (nT n (10 * s + j) = 0) := nI_L0 (by omega)
    have L2 : (nI (nT n (10 * t + j)) ≤ 0) = (nT n (10 * t + j) = 0) := nI_L0 (by omega)
    have e3' : x3 = bI (!(allB (fun p => decide (nT n (10 * s + p) = 0) || decide (nT n (10 * t + p) = 0)) j && (decide (nT n (10 * s + j) = 0) || decide (nT n (10 * t + j) = 0)))) := by
      rw [e3]
      by_cases z1 : nT n (10 * s + j) = 0
      · rw [if_pos (by rw [L1]; exact z1), or0, decide_eq_true z1, Bool.true_or, Bool.and_true]
      · rw [if_neg (by rw [L1]; exact z1)]
        by_cases z2 : nT n (10 * t + j) = 0
        · rw [if_pos (by rw [L2]; exact z2), or0, decide_eq_true z2, Bool.or_true, Bool.and_true]
        · rw [if_neg (by rw [L2]; exact z2), decide_eq_false z1, decide_eq_false z2, Bool.or_false, Bool.and_false]
          cases allB (fun p => decide (nT n (10 * s + p) = 0) || decide (nT n (10 * t + p) = 0)) j <;> rfl
    rw [e6, e7, nI_EQ (by omega) (by omega)]
    refine ⟨fun q x4 e4 => ?_, fun q x4 e4 => ?_⟩
    · rw [decide_eq_false q, Bool.and_false] at ih
      rw [e4, bI_and0, e3']; exact ih
    · rw [decide_eq_true q, Bool.and_true] at ih
      rw [e4, bI_and1, e3']; exact ih
/-- what is asked of a step, of a place -/
def kqS (n : NN) (v : Int32) (s : Nat) : Prop := (nS n).testBit s = true → (v = 0 → oneS n s) ∧ (v = 2 → ∀ t, t < s → (nS n).testBit t = true → fairS n s t)
def kqP (n : NN) (v : Int32) (p : Nat) : Prop := v = 1 → (nP n).testBit p = true → oneP n p
theorem pB_a1 {P Q : Prop} (h : Q) : pB P = pB (P ∧ Q) := pB_cong ⟨fun x => ⟨x, h⟩, fun x => x.1⟩
theorem pB_a0 {P Q : Prop} (h : ¬ Q) : pB (P ∧ Q) = false := pB_f (fun x => h x.2)
theorem isStep_r {s : Nat} {n : NN} {tp ts : Nat} {M : Mem} {K : Int32 → Mem → Prop} (hn : rt M 0 = enc n) (w : WF n tp ts) (hs : s < 8) (k : K (bI ((nS n).testBit s)) M) : f_X9_isStep (nI s) M K := by
  refine X9_isStep_sp ?_
  have := wf_S w
  rw [rt_S hn, isSt_bt hs, bt_nI (by omega) (by omega)]; exact k
theorem isPlace_r {p : Nat} {n : NN} {tp ts : Nat} {M : Mem} {K : Int32 → Mem → Prop} (hn : rt M 0 = enc n) (w : WF n tp ts) (hp : p < 10) (k : K (bI ((nP n).testBit p)) M) : f_X9_isPlace (nI p) M K := by
  refine X9_isPlace_sp ?_
  have := wf_P w
  rw [rt_P hn, isPl_bt hp, bt_nI (by omega) (by omega)]; exact k
theorem k70_sp {v : Int32} {s : Nat} {P : Prop} {n : NN} {tp ts : Nat} {M : Mem} {X K : Int32 → Mem → Prop} (hn : rt M 0 = enc n) (w : WF n tp ts) (hs : s < 8) (k : X (bI (pB (P ∧ (v = 2 → ∀ t, t < s → (nS n).testBit t = true → fairS n s t)))) M) : ∃ f, L_X9_kind_70 v (nI s) X K f (bI (pB P)) 0 M := by
  have e0 : pB P = pB (P ∧ (v = 2 → ∀ t, t < 0 → (nS n).testBit t = true → fairS n s t)) := pB_a1 (fun _ t ht => absurd ht (Nat.not_lt_zero _))
  rw [e0]
  refine upT (fun m j => L_X9_kind_70 v (nI s) X K m (bI (pB (P ∧ (v = 2 → ∀ t, t < j → (nS n).testBit t = true → fairS n s t)))) (nI j) M) 0 s (Nat.zero_le _) (fun m => ?_) (fun j _ hj m ih => ?_)
  · rw [L_X9_kind_70, nI_LE (by omega) (by omega)]
    exact ⟨fun _ => k, fun y => absurd (Nat.le_refl _) y⟩
  · have st : (v = 2 → (nS n).testBit j = true → fairS n s j) → pB (P ∧ (v = 2 → ∀ t, t < j → (nS n).testBit t = true → fairS n s t)) = pB (P ∧ (v = 2 → ∀ t, t < j + 1 → (nS n).testBit t = true → fairS n s t)) := fun h => pB_cong ⟨fun x => ⟨x.1, fun e t ht hb => by
        rcases Nat.lt_succ_iff_lt_or_eq.mp ht with y | y
        · exact x.2 e t y hb
        · rw [y] at hb ⊢; exact h e hb⟩, fun x => ⟨x.1, fun e t ht hb => x.2 e t (by omega) hb⟩⟩
    rw [L_X9_kind_70, nI_LE (by omega) (by omega), nI_A1]
    refine ⟨by omega, fun _ => ⟨fun q x e => ?_, fun q => isStep_r hn w (by omega) ⟨fun y x e => ?_, fun y => isFair_sp hn w hs (by omega) ⟨fun y2 x e => ?_, fun y2 x e => ?_⟩⟩⟩⟩
    · rw [e, bI_and1, st (fun t => absurd t q)]; exact ih
    · rw [e, bI_and1, st (fun _ t => by rw [b_of0 y] at t; cases t)]; exact ih
    · have nf : ¬ fairS n s j := fun t => by rw [pB_t t] at y2; exact absurd y2 (by decide)
      rw [pB_f (fun t => nf (t.2 q j (Nat.lt_succ_self _) (b_ofn y)))] at ih
      rw [e, bI_and0]; exact ih
    · rw [e, bI_and1, st (fun _ _ => pB_iff.mp (b_ofn y2))]; exact ih
theorem R_kind {v : Int32} {M : Mem} {z : ZS} {K : Int32 → Mem → Prop} (h : IvR M z) (k : ∀ M', IvR M' z → hiC M M' → K (aKnd z v) M') : f_X9_kind v M K := by
  unfold f_X9_kind
  intro M2 e2
  have h2 : IvR M2 z := by rw [e2]; exact IvR_0 h
  have g2 : hiC M M2 := by rw [e2]; exact hiC_w (by decide)
  obtain ⟨hn, w⟩ := h2.2.2.1
  have k := k M2 h2 g2
  unfold aKnd at k
  refine X9_in_sp ⟨fun q => ?_, fun q => ?_⟩
  · have q := in02.mp (of_decide_eq_true (b_ofn q))
    have kk : K (bI (pB ((∀ s, s < 8 → kqS (zsN z) v s) ∧ ∀ p, p < 10 → kqP (zsN z) v p))) M2 := by
      rcases q with e | e | e
      · rw [if_pos e] at k
        have : kd0 (zsN z) ↔ ((∀ s, s < 8 → kqS (zsN z) v s) ∧ ∀ p, p < 10 → kqP (zsN z) v p) := ⟨fun x => ⟨fun s hs hb => ⟨fun _ => x s hs hb, fun y => by rw [e] at y; exact absurd y (by decide)⟩, fun p hp y => by rw [e] at y; exact absurd y (by decide)⟩, fun x s hs hb => (x.1 s hs hb).1 e⟩
        rw [pB_cong this] at k; exact k
      · rw [if_neg (by rw [e]; decide), if_pos e] at k
        have : kd1 (zsN z) ↔ ((∀ s, s < 8 → kqS (zsN z) v s) ∧ ∀ p, p < 10 → kqP (zsN z) v p) := ⟨fun x => ⟨fun s hs hb => ⟨fun y => by rw [e] at y; exact absurd y (by decide), fun y => by rw [e] at y; exact absurd y (by decide)⟩, fun p hp _ hb => x p hp hb⟩, fun x p hp hb => x.2 p hp e hb⟩
        rw [pB_cong this] at k; exact k
      · rw [if_neg (by rw [e]; decide), if_neg (by rw [e]; decide), if_pos e] at k
        have nob : ∀ s p, p < 10 → (nS (zsN z)).testBit s = false → s < 8 → nT (zsN z) (10 * s + p) = 0 := fun s p hp hb hs => Classical.byContradiction fun y => by
          have := (wf_Tn w y).2.2
          rw [show (10 * s + p) / 10 = s by omega, hb] at this
          cases this
        have : kd2 (zsN z) ↔ ((∀ s, s < 8 → kqS (zsN z) v s) ∧ ∀ p, p < 10 → kqP (zsN z) v p) := by
          refine ⟨fun x => ⟨fun s hs hb => ⟨fun y => by rw [e] at y; exact absurd y (by decide), fun _ t ht _ => x s hs t ht⟩, fun p hp y => by rw [e] at y; exact absurd y (by decide)⟩, fun x s hs t ht => ?_⟩
          cases b1 : (nS (zsN z)).testBit s
          · exact fun ⟨p, p1, p2, _⟩ => absurd (nob s p p1 b1 hs) p2
          · cases b2 : (nS (zsN z)).testBit t
            · exact fun ⟨p, p1, _, p3⟩ => absurd (nob t p p1 b2 (by omega)) p3
            · exact (x.1 s hs b1).2 e t ht b2
        rw [pB_cong this] at k; exact k
    have e0 : (1 : Int32) = bI (pB (∀ s, s < 0 → kqS (zsN z) v s)) := by rw [pB_t (fun s hs => absurd hs (Nat.not_lt_zero _))]; rfl
    suffices hh : ∃ m, L_X9_kind_20 v (fun (v2_3 : Int32) (M_11 : Mem) => (∃ k122 : Nat, L_X9_kind_122 v (fun (v2_4 : Int32) (M_15 : Mem) => ((v2_4 = 0 → K (0 : Int32) M_15) ∧ (¬ v2_4 = 0 → K (1 : Int32) M_15))) K k122 v2_3 (0 : Int32) M_11)) K m (bI (pB (∀ s, s < 0 → kqS (zsN z) v s))) (nI 0) M2 from by rw [← e0] at hh; exact hh
    refine upT (fun m j => L_X9_kind_20 v (fun (v2_3 : Int32) (M_11 : Mem) => (∃ k122 : Nat, L_X9_kind_122 v (fun (v2_4 : Int32) (M_15 : Mem) => ((v2_4 = 0 → K (0 : Int32) M_15) ∧ (¬ v2_4 = 0 → K (1 : Int32) M_15))) K k122 v2_3 (0 : Int32) M_11)) K m (bI (pB (∀ s, s < j → kqS (zsN z) v s))) (nI j) M2) 0 8 (Nat.zero_le _) (fun m => ?_) (fun s _ hs m ih => ?_)
    · rw [L_X9_kind_20, l_8, nI_LE (by omega) (by omega)]
      refine ⟨fun _ => ?_, fun y => absurd (Nat.le_refl _) y⟩
      have e1 : pB (∀ s, s < 8 → kqS (zsN z) v s) = pB ((∀ s, s < 8 → kqS (zsN z) v s) ∧ ∀ p, p < 0 → kqP (zsN z) v p) := pB_a1 (fun t ht => absurd ht (Nat.not_lt_zero _))
      rw [e1]
      refine upT (fun m j => L_X9_kind_122 v (fun (v2_4 : Int32) (M_15 : Mem) => ((v2_4 = 0 → K (0 : Int32) M_15) ∧ (¬ v2_4 = 0 → K (1 : Int32) M_15))) K m (bI (pB ((∀ s, s < 8 → kqS (zsN z) v s) ∧ ∀ p, p < j → kqP (zsN z) v p))) (nI j) M2) 0 10 (Nat.zero_le _) (fun m => ?_) (fun p _ hp m ih => ?_)
      · rw [L_X9_kind_122, l_10, nI_LE (by omega) (by omega)]
        exact ⟨fun _ => ⟨fun y => k_f kk (b_of0 y), fun y => k_t kk (b_ofn y)⟩, fun y => absurd (Nat.le_refl _) y⟩
      · have st : kqP (zsN z) v p → pB ((∀ s, s < 8 → kqS (zsN z) v s) ∧ ∀ p', p' < p → kqP (zsN z) v p') = pB ((∀ s, s < 8 → kqS (zsN z) v s) ∧ ∀ p', p' < p + 1 → kqP (zsN z) v p') := fun h => pB_cong ⟨fun x => ⟨x.1, fun p' hp' => by
            rcases Nat.lt_succ_iff_lt_or_eq.mp hp' with y | y
            · exact x.2 p' y
            · rw [y]; exact h⟩, fun x => ⟨x.1, fun p' hp' => x.2 p' (by omega)⟩⟩
        have s0 : ¬ kqP (zsN z) v p → pB ((∀ s, s < 8 → kqS (zsN z) v s) ∧ ∀ p', p' < p + 1 → kqP (zsN z) v p') = false := fun h => pB_f (fun x => h (x.2 p (Nat.lt_succ_self _)))
        rw [L_X9_kind_122, l_10, nI_LE (by omega) (by omega), nI_A1]
        refine ⟨by omega, fun _ => ⟨fun q x e => ?_, fun q => isPlace_r hn w hp ⟨fun y x e => ?_, fun y => isOneAt_sp (b := true) hn w hp ⟨fun y2 x e => ?_, fun y2 => isOneAt_sp (b := false) hn w hp ⟨fun y3 x e => ?_, fun y3 x e => ?_⟩⟩⟩⟩⟩
        · rw [e, bI_and1, st (fun t => absurd t q)]; exact ih
        · rw [e, bI_and1, st (fun _ t => by rw [b_of0 y] at t; cases t)]; exact ih
        · rw [s0 (fun t => of_decide_eq_false (b_of0 y2) (t q (b_ofn y)).1)] at ih
          rw [e, bI_and0]; exact ih
        · rw [s0 (fun t => of_decide_eq_false (b_of0 y3) (t q (b_ofn y)).2)] at ih
          rw [e, bI_and0]; exact ih
        · rw [e, bI_and1, st (fun _ _ => ⟨of_decide_eq_true (b_ofn y2), of_decide_eq_true (b_ofn y3)⟩)]; exact ih
    · rw [L_X9_kind_20, l_8, nI_LE (by omega) (by omega), nI_A1]
      refine ⟨by omega, fun _ => isStep_r hn w hs ⟨fun y => ?_, fun y => ?_⟩⟩
      · have yb := b_ofn y
        have tail : ∀ (Q : Prop) (x2 : Int32), x2 = bI (pB ((∀ s', s' < s → kqS (zsN z) v s') ∧ Q)) → (Q ↔ (v = 0 → oneS (zsN z) s)) → ∃ k70 : Nat, L_X9_kind_70 v (nI s) (fun (v2_2 : Int32) (M_10 : Mem) => L_X9_kind_20 v (fun (v2_3 : Int32) (M_11 : Mem) => (∃ k122 : Nat, L_X9_kind_122 v (fun (v2_4 : Int32) (M_15 : Mem) => ((v2_4 = 0 → K (0 : Int32) M_15) ∧ (¬ v2_4 = 0 → K (1 : Int32) M_15))) K k122 v2_3 (0 : Int32) M_11)) K m v2_2 (nI (s + 1)) M_10) K k70 x2 (0 : Int32) M2 := fun Q x2 e hQ => by
          rw [e]
          refine k70_sp hn w hs ?_
          have : (((∀ s', s' < s → kqS (zsN z) v s') ∧ Q) ∧ (v = 2 → ∀ t, t < s → (nS (zsN z)).testBit t = true → fairS (zsN z) s t)) ↔ ∀ s', s' < s + 1 → kqS (zsN z) v s' := ⟨fun x s' hs' => by
              rcases Nat.lt_succ_iff_lt_or_eq.mp hs' with y | y
              · exact x.1.1 s' y
              · rw [y]; exact fun _ => ⟨hQ.mp x.1.2, x.2⟩, fun x => ⟨⟨fun s' hs' => x s' (by omega), hQ.mpr (x s (Nat.lt_succ_self _) yb).1⟩, (x s (Nat.lt_succ_self _) yb).2⟩⟩
          rw [pB_cong this]; exact ih
        unfold S_X9_kind_39
        refine ⟨fun n0 x2 e => ?_, fun e0' => isOne_sp (b := true) hn w hs ⟨fun y2 x2 e => ?_, fun y2 => isOne_sp (b := false) hn w hs ⟨fun y3 x2 e => ?_, fun y3 x2 e => ?_⟩⟩⟩
        · refine tail True x2 ?_ ⟨fun _ t => absurd t n0, fun _ => trivial⟩
          rw [e, bI_and1, pB_a1 (Q := True) trivial]
        · refine tail False x2 ?_ ⟨fun t => t.elim, fun t => of_decide_eq_false (b_of0 y2) (t e0').1⟩
          rw [e, bI_and0, pB_a0 (fun t => t)]; rfl
        · refine tail False x2 ?_ ⟨fun t => t.elim, fun t => of_decide_eq_false (b_of0 y3) (t e0').2⟩
          rw [e, bI_and0, pB_a0 (fun t => t)]; rfl
        · refine tail True x2 ?_ ⟨fun _ _ => ⟨of_decide_eq_true (b_ofn y2), of_decide_eq_true (b_ofn y3)⟩, fun _ => trivial⟩
          rw [e, bI_and1, pB_a1 (Q := True) trivial]
      · have : (∀ s', s' < s → kqS (zsN z) v s') ↔ ∀ s', s' < s + 1 → kqS (zsN z) v s' := ⟨fun x s' hs' => by
            rcases Nat.lt_succ_iff_lt_or_eq.mp hs' with y' | y'
            · exact x s' y'
            · rw [y']; exact fun t => absurd t (by rw [b_of0 y]; decide), fun x s' hs' => x s' (by omega)⟩
        rw [pB_cong this]; exact ih
  · have q := of_decide_eq_false (b_of0 q)
    rw [in02] at q
    rw [if_neg (fun y => q (Or.inl y)), if_neg (fun y => q (Or.inr (Or.inl y))), if_neg (fun y => q (Or.inr (Or.inr y)))] at k
    exact k
