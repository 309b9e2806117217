/-! calls: kind -/
def oneS (n : NN) (s : Nat) : Prop := sm (fun p => nT n (10 * s + p)) 10 = 1 ∧ sm (fun p => nG n (10 * s + p)) 10 = 1
def oneP (n : NN) (p : Nat) : Prop := sm (fun s => nT n (10 * s + p)) 8 = 1 ∧ sm (fun s => nG n (10 * s + p)) 8 = 1
def fairS (n : NN) (s t : Nat) : Prop := (∃ p, p < 10 ∧ nT n (10 * s + p) ≠ 0 ∧ nT n (10 * t + p) ≠ 0) → ∀ p, p < 10 → nT n (10 * s + p) = nT n (10 * t + p)
def kd0 (n : NN) : Prop := ∀ s, s < 8 → (nS n).testBit s = true → oneS n s
def kd1 (n : NN) : Prop := ∀ p, p < 10 → (nP n).testBit p = true → oneP n p
def kd2 (n : NN) : Prop := ∀ s, s < 8 → ∀ t, t < s → fairS n s t
noncomputable def aKnd (z : ZS) (v : Int32) : Int32 := if v = 0 then bI (pB (kd0 (zsN z))) else if v = 1 then bI (pB (kd1 (zsN z))) else if v = 2 then bI (pB (kd2 (zsN z))) else -1
theorem sumN_sm {f : Nat → Int32} {g : Nat → Nat} : ∀ {k : Nat}, (∀ j, j < k → f j = nI (g j)) → sumN f k = nI (sm g k)
  | 0, _ => rfl
  | k + 1, h => by rw [sumN, sm, sumN_sm (fun j hj => h j (by omega)), h k (by omega), nI_add]
theorem sm_30 {f : Nat → Nat} (h : ∀ i, f i ≤ 3) (k : Nat) (hk : k ≤ 10) : sm f k ≤ 30 := by
  have := sm_le h k
  omega
theorem allS_sp {a s tp ts : Nat} {n : NN} {A : Nat → Nat} {M : Mem} {K : Int32 → Mem → Prop} (hn : atC M 50 n tp ts) (ha : alen a = 80) (hA : ∀ i, i < 80 → M.1 a i = nI (A i)) (h0 : ∀ p, p < 10 → tp ≤ p → A (10 * s + p) = 0) (hs : s < 8) (k : K (nI (sm (fun p => A (10 * s + p)) 10)) M) : f_X1_allOfStep 50 a (nI s) M K := by
  have t10 := hn.2.2.2.1
  refine X1_allOfStep_sp hn.2.1 t10 ha hs ?_
  rw [sumN_sm (g := fun p => A (10 * s + p)) (fun p hp => hA _ (by omega))]
  rw [sm_out (m := tp) (n := 10) t10 (fun j p1 p2 => h0 j p2 p1)] at k
  exact k
theorem allP_sp {a p tp ts : Nat} {n : NN} {A : Nat → Nat} {M : Mem} {K : Int32 → Mem → Prop} (hn : atC M 50 n tp ts) (ha : alen a = 80) (hA : ∀ i, i < 80 → M.1 a i = nI (A i)) (h0 : ∀ s, s < 8 → ts ≤ s → A (10 * s + p) = 0) (hp : p < 10) (k : K (nI (sm (fun s => A (10 * s + p)) 8)) M) : f_X1_allOfPlace 50 a (nI p) M K := by
  have t8 := hn.2.2.2.2.1
  refine X1_allOfPlace_sp hn.2.2.1 t8 ha hp ?_
  rw [sumN_sm (g := fun s => A (10 * s + p)) (fun s hs => hA _ (by omega))]
  rw [sm_out (m := ts) (n := 8) t8 (fun j p1 p2 => h0 j p2 p1)] at k
  exact k
theorem eS_sp {n : NN} {tp ts : Nat} {M : Mem} {K : Int32 → Mem → Prop} (hn : atC M 50 n tp ts) (k : K (bI (pB (kd0 n))) M) : f_X1_eachStepMovesOne 50 M K := by
  have w := hn.2.2.2
  have t8 := w.2.1
  refine up (fun m j => L_X1_eachStepMovesOne_2 50 (fun (M_5 : Mem) => K (1 : Int32) M_5) K m (nI j) M) (fun j => ∀ s, s < j → (nS n).testBit s = true → oneS n s) 0 ts (Nat.zero_le _) (fun p hp => absurd hp (Nat.not_lt_zero _)) (fun hI m => ?_) (fun s _ hs hI m ih => ?_)
  · rw [L_X1_eachStepMovesOne_2, hn.2.2.1, nI_LE (by omega) (by omega)]
    refine ⟨fun _ => k_t k (pB_t (fun s hs hb => ?_)), fun y => absurd (Nat.le_refl _) y⟩
    rcases Nat.lt_or_ge s ts with q | q
    · exact hI s q hb
    · rw [wf_Sh w q] at hb; cases hb
  · have a := sm_30 (f := fun p => nT n (10 * s + p)) (fun i => wf_T3 w _) 10 (by omega)
    have b := sm_30 (f := fun p => nG n (10 * s + p)) (fun i => wf_G3 w _) 10 (by omega)
    rw [L_X1_eachStepMovesOne_2, hn.2.2.1, nI_LE (by omega) (by omega), nI_A1]
    refine ⟨by omega, fun _ => X1_hasStep_nn hn (by omega) ⟨fun q => ih (fun s' hs' hb => ?_), fun q => allS_sp (A := nT n) hn rfl (fun i hi => ac_T hn hi) (fun p p1 p2 => wf_T0p w p1 p2) (by omega) ?_⟩⟩
    · rcases Nat.lt_succ_iff_lt_or_eq.mp hs' with y | y
      · exact hI s' y hb
      · rw [y, b_of0 q] at hb; cases hb
    · rw [nI_E1 (by omega)]
      refine ⟨fun q1 => k_f k (pB_f (fun t => q1 (t s (by omega) (b_ofn q)).1)), fun q1 => allS_sp (A := nG n) hn rfl (fun i hi => ac_G hn hi) (fun p p1 p2 => wf_G0p w p1 p2) (by omega) ?_⟩
      rw [nI_E1 (by omega)]
      refine ⟨fun q2 => ih (fun s' hs' hb => ?_), fun q2 => k_f k (pB_f (fun t => q2 (t s (by omega) (b_ofn q)).2))⟩
      rcases Nat.lt_succ_iff_lt_or_eq.mp hs' with y | y
      · exact hI s' y hb
      · rw [y]; exact ⟨q1, q2⟩
theorem eP_sp {n : NN} {tp ts : Nat} {M : Mem} {K : Int32 → Mem → Prop} (hn : atC M 50 n tp ts) (k : K (bI (pB (kd1 n))) M) : f_X1_eachPlaceIsPassed 50 M K := by
  have w := hn.2.2.2
  have t10 := w.1
  refine up (fun m j => L_X1_eachPlaceIsPassed_2 50 (fun (M_5 : Mem) => K (1 : Int32) M_5) K m (nI j) M) (fun j => ∀ s, s < j → (nP n).testBit s = true → oneP n s) 0 tp (Nat.zero_le _) (fun p hp => absurd hp (Nat.not_lt_zero _)) (fun hI m => ?_) (fun s _ hs hI m ih => ?_)
  · rw [L_X1_eachPlaceIsPassed_2, hn.2.1, nI_LE (by omega) (by omega)]
    refine ⟨fun _ => k_t k (pB_t (fun s hs hb => ?_)), fun y => absurd (Nat.le_refl _) y⟩
    rcases Nat.lt_or_ge s tp with q | q
    · exact hI s q hb
    · rw [wf_Ph w q] at hb; cases hb
  · have a := sm_30 (f := fun i => nT n (10 * i + s)) (fun i => wf_T3 w _) 8 (by omega)
    have b := sm_30 (f := fun i => nG n (10 * i + s)) (fun i => wf_G3 w _) 8 (by omega)
    rw [L_X1_eachPlaceIsPassed_2, hn.2.1, nI_LE (by omega) (by omega), nI_A1]
    refine ⟨by omega, fun _ => X1_hasPlace_nn hn (by omega) ⟨fun q => ih (fun s' hs' hb => ?_), fun q => allP_sp (A := nT n) hn rfl (fun i hi => ac_T hn hi) (fun p p1 p2 => wf_T0s w (by omega) p2) (by omega) ?_⟩⟩
    · rcases Nat.lt_succ_iff_lt_or_eq.mp hs' with y | y
      · exact hI s' y hb
      · rw [y, b_of0 q] at hb; cases hb
    · rw [nI_E1 (by omega)]
      refine ⟨fun q1 => k_f k (pB_f (fun t => q1 (t s (by omega) (b_ofn q)).1)), fun q1 => allP_sp (A := nG n) hn rfl (fun i hi => ac_G hn hi) (fun p p1 p2 => wf_G0s w (by omega) p2) (by omega) ?_⟩
      rw [nI_E1 (by omega)]
      refine ⟨fun q2 => ih (fun s' hs' hb => ?_), fun q2 => k_f k (pB_f (fun t => q2 (t s (by omega) (b_ofn q)).2))⟩
      rcases Nat.lt_succ_iff_lt_or_eq.mp hs' with y | y
      · exact hI s' y hb
      · rw [y]; exact ⟨q1, q2⟩
theorem ak_and {n : NN} {s t : Nat} : akN n true s &&& akN n true t = 0 ↔ ¬ ∃ p, p < 10 ∧ nT n (10 * s + p) ≠ 0 ∧ nT n (10 * t + p) ≠ 0 := by
  have tb : ∀ s p, p < 10 → (akN n true s).testBit p = decide (¬ nT n (10 * s + p) = 0) := fun s p hp => by
    unfold akN
    rw [mN_tb, decide_eq_true hp, Bool.true_and]; rfl
  constructor
  · intro h ⟨p, p1, p2, p3⟩
    have : (akN n true s &&& akN n true t).testBit p = true := by rw [Nat.testBit_and, tb s p p1, tb t p p1, decide_eq_true p2, decide_eq_true p3]; rfl
    rw [h, Nat.zero_testBit] at this
    cases this
  · intro h
    refine Nat.eq_of_testBit_eq fun i => ?_
    rw [Nat.zero_testBit, Nat.testBit_and]
    by_cases q : i < 10
    · rw [tb s i q, tb t i q]
      cases e1 : decide (¬ nT n (10 * s + i) = 0)
      · rfl
      · cases e2 : decide (¬ nT n (10 * t + i) = 0)
        · rfl
        · exact absurd ⟨i, q, of_decide_eq_true e1, of_decide_eq_true e2⟩ h
    · have : (akN n true s).testBit i = false := by
        unfold akN
        rw [mN_tb, decide_eq_false q, Bool.false_and]
      rw [this, Bool.false_and]
theorem fair_sym {n : NN} {s t : Nat} (h : fairS n s t) : fairS n t s := fun ⟨p, a, b, c⟩ q hq => (h ⟨p, a, c, b⟩ q hq).symm
theorem fair_0 {n : NN} {tp ts s t : Nat} (w : WF n tp ts) (h : ts ≤ s) : fairS n s t := fun ⟨p, a, b, _⟩ => absurd (wf_T0s w a h) b
theorem rT_sp {n : NN} {tp ts : Nat} {M : Mem} {K : Int32 → Mem → Prop} (hn : atC M 50 n tp ts) (k : K (bI (pB (kd2 n))) M) : f_X1_rivalsTakeAlike 50 M K := by
  have w := hn.2.2.2
  have t8 := w.2.1
  have t10 := w.1
  refine up (fun m j => L_X1_rivalsTakeAlike_2 50 (fun (M_6 : Mem) => K (1 : Int32) M_6) K m (nI j) M) (fun j => ∀ s, s < j → ∀ t, s < t → t < ts → fairS n s t) 0 ts (Nat.zero_le _) (fun p hp => absurd hp (Nat.not_lt_zero _)) (fun hI m => ?_) (fun s _ hs hI m ih => ?_)
  · rw [L_X1_rivalsTakeAlike_2, hn.2.2.1, nI_LE (by omega) (by omega)]
    refine ⟨fun _ => k_t k (pB_t (fun s hs t ht => ?_)), fun y => absurd (Nat.le_refl _) y⟩
    rcases Nat.lt_or_ge s ts with q | q
    · exact fair_sym (hI t (by omega) s ht q)
    · exact fair_0 w q
  · rw [L_X1_rivalsTakeAlike_2, hn.2.2.1, nI_LE (by omega) (by omega), nI_A1]
    refine ⟨by omega, fun _ x2 e2 => ?_⟩
    rw [e2]
    refine up (fun m' t => L_X1_rivalsTakeAlike_14 50 (nI s) (fun (M_5 : Mem) => L_X1_rivalsTakeAlike_2 50 (fun (M_6 : Mem) => K (1 : Int32) M_6) K m (nI (s + 1)) M_5) K m' (nI t) M) (fun t => ∀ t', s < t' → t' < t → fairS n s t') (s + 1) ts (by omega) (fun t' h1 h2 => by omega) (fun hJ m' => ?_) (fun t h1 ht hJ m' ih' => ?_)
    · rw [L_X1_rivalsTakeAlike_14, hn.2.2.1, nI_LE (by omega) (by omega)]
      refine ⟨fun _ => ih (fun s' hs' t h3 h4 => ?_), fun y => absurd (Nat.le_refl _) y⟩
      rcases Nat.lt_succ_iff_lt_or_eq.mp hs' with y | y
      · exact hI s' y t h3 h4
      · rw [y] at h3 ⊢; exact hJ t h3 h4
    · rw [L_X1_rivalsTakeAlike_14, hn.2.2.1, nI_LE (by omega) (by omega), nI_A1]
      refine ⟨by omega, fun _ => ak_takes hn rfl (by omega) (ak_takes hn rfl (by omega) ?_)⟩
      have al : akN n true s &&& akN n true t < 1024 := Nat.lt_of_le_of_lt Nat.and_le_left (akN_lt n true s)
      rw [nI_and, nI_Z (by omega)]
      refine ⟨fun q => ih' (fun t' h3 h4 => ?_), fun q => X1_sameOfSteps_sp (A := n.1) hn.2.1 t10 rfl (ac_TA hn) (by omega) (by omega) ⟨fun y => ih' (fun t' h3 h4 => ?_), fun y => ?_⟩⟩
      · rcases Nat.lt_succ_iff_lt_or_eq.mp h4 with y | y
        · exact hJ t' h3 y
        · rw [y]; exact fun e => absurd e (ak_and.mp q)
      · rcases Nat.lt_succ_iff_lt_or_eq.mp h4 with y' | y'
        · exact hJ t' h3 y'
        · rw [y']
          intro _ p hp
          rcases Nat.lt_or_ge p tp with r | r
          · exact of_decide_eq_true (allB_iff.mp (b_ofn y) p r)
          · rw [wf_T0p w hp r, wf_T0p w hp r]
      · refine k_f k (pB_f (fun tt => ?_))
        have f := tt t (by omega) s (by omega)
        have ex : ∃ p, p < 10 ∧ nT n (10 * s + p) ≠ 0 ∧ nT n (10 * t + p) ≠ 0 := Classical.byContradiction fun y' => q (ak_and.mpr y')
        have g := fair_sym f ex
        have := b_of0 y
        rw [allB_iff.mpr (fun p hp => decide_eq_true (g p (by omega)))] at this
        cases this
theorem C_kind {c : Nat} {v : Int32} {M : Mem} {z : ZS} {K : Int32 → Mem → Prop} (h : IvC c M z) (k : K (aKnd z v) M) : f_X8_kind v M K := by
  have hn := IvC_w h
  unfold f_X8_kind
  unfold aKnd at k
  refine ⟨fun q => ?_, fun q => ?_, fun q => ?_, fun q0 q1 q2 => ?_⟩
  · rw [if_pos q] at k
    exact eS_sp hn (X8_oneIf_sp k)
  · rw [if_neg (by rw [q]; decide), if_pos q] at k
    exact eP_sp hn (X8_oneIf_sp k)
  · rw [if_neg (by rw [q]; decide), if_neg (by rw [q]; decide), if_pos q] at k
    exact rT_sp hn (X8_oneIf_sp k)
  · rw [if_neg q0, if_neg q1, if_neg q2] at k; exact k
