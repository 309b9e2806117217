/-! the reference's reader: a new name -/
theorem ixI_neg {pn : Nat → List Nat} {w : List Nat} {n : Nat} (hn : n ≤ 10) : (ixI pn w n < (0 : Int32)) = ¬ nx pn w n 0 < n := by
  unfold ixI
  by_cases q : nx pn w n 0 < n
  · rw [if_pos q, l_0, nI_LT (by omega) (by omega)]
    exact propext ⟨fun z => by omega, fun z => absurd q z⟩
  · rw [if_neg q]; exact propext ⟨fun _ => q, fun _ => by decide⟩
theorem fresh19 {n : Nat} {sn : Nat → List Nat} {w : List Nat} {M : Mem} {X : Int32 → Mem → Prop} {K : Int32 → Mem → Prop} (hn : n ≤ 8) (h2 : M.1 0 21 = nI n) (hs : nms 32 7 M n sn) (hw : wok w) (h9 : M.1 0 15 = nI (wcd 32 w)) : ∀ (d j : Nat) (b : Bool), j + d = n → X (bI (b || decide (nx sn w d j < n))) M → L_X9_freshName_19 X K (d + 1) (bI b) (nI j) M := by
  intro d
  induction d with
  | zero =>
    intro j b e h
    rw [nx, decide_eq_false (by omega), Bool.or_false] at h
    rw [L_X9_freshName_19, h2, nI_LE (by omega) (by omega)]
    exact ⟨fun _ => h, fun q => by omega⟩
  | succ d ih =>
    intro j b e h
    have hj : j < n := by omega
    rw [L_X9_freshName_19, h2, nI_LE (by omega) (by omega), vp_nI (by omega) (by omega), gI, nI_CL (by omega), (hs j hj).1, h9, e32 (hs j hj).2 hw, nI_A1]
    refine ⟨by omega, fun _ => ⟨by omega, fun q x e1 => ?_, fun q x e1 => ?_⟩⟩
    · rw [nx, if_neg q] at h
      have : x = bI b := by rw [e1]; cases b <;> decide
      rw [this]
      exact ih (j + 1) b (by omega) h
    · rw [nx, if_pos q, decide_eq_true hj, Bool.or_true] at h
      have : x = bI true := by rw [e1]; cases b <;> decide
      rw [this]
      exact ih (j + 1) true (by omega) (by rw [Bool.true_or]; exact h)
theorem fresh19b {n : Nat} {M : Mem} {X : Int32 → Mem → Prop} {K : Int32 → Mem → Prop} (hn : n ≤ 8) (h2 : M.1 0 21 = nI n) (h : ∀ v, X v M) : ∀ (d j : Nat) (v : Int32), j + d = n → L_X9_freshName_19 X K (d + 1) v (nI j) M := by
  intro d
  induction d with
  | zero =>
    intro j v e
    rw [L_X9_freshName_19, h2, nI_LE (by omega) (by omega)]
    exact ⟨fun _ => h v, fun q => by omega⟩
  | succ d ih =>
    intro j v e
    rw [L_X9_freshName_19, h2, nI_LE (by omega) (by omega), vp_nI (by omega) (by omega), nI_A1]
    exact ⟨by omega, fun _ => ⟨by omega, fun _ x _ => ih (j + 1) x (by omega), fun _ x _ => ih (j + 1) x (by omega)⟩⟩
theorem X9_freshName_sp {tp : Nat → Nat} {L p : Nat} {z : PT} {M : Mem} {K : Int32 → Mem → Prop} (hL : tpR M tp L) (hT : TS9 M tp L p) (hp : p ≤ L) (hP : PRn M z) (h1 : pNew tp L z p = none → ∀ M', TS9 M' tp L (tsp tp L p) → fr0 M M' → K (nI (wcd 32 (twl tp L p))) M') (h2 : ∀ e x M', pNew tp L z p = some e → BR M' e → (∀ b, b ≠ 0 → M'.1 b = M.1 b) → (∀ j, j ≠ 18 → j ≠ 19 → M'.1 0 j = M.1 0 j) → M'.2 = M.2 → frRd M M' → K x M') : f_X9_freshName M K := by
  have S8 := hP.1.2.2.2
  unfold f_X9_freshName
  refine X9_mustBeName_sp hT hP (fun q => ?_) (fun q M' B a b c d => ?_)
  · have k2 := isNm_2 q
    have w := twl_ok k2
    have e9 : M.1 0 15 = nI (wcd 32 (twl tp L p)) := by rw [hT.2.2.2.1 k2, tw_wcd]
    refine X9_placeCalled_sp hP.1.2.1 hP.1.1 hP.2.1 w e9 ?_
    intro x1 e1
    have e1 : x1 = bI (decide (nx z.2.1.2 (twl tp L p) z.2.1.1 0 < z.2.1.1)) := by
      rw [e1]
      by_cases y : nx z.2.1.2 (twl tp L p) z.2.1.1 0 < z.2.1.1
      · rw [if_neg (by rw [ixI_neg hP.1.2.1]; exact fun v => v y), decide_eq_true y]; rfl
      · rw [if_pos (by rw [ixI_neg hP.1.2.1]; exact y), decide_eq_false y]; rfl
    rw [e1]
    refine ⟨z.2.2.1.1 + 1, fresh19 S8 hP.1.2.2.1 hP.2.2.1 w e9 z.2.2.1.1 0 _ (by omega) ?_⟩
    refine X9_good_1 hP ?_
    unfold S_X9_freshName_58
    refine ⟨fun v => absurd v (by decide), fun _ => ⟨fun v => ?_, fun v => ?_⟩⟩
    · intro x2 e2
      rw [e9] at e2
      rw [e2]
      have v := b_of0 v
      rw [Bool.or_eq_false_iff] at v
      refine X9_goesOn_sp hL hT hp hP (h1 ?_)
      unfold pNew
      rw [if_pos q, if_neg (fun y => y.elim (of_decide_eq_false v.1) (of_decide_eq_false v.2))]
    · have v := b_ofn v
      rw [Bool.or_eq_true] at v
      refine X9_fails_sp (k := 3) hP hT (by omega) (fun M' B a b c d x2 e2 => X9_goesOn_b B (h2 _ x2 M' ?_ B a b c d))
      unfold pNew
      rw [if_pos q, if_pos (v.elim (fun y => Or.inl (of_decide_eq_true y)) (fun y => Or.inr (of_decide_eq_true y)))]
  · have s20 : M'.1 0 20 = nI z.2.1.1 := by rw [b 20 (by decide) (by decide)]; exact hP.1.1
    have s21 : M'.1 0 21 = nI z.2.2.1.1 := by rw [b 21 (by decide) (by decide)]; exact hP.1.2.2.1
    refine X9_placeCalled_b hP.1.2.1 s20 (fun r x1 e1 => ⟨z.2.2.1.1 + 1, fresh19b S8 s21 (fun v => ?_) z.2.2.1.1 0 x1 (by omega)⟩)
    refine X9_good_0 B ?_
    unfold S_X9_freshName_58
    refine ⟨fun _ x2 e2 => X9_goesOn_b B (h2 _ x2 M' ?_ B a b c d), fun y => absurd rfl y⟩
    unfold pNew
    rw [if_neg (by rw [q]; decide)]
