/-! leaves: places, steps, bits -/
def isPl (P v : Int32) : Bool := decide (0 ≤ v ∧ v < 10) && decide ((P >>> (v &&& 31)) &&& 1 = 1)
def isSt (S v : Int32) : Bool := decide (0 ≤ v ∧ v < 8) && decide ((S >>> (v &&& 31)) &&& 1 = 1)
def isTk (v : Int32) : Bool := decide (0 ≤ v ∧ v ≤ 999)
theorem X1_hasPlace_sp {t : Nat} {v : Int32} {M : Mem} {K : Int32 → Mem → Prop} (h : K (bI (isPl (M.1 t 5) v)) M) : f_X1_hasPlace t v M K := by
  unfold f_X1_hasPlace
  refine ⟨fun a => k_f h ?_, fun a => ⟨fun b => k_f h ?_, fun b => ⟨fun c => k_f h ?_, fun c => k_t h ?_⟩⟩⟩
  · simp only [isPl, i_le, i_lt, t_0, t_10, Bool.and_eq_false_iff, decide_eq_false_iff_not] at *; omega
  · simp only [isPl, i_le, i_lt, t_0, t_10, Bool.and_eq_false_iff, decide_eq_false_iff_not] at *; omega
  · simp only [isPl, c, decide_false, Bool.and_false]
  · simp only [isPl, i_le, i_lt, t_0, t_10, c, decide_true, Bool.and_true, decide_eq_true_eq] at *; omega
theorem X1_hasStep_sp {t : Nat} {v : Int32} {M : Mem} {K : Int32 → Mem → Prop} (h : K (bI (isSt (M.1 t 6) v)) M) : f_X1_hasStep t v M K := by
  unfold f_X1_hasStep
  refine ⟨fun a => k_f h ?_, fun a => ⟨fun b => k_f h ?_, fun b => ⟨fun c => k_f h ?_, fun c => k_t h ?_⟩⟩⟩
  · simp only [isSt, i_le, i_lt, t_0, t_8, Bool.and_eq_false_iff, decide_eq_false_iff_not] at *; omega
  · simp only [isSt, i_le, i_lt, t_0, t_8, Bool.and_eq_false_iff, decide_eq_false_iff_not] at *; omega
  · simp only [isSt, c, decide_false, Bool.and_false]
  · simp only [isSt, i_le, i_lt, t_0, t_8, c, decide_true, Bool.and_true, decide_eq_true_eq] at *; omega
theorem X9_in_sp {v lo hi : Int32} {M : Mem} {K : Int32 → Mem → Prop} (h : K (bI (decide (lo ≤ v ∧ v ≤ hi))) M) : f_X9_in v lo hi M K := by
  unfold f_X9_in
  refine ⟨fun a => k_f h ?_, fun a => ⟨fun b => k_f h ?_, fun b => k_t h ?_⟩⟩
  · simp only [i_le, i_lt, decide_eq_false_iff_not] at *; omega
  · simp only [i_le, i_lt, decide_eq_false_iff_not] at *; omega
  · simp only [i_le, i_lt, decide_eq_true_eq] at *; omega
theorem X9_isOf_sp {v k : Int32} {M : Mem} {K : Int32 → Mem → Prop} (h : K (bI (decide ((v >>> (k &&& 31)) &&& 1 = 1))) M) : f_X9_isOf v k M K :=
  ⟨fun a => k_f h (decide_eq_false a), fun a => k_t h (decide_eq_true a)⟩
theorem X9_isPlace_sp {v : Int32} {M : Mem} {K : Int32 → Mem → Prop} (h : K (bI (isPl (M.1 4 0) v)) M) : f_X9_isPlace v M K := by
  unfold f_X9_isPlace
  refine X9_in_sp ⟨fun a => k_f h ?_, fun a => X9_isOf_sp ⟨fun b => k_f h ?_, fun b => k_t h ?_⟩⟩
  · have := b_of0 a
    simp only [isPl, i_le, i_lt, t_0, t_10, t_9, Bool.and_eq_false_iff, decide_eq_false_iff_not] at *; omega
  · have := b_of0 b
    unfold isPl
    rw [show decide ((M.1 4 0 >>> (v &&& 31)) &&& 1 = 1) = false from this, Bool.and_false]
  · have h2 := b_ofn b
    unfold isPl
    rw [show decide ((M.1 4 0 >>> (v &&& 31)) &&& 1 = 1) = true from h2, Bool.and_true]
    have := b_ofn a
    simp only [i_le, i_lt, t_0, t_10, t_9, decide_eq_true_eq] at *; omega
theorem X9_isStep_sp {v : Int32} {M : Mem} {K : Int32 → Mem → Prop} (h : K (bI (isSt (M.1 5 0) v)) M) : f_X9_isStep v M K := by
  unfold f_X9_isStep
  refine X9_in_sp ⟨fun a => k_f h ?_, fun a => X9_isOf_sp ⟨fun b => k_f h ?_, fun b => k_t h ?_⟩⟩
  · have := b_of0 a
    simp only [isSt, i_le, i_lt, t_0, t_8, t_7, Bool.and_eq_false_iff, decide_eq_false_iff_not] at *; omega
  · have := b_of0 b
    unfold isSt
    rw [show decide ((M.1 5 0 >>> (v &&& 31)) &&& 1 = 1) = false from this, Bool.and_false]
  · have h2 := b_ofn b
    unfold isSt
    rw [show decide ((M.1 5 0 >>> (v &&& 31)) &&& 1 = 1) = true from h2, Bool.and_true]
    have := b_ofn a
    simp only [i_le, i_lt, t_0, t_8, t_7, decide_eq_true_eq] at *; omega
theorem X8_isTokens_sp {v : Int32} {M : Mem} {K : Int32 → Mem → Prop} (h : K (bI (isTk v)) M) : f_X8_isTokens v M K := by
  unfold f_X8_isTokens
  refine ⟨fun a => k_f h ?_, fun a => ⟨fun b => k_f h ?_, fun b => k_t h ?_⟩⟩
  · simp only [isTk, i_le, i_lt, t_0, t_999, decide_eq_false_iff_not] at *; omega
  · simp only [isTk, i_le, i_lt, t_0, t_999, decide_eq_false_iff_not] at *; omega
  · simp only [isTk, i_le, i_lt, t_0, t_999, decide_eq_true_eq] at *; omega
theorem X8_oneIf_sp {b : Bool} {M : Mem} {K : Int32 → Mem → Prop} (h : K (bI b) M) : f_X8_oneIf (bI b) M K := ⟨fun a => k_f h (b_of0 a), fun a => k_t h (b_ofn a)⟩
theorem X8_isOneOfTwo_sp {v : Int32} {M : Mem} {K : Int32 → Mem → Prop} (h : K (bI (decide (v = 0 ∨ v = 1))) M) : f_X8_isOneOfTwo v M K := by
  unfold f_X8_isOneOfTwo
  refine ⟨fun a => ?_, fun a => ?_⟩
  · first | exact k_t h (by simp [a]) | (refine ⟨fun b => ?_, fun b => ?_⟩ <;> first | exact k_t h (by simp [a, b]) | exact k_f h (by simp [a, b]))
  · first | exact k_t h (by simp [a]) | (refine ⟨fun b => ?_, fun b => ?_⟩ <;> first | exact k_t h (by simp [a, b]) | exact k_f h (by simp [a, b]))
/-- what isPl, isSt say of the number -/
theorem isPl_n {P v : Int32} (h : isPl P v = true) : ∃ p : Nat, p < 10 ∧ v = nI p := by
  simp only [isPl, Bool.and_eq_true, decide_eq_true_eq, i_le, i_lt, t_0, t_10] at h
  exact ⟨v.toInt.toNat, by omega, cl_of (by omega)⟩
theorem isSt_n {P v : Int32} (h : isSt P v = true) : ∃ p : Nat, p < 8 ∧ v = nI p := by
  simp only [isSt, Bool.and_eq_true, decide_eq_true_eq, i_le, i_lt, t_0, t_8] at h
  exact ⟨v.toInt.toNat, by omega, cl_of (by omega)⟩
def bt (x : Int32) (k : Nat) : Bool := decide ((x >>> (nI k &&& 31)) &&& 1 = 1)
theorem isPl_bt {P : Int32} {p : Nat} (h : p < 10) : isPl P (nI p) = bt P p := by
  unfold isPl bt
  rw [show decide (0 ≤ nI p ∧ nI p < 10) = true from by simp only [i_le, i_lt, t_0, t_10, i_nI (show p < 2147483648 by omega), decide_eq_true_eq]; omega, Bool.true_and]
theorem isSt_bt {P : Int32} {p : Nat} (h : p < 8) : isSt P (nI p) = bt P p := by
  unfold isSt bt
  rw [show decide (0 ≤ nI p ∧ nI p < 8) = true from by simp only [i_le, i_lt, t_0, t_8, i_nI (show p < 2147483648 by omega), decide_eq_true_eq]; omega, Bool.true_and]
/-! sums over arcs, tokens -/
theorem ix_s {s p : Nat} (hs : s < 8) (hp : p < 10) : (nI s * 10) + nI p = nI (10 * s + p) := by rw [l_10, pk_mul, nI_add, Nat.mul_comm]
theorem X1_allTokens_sp {t : Nat} {M : Mem} {K : Int32 → Mem → Prop} {tp : Nat} (hp : M.1 t 3 = nI tp) (h10 : tp ≤ 10) (h : K (sumN (M.1 (t + 3)) tp) M) : f_X1_allTokens t M K := by
  refine upT (fun n j => L_X1_allTokens_4 t (fun v M => K v M) K n (sumN (M.1 (t + 3)) j) (nI j) M) 0 tp (Nat.zero_le _) (fun n => ?_) (fun j _ hj n ih => ?_)
  · rw [L_X1_allTokens_4, hp]
    exact ⟨fun _ => h, fun q => absurd (by rw [nI_LE (by omega) (by omega)]; exact Nat.le_refl _) q⟩
  · rw [L_X1_allTokens_4, hp]
    refine ⟨fun q => absurd q (by rw [nI_LE (by omega) (by omega)]; omega), fun _ => ⟨(vp_nI (by omega) (by omega)).mpr (by omega), fun x e => ?_⟩⟩
    rw [e, gI, nI_CL (by omega), l_1, nI_add]
    exact ih
theorem X1_allOfStep_sp {t a : Nat} {M : Mem} {K : Int32 → Mem → Prop} {tp s : Nat} (hp : M.1 t 3 = nI tp) (h10 : tp ≤ 10) (ha : alen a = 80) (hs : s < 8) (h : K (sumN (fun p => M.1 a (10 * s + p)) tp) M) : f_X1_allOfStep t a (nI s) M K := by
  refine upT (fun n j => L_X1_allOfStep_5 t a (nI s) (fun v M => K v M) K n (sumN (fun p => M.1 a (10 * s + p)) j) (nI j) M) 0 tp (Nat.zero_le _) (fun n => ?_) (fun j _ hj n ih => ?_)
  · rw [L_X1_allOfStep_5, hp]
    exact ⟨fun _ => h, fun q => absurd (by rw [nI_LE (by omega) (by omega)]; exact Nat.le_refl _) q⟩
  · rw [L_X1_allOfStep_5, hp, ix_s hs (by omega), ha]
    refine ⟨fun q => absurd q (by rw [nI_LE (by omega) (by omega)]; omega), fun _ => ⟨(vp_nI (by omega) (by omega)).mpr (by omega), fun x e => ?_⟩⟩
    rw [e, gI, nI_CL (by omega), l_1, nI_add]
    exact ih
theorem X1_allOfPlace_sp {t a : Nat} {M : Mem} {K : Int32 → Mem → Prop} {ts p : Nat} (ht : M.1 t 4 = nI ts) (h8 : ts ≤ 8) (ha : alen a = 80) (hp : p < 10) (h : K (sumN (fun s => M.1 a (10 * s + p)) ts) M) : f_X1_allOfPlace t a (nI p) M K := by
  refine upT (fun n j => L_X1_allOfPlace_5 t a (nI p) (fun v M => K v M) K n (sumN (fun s => M.1 a (10 * s + p)) j) (nI j) M) 0 ts (Nat.zero_le _) (fun n => ?_) (fun j _ hj n ih => ?_)
  · rw [L_X1_allOfPlace_5, ht]
    exact ⟨fun _ => h, fun q => absurd (by rw [nI_LE (by omega) (by omega)]; exact Nat.le_refl _) q⟩
  · rw [L_X1_allOfPlace_5, ht, ix_s (by omega) hp, ha]
    refine ⟨fun q => absurd q (by rw [nI_LE (by omega) (by omega)]; omega), fun _ => ⟨(vp_nI (by omega) (by omega)).mpr (by omega), fun x e => ?_⟩⟩
    rw [e, gI, nI_CL (by omega), l_1, nI_add]
    exact ih
