/-! what can be done, and doing it -/
def can1 (T G row : Nat → Int32) (s o p : Nat) : Bool := decide (T (10 * s + p) ≤ row (o + p)) && decide (row (o + p) - T (10 * s + p) + G (10 * s + p) ≤ 999)
def canN (T G row : Nat → Int32) (S : Int32) (s o : Nat) : Bool := bt S s && allB (can1 T G row s o) 10
/-- arcs are small -/
def arcOK (T : Nat → Int32) : Prop := ∀ i, i < 80 → 0 ≤ (T i).toInt ∧ (T i).toInt ≤ 3
/-- tokens in a row -/
def rowOK (row : Nat → Int32) (o : Nat) : Prop := ∀ p, p < 10 → 0 ≤ (row (o + p)).toInt ∧ (row (o + p)).toInt ≤ 999
/-- from place tp on there are no arcs -/
def arcOut (T : Nat → Int32) (tp : Nat) : Prop := ∀ s p, s < 8 → tp ≤ p → p < 10 → T (10 * s + p) = 0
theorem can1_out {T G row : Nat → Int32} {s o p tp : Nat} (hs : s < 8) (hT : arcOut T tp) (hG : arcOut G tp) (hr : rowOK row o) (h1 : tp ≤ p) (h2 : p < 10) : can1 T G row s o p = true := by
  unfold can1
  rw [hT s p hs h1 h2, hG s p hs h1 h2]
  have h := hr p h2
  have e : row (o + p) - 0 + 0 = row (o + p) := by rw [Int32.add_zero, Int32.sub_zero]
  rw [e]
  simp only [i_le, t_0, t_999, Bool.and_eq_true, decide_eq_true_eq]
  omega
theorem allB_out {c : Nat → Bool} {m n : Nat} (h : m ≤ n) (hc : ∀ j, m ≤ j → j < n → c j = true) : allB c n = allB c m := by
  rw [Bool.eq_iff_iff, allB_iff, allB_iff]
  refine ⟨fun q j hj => q j (by omega), fun q j hj => ?_⟩
  rcases Nat.lt_or_ge j m with k | k
  · exact q j k
  · exact hc j k hj
theorem can1_iff {T G row : Nat → Int32} {s o p : Nat} (hs : s < 8) (hp : p < 10) (hT : arcOK T) (hG : arcOK G) (hr : rowOK row o) : can1 T G row s o p = true ↔ (T (10 * s + p)).toInt ≤ (row (o + p)).toInt ∧ (row (o + p)).toInt - (T (10 * s + p)).toInt + (G (10 * s + p)).toInt ≤ 999 := by
  have h1 := hT (10 * s + p) (by omega)
  have h2 := hG (10 * s + p) (by omega)
  have h3 := hr p hp
  unfold can1
  rw [Bool.and_eq_true, decide_eq_true_eq, decide_eq_true_eq, i_le, i_le, t_999, i_add (by rw [i_sub (by omega) (by omega)]; omega) (by rw [i_sub (by omega) (by omega)]; omega), i_sub (by omega) (by omega)]
theorem X1_allows_sp {t a : Nat} {v : Int32} {o tp : Nat} {M : Mem} {K : Int32 → Mem → Prop} (hp : M.1 t 3 = nI tp) (h10 : tp ≤ 10) (hT : arcOK (M.1 (t + 1))) (hG : arcOK (M.1 (t + 2))) (oT : arcOut (M.1 (t + 1)) tp) (oG : arcOut (M.1 (t + 2)) tp)
    (hr : rowOK (M.1 a) o) (ha : o + 10 ≤ alen a) (ha2 : alen a < 100000) (h : K (bI (isSt (M.1 t 6) v && allB (can1 (M.1 (t + 1)) (M.1 (t + 2)) (M.1 a) v.toNatClampNeg o) 10)) M) : f_X1_allows t v a (nI o) M K := by
  unfold f_X1_allows
  refine X1_hasStep_sp ⟨fun b => ?_, fun b => k_f h (by rw [b_of0 b, Bool.false_and])⟩
  have hb := b_ofn b
  rw [hb, Bool.true_and] at h
  obtain ⟨s, hs, rfl⟩ := isSt_n hb
  rw [nI_CL (by omega)] at h
  intro x4 e4
  rw [l_10, pk_mul] at e4
  subst e4
  have hall : allB (can1 (M.1 (t + 1)) (M.1 (t + 2)) (M.1 a) s o) 10 = allB (can1 (M.1 (t + 1)) (M.1 (t + 2)) (M.1 a) s o) tp := allB_out h10 (fun j h1 h2 => can1_out hs oT oG hr h1 h2)
  refine up (fun n j => L_X1_allows_19 t a (nI o) (nI (s * 10)) (fun M => K 1 M) K n (nI j) M) (fun j => ∀ i, i < j → can1 (M.1 (t + 1)) (M.1 (t + 2)) (M.1 a) s o i = true) 0 tp (Nat.zero_le _) (fun i hi => absurd hi (Nat.not_lt_zero i)) (fun hI n => ?_) (fun j _ hj hI n ih => ?_)
  · rw [L_X1_allows_19, hp]
    exact ⟨fun _ => k_t h (by rw [hall]; exact allB_iff.mpr hI), fun q => absurd (by rw [nI_LE (by omega) (by omega)]; exact Nat.le_refl _) q⟩
  · rw [L_X1_allows_19, hp, nI_add, nI_add, show s * 10 + j = 10 * s + j by omega]
    have g1 := hT (10 * s + j) (by omega)
    have g2 := hG (10 * s + j) (by omega)
    have g3 := hr j (by omega)
    refine ⟨fun q => absurd q (by rw [nI_LE (by omega) (by omega)]; omega), fun _ => ⟨(vp_nI (by omega) (by omega)).mpr (by omega), (vp_nI (by omega) (by omega)).mpr (by omega), fun x e => ?_⟩⟩
    rw [gI, gI, nI_CL (by omega), nI_CL (by omega)] at e
    have ex : x.toInt = (M.1 a (o + j)).toInt - (M.1 (t + 1) (10 * s + j)).toInt := by rw [e, i_sub (by omega) (by omega)]
    have ci := can1_iff (row := M.1 a) (o := o) hs (show j < 10 by omega) hT hG hr
    have eg : gI M (t + 2) (nI (10 * s + j)) = M.1 (t + 2) (10 * s + j) := by rw [gI, nI_CL (by omega)]
    refine ⟨fun q => k_f h ?_, fun q => ⟨fun r => ?_, fun r => k_f h ?_⟩⟩
    · refine allB_f (j := j) (by omega) ?_
      rw [i_lt, t_0, ex] at q
      cases hc : can1 (M.1 (t + 1)) (M.1 (t + 2)) (M.1 a) s o j
      · rfl
      · rw [ci] at hc; omega
    · rw [l_1, nI_add]
      refine ih (fun i hi => ?_)
      rcases Nat.lt_succ_iff_lt_or_eq.mp hi with k | rfl
      · exact hI i k
      · rw [ci]
        rw [i_lt, t_0, ex] at q
        rw [eg, i_le, t_999, i_add (by omega) (by omega), ex] at r
        omega
    · refine allB_f (j := j) (by omega) ?_
      rw [i_lt, t_0, ex] at q
      rw [eg, i_le, t_999, i_add (by omega) (by omega), ex] at r
      cases hc : can1 (M.1 (t + 1)) (M.1 (t + 2)) (M.1 a) s o j
      · rfl
      · rw [ci] at hc; omega
theorem X9_canBe_sp {g s a o : Nat} {M : Mem} {K : Int32 → Mem → Prop} (hg : g < 3) (hs : s < 8) (ha : o + 10 ≤ alen a) (ha2 : alen a < 100000)
    (h : K (bI (canN (fun i => M.1 1 (80 * g + i)) (fun i => M.1 2 (80 * g + i)) (M.1 a) (M.1 5 g) s o)) M) : f_X9_canBe (nI g) (nI s) a (nI o) M K := by
  unfold f_X9_canBe
  refine ⟨(vp_nI (by omega) (by omega)).mpr hg, ?_⟩
  rw [gI, nI_CL (by omega)]
  refine X9_isOf_sp ⟨fun b => ?_, fun b => k_f h ?_⟩
  · have hb := b_ofn b
    unfold canN at h
    rw [show bt (M.1 5 g) s = true from hb, Bool.true_and] at h
    refine up (fun n j => L_X9_canBe_18 (nI g) (nI s) a (nI o) (fun M => K 1 M) K n (nI j) M) (fun j => ∀ i, i < j → can1 (fun i => M.1 1 (80 * g + i)) (fun i => M.1 2 (80 * g + i)) (M.1 a) s o i = true) 0 10 (by omega) (fun i hi => absurd hi (Nat.not_lt_zero i)) (fun hI n => ?_) (fun j _ hj hI n ih => ?_)
    · rw [L_X9_canBe_18]
      exact ⟨fun _ => k_t h (allB_iff.mpr hI), fun q => absurd (by rw [l_10, nI_LE (by omega) (by omega)]; exact Nat.le_refl _) q⟩
    · rw [L_X9_canBe_18, f_X9_arcAt, l_80, l_10, pk_mul, pk_mul, nI_add, nI_add, nI_add, show 80 * g + 10 * s + j = 80 * g + (10 * s + j) by omega]
      refine ⟨fun q => absurd q (by rw [nI_LE (by omega) (by omega)]; omega), fun _ => ⟨(vp_nI (by omega) (by omega)).mpr (by omega), (vp_nI (by omega) (by omega)).mpr (by omega), ?_⟩⟩
      rw [gI, gI, gI, nI_CL (by omega), nI_CL (by omega)]
      refine ⟨fun q => k_f h (allB_f (j := j) hj ?_), fun q => ⟨fun r => ?_, fun r => k_f h (allB_f (j := j) hj ?_)⟩⟩
      · unfold can1
        rw [decide_eq_false (by simp only [i_le, i_lt] at *; omega), Bool.false_and]
      · rw [l_1, nI_add]
        refine ih (fun i hi => ?_)
        rcases Nat.lt_succ_iff_lt_or_eq.mp hi with k | rfl
        · exact hI i k
        · unfold can1
          rw [Bool.and_eq_true, decide_eq_true_eq, decide_eq_true_eq]
          exact ⟨by simp only [i_le, i_lt] at *; omega, r⟩
      · unfold can1
        rw [decide_eq_false r, Bool.and_false]
  · unfold canN
    rw [show bt (M.1 5 g) s = false from b_of0 b, Bool.false_and]
theorem X9_allThatCan_sp {M : Mem} {K : Int32 → Mem → Prop} (h : K (orB (fun s => canN (M.1 1) (M.1 2) (M.1 3) (M.1 5 0) s 0) 8) M) : f_X9_allThatCan M K := by
  refine upT (fun n j => L_X9_allThatCan_4 (fun v M => K v M) K n (orB (fun s => canN (M.1 1) (M.1 2) (M.1 3) (M.1 5 0) s 0) j) (nI j) M) 0 8 (by omega) (fun n => ?_) (fun j _ hj n ih => ?_)
  · rw [L_X9_allThatCan_4]
    exact ⟨fun _ => h, fun q => absurd (by rw [l_8, nI_LE (by omega) (by omega)]; exact Nat.le_refl _) q⟩
  · rw [L_X9_allThatCan_4]
    refine ⟨fun q => absurd q (by rw [l_8, nI_LE (by omega) (by omega)]; omega), fun _ => ?_⟩
    rw [l_1, nI_add] at *
    refine X9_canBe_sp (g := 0) (o := 0) (by omega) hj (by decide) (by decide) ?_
    simp only [Nat.mul_zero, Nat.zero_add]
    rw [orB] at ih
    refine ⟨fun q x e => ?_, fun q x e => ?_⟩
    · rw [b_of0 q] at ih
      rw [e]; exact ih
    · rw [b_ofn q] at ih
      rw [e]; exact ih
theorem X1_allowed_sp {t : Nat} {tp ts : Nat} {M : Mem} {K : Int32 → Mem → Prop} (hp : M.1 t 3 = nI tp) (h10 : tp ≤ 10) (hs : M.1 t 4 = nI ts) (h8 : ts ≤ 8) (hT : arcOK (M.1 (t + 1))) (hG : arcOK (M.1 (t + 2))) (oT : arcOut (M.1 (t + 1)) tp) (oG : arcOut (M.1 (t + 2)) tp)
    (hr : rowOK (M.1 (t + 3)) 0) (ha : alen (t + 3) = 10) (hS : ∀ s, ts ≤ s → s < 8 → bt (M.1 t 6) s = false) (h : K (orB (fun s => canN (M.1 (t + 1)) (M.1 (t + 2)) (M.1 (t + 3)) (M.1 t 6) s 0) 8) M) : f_X1_allowed t M K := by
  rw [orB_out h8 (fun j h1 h2 => by unfold canN; rw [hS j h1 h2, Bool.false_and])] at h
  refine upT (fun n j => L_X1_allowed_4 t (fun v M => K v M) K n (orB (fun s => canN (M.1 (t + 1)) (M.1 (t + 2)) (M.1 (t + 3)) (M.1 t 6) s 0) j) (nI j) M) 0 ts (Nat.zero_le _) (fun n => ?_) (fun j _ hj n ih => ?_)
  · rw [L_X1_allowed_4, hs]
    exact ⟨fun _ => h, fun q => absurd (by rw [nI_LE (by omega) (by omega)]; exact Nat.le_refl _) q⟩
  · rw [L_X1_allowed_4, hs]
    refine ⟨fun q => absurd q (by rw [nI_LE (by omega) (by omega)]; omega), fun _ => ?_⟩
    rw [orB] at ih
    refine X1_allows_sp (o := 0) hp h10 hT hG oT oG hr (by rw [ha]; omega) (by rw [ha]; omega) ?_
    have e : (isSt (M.1 t 6) (nI j) && allB (can1 (M.1 (t + 1)) (M.1 (t + 2)) (M.1 (t + 3)) (nI j).toNatClampNeg 0) 10) = canN (M.1 (t + 1)) (M.1 (t + 2)) (M.1 (t + 3)) (M.1 t 6) j 0 := by
      unfold canN
      rw [isSt_bt (by omega), nI_CL (by omega)]
    rw [e]
    refine ⟨fun q => ?_, fun q x ex => ?_⟩
    · rw [b_of0 q] at ih
      rw [l_1, nI_add]
      rw [show (if false = true then (1 : Int32) <<< (nI j &&& 31) else 0) = 0 from rfl, or0] at ih
      exact ih
    · rw [b_ofn q] at ih
      rw [l_1, nI_add, ex]
      exact ih
