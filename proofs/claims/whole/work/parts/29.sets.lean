/-! sets of places -/
def mN (c : Nat → Bool) : Nat → Nat
  | 0 => 0
  | n + 1 => mN c n ||| (if c n then 2 ^ n else 0)
theorem orB_nI (c : Nat → Bool) : ∀ {n : Nat}, n ≤ 31 → orB c n = nI (mN c n)
  | 0, _ => rfl
  | n + 1, h => by
    rw [orB, mN, orB_nI c (by omega), ← nI_or]
    cases c n
    · rfl
    · show nI (mN c n) ||| (1 : Int32) <<< (nI n &&& 31) = _
      rw [shl_nI (by omega)]; rfl
theorem mN_tb (c : Nat → Bool) : ∀ (n i : Nat), (mN c n).testBit i = (decide (i < n) && c i)
  | 0, i => by rw [mN]; simp
  | n + 1, i => by
    rw [mN, Nat.testBit_or, mN_tb c n i]
    cases hc : c n
    · simp only [Bool.false_eq_true, if_false, Nat.zero_testBit, Bool.or_false]
      by_cases h : i < n
      · simp [h, show i < n + 1 by omega]
      · by_cases e : i = n
        · subst e; simp [hc]
        · simp [h, show ¬ i < n + 1 by omega]
    · simp only [if_true, tb_one]
      by_cases e : n = i
      · subst e; simp [hc]
      · by_cases h : i < n
        · simp [h, e, show i < n + 1 by omega]
        · simp [h, e, show ¬ i < n + 1 by omega]
theorem mN_lt (c : Nat → Bool) : ∀ n, mN c n < 2 ^ n
  | 0 => by rw [mN]; decide
  | n + 1 => by
    rw [mN]
    refine Nat.or_lt_two_pow ?_ ?_
    · have := mN_lt c n; rw [Nat.pow_succ]; omega
    · split
      · exact Nat.pow_lt_pow_right (by omega) (by omega)
      · exact Nat.two_pow_pos _
def aks (A : Nat → Int32) (s : Nat) : Nat := mN (fun p => decide (¬ A (10 * s + p) ≤ 0)) 10
theorem aks_lt (A : Nat → Int32) (s : Nat) : aks A s < 1024 := mN_lt _ 10
theorem X1_placesWith_sp {t a tp s : Nat} {M : Mem} {K : Int32 → Mem → Prop} (hp : M.1 t 3 = nI tp) (h10 : tp ≤ 10) (ha : alen a = 80) (hs : s < 8) (oA : arcOut (M.1 a) tp) (h : K (nI (aks (M.1 a) s)) M) : f_X1_placesWith t a (nI s) M K := by
  unfold aks at h
  rw [← orB_nI _ (by omega), orB_out h10 (fun j h1 h2 => decide_eq_false (by rw [oA s j hs h1 h2]; decide))] at h
  refine upT (fun n j => L_X1_placesWith_5 t a (nI s) (fun v M => K v M) K n (orB (fun p => decide (¬ M.1 a (10 * s + p) ≤ 0)) j) (nI j) M) 0 tp (Nat.zero_le _) (fun n => ?_) (fun j _ hj n ih => ?_)
  · rw [L_X1_placesWith_5, hp]
    exact ⟨fun _ => h, fun q => absurd (by rw [nI_LE (by omega) (by omega)]; exact Nat.le_refl _) q⟩
  · rw [L_X1_placesWith_5, hp, ix_s hs (by omega), ha]
    refine ⟨fun q => absurd q (by rw [nI_LE (by omega) (by omega)]; omega), fun _ => ⟨(vp_nI (by omega) (by omega)).mpr (by omega), ?_⟩⟩
    rw [gI, nI_CL (by omega)]
    rw [orB] at ih
    refine ⟨fun q => ?_, fun q x e => ?_⟩
    · rw [decide_eq_false (fun z => z q), show (if false = true then (1 : Int32) <<< (nI j &&& 31) else 0) = 0 from rfl, or0] at ih
      rw [l_1, nI_add]; exact ih
    · rw [decide_eq_true q] at ih
      rw [l_1, nI_add, e]; exact ih
theorem X1_takenFrom_sp {t tp s : Nat} {M : Mem} {K : Int32 → Mem → Prop} (hp : M.1 t 3 = nI tp) (h10 : tp ≤ 10) (ha : alen (t + 1) = 80) (hs : s < 8) (oA : arcOut (M.1 (t + 1)) tp) (h : K (nI (aks (M.1 (t + 1)) s)) M) : f_X1_takenFrom t (nI s) M K := X1_placesWith_sp hp h10 ha hs oA h
theorem X1_givenTo_sp {t tp s : Nat} {M : Mem} {K : Int32 → Mem → Prop} (hp : M.1 t 3 = nI tp) (h10 : tp ≤ 10) (ha : alen (t + 2) = 80) (hs : s < 8) (oA : arcOut (M.1 (t + 2)) tp) (h : K (nI (aks (M.1 (t + 2)) s)) M) : f_X1_givenTo t (nI s) M K := X1_placesWith_sp hp h10 ha hs oA h
theorem X9_placesOf_sp {s : Nat} {b : Bool} {M : Mem} {K : Int32 → Mem → Prop} (hs : s < 8) (h : K (nI (aks (M.1 (if b then 1 else 2)) s)) M) : f_X9_placesOf (nI s) (bI b) M K := by
  unfold aks at h
  rw [← orB_nI _ (by omega)] at h
  refine upT (fun n j => L_X9_placesOf_5 (nI s) (bI b) (fun v M => K v M) K n (orB (fun p => decide (¬ M.1 (if b then 1 else 2) (10 * s + p) ≤ 0)) j) (nI j) M) 0 10 (by omega) (fun n => ?_) (fun j _ hj n ih => ?_)
  · rw [L_X9_placesOf_5]
    exact ⟨fun _ => h, fun q => absurd (by rw [l_10, nI_LE (by omega) (by omega)]; exact Nat.le_refl _) q⟩
  · rw [L_X9_placesOf_5]
    refine ⟨fun q => absurd q (by rw [l_10, nI_LE (by omega) (by omega)]; omega), fun _ => ?_⟩
    have go : (M.1 (if b then 1 else 2) (10 * s + j) ≤ 0 → ∀ x3 : Int32, x3 = (orB (fun p => decide (¬ M.1 (if b then 1 else 2) (10 * s + p) ≤ 0)) j) ||| (0 : Int32) → L_X9_placesOf_5 (nI s) (bI b) (fun v M => K v M) K n x3 (nI j + (1 : Int32)) M) ∧ (¬ M.1 (if b then 1 else 2) (10 * s + j) ≤ 0 → ∀ x3_2 : Int32, x3_2 = (orB (fun p => decide (¬ M.1 (if b then 1 else 2) (10 * s + p) ≤ 0)) j) ||| ((1 : Int32) <<< (nI j &&& 31)) → L_X9_placesOf_5 (nI s) (bI b) (fun v M => K v M) K n x3_2 (nI j + (1 : Int32)) M) := by
      rw [orB] at ih
      refine ⟨fun q x e => ?_, fun q x e => ?_⟩
      · rw [decide_eq_false (fun z => z q)] at ih
        rw [l_1, nI_add, e]; exact ih
      · rw [decide_eq_true q] at ih
        rw [l_1, nI_add, e]; exact ih
    unfold S_X9_placesOf_14 f_X9_arcAt
    rw [l_80, l_10, l_0, pk_mul, pk_mul, nI_add, nI_add, show 80 * 0 + 10 * s + j = 10 * s + j by omega]
    refine ⟨fun q => ⟨(vp_nI (by omega) (by omega)).mpr (by omega), ?_⟩, fun q => ⟨(vp_nI (by omega) (by omega)).mpr (by omega), ?_⟩⟩
    · rw [gI, nI_CL (by omega)]
      have hb : b = false := b_of0 q
      rw [hb] at go
      rw [hb]
      exact go
    · rw [gI, nI_CL (by omega)]
      have hb : b = true := b_ofn q
      rw [hb] at go
      rw [hb]
      exact go
/-- closed: each step that asks it needs it -/
def cl (a b : Nat → Nat) (m : Nat) : Bool := allB (fun s => decide (a s &&& m = 0) || !decide (b s &&& m = 0)) 8
theorem cl_iff {a b : Nat → Nat} {m : Nat} : cl a b m = true ↔ ∀ s, s < 8 → a s &&& m = 0 ∨ ¬ b s &&& m = 0 := by
  unfold cl
  rw [allB_iff]
  refine ⟨fun h s hs => ?_, fun h s hs => ?_⟩
  · have := h s hs
    simpa using this
  · have := h s hs
    simpa using this
theorem and_n0 {a m : Nat} (ha : a < 1024) : (nI a &&& nI m = 0) = (a &&& m = 0) := by
  have : a &&& m ≤ a := Nat.and_le_left
  rw [nI_and, l_0]
  exact nI_EQ (by omega) (by omega)
theorem X3_isClosed_sp {t m : Nat} {a b : Nat → Nat} {M : Mem} {K : Int32 → Mem → Prop} (ha : ∀ s, s < 8 → M.1 (t + 1) s = nI (a s) ∧ a s < 1024) (hb : ∀ s, s < 8 → M.1 (t + 2) s = nI (b s) ∧ b s < 1024) (h : K (bI (cl a b m)) M) : f_X3_isClosed t (nI m) M K := by
  refine up (fun n j => L_X3_isClosed_2 t (nI m) (fun M => K 1 M) K n (nI j) M) (fun j => ∀ s, s < j → a s &&& m = 0 ∨ ¬ b s &&& m = 0) 0 8 (by omega) (fun s hs => absurd hs (Nat.not_lt_zero s)) (fun hI n => ?_) (fun j _ hj hI n ih => ?_)
  · rw [L_X3_isClosed_2]
    exact ⟨fun _ => k_t h (cl_iff.mpr hI), fun q => absurd (by rw [l_8, nI_LE (by omega) (by omega)]; exact Nat.le_refl _) q⟩
  · rw [L_X3_isClosed_2]
    refine ⟨fun q => absurd q (by rw [l_8, nI_LE (by omega) (by omega)]; omega), fun _ => ⟨(vp_nI (by omega) (by omega)).mpr hj, ?_⟩⟩
    rw [gI, gI, nI_CL (by omega), (ha j hj).1, (hb j hj).1, and_n0 (ha j hj).2, and_n0 (hb j hj).2]
    have nx : (a j &&& m = 0 ∨ ¬ b j &&& m = 0) → L_X3_isClosed_2 t (nI m) (fun M => K 1 M) K n (nI j + 1) M := fun q => by
      rw [l_1, nI_add]
      refine ih (fun s hs => ?_)
      rcases Nat.lt_succ_iff_lt_or_eq.mp hs with k | rfl
      · exact hI s k
      · exact q
    refine ⟨fun q => nx (Or.inl q), fun q => ⟨fun r => nx (Or.inr r), fun r => k_f h ?_⟩⟩
    cases hc : cl a b m
    · rfl
    · rcases cl_iff.mp hc j hj with z | z
      · exact absurd z q
      · exact absurd r z
theorem w1_bI (b : Bool) : (if ¬ bI b = (1 : Int32) then (0 : Int32) else 1) = bI b := by cases b <;> decide
theorem w0_bI (b : Bool) : (if ¬ bI b = (0 : Int32) then (0 : Int32) else 1) = bI (!b) := by cases b <;> decide
/-- what the reference asks, needs: siphons (what 0), traps (what 1) -/
def rA (M : Mem) (b : Bool) : Nat → Nat := aks (M.1 (if b then 1 else 2))
theorem X9_isClosed_sp {m : Nat} {b : Bool} {M : Mem} {K : Int32 → Mem → Prop} (h : K (bI (cl (rA M b) (rA M (!b)) m)) M) : f_X9_isClosed (bI b) (nI m) M K := by
  refine up (fun n j => L_X9_isClosed_2 (bI b) (nI m) (fun M => K 1 M) K n (nI j) M) (fun j => ∀ s, s < j → rA M b s &&& m = 0 ∨ ¬ rA M (!b) s &&& m = 0) 0 8 (by omega) (fun s hs => absurd hs (Nat.not_lt_zero s)) (fun hI n => ?_) (fun j _ hj hI n ih => ?_)
  · rw [L_X9_isClosed_2]
    exact ⟨fun _ => k_t h (cl_iff.mpr hI), fun q => absurd (by rw [l_8, nI_LE (by omega) (by omega)]; exact Nat.le_refl _) q⟩
  · rw [L_X9_isClosed_2, w1_bI, w0_bI]
    refine ⟨fun q => absurd q (by rw [l_8, nI_LE (by omega) (by omega)]; omega), fun _ => X9_placesOf_sp hj ?_⟩
    have nx : (rA M b j &&& m = 0 ∨ ¬ rA M (!b) j &&& m = 0) → L_X9_isClosed_2 (bI b) (nI m) (fun M => K 1 M) K n (nI j + 1) M := fun q => by
      rw [l_1, nI_add]
      refine ih (fun s hs => ?_)
      rcases Nat.lt_succ_iff_lt_or_eq.mp hs with k | rfl
      · exact hI s k
      · exact q
    rw [and_n0 (aks_lt _ _)]
    refine ⟨fun q => nx (Or.inl q), fun q => X9_placesOf_sp hj ?_⟩
    rw [and_n0 (aks_lt _ _)]
    refine ⟨fun r => nx (Or.inr r), fun r => k_f h ?_⟩
    cases hc : cl (rA M b) (rA M (!b)) m
    · rfl
    · rcases cl_iff.mp hc j hj with z | z
      · exact absurd z q
      · exact absurd r z
/-- the greatest closed set within -/
def isGr (a b : Nat → Nat) (m r : Nat) : Prop := sub r m = true ∧ cl a b r = true ∧ ∀ q, sub q m = true → cl a b q = true → sub q r = true
theorem isGr_one {a b : Nat → Nat} {m r r' : Nat} (h : isGr a b m r) (h' : isGr a b m r') : r = r' := sub_as (h'.2.2 r h.1 h.2.1) (h.2.2 r' h'.1 h'.2.1)
theorem and_0 {a m : Nat} : a &&& m = 0 ↔ ∀ i, ¬ (a.testBit i = true ∧ m.testBit i = true) := by
  constructor
  · intro h i ⟨h1, h2⟩
    have := congrArg (fun n => n.testBit i) h
    simp [Nat.testBit_and, h1, h2] at this
  · intro h
    apply Nat.eq_of_testBit_eq
    intro i
    rw [Nat.testBit_and, Nat.zero_testBit]
    cases h1 : a.testBit i <;> cases h2 : m.testBit i <;> first | rfl | exact absurd ⟨h1, h2⟩ (h i)
/-- one step lessens the set: every closed part stays -/
theorem gr_keep {a b : Nat → Nat} {m s q : Nat} (hs : s < 8) (h2 : b s &&& m = 0) (hq : sub q m = true) (hc : cl a b q = true) : sub q (dif m (a s)) = true := by
  have ha : a s &&& q = 0 := by
    rcases cl_iff.mp hc s hs with z | z
    · exact z
    · refine absurd (and_0.mpr fun i ⟨h3, h4⟩ => ?_) z
      exact and_0.mp h2 i ⟨h3, sub_iff.mp hq i h4⟩
  refine sub_iff.mpr fun i hi => ?_
  rw [tb_dif, sub_iff.mp hq i hi]
  cases h5 : (a s).testBit i
  · rfl
  · exact absurd ⟨h5, hi⟩ (and_0.mp ha i)
theorem dif_lt {m x : Nat} (h : ¬ x &&& m = 0) : dif m x < m := by
  have h1 := sub_le (dif_sub m x)
  rcases Nat.lt_or_ge (dif m x) m with q | q
  · exact q
  · refine absurd (and_0.mpr fun i ⟨h2, h3⟩ => ?_) h
    have e : dif m x = m := by omega
    have := congrArg (fun n => n.testBit i) e
    simp only [tb_dif, h2, h3] at this
    cases this
