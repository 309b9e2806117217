/-! rules: leaves -/
/-- the one that has 1, where the others have 0 -/
def one (f : Nat → Nat) (N : Nat) : Option Nat := ff (fun s => if allB (fun i => decide (f i = if i = s then 1 else 0)) N then some s else none) 0 N
theorem one_some {f : Nat → Nat} {N s : Nat} (h : one f N = some s) : s < N ∧ f s = 1 ∧ ∀ i, i < N → i ≠ s → f i = 0 := by
  obtain ⟨j, _, hj, e⟩ := ff_some h
  by_cases q : allB (fun i => decide (f i = if i = j then 1 else 0)) N = true
  · rw [if_pos q] at e
    cases e
    rw [allB_iff] at q
    refine ⟨by omega, ?_, fun i hi hne => ?_⟩
    · have := of_decide_eq_true (q s (by omega)); rw [if_pos rfl] at this; exact this
    · have := of_decide_eq_true (q i hi); rw [if_neg hne] at this; exact this
  · rw [if_neg q] at e; cases e
theorem one_of {f : Nat → Nat} {N s : Nat} (hs : s < N) (h1 : f s = 1) (h0 : ∀ i, i < N → i ≠ s → f i = 0) : one f N = some s := by
  have hc : ∀ j, j < N → (if allB (fun i => decide (f i = if i = j then 1 else 0)) N then some j else none) = if j = s then some s else none := by
    intro j hj
    by_cases q : j = s
    · subst q
      rw [if_pos rfl, if_pos]
      rw [allB_iff]
      intro i hi
      apply decide_eq_true
      by_cases z : i = j
      · rw [if_pos z, z, h1]
      · rw [if_neg z, h0 i hi z]
    · rw [if_neg q, if_neg]
      rw [allB_iff]
      intro z
      have := of_decide_eq_true (z s hs)
      rw [if_neg (fun e => q e.symm), h1] at this
      cases this
  unfold one
  rw [ff_cong (c' := fun j => if j = s then some s else none) (fun j _ hj => hc j (by omega))]
  have : ∀ k lo, lo ≤ s → s < lo + k → ff (fun j => if j = s then some s else none) lo k = some s := by
    intro k
    induction k with
    | zero => intro lo a b; omega
    | succ k ih =>
      intro lo a b
      rw [ff]
      by_cases q : lo = s
      · rw [if_pos q]
      · rw [if_neg q]; exact ih (lo + 1) (by omega) (by omega)
  exact this N 0 (Nat.zero_le _) (by omega)
theorem one_none {f : Nat → Nat} {N : Nat} (h : ¬ ∃ s, s < N ∧ f s = 1 ∧ ∀ i, i < N → i ≠ s → f i = 0) : one f N = none := by
  cases e : one f N with
  | none => rfl
  | some s => obtain ⟨a, b, c⟩ := one_some e; exact absurd ⟨s, a, b, c⟩ h
/-- sums and the last that is not 0, as the reference counts -/
def sm (f : Nat → Nat) : Nat → Nat
  | 0 => 0
  | n + 1 => sm f n + f n
def lastp (f : Nat → Nat) : Nat → Option Nat
  | 0 => none
  | n + 1 => if f n = 0 then lastp f n else some n
theorem sm_0 {f : Nat → Nat} : ∀ {n : Nat}, sm f n = 0 → ∀ i, i < n → f i = 0
  | 0, _, i, hi => absurd hi (Nat.not_lt_zero i)
  | n + 1, h, i, hi => by
    rw [sm] at h
    rcases Nat.lt_succ_iff_lt_or_eq.mp hi with q | rfl
    · exact sm_0 (by omega) i q
    · omega
theorem sm_of0 {f : Nat → Nat} : ∀ {n : Nat}, (∀ i, i < n → f i = 0) → sm f n = 0
  | 0, _ => rfl
  | n + 1, h => by rw [sm, sm_of0 (fun i hi => h i (by omega)), h n (by omega)]
theorem sm_le {f : Nat → Nat} {c : Nat} (hf : ∀ i, f i ≤ c) : ∀ n, sm f n ≤ n * c
  | 0 => by rw [sm, Nat.zero_mul]; exact Nat.le_refl _
  | n + 1 => by rw [sm, Nat.succ_mul]; exact Nat.add_le_add (sm_le hf n) (hf n)
theorem sm_1 {f : Nat → Nat} : ∀ {n : Nat}, sm f n = 1 → ∃ s, s < n ∧ lastp f n = some s ∧ f s = 1 ∧ ∀ i, i < n → i ≠ s → f i = 0
  | 0, h => by cases h
  | n + 1, h => by
    rw [sm] at h
    rcases Nat.eq_zero_or_pos (f n) with q | q
    · obtain ⟨s, a, b, c, d⟩ := sm_1 (n := n) (f := f) (by omega)
      refine ⟨s, by omega, by rw [lastp, if_pos q, b], c, fun i hi hne => ?_⟩
      rcases Nat.lt_succ_iff_lt_or_eq.mp hi with z | rfl
      · exact d i z hne
      · exact q
    · have z0 := sm_0 (f := f) (n := n) (by omega)
      refine ⟨n, by omega, by rw [lastp, if_neg (by omega)], by omega, fun i hi hne => z0 i (by omega)⟩
theorem sm_one {f : Nat → Nat} : ∀ {n s : Nat}, s < n → f s = 1 → (∀ i, i < n → i ≠ s → f i = 0) → sm f n = 1
  | 0, s, hs, _, _ => absurd hs (Nat.not_lt_zero s)
  | n + 1, s, hs, h1, h0 => by
    rw [sm]
    by_cases q : s = n
    · subst q; rw [sm_of0 (fun i hi => h0 i (by omega) (by omega)), h1]
    · rw [sm_one (n := n) (s := s) (by omega) h1 (fun i hi hne => h0 i (by omega) hne), h0 n (by omega) (by omega)]
theorem one_sm {f : Nat → Nat} {N : Nat} : one f N = if sm f N = 1 then lastp f N else none := by
  by_cases q : sm f N = 1
  · obtain ⟨s, a, b, c, d⟩ := sm_1 q
    rw [if_pos q, b, one_of a c d]
  · rw [if_neg q]
    exact one_none (fun ⟨s, a, b, c⟩ => q (sm_one a b c))
theorem sumN_nI {f : Nat → Int32} {g : Nat → Nat} : ∀ {n : Nat}, (∀ i, i < n → f i = nI (g i)) → sumN f n = nI (sm g n)
  | 0, _ => rfl
  | n + 1, h => by rw [sumN, sumN_nI (fun i hi => h i (by omega)), h n (by omega), nI_add, sm]
theorem pop10 (v : Nat) : pop v ≤ 10 := pop_le v
theorem X9_many_sp {v : Nat} {M : Mem} {K : Int32 → Mem → Prop} (hv : v < 2147483648) (h : K (nI (pop v)) M) : f_X9_many (nI v) M K := by
  unfold f_X9_many
  have key : ∃ n, L_X9_many_4 (nI v) (fun v1_2 M_2 => K v1_2 M_2) K n (nI (ctB (fun i => v.testBit i) 0)) (nI 0) M := by
    refine upT (fun n j => L_X9_many_4 (nI v) (fun v1_2 M_2 => K v1_2 M_2) K n (nI (ctB (fun i => v.testBit i) j)) (nI j) M) 0 10 (by omega) (fun n => ?_) (fun j _ hj n ih => ?_)
    · rw [L_X9_many_4]
      exact ⟨fun _ => h, fun q => absurd (by rw [l_10]; exact (nI_LE (by omega) (by omega)).mpr (Nat.le_refl _)) q⟩
    · rw [L_X9_many_4]; simp (disch := omega) only [forall_eq, gI, ix_z, m_10, m10_, m_80, m80_, m300_, m8_, m_8, nI_add, nI_A1, nI_E1, nI_L1, nI_1L, nI_1l, vp_nI, nI_LE, nI_LT, nI_EQ, nI_CL, nI_Z, l_2, l_3, l_4, l_5, l_6, l_7, l_8, l_9, l_10, l_11, l_12, l_13, l_14, l_15, l_16, l_17, l_18, l_19, l_20, l_21, l_22, l_23, l_24, l_25, l_26, l_27, l_28, l_29, l_30, l_32, l_48, l_57, l_59, l_63, l_80, l_96, l_97, l_99, l_122, l_128, l_160, l_170, l_171, l_172, l_200, l_240, l_255, l_256, l_260, l_300, l_900, l_999, l_1023, l_1024, l_1296, l_2064, l_2400, l_3010, l_4800, l_6000, l_600, l_10000]
      refine ⟨by omega, fun _ => ?_⟩
      have hb := bt_nI hv (k := j) (by omega)
      unfold bt at hb
      have e : nI (ctB (fun i => v.testBit i) j) + (nI v >>> (nI j &&& 31) &&& 1) = nI (ctB (fun i => v.testBit i) (j + 1)) := by
        cases q : v.testBit j
        · rw [q] at hb
          rw [bit_0.mpr (of_decide_eq_false hb), Int32.add_zero, ctB_f (c := fun i => v.testBit i) q]
        · rw [q] at hb
          rw [of_decide_eq_true hb, nI_A1, ctB_t (c := fun i => v.testBit i) q]
      rw [e]
      exact ih
  exact key
def bcf (v0 : Int32) : Int32 :=
  let x0 := v0 - ((ushr v0 1) &&& 1431655765)
  let x1 := (x0 &&& 858993459) + ((ushr x0 2) &&& 858993459)
  let x2 := (x1 + (ushr x1 4)) &&& 252645135
  let x3 := x2 + (ushr x2 8)
  let x4 := x3 + (ushr x3 16)
  x4 &&& 63
theorem bcf_pop : ∀ v, v < 1024 → bcf (nI v) = nI (pop v) := by decide +kernel
theorem J6_bitCount_sp {v : Nat} {M : Mem} {K : Int32 → Mem → Prop} (hv : v < 1024) (h : K (nI (pop v)) M) : f_J6_bitCount_0f7a4 (nI v) M K := by
  rw [← bcf_pop v hv] at h
  unfold f_J6_bitCount_0f7a4
  intro x0 e0 x1 e1 x2 e2 x3 e3 x4 e4
  rw [e4, e3, e2, e1, e0]
  exact h
