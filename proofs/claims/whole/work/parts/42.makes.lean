/-! the class: all rules; the small net -/
theorem X5_doFirstThatFits_sp {n : NN} {tp ts c : Nat} {M : Mem} {K : Int32 → Mem → Prop} (hn : atC M 147 n tp ts) (hc : M.1 146 4 = nI c) (hc18 : c < 18) (h : QC M K c (rl n)) : f_X5_doFirstThatFits M K := by
  unfold rl at h
  unfold f_X5_doFirstThatFits
  refine X5_dropLikePlace_sp hn hc hc18 ⟨fun e => ?_, fun r e M' o => ?_⟩
  rotate_left
  · rw [e] at h; exact ⟨fun _ => h.2 _ rfl M' o, fun e => absurd e (by decide)⟩
  rw [e] at h
  refine ⟨fun e => absurd rfl e, fun _ => ?_⟩
  refine X5_dropLikeStep_sp hn hc hc18 ⟨fun e => ?_, fun r e M' o => ?_⟩
  rotate_left
  · rw [e] at h; exact ⟨fun _ => h.2 _ rfl M' o, fun e => absurd e (by decide)⟩
  rw [e] at h
  refine ⟨fun e => absurd rfl e, fun _ => ?_⟩
  refine X5_dropIdlePlace_sp hn hc hc18 ⟨fun e => ?_, fun r e M' o => ?_⟩
  rotate_left
  · rw [e] at h; exact ⟨fun _ => h.2 _ rfl M' o, fun e => absurd e (by decide)⟩
  rw [e] at h
  refine ⟨fun e => absurd rfl e, fun _ => ?_⟩
  refine X5_dropIdleStep_sp hn hc hc18 ⟨fun e => ?_, fun r e M' o => ?_⟩
  rotate_left
  · rw [e] at h; exact ⟨fun _ => h.2 _ rfl M' o, fun e => absurd e (by decide)⟩
  rw [e] at h
  refine ⟨fun e => absurd rfl e, fun _ => ?_⟩
  refine X5_joinSteps_sp hn hc hc18 ⟨fun e => ?_, fun r e M' o => ?_⟩
  rotate_left
  · rw [e] at h; exact ⟨fun _ => h.2 _ rfl M' o, fun e => absurd e (by decide)⟩
  rw [e] at h
  refine ⟨fun e => absurd rfl e, fun _ => ?_⟩
  refine X5_joinPlaces_sp hn hc hc18 ⟨fun e => ?_, fun r e M' o => ?_⟩
  rotate_left
  · rw [e] at h; exact ⟨fun e => absurd e (by decide), fun _ => h.2 _ rfl M' o⟩
  rw [e] at h
  exact ⟨fun _ => h.1 rfl, fun e => absurd rfl e⟩
/-- the rules one after another -/
noncomputable def redN : Nat → NN → NN
  | 0, n => n
  | k + 1, n => match rl n with
    | none => n
    | some r => redN k r.2.2.2
noncomputable def redL : Nat → NN → List (Nat × Option Nat × Option Nat)
  | 0, _ => []
  | k + 1, n => match rl n with
    | none => []
    | some r => (r.1, r.2.1, r.2.2.1) :: redL k r.2.2.2
theorem redL_le (n : NN) : ∀ k, (redL k n).length ≤ k := by
  intro k
  induction k generalizing n with
  | zero => exact Nat.le_refl _
  | succ k ih =>
    rw [redL]
    cases rl n with
    | none => exact Nat.zero_le _
    | some r => exact Nat.succ_le_succ (ih _)
/-- what lies in the rows of rules: from c on, the list -/
def rlsAt (A B C : Nat → Int32) (c : Nat) (l : List (Nat × Option Nat × Option Nat)) : Prop := ∀ i, i < l.length → ∀ x, l[i]? = some x → A (c + i) = nI x.1 ∧ B (c + i) = oI x.2.1 ∧ C (c + i) = oI x.2.2
theorem rls_cons {A' B' C' : Nat → Int32} {c : Nat} {x : Nat × Option Nat × Option Nat} {l : List (Nat × Option Nat × Option Nat)} (h : rlsAt A' B' C' (c + 1) l) (h1 : A' c = nI x.1) (h2 : B' c = oI x.2.1) (h3 : C' c = oI x.2.2) : rlsAt A' B' C' c (x :: l) := by
  intro i hi y hy
  cases i with
  | zero => cases hy; exact ⟨h1, h2, h3⟩
  | succ i =>
    have := h i (Nat.lt_of_succ_lt_succ hi) y hy
    rw [show c + 1 + i = c + (i + 1) by omega] at this
    exact this
theorem mu_18 (n : NN) {tp ts : Nat} (w : WF n tp ts) : mu n ≤ 18 := by
  have h1 := pop_le (nP n)
  have h2 : pop (nS n) ≤ 8 := by
    unfold pop
    have : ctB (fun i => (nS n).testBit i) 10 = ctB (fun i => (nS n).testBit i) 8 := by
      rw [ctB_f (n := 9) (c := fun i => (nS n).testBit i) (wf_Sh w (by have := w.2.1; omega)), ctB_f (n := 8) (c := fun i => (nS n).testBit i) (wf_Sh w (by have := w.2.1; omega))]
    rw [this]; exact ctB_le _ 8
  unfold mu; omega
theorem rl_0 {n : NN} {tp ts : Nat} (w : WF n tp ts) (h : mu n = 0) : rl n = none := by
  cases e : rl n with
  | none => rfl
  | some r => have := (rl_ok w e).2.1; omega
theorem red_en {tp ts : Nat} : ∀ {k : Nat} {n : NN}, WF n tp ts → mu n ≤ k → rl (redN k n) = none ∧ WF (redN k n) tp ts
  | 0, n, w, h => ⟨rl_0 (n := n) w (by omega), w⟩
  | k + 1, n, w, h => by
    rw [redN]
    cases e : rl n with
    | none => exact ⟨e, w⟩
    | some r => have ok := rl_ok w e; exact red_en ok.1 (by have := ok.2.1; omega)
theorem X5_loop_sp {tp ts : Nat} {X : Mem → Prop} {K : Mem → Prop} : ∀ {d c : Nat} {n : NN} {M : Mem}, c + d = 18 → mu n ≤ d → atC M 147 n tp ts → M.1 146 4 = nI c → (∀ M', atC M' 147 (redN d n) tp ts → M'.1 146 = upd (M.1 146) 4 (nI (c + (redL d n).length)) → rlsAt (M'.1 151) (M'.1 152) (M'.1 153) c (redL d n) → (∀ i, i < c → M'.1 151 i = M.1 151 i ∧ M'.1 152 i = M.1 152 i ∧ M'.1 153 i = M.1 153 i) → (∀ b, b < 146 ∨ 153 < b → M'.1 b = M.1 b) → M'.2 = M.2 → X M') → L_X5_makeSmall_35 X K (d + 1) (nI c) M := by
  intro d
  induction d with
  | zero =>
    intro c n M hcd hmu hn hc h
    rw [L_X5_makeSmall_35]; simp (disch := omega) only [forall_eq, gI, ix_z, m_10, m10_, m_80, m80_, m300_, m8_, m_8, nI_add, nI_A1, nI_E1, nI_L1, nI_1L, nI_1l, vp_nI, nI_LE, nI_LT, nI_EQ, nI_CL, nI_Z, l_2, l_3, l_4, l_5, l_6, l_7, l_8, l_9, l_10, l_11, l_12, l_13, l_14, l_15, l_16, l_17, l_18, l_19, l_20, l_21, l_22, l_23, l_24, l_25, l_26, l_27, l_28, l_29, l_30, l_32, l_48, l_57, l_59, l_63, l_80, l_96, l_97, l_99, l_122, l_128, l_160, l_170, l_171, l_172, l_200, l_240, l_255, l_256, l_260, l_300, l_900, l_999, l_1023, l_1024, l_1296, l_2064, l_2400, l_3010, l_4800, l_6000, l_600, l_10000]
    refine ⟨fun _ => h M hn ?_ (fun i hi => absurd hi (Nat.not_lt_zero i)) (fun _ _ => ⟨rfl, rfl, rfl⟩) (fun _ _ => rfl) rfl, by omega⟩
    funext k
    by_cases q : k = 4
    · subst q; rw [upd_at]; exact hc
    · rw [upd_no q]
  | succ d ih =>
    intro c n M hcd hmu hn hc h
    rw [L_X5_makeSmall_35]; simp (disch := omega) only [forall_eq, gI, ix_z, m_10, m10_, m_80, m80_, m300_, m8_, m_8, nI_add, nI_A1, nI_E1, nI_L1, nI_1L, nI_1l, vp_nI, nI_LE, nI_LT, nI_EQ, nI_CL, nI_Z, l_2, l_3, l_4, l_5, l_6, l_7, l_8, l_9, l_10, l_11, l_12, l_13, l_14, l_15, l_16, l_17, l_18, l_19, l_20, l_21, l_22, l_23, l_24, l_25, l_26, l_27, l_28, l_29, l_30, l_32, l_48, l_57, l_59, l_63, l_80, l_96, l_97, l_99, l_122, l_128, l_160, l_170, l_171, l_172, l_200, l_240, l_255, l_256, l_260, l_300, l_900, l_999, l_1023, l_1024, l_1296, l_2064, l_2400, l_3010, l_4800, l_6000, l_600, l_10000]
    refine ⟨by omega, fun _ => X5_doFirstThatFits_sp hn hc (by omega) ⟨fun e => ?_, fun r e M' o => ?_⟩⟩
    · refine ⟨fun e => absurd rfl e, fun _ => ?_⟩
      rw [redN, redL, e] at h
      refine h M hn ?_ (fun i hi => absurd hi (Nat.not_lt_zero i)) (fun _ _ => ⟨rfl, rfl, rfl⟩) (fun _ _ => rfl) rfl
      funext k
      by_cases q : k = 4
      · subst q; rw [upd_at]; exact hc
      · rw [upd_no q]
    · refine ⟨fun _ => ?_, fun e => absurd e (by decide)⟩
      have ok := rl_ok hn.2.2.2 e
      obtain ⟨o1, o2, o3, o4, o5, o6, o7, o8, o9⟩ := o
      refine ih (c := c + 1) (n := r.2.2.2) (by omega) (by have := ok.2.1; omega) ⟨o1, by rw [o2]; exact hn.2.1, by rw [o3]; exact hn.2.2.1, ok.1⟩ (by rw [o4, upd_at]) (fun M'' a1 a2 a3 a4 a5 a6 => ?_)
      rw [redN, redL, e] at h
      have a4c := a4 c (by omega)
      refine h M'' a1 ?_ (rls_cons a3 ?_ ?_ ?_) (fun i hi => ?_) (fun b hb => by rw [a5 b hb, o8 b hb]) (by rw [a6, o9])
      · rw [a2, o4]
        show _ = upd (M.1 146) 4 (nI (c + ((redL d r.2.2.2).length + 1)))
        rw [show c + ((redL d r.2.2.2).length + 1) = c + 1 + (redL d r.2.2.2).length by omega]
        funext k
        by_cases q : k = 4
        · subst q; rw [upd_at, upd_at]
        · rw [upd_no q, upd_no q, upd_no q]
      · rw [a4c.1, o5, upd_at]
      · rw [a4c.2.1, o6, upd_at]
      · rw [a4c.2.2, o7, upd_at]
      · have := a4 i (by omega)
        rw [this.1, this.2.1, this.2.2, o5, o6, o7, upd_no (by omega), upd_no (by omega), upd_no (by omega)]
        exact ⟨rfl, rfl, rfl⟩
theorem X5_makeSmall_sp {n : NN} {tp ts : Nat} {M : Mem} {K : Mem → Prop} (hn : atC M 50 n tp ts) (hs : M.1 146 5 = M.1 50 8 → K M)
    (h : ¬ M.1 146 5 = M.1 50 8 → ∀ M', atC M' 147 (redN 18 n) tp ts → M'.1 146 4 = nI (redL 18 n).length → M'.1 146 5 = M.1 50 8 → rlsAt (M'.1 151) (M'.1 152) (M'.1 153) 0 (redL 18 n) → (∀ b, b < 146 ∨ 153 < b → M'.1 b = M.1 b) → M'.2 = M.2 → K M') : f_X5_makeSmall 50 M K := by
  unfold f_X5_makeSmall
  refine ⟨fun e M2 e2 => ?_, hs⟩
  have f2 : ∀ b, b ≠ 146 → M2.1 b = M.1 b := fun b hb => by rw [e2, w1_ne hb]
  have n2 : nt M2 50 = nt M 50 := by unfold nt; rw [f2 _ (by decide), f2 _ (by decide), f2 _ (by decide), f2 _ (by decide)]
  refine X1_copyFrom_sp (by omega) (fun M3 a1 _ _ a4 a5 => ?_)
  rw [n2] at a1
  intro M4 e4
  have f4 : ∀ b, b ≠ 146 → M4.1 b = M3.1 b := fun b hb => by rw [e4, w1_ne hb]
  have n4 : nt M4 147 = nt M 50 := by rw [← a1]; unfold nt; rw [f4 _ (by decide), f4 _ (by decide), f4 _ (by decide), f4 _ (by decide)]
  have at4 : atC M4 147 n tp ts := ⟨by rw [n4]; exact hn.1, by have := congrArg (·.2.2.2.1) n4; exact Eq.trans this hn.2.1, by have := congrArg (·.2.2.2.2.1) n4; exact Eq.trans this hn.2.2.1, hn.2.2.2⟩
  refine ⟨19, X5_loop_sp (d := 18) (c := 0) (n := n) (by omega) (mu_18 n hn.2.2.2) at4 (by rw [e4, w1_at]; rfl) (fun M' b1 b2 b3 b4 b5 b6 => h e M' b1 ?_ ?_ b3 (fun b hb => ?_) ?_)⟩
  · rw [b2, upd_at, Nat.zero_add]
  · rw [b2, upd_no (by decide), e4, w1_no (by decide), a4 146 (by omega), e2, w1_at]
  · rw [b5 b hb, f4 b (by omega), a4 b (by omega), f2 b (by omega)]
  · rw [b6, e4, w1_2, a5, e2, w1_2]
