/-! the ways back, sorted -/
def cc (g : GS) (j e : Nat) : Nat := ctB (fun e' => decide (gx g e' = nI j)) e
def cnt (g : GS) (j : Nat) : Nat := cc g j (8 * gk g)
theorem cc_s (g : GS) (j e : Nat) : cc g j (e + 1) = cc g j e + (if gx g e = nI j then 1 else 0) := by
  unfold cc
  by_cases q : gx g e = nI j
  · rw [ctB_t (c := fun e' => decide (gx g e' = nI j)) (decide_eq_true q), if_pos q]
  · rw [ctB_f (c := fun e' => decide (gx g e' = nI j)) (decide_eq_false q), if_neg q]; rfl
theorem sm_add {f h : Nat → Nat} : ∀ n, sm (fun j => f j + h j) n = sm f n + sm h n
  | 0 => rfl
  | n + 1 => by rw [sm, sm, sm, sm_add n]; omega
theorem sm_ind {x : Int32} : ∀ n, n < 1000 → sm (fun j => if x = nI j then 1 else 0) n ≤ 1 ∧ (sm (fun j => if x = nI j then 1 else 0) n = 1 → ∃ j, j < n ∧ x = nI j)
  | 0, _ => ⟨Nat.zero_le _, fun h => by cases h⟩
  | n + 1, hn => by
    obtain ⟨a, b⟩ := sm_ind (x := x) n (by omega)
    rw [sm]
    by_cases q : x = nI n
    · rw [if_pos q]
      rcases Nat.eq_zero_or_pos (sm (fun j => if x = nI j then 1 else 0) n) with z | z
      · rw [z]; exact ⟨by omega, fun _ => ⟨n, by omega, q⟩⟩
      · obtain ⟨j, hj, e⟩ := b (by omega)
        rw [e, nI_EQ (by omega) (by omega)] at q
        omega
    · rw [if_neg q]
      exact ⟨a, fun h => by obtain ⟨j, hj, e⟩ := b h; exact ⟨j, by omega, e⟩⟩
theorem sm_cc (g : GS) {n : Nat} (hn : n < 1000) : ∀ e, sm (fun j => cc g j e) n ≤ e
  | 0 => by rw [sm_of0 (f := fun j => cc g j 0) (fun _ _ => rfl)]; exact Nat.le_refl _
  | e + 1 => by
    have h1 : sm (fun j => cc g j (e + 1)) n = sm (fun j => cc g j e) n + sm (fun j => if gx g e = nI j then 1 else 0) n := by
      rw [← sm_add]
      have : (fun j => cc g j (e + 1)) = fun j => cc g j e + (if gx g e = nI j then 1 else 0) := funext fun j => cc_s g j e
      rw [this]
    have := (sm_ind (x := gx g e) n hn).1
    have := sm_cc g hn e
    omega
theorem sm_mono {f : Nat → Nat} {m : Nat} : ∀ {n : Nat}, m ≤ n → sm f m ≤ sm f n
  | 0, h => by cases Nat.le_zero.mp h; exact Nat.le_refl _
  | n + 1, h => by
    rcases Nat.lt_or_ge n m with q | q
    · rw [show m = n + 1 by omega]; exact Nat.le_refl _
    · have := sm_mono (f := f) q; rw [sm]; omega
theorem cc_le (g : GS) {j e e' : Nat} (h : e ≤ e') : cc g j e ≤ cc g j e' := ctB_mono _ h
theorem cc_lt (g : GS) {j e e' : Nat} (h : e < e') (hx : gx g e = nI j) : cc g j e < cc g j e' := ctB_lt h (decide_eq_true hx)
/-- what the ways back are -/
def bL (M : Mem) (t : Nat) (g : GS) : Prop := (∀ j, j ≤ gk g → M.1 (t + 7) j = nI (sm (cnt g) j)) ∧ sm (cnt g) (gk g) ≤ 2400 ∧ (∀ e, e < 8 * gk g → ∀ j, j < gk g → gx g e = nI j → ∃ q, sm (cnt g) j ≤ q ∧ q < sm (cnt g) (j + 1) ∧ M.1 (t + 8) q = nI (e / 8)) ∧ (∀ j, j < gk g → ∀ q, sm (cnt g) j ≤ q → q < sm (cnt g) (j + 1) → ∃ e, e < 8 * gk g ∧ gx g e = nI j ∧ M.1 (t + 8) q = nI (e / 8))
theorem X0_lb23_sp {t : Nat} {g : GS} {M0 : Mem} {X K : Mem → Prop} (v : GV g) (hx : xok g (8 * gk g)) (hk : M0.1 t 12 = nI (gk g)) (h5 : ∀ e, e < 8 * gk g → M0.1 (t + 5) e = gx g e) (h7 : ∀ j, j ≤ gk g → M0.1 (t + 7) j = 0)
    (h : ∀ M', (∀ j, j ≤ gk g → M'.1 (t + 7) j = nI (cnt g j)) → (∀ b, b ≠ t + 7 → M'.1 b = M0.1 b) → M'.2 = M0.2 → X M') : ∃ n, L_X0_linkBack_23 t X K n 0 M0 := by
  have k3 := v.1
  have key : ∀ d e, e + d = 8 * gk g → ∀ M : Mem, (∀ j, j ≤ gk g → M.1 (t + 7) j = nI (cc g j e)) → (∀ b, b ≠ t + 7 → M.1 b = M0.1 b) → M.2 = M0.2 → L_X0_linkBack_23 t X K (d + 1) (nI e) M := by
    intro d
    induction d with
    | zero =>
      intro e he M h1 h2 h3
      have e8 : e = 8 * gk g := by omega
      rw [L_X0_linkBack_23, h2 t (by omega), hk]; simp (disch := omega) only [l_8, m_8, nI_LE]
      exact ⟨fun _ => h M (fun j hj => by rw [h1 j hj, e8]; rfl) h2 h3, by omega⟩
    | succ d ih =>
      intro e he M h1 h2 h3
      have hg : M.1 (t + 5) e = gx g e := by rw [h2 _ (by omega)]; exact h5 e (by omega)
      rw [L_X0_linkBack_23, h2 t (by omega), hk]; simp (disch := omega) only [l_8, m_8, nI_LE, vp_nI, gI, nI_CL, nI_A1, hg]
      refine ⟨by omega, fun _ => ⟨by omega, fun z => ?_, fun z => ?_⟩⟩
      · refine ih (e + 1) (by omega) M (fun j hj => ?_) h2 h3
        rw [cc_s, if_neg (by rw [z]; exact fun y => nI_M (by omega) y.symm)]
        exact h1 j hj
      · rcases hx e (by omega) with y | ⟨j, hj, y⟩
        · exact absurd y z
        have hcl := cc_le g (j := j) (show e ≤ 8 * gk g by omega)
        rw [y, nI_CL (by omega)]
        refine ⟨(vp_nI (by omega) (by omega)).mpr (by omega), fun M4 e4 => ih (e + 1) (by omega) M4 (fun j' hj' => ?_) (fun b hb => by rw [e4, w1_ne hb, h2 b hb]) (by rw [e4, w1_2, h3])⟩
        rw [cc_s]
        by_cases q : j' = j
        · subst q; rw [e4, w1_at, if_pos y, h1 _ (by omega), nI_A1]
        · rw [e4, w1_no q, if_neg (by rw [y, nI_EQ (by omega) (by omega)]; omega)]
          exact h1 j' hj'
  exact ⟨_, key (8 * gk g) 0 (by omega) M0 (fun j hj => by rw [h7 j hj]; rfl) (fun _ _ => rfl) rfl⟩
theorem X0_lb69_sp {t : Nat} {g : GS} {M0 : Mem} {X K : Mem → Prop} (v : GV g) (hk : M0.1 t 12 = nI (gk g)) (h7 : ∀ j, j ≤ gk g → M0.1 (t + 7) j = nI (cnt g j))
    (h : ∀ M', (∀ j, j ≤ gk g → M'.1 (t + 7) j = nI (sm (cnt g) (j + 1))) → (∀ b, b ≠ t + 7 → M'.1 b = M0.1 b) → M'.2 = M0.2 → X M') : ∃ n, L_X0_linkBack_69 t X K n 0 0 M0 := by
  have k3 := v.1
  have key : ∀ d e, e + d = gk g + 1 → ∀ M : Mem, (∀ j, j < e → M.1 (t + 7) j = nI (sm (cnt g) (j + 1))) → (∀ j, e ≤ j → M.1 (t + 7) j = M0.1 (t + 7) j) → (∀ b, b ≠ t + 7 → M.1 b = M0.1 b) → M.2 = M0.2 → L_X0_linkBack_69 t X K (d + 1) (nI (sm (cnt g) e)) (nI e) M := by
    intro d
    induction d with
    | zero =>
      intro e he M h1 h1' h2 h3
      rw [L_X0_linkBack_69, h2 t (by omega), hk, nI_LT (by omega) (by omega)]
      exact ⟨fun _ => h M (fun j hj => h1 j (by omega)) h2 h3, by omega⟩
    | succ d ih =>
      intro e he M h1 h1' h2 h3
      rw [L_X0_linkBack_69, h2 t (by omega), hk, nI_LT (by omega) (by omega), nI_A1, gI, nI_CL (by omega), h1' e (by omega), h7 e (by omega), nI_add]
      refine ⟨by omega, fun _ => ⟨(vp_nI (by omega) (by omega)).mpr (by omega), fun x1 e1 M6 e6 => ?_⟩⟩
      rw [e1] at e6 ⊢
      refine ih (e + 1) (by omega) M6 (fun j hj => ?_) (fun j hj => by rw [e6, w1_no (by omega)]; exact h1' j (by omega)) (fun b hb => by rw [e6, w1_ne hb, h2 b hb]) (by rw [e6, w1_2, h3])
      by_cases q : j = e
      · subst q; rw [e6, w1_at, sm]
      · rw [e6, w1_no q]; exact h1 j (by omega)
  exact ⟨_, key (gk g + 1) 0 (by omega) M0 (fun j hj => absurd hj (Nat.not_lt_zero j)) (fun _ _ => rfl) (fun _ _ => rfl) rfl⟩
theorem div8 {e : Nat} (h : e < 100000) : nI e / 8 = nI (e / 8) := by rw [l_8]; exact pk_div (d := 8) (by omega) (by omega) (by omega)
theorem X0_lb101_sp {t : Nat} {g : GS} {M0 : Mem} {X K : Mem → Prop} (v : GV g) (hx : xok g (8 * gk g)) (hk : M0.1 t 12 = nI (gk g)) (h5 : ∀ e, e < 8 * gk g → M0.1 (t + 5) e = gx g e) (h7 : ∀ j, j ≤ gk g → M0.1 (t + 7) j = nI (sm (cnt g) (j + 1)))
    (h : ∀ M', bL M' t g → (∀ b, b ≠ t + 7 → b ≠ t + 8 → M'.1 b = M0.1 b) → M'.2 = M0.2 → X M') : ∃ n, L_X0_linkBack_101 t X K n 0 M0 := by
  have k3 := v.1
  have tot : sm (cnt g) (gk g) ≤ 8 * gk g := sm_cc g (by omega) (8 * gk g)
  have sj : ∀ j, sm (cnt g) (j + 1) = sm (cnt g) j + cnt g j := fun j => rfl
  have key : ∀ d e, e + d = 8 * gk g → ∀ M : Mem, (∀ j, j ≤ gk g → M.1 (t + 7) j = nI (sm (cnt g) (j + 1) - cc g j e)) → (∀ e', e' < e → ∀ j, j < gk g → gx g e' = nI j → M.1 (t + 8) (sm (cnt g) (j + 1) - 1 - cc g j e') = nI (e' / 8)) → (∀ b, b ≠ t + 7 → b ≠ t + 8 → M.1 b = M0.1 b) → M.2 = M0.2 → L_X0_linkBack_101 t X K (d + 1) (nI e) M := by
    intro d
    induction d with
    | zero =>
      intro e he M h1 h1' h2 h3
      have e8 : e = 8 * gk g := by omega
      subst e8
      rw [L_X0_linkBack_101, h2 t (by omega) (by omega), hk]; simp (disch := omega) only [l_8, m_8, nI_LE]
      refine ⟨fun _ => h M ⟨fun j hj => ?_, by omega, fun e he j hj ej => ?_, fun j hj q q1 q2 => ?_⟩ h2 h3, by omega⟩
      · rw [h1 j hj, sj j]
        show nI (sm (cnt g) j + cnt g j - cnt g j) = _
        rw [Nat.add_sub_cancel]
      · have c1 := cc_lt g he ej
        have : cnt g j = cc g j (8 * gk g) := rfl
        have := sj j
        exact ⟨sm (cnt g) (j + 1) - 1 - cc g j e, by omega, by omega, h1' e he j hj ej⟩
      · have := sj j
        obtain ⟨e, a, b, c⟩ := ctB_kth (c := fun e' => decide (gx g e' = nI j)) (k := sm (cnt g) (j + 1) - 1 - q) (n := 8 * gk g) (by show _ < cnt g j; omega)
        have b := of_decide_eq_true b
        have := h1' e a j hj b
        rw [show cc g j e = sm (cnt g) (j + 1) - 1 - q from c, show sm (cnt g) (j + 1) - 1 - (sm (cnt g) (j + 1) - 1 - q) = q by omega] at this
        exact ⟨e, a, b, this⟩
    | succ d ih =>
      intro e he M h1 h1' h2 h3
      have hg : M.1 (t + 5) e = gx g e := by rw [h2 _ (by omega) (by omega)]; exact h5 e (by omega)
      rw [L_X0_linkBack_101, h2 t (by omega) (by omega), hk, gI, nI_CL (by omega), hg, nI_A1, div8 (by omega), l_8, m_8, nI_LE (by omega) (by omega)]
      refine ⟨by omega, fun _ => ⟨(vp_nI (by omega) (by omega)).mpr (by omega), fun z => ?_, fun z => ?_⟩⟩
      · refine ih (e + 1) (by omega) M (fun j hj => ?_) (fun e' he' j hj ej => ?_) h2 h3
        · rw [cc_s, if_neg (by rw [z]; exact fun y => nI_M (by omega) y.symm)]
          exact h1 j hj
        · by_cases q : e' = e
          · subst q; rw [z] at ej; exact absurd ej.symm (nI_M (by omega))
          · exact h1' e' (by omega) j hj ej
      · rcases hx e (by omega) with y | ⟨j, hj, y⟩
        · exact absurd y z
        have hcl := cc_lt g (j := j) (show e < 8 * gk g by omega) y
        have hcn : cnt g j = cc g j (8 * gk g) := rfl
        have hsj := sj j
        have hmo := sm_mono (f := cnt g) (show j + 1 ≤ gk g by omega)
        rw [y]
        refine ⟨(vp_nI (by omega) (by omega)).mpr (by omega), fun M8 e8 => ?_⟩
        rw [nI_CL (by omega), gI, nI_CL (by omega), h1 j (by omega)] at e8
        have sub1 : nI (sm (cnt g) (j + 1) - cc g j e) - 1 = nI (sm (cnt g) (j + 1) - 1 - cc g j e) := by
          rw [show sm (cnt g) (j + 1) - cc g j e = (sm (cnt g) (j + 1) - 1 - cc g j e) + 1 by omega, ← nI_A1]
          exact Int32.add_sub_cancel _ _
        rw [sub1] at e8
        have g5 : M8.1 (t + 5) e = nI j := by rw [e8, w1_ne (by omega), hg, y]
        have g7 : M8.1 (t + 7) j = nI (sm (cnt g) (j + 1) - 1 - cc g j e) := by rw [e8, w1_at]
        rw [gI, nI_CL (by omega), g5, gI, nI_CL (by omega), g7]
        refine ⟨(vp_nI (by omega) (by omega)).mpr (by omega), (vp_nI (by omega) (by omega)).mpr (by omega), fun M9 e9 => ?_⟩
        rw [nI_CL (by omega)] at e9
        refine ih (e + 1) (by omega) M9 (fun j' hj' => ?_) (fun e' he' j' hj' ej' => ?_) (fun b hb hb' => by rw [e9, w1_ne hb', e8, w1_ne hb, h2 b hb hb']) (by rw [e9, w1_2, e8, w1_2, h3])
        · rw [e9, w1_ne (by omega), cc_s]
          by_cases q : j' = j
          · subst q; rw [g7, if_pos y, Nat.sub_sub, Nat.add_comm 1]
          · rw [e8, w1_no q, if_neg (by rw [y, nI_EQ (by omega) (by omega)]; omega)]
            exact h1 j' hj'
        · by_cases q : e' = e
          · subst q
            rw [y, nI_EQ (by omega) (by omega)] at ej'
            subst ej'
            rw [e9, w1_at]
          · have hl' := cc_lt g (j := j') (show e' < 8 * gk g by omega) ej'
            have hcn' : cnt g j' = cc g j' (8 * gk g) := rfl
            have hsj' := sj j'
            have ne : sm (cnt g) (j' + 1) - 1 - cc g j' e' ≠ sm (cnt g) (j + 1) - 1 - cc g j e := by
              rcases Nat.lt_trichotomy j' j with u | u | u
              · have := sm_mono (f := cnt g) (show j' + 1 ≤ j by omega)
                omega
              · subst u
                have := cc_lt g (j := j') (show e' < e by omega) ej'
                omega
              · have := sm_mono (f := cnt g) (show j + 1 ≤ j' by omega)
                omega
            rw [e9, w1_no ne, e8, w1_ne (by omega)]
            exact h1' e' (by omega) j' hj' ej'
  refine ⟨_, key (8 * gk g) 0 (by omega) M0 (fun j hj => by rw [h7 j hj]; rfl) (fun e' he' => absurd he' (Nat.not_lt_zero e')) (fun _ _ _ => rfl) rfl⟩
theorem X0_linkBack_sp {t : Nat} {g : GS} {M : Mem} {K : Mem → Prop} (ht : alen (t + 7) = 301) (v : GV g) (hx : xok g (8 * gk g)) (hk : M.1 t 12 = nI (gk g)) (h5 : ∀ e, e < 8 * gk g → M.1 (t + 5) e = gx g e) (hb : M.1 t 15 ≠ 0 → bL M t g)
    (h : ∀ M', bL M' t g → M'.1 t 15 ≠ 0 → (∀ b, b ≠ t → b ≠ t + 7 → b ≠ t + 8 → M'.1 b = M.1 b) → (∀ k, k ≠ 15 → M'.1 t k = M.1 t k) → M'.2 = M.2 → K M') : f_X0_linkBack t M K := by
  have k3 := v.1
  unfold f_X0_linkBack
  refine ⟨fun z M2 e2 => ?_, fun z => h M (hb z) z (fun _ _ _ _ => rfl) (fun _ _ => rfl) rfl⟩
  refine J7_fill_sp ht (by omega) (fun M3 a1 a2 a3 a4 => ?_)
  have n3 : ∀ b, b ≠ t → b ≠ t + 7 → M3.1 b = M.1 b := fun b h1 h2 => by rw [a3 b h2, e2, w1_ne h1]
  have t3 : ∀ k, k ≠ 15 → M3.1 t k = M.1 t k := fun k hk => by rw [a3 t (by omega), e2, w1_no hk]
  refine X0_lb23_sp v hx (by rw [t3 12 (by decide)]; exact hk) (fun e he => by rw [n3 _ (by omega) (by omega)]; exact h5 e he) (fun j hj => a1 j (by omega)) (fun M5 b1 b2 b3 => ?_)
  refine X0_lb69_sp v (by rw [b2 t (by omega), t3 12 (by decide)]; exact hk) b1 (fun M7 c1 c2 c3 => ?_)
  refine X0_lb101_sp v hx (by rw [c2 t (by omega), b2 t (by omega), t3 12 (by decide)]; exact hk) (fun e he => by rw [c2 _ (by omega), b2 _ (by omega), n3 _ (by omega) (by omega)]; exact h5 e he) c1 (fun M' d1 d2 d3 => h M' d1 ?_ (fun b h1 h2 h3 => ?_) (fun k hk => ?_) ?_)
  · rw [d2 t (by omega) (by omega), c2 t (by omega), b2 t (by omega), a3 t (by omega), e2, w1_at]; decide
  · rw [d2 b h2 h3, c2 b h2, b2 b h2, n3 b h1 h2]
  · rw [d2 t (by omega) (by omega), c2 t (by omega), b2 t (by omega), t3 k hk]
  · rw [d3, c3, b3, a4, e2, w1_2]
