theorem qS_le {M : Mem} {t m : Nat} {g : GS} {q : Nat → Nat} {S : Nat → Bool} (h : qS M t g m q S) : m ≤ gk g := by rw [h.2.1]; exact ctB_le _ _
theorem sB_i (S : Nat → Bool) (i : Nat) : sB S i i = true := by unfold sB; rw [decide_eq_true rfl]; rfl
theorem sB_o {S : Nat → Bool} {i j : Nat} (h : S j = true) : sB S i j = true := by unfold sB; rw [h, Bool.or_true]
theorem sB_e {S : Nat → Bool} {i j : Nat} (h : sB S i j = true) : j = i ∨ S j = true := by
  unfold sB at h
  rw [Bool.or_eq_true] at h
  exact h.imp of_decide_eq_true id
theorem bL_fr {M M' : Mem} {t : Nat} {g : GS} (h : bL M t g) (f : frS t M M') : bL M' t g := by
  have e7 : M'.1 (t + 7) = M.1 (t + 7) := f.1 _ (by omega) (by omega) (by omega)
  have e8 : M'.1 (t + 8) = M.1 (t + 8) := f.1 _ (by omega) (by omega) (by omega)
  unfold bL
  rw [e7, e8]
  exact h
/-- the ways back of one -/
theorem X0_sb32_sp {t i m : Nat} {v2 : Int32} {g : GS} {q : Nat → Nat} {S : Nat → Bool} {M : Mem} {X K : Mem → Prop} (v : GV g) (hi : i < gk g) (hb : bL M t g) (hq : qS M t g m q S)
    (h : ∀ M' m' q' S', qS M' t g m' q' S' → frS t M M' → m ≤ m' → (∀ k, k < m → q' k = q k) → (∀ j, S j = true → S' j = true) → (∀ j, E g j i → S' j = true) → (∀ j, S' j = true → S j = true ∨ E g j i) → X M') :
    ∃ n, L_X0_spreadBack_32 t v2 (nI i) X K n (nI (sm (cnt g) i)) M := by
  have k3 := v.1
  obtain ⟨b1, b2, b3, b4⟩ := hb
  have sj : sm (cnt g) (i + 1) = sm (cnt g) i + cnt g i := rfl
  have mo := sm_mono (f := cnt g) (show i + 1 ≤ gk g by omega)
  have key : ∀ d e, e + d = sm (cnt g) (i + 1) → sm (cnt g) i ≤ e → ∀ (M1 : Mem) m1 q1 S1, qS M1 t g m1 q1 S1 → frS t M M1 → m ≤ m1 → (∀ k, k < m → q1 k = q k) → (∀ j, S j = true → S1 j = true) → (∀ e', sm (cnt g) i ≤ e' → e' < e → ∀ j, j < gk g → M.1 (t + 8) e' = nI j → S1 j = true) → (∀ j, S1 j = true → S j = true ∨ E g j i) → L_X0_spreadBack_32 t v2 (nI i) X K (d + 1) (nI e) M1 := by
    intro d
    induction d with
    | zero =>
      intro e he hl M1 m1 q1 S1 c1 c2 c3 c4 c5 c6 c7
      have r7 : M1.1 (t + 7) (i + 1) = nI (sm (cnt g) (i + 1)) := by rw [c2.1 _ (by omega) (by omega) (by omega)]; exact b1 _ (by omega)
      rw [L_X0_spreadBack_32, nI_A1, gI, nI_CL (by omega), r7, vp_nI (by omega) (by omega), nI_LE (by omega) (by omega)]
      refine ⟨by omega, fun _ => h M1 m1 q1 S1 c1 c2 c3 c4 c5 (fun j hj => ?_) c7, by omega⟩
      obtain ⟨h1, h2, s, hs, hx⟩ := hj
      obtain ⟨p, p1, p2, p3⟩ := b3 (8 * j + s) (by omega) i hi hx
      rw [show (8 * j + s) / 8 = j by omega] at p3
      exact c6 p p1 (by omega) j h1 p3
    | succ d ih =>
      intro e he hl M1 m1 q1 S1 c1 c2 c3 c4 c5 c6 c7
      have r7 : M1.1 (t + 7) (i + 1) = nI (sm (cnt g) (i + 1)) := by rw [c2.1 _ (by omega) (by omega) (by omega)]; exact b1 _ (by omega)
      obtain ⟨e', a1, a2, a3⟩ := b4 i hi e hl (by omega)
      have r8 : M1.1 (t + 8) e = nI (e' / 8) := by rw [c2.1 _ (by omega) (by omega) (by omega)]; exact a3
      rw [L_X0_spreadBack_32, nI_A1, gI, nI_CL (by omega), r7, vp_nI (by omega) (by omega), vp_nI (by omega) (by omega), nI_LE (by omega) (by omega), gI, nI_CL (by omega), r8, nI_A1]
      refine ⟨by omega, by omega, fun _ => ⟨by omega, ?_⟩⟩
      have ed : E g (e' / 8) i := ⟨by omega, hi, e' % 8, by omega, by rw [show 8 * (e' / 8) + e' % 8 = e' by omega]; exact a2⟩
      refine X0_see_sp v (show e' / 8 < gk g by omega) c1 (fun M2 m2 q2 S2 d1 d2 d3 d4 d5 => ih (e + 1) (by omega) (by omega) M2 m2 q2 S2 d1 (frS_tr c2 d2) (by omega) (fun k hk => by rw [d4 k (by omega), c4 k hk]) (fun j hj => by rw [d5 j]; exact sB_o (c5 j hj)) (fun x x1 x2 j hj x3 => ?_) (fun j hj => ?_))
      · rw [d5 j]
        by_cases y : x = e
        · subst y
          rw [a3, nI_EQ (by omega) (by omega)] at x3
          rw [x3]; exact sB_i _ _
        · exact sB_o (c6 x x1 (by omega) j hj x3)
      · rw [d5 j] at hj
        rcases sB_e hj with y | y
        · rw [y]; exact Or.inr ed
        · exact c7 j y
  exact ⟨_, key (cnt g i) (sm (cnt g) i) (by omega) (Nat.le_refl _) M m q S hq (frS_rf t M) (Nat.le_refl _) (fun _ _ => rfl) (fun _ z => z) (fun e' x1 x2 => absurd x2 (by omega)) (fun _ z => Or.inl z)⟩
theorem X0_spreadBack_sp {t f m : Nat} {g : GS} {q : Nat → Nat} {S : Nat → Bool} {M : Mem} {K : Mem → Prop} (v : GV g) (hb : bL M t g) (hq : qS M t g m q S) (hf : f ≤ m) (hc : ∀ k, k < f → ∀ j, E g j (q k) → S j = true)
    (h : ∀ M' m' q' S', qS M' t g m' q' S' → frS t M M' → (∀ j, S j = true → S' j = true) → clB g S' → (∀ j, S' j = true → ∃ i, S i = true ∧ R g j i) → K M') : f_X0_spreadBack t (nI f) M K := by
  have k3 := v.1
  unfold f_X0_spreadBack
  have key : ∀ d k, k + d = gk g → ∀ (M1 : Mem) m1 q1 S1, k ≤ m1 → qS M1 t g m1 q1 S1 → frS t M M1 → (∀ j, S j = true → S1 j = true) → (∀ k', k' < k → ∀ j, E g j (q1 k') → S1 j = true) → (∀ j, S1 j = true → ∃ i, S i = true ∧ R g j i) → L_X0_spreadBack_2 t (fun M_3 => K M_3) K (d + 1) (nI k) M1 := by
    intro d
    induction d with
    | zero =>
      intro k hk M1 m1 q1 S1 c0 c1 c2 c3 c4 c5
      have ml := qS_le c1
      rw [L_X0_spreadBack_2, c1.1, nI_LE (by omega) (by omega)]
      refine ⟨fun _ => h M1 m1 q1 S1 c1 c2 c3 (fun j i hi e => ?_) c5, fun z => absurd z (by omega)⟩
      obtain ⟨_, k', a, b⟩ := c1.2.2.2.2 i hi
      exact c4 k' (by omega) j (by rw [b]; exact e)
    | succ d ih =>
      intro k hk M1 m1 q1 S1 c0 c1 c2 c3 c4 c5
      have ml := qS_le c1
      rw [L_X0_spreadBack_2, c1.1, l_300, nI_LE (by omega) (by omega), nI_LE (by omega) (by omega), vp_nI (by omega) (by omega), nI_A1]
      refine ⟨fun z => h M1 m1 q1 S1 c1 c2 c3 (fun j i hi e => ?_) c5, fun z => ⟨fun y => absurd y (by omega), fun _ => ⟨by omega, fun x3 e3 => ?_⟩⟩⟩
      · obtain ⟨_, k', a, b⟩ := c1.2.2.2.2 i hi
        exact c4 k' (by omega) j (by rw [b]; exact e)
      · obtain ⟨a1, a2, a3⟩ := c1.2.2.2.1 k (by omega)
        rw [gI, nI_CL (by omega), a1] at e3
        subst e3
        have hb1 := bL_fr hb c2
        refine ⟨(vp_nI (by omega) (by omega)).mpr (by omega), fun x4 e4 => ?_⟩
        rw [gI, nI_CL (by omega), hb1.1 _ (by omega)] at e4
        subst e4
        refine X0_sb32_sp v a2 hb1 c1 (fun M2 m2 q2 S2 d1 d2 d3 d4 d5 d6 d7 => ih (k + 1) (by omega) M2 m2 q2 S2 (by omega) d1 (frS_tr c2 d2) (fun j hj => d5 j (c3 j hj)) (fun k' hk' j e => ?_) (fun j hj => ?_))
        · by_cases y : k' = k
          · subst y; rw [d4 k' (by omega)] at e; exact d6 j e
          · rw [d4 k' (by omega)] at e; exact d5 j (c4 k' (by omega) j e)
        · rcases d7 j hj with y | y
          · exact c5 j y
          · obtain ⟨i, x1, x2⟩ := c5 _ a3
            exact ⟨i, x1, R_tr (R_1 y) x2⟩
  have ml := qS_le hq
  exact ⟨_, key (gk g - f) f (by omega) M m q S hf hq (frS_rf t M) (fun _ z => z) hc (fun j hj => ⟨j, hj, R_rf g j⟩)⟩
theorem X0_so26_sp {t i m : Nat} {v1 : Int32} {g : GS} {q : Nat → Nat} {S : Nat → Bool} {M : Mem} {X K : Mem → Prop} (v : GV g) (hi : i < gk g) (hx : xok g (8 * gk g)) (h5 : ∀ e, e < 8 * gk g → M.1 (t + 5) e = gx g e) (hq : qS M t g m q S)
    (h : ∀ M' m' q' S', qS M' t g m' q' S' → frS t M M' → m ≤ m' → (∀ k, k < m → q' k = q k) → (∀ j, S j = true → S' j = true) → (∀ j, E g i j → S' j = true) → (∀ j, S' j = true → S j = true ∨ E g i j) → X M') :
    ∃ n, L_X0_spreadOn_26 t v1 (nI i) X K n 0 M := by
  have k3 := v.1
  have key : ∀ d s, s + d = 8 → ∀ (M1 : Mem) m1 q1 S1, qS M1 t g m1 q1 S1 → frS t M M1 → m ≤ m1 → (∀ k, k < m → q1 k = q k) → (∀ j, S j = true → S1 j = true) → (∀ s', s' < s → ∀ j, j < gk g → gx g (8 * i + s') = nI j → S1 j = true) → (∀ j, S1 j = true → S j = true ∨ E g i j) → L_X0_spreadOn_26 t v1 (nI i) X K (d + 1) (nI s) M1 := by
    intro d
    induction d with
    | zero =>
      intro s he M1 m1 q1 S1 c1 c2 c3 c4 c5 c6 c7
      rw [L_X0_spreadOn_26, l_8, nI_LE (by omega) (by omega)]
      refine ⟨fun _ => h M1 m1 q1 S1 c1 c2 c3 c4 c5 (fun j hj => ?_) c7, by omega⟩
      obtain ⟨h1, h2, s', hs, hx⟩ := hj
      exact c6 s' (by omega) j h2 hx
    | succ d ih =>
      intro s he M1 m1 q1 S1 c1 c2 c3 c4 c5 c6 c7
      have r5 : M1.1 (t + 5) (8 * i + s) = gx g (8 * i + s) := by rw [c2.1 _ (by omega) (by omega) (by omega)]; exact h5 _ (by omega)
      rw [L_X0_spreadOn_26, l_8, nI_LE (by omega) (by omega), m_8, nI_add, vp_nI (by omega) (by omega), gI, nI_CL (by omega), r5, nI_A1]
      refine ⟨by omega, fun _ => ⟨by omega, fun z => ?_, fun z => ?_⟩⟩
      · refine ih (s + 1) (by omega) M1 m1 q1 S1 c1 c2 c3 c4 c5 (fun s' hs' j hj x => ?_) c7
        by_cases y : s' = s
        · subst y; rw [z] at x; exact absurd x.symm (nI_M (by omega))
        · exact c6 s' (by omega) j hj x
      · rcases hx (8 * i + s) (by omega) with y | ⟨j0, hj0, y⟩
        · exact absurd y z
        rw [y]
        refine X0_see_sp v hj0 c1 (fun M2 m2 q2 S2 d1 d2 d3 d4 d5 => ih (s + 1) (by omega) M2 m2 q2 S2 d1 (frS_tr c2 d2) (by omega) (fun k hk => by rw [d4 k (by omega), c4 k hk]) (fun j hj => by rw [d5 j]; exact sB_o (c5 j hj)) (fun s' hs' j hj x3 => ?_) (fun j hj => ?_))
        · rw [d5 j]
          by_cases y' : s' = s
          · subst y'
            rw [y, nI_EQ (by omega) (by omega)] at x3
            rw [x3]; exact sB_i _ _
          · exact sB_o (c6 s' (by omega) j hj x3)
        · rw [d5 j] at hj
          rcases sB_e hj with z' | z'
          · rw [z']; exact Or.inr ⟨hi, hj0, s, by omega, y⟩
          · exact c7 j z'
  exact ⟨_, key 8 0 (by omega) M m q S hq (frS_rf t M) (Nat.le_refl _) (fun _ _ => rfl) (fun _ z => z) (fun e' x1 => absurd x1 (by omega)) (fun _ z => Or.inl z)⟩
theorem X0_spreadOn_sp {t m : Nat} {g : GS} {q : Nat → Nat} {S : Nat → Bool} {M : Mem} {K : Mem → Prop} (v : GV g) (hx : xok g (8 * gk g)) (h5 : ∀ e, e < 8 * gk g → M.1 (t + 5) e = gx g e) (hq : qS M t g m q S)
    (h : ∀ M' m' q' S', qS M' t g m' q' S' → frS t M M' → (∀ j, S j = true → S' j = true) → clF g S' → (∀ j, S' j = true → ∃ i, S i = true ∧ R g i j) → K M') : f_X0_spreadOn t M K := by
  have k3 := v.1
  unfold f_X0_spreadOn
  have key : ∀ d k, k + d = gk g → ∀ (M1 : Mem) m1 q1 S1, k ≤ m1 → qS M1 t g m1 q1 S1 → frS t M M1 → (∀ j, S j = true → S1 j = true) → (∀ k', k' < k → ∀ j, E g (q1 k') j → S1 j = true) → (∀ j, S1 j = true → ∃ i, S i = true ∧ R g i j) → L_X0_spreadOn_2 t (fun M_3 => K M_3) K (d + 1) (nI k) M1 := by
    intro d
    induction d with
    | zero =>
      intro k hk M1 m1 q1 S1 c0 c1 c2 c3 c4 c5
      have ml := qS_le c1
      rw [L_X0_spreadOn_2, c1.1, nI_LE (by omega) (by omega)]
      refine ⟨fun _ => h M1 m1 q1 S1 c1 c2 c3 (fun i j hi e => ?_) c5, fun z => absurd z (by omega)⟩
      obtain ⟨_, k', a, b⟩ := c1.2.2.2.2 i hi
      exact c4 k' (by omega) j (by rw [b]; exact e)
    | succ d ih =>
      intro k hk M1 m1 q1 S1 c0 c1 c2 c3 c4 c5
      have ml := qS_le c1
      rw [L_X0_spreadOn_2, c1.1, l_300, nI_LE (by omega) (by omega), nI_LE (by omega) (by omega), vp_nI (by omega) (by omega), nI_A1]
      refine ⟨fun z => h M1 m1 q1 S1 c1 c2 c3 (fun i j hi e => ?_) c5, fun z => ⟨fun y => absurd y (by omega), fun _ => ⟨by omega, fun x3 e3 => ?_⟩⟩⟩
      · obtain ⟨_, k', a, b⟩ := c1.2.2.2.2 i hi
        exact c4 k' (by omega) j (by rw [b]; exact e)
      · obtain ⟨a1, a2, a3⟩ := c1.2.2.2.1 k (by omega)
        rw [gI, nI_CL (by omega), a1] at e3
        subst e3
        refine X0_so26_sp v a2 hx (fun e he => by rw [c2.1 _ (by omega) (by omega) (by omega)]; exact h5 e he) c1 (fun M2 m2 q2 S2 d1 d2 d3 d4 d5 d6 d7 => ih (k + 1) (by omega) M2 m2 q2 S2 (by omega) d1 (frS_tr c2 d2) (fun j hj => d5 j (c3 j hj)) (fun k' hk' j e => ?_) (fun j hj => ?_))
        · by_cases y : k' = k
          · subst y; rw [d4 k' (by omega)] at e; exact d6 j e
          · rw [d4 k' (by omega)] at e; exact d5 j (c4 k' (by omega) j e)
        · rcases d7 j hj with y | y
          · exact c5 j y
          · obtain ⟨i, x1, x2⟩ := c5 _ a3
            exact ⟨i, x1, R_tr x2 (R_1 y)⟩
  exact ⟨_, key (gk g) 0 (by omega) M m q S (Nat.zero_le _) hq (frS_rf t M) (fun _ z => z) (fun k' hk' => absurd hk' (Nat.not_lt_zero _)) (fun j hj => ⟨j, hj, R_rf g j⟩)⟩
theorem ctB_0 : ∀ n, ctB (fun _ => false) n = 0
  | 0 => rfl
  | n + 1 => by rw [ctB_f rfl, ctB_0 n]
theorem X0_forgetSeen_sp {t : Nat} {g : GS} {M : Mem} {K : Mem → Prop} (ht : alen (t + 9) = 300) (v : GV g) (h : ∀ M', qS M' t g 0 (fun _ => 0) (fun _ => false) → frS t M M' → K M') : f_X0_forgetSeen t M K := by
  have k3 := v.1
  unfold f_X0_forgetSeen
  intro M2 e2
  refine J7_fill_sp ht (by omega) (fun M3 a1 a2 a3 a4 => h M3 ⟨?_, (ctB_0 _).symm, fun i hi => a1 i (by omega), fun k hk => absurd hk (Nat.not_lt_zero _), fun i hi => by cases hi⟩ ⟨fun b b1 b2 b3 => by rw [a3 b b2, e2, w1_ne b1], fun k hk => by rw [a3 t (by omega), e2, w1_no hk], by rw [a4, e2, w1_2]⟩)
  rw [a3 t (by omega), e2, w1_at]; rfl
/-- home: all come there -/
def hmP (g : GS) (i : Nat) : Prop := i < gk g ∧ ∀ j, j < gk g → R g j i
theorem R_lt {g : GS} : ∀ {k i j : Nat}, pth g k i j → i < gk g → j < gk g
  | 0, i, j, e, h => by cases e; exact h
  | k + 1, i, j, ⟨u, e, p⟩, h => R_lt p e.2.1
theorem R_lt' {g : GS} : ∀ {k i j : Nat}, pth g k i j → j < gk g → i < gk g
  | 0, i, j, e, h => by cases e; exact h
  | k + 1, i, j, ⟨u, e, p⟩, h => e.1
theorem X0_lastStart_sp {t : Nat} {g : GS} {M : Mem} {K : Int32 → Mem → Prop} (ht : alen (t + 9) = 300) (v : GV g) (k1 : 1 ≤ gk g) (hb : bL M t g) (hk : M.1 t 12 = nI (gk g))
    (h : ∀ M' c, c < gk g → (∀ i, hmP g i → hmP g c) → frS t M M' → K (nI c) M') : f_X0_lastStart t M K := by
  have k3 := v.1
  unfold f_X0_lastStart
  refine X0_forgetSeen_sp ht v (fun M2 q2 f2 => ?_)
  have key : ∀ d i, i + d = gk g → ∀ (M1 : Mem) m1 q1 S1 c, c < gk g → qS M1 t g m1 q1 S1 → frS t M M1 → clB g S1 → (∀ j, j < i → S1 j = true) → (∀ x, S1 x = true → hmP g x → hmP g c ∧ ∀ j, j < gk g → S1 j = true) → L_X0_lastStart_8 t (fun v1_2 M_5 => K v1_2 M_5) K (d + 1) (nI c) (nI i) M1 := by
    intro d
    induction d with
    | zero =>
      intro i hi M1 m1 q1 S1 c hc c1 c2 c3 c4 c5
      rw [L_X0_lastStart_8, c2.2.1 12 (by decide), hk, nI_LE (by omega) (by omega)]
      exact ⟨fun _ => h M1 c hc (fun x hx => (c5 x (c4 x (by have := hx.1; omega)) hx).1) c2, by omega⟩
    | succ d ih =>
      intro i hi M1 m1 q1 S1 c hc c1 c2 c3 c4 c5
      have ml := qS_le c1
      rw [L_X0_lastStart_8, c2.2.1 12 (by decide), hk, nI_LE (by omega) (by omega), vp_nI (by omega) (by omega), gI, nI_CL (by omega), c1.2.2.1 i (by omega), nI_A1]
      refine ⟨by omega, fun _ => ⟨by omega, fun z => ?_, fun z => ?_⟩⟩
      · have z := b_ofn z
        refine ih (i + 1) (by omega) M1 m1 q1 S1 c hc c1 c2 c3 (fun j hj => ?_) c5
        by_cases y : j = i
        · rw [y]; exact z
        · exact c4 j (by omega)
      · have z := b_of0 z
        intro x3 e3
        rw [c1.1] at e3
        subst e3
        refine X0_see_sp v (show i < gk g by omega) c1 (fun M3 m3 q3 S3 d1 d2 d3 d4 d5 => ?_)
        have hb3 : bL M3 t g := bL_fr hb (frS_tr c2 d2)
        refine X0_spreadBack_sp v hb3 d1 d3 (fun k hk' j e => ?_) (fun M4 m4 q4 S4 r1 r2 r3 r4 r5 => ?_)
        · rw [d4 k hk'] at e
          rw [d5 j]
          exact sB_o (c3 j _ (c1.2.2.2.1 k hk').2.2 e)
        · have iS : S4 i = true := r3 i (by rw [d5 i]; exact sB_i _ _)
          refine ih (i + 1) (by omega) M4 m4 q4 S4 i (by omega) r1 (frS_tr c2 (frS_tr d2 r2)) r4 (fun j hj => ?_) (fun x hx hm => ?_)
          · by_cases y : j = i
            · rw [y]; exact iS
            · exact r3 j (by rw [d5 j]; exact sB_o (c4 j (by omega)))
          · obtain ⟨i2, p1, p2⟩ := r5 x hx
            rw [d5 i2] at p1
            have xi : R g x i := by
              rcases sB_e p1 with y | y
              · rw [← y]; exact p2
              · obtain ⟨kk, pp⟩ := p2
                have hs := clB_R c3 pp y
                have := (c5 x hs hm).2 i (by omega)
                rw [z] at this; cases this
            have hi' : hmP g i := ⟨by omega, fun j hj => R_tr (hm.2 j hj) xi⟩
            exact ⟨hi', fun j hj => by obtain ⟨kk, pp⟩ := hi'.2 j hj; exact clB_R r4 pp iS⟩
  exact ⟨_, key (gk g) 0 (by omega) M2 0 _ _ 0 (by omega) q2 f2 (fun i j hj => by cases hj) (fun j hj => absurd hj (Nat.not_lt_zero _)) (fun x hx => by cases hx)⟩
