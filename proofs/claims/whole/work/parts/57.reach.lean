/-! who reaches whom -/
def E (g : GS) (i j : Nat) : Prop := i < gk g ∧ j < gk g ∧ ∃ s, s < 8 ∧ gx g (8 * i + s) = nI j
def pth (g : GS) : Nat → Nat → Nat → Prop
  | 0, i, j => i = j
  | k + 1, i, j => ∃ u, E g i u ∧ pth g k u j
def R (g : GS) (i j : Nat) : Prop := ∃ k, pth g k i j
theorem R_rf (g : GS) (i : Nat) : R g i i := ⟨0, rfl⟩
theorem pth_tr {g : GS} : ∀ {a b i j k : Nat}, pth g a i j → pth g b j k → pth g (a + b) i k
  | 0, b, i, j, k, h, h' => by cases h; rw [Nat.zero_add]; exact h'
  | a + 1, b, i, j, k, ⟨u, e, h⟩, h' => by rw [show a + 1 + b = (a + b) + 1 by omega]; exact ⟨u, e, pth_tr h h'⟩
theorem R_tr {g : GS} {i j k : Nat} (h : R g i j) (h' : R g j k) : R g i k := by
  obtain ⟨a, h⟩ := h
  obtain ⟨b, h'⟩ := h'
  exact ⟨_, pth_tr h h'⟩
theorem R_1 {g : GS} {i j : Nat} (h : E g i j) : R g i j := ⟨1, j, h, rfl⟩
/-- closed, going back; closed, going on -/
def clB (g : GS) (S : Nat → Bool) : Prop := ∀ i j, S j = true → E g i j → S i = true
def clF (g : GS) (S : Nat → Bool) : Prop := ∀ i j, S i = true → E g i j → S j = true
theorem clB_R {g : GS} {S : Nat → Bool} (h : clB g S) : ∀ {k i j : Nat}, pth g k i j → S j = true → S i = true
  | 0, i, j, e, hj => by cases e; exact hj
  | k + 1, i, j, ⟨u, e, p⟩, hj => h i u (clB_R h p hj) e
theorem clF_R {g : GS} {S : Nat → Bool} (h : clF g S) : ∀ {k i j : Nat}, pth g k i j → S i = true → S j = true
  | 0, i, j, e, hi => by cases e; exact hi
  | k + 1, i, j, ⟨u, e, p⟩, hi => clF_R h p (h i u hi e)
/-- the queue: what was seen, in what order -/
def qS (M : Mem) (t : Nat) (g : GS) (m : Nat) (q : Nat → Nat) (S : Nat → Bool) : Prop := M.1 t 14 = nI m ∧ m = ctB S (gk g) ∧ (∀ i, i < gk g → M.1 (t + 9) i = bI (S i)) ∧ (∀ k, k < m → M.1 (t + 10) k = nI (q k) ∧ q k < gk g ∧ S (q k) = true) ∧ (∀ i, S i = true → i < gk g ∧ ∃ k, k < m ∧ q k = i)
def sB (S : Nat → Bool) (i : Nat) : Nat → Bool := fun j => decide (j = i) || S j
theorem ctB_sB {S : Nat → Bool} {i : Nat} (h : S i = false) : ∀ n, ctB (sB S i) n = ctB S n + (if i < n then 1 else 0)
  | 0 => rfl
  | n + 1 => by
    have ih := ctB_sB h n
    by_cases q : n = i
    · subst q
      rw [if_neg (Nat.lt_irrefl _)] at ih
      rw [ctB_t (c := sB S n) (by unfold sB; rw [decide_eq_true rfl]; rfl), ctB_f h, if_pos (Nat.lt_succ_self _)]
      omega
    · have e : sB S i n = S n := by unfold sB; rw [decide_eq_false q, Bool.false_or]
      have e2 : (if i < n + 1 then 1 else 0) = (if i < n then 1 else 0) := by
        by_cases z : i < n
        · rw [if_pos z, if_pos (by omega)]
        · rw [if_neg z, if_neg (by omega)]
      rw [e2]
      cases hS : S n
      · rw [ctB_f (by rw [e, hS]), ctB_f hS, ih]
      · rw [ctB_t (by rw [e, hS]), ctB_t hS, ih]; omega
/-- what looking around may change -/
def frS (t : Nat) (M M' : Mem) : Prop := (∀ b, b ≠ t → b ≠ t + 9 → b ≠ t + 10 → M'.1 b = M.1 b) ∧ (∀ k, k ≠ 14 → M'.1 t k = M.1 t k) ∧ M'.2 = M.2
theorem frS_rf (t : Nat) (M : Mem) : frS t M M := ⟨fun _ _ _ _ => rfl, fun _ _ => rfl, rfl⟩
theorem frS_tr {t : Nat} {M M1 M2 : Mem} (h : frS t M M1) (h' : frS t M1 M2) : frS t M M2 := ⟨fun b h1 h2 h3 => by rw [h'.1 b h1 h2 h3, h.1 b h1 h2 h3], fun k hk => by rw [h'.2.1 k hk, h.2.1 k hk], by rw [h'.2.2, h.2.2]⟩
theorem X0_see_sp {t i m : Nat} {g : GS} {q : Nat → Nat} {S : Nat → Bool} {M : Mem} {K : Mem → Prop} (v : GV g) (hi : i < gk g) (hq : qS M t g m q S)
    (h : ∀ M' m' q' S', qS M' t g m' q' S' → frS t M M' → m ≤ m' → (∀ k, k < m → q' k = q k) → (∀ j, S' j = sB S i j) → K M') : f_X0_see t (nI i) M K := by
  have k3 := v.1
  obtain ⟨h1, h2, h3, h4, h5⟩ := hq
  have ml : m ≤ gk g := by rw [h2]; exact ctB_le _ _
  unfold f_X0_see
  rw [gI, nI_CL (by omega), h3 i hi, h1, l_300, nI_LE (by omega) (by omega)]
  refine ⟨(vp_nI (by omega) (by omega)).mpr (by omega), fun z => ?_, fun z => ?_⟩
  · have z := b_ofn z
    refine h M m q S ⟨h1, h2, h3, h4, h5⟩ (frS_rf t M) (Nat.le_refl _) (fun _ _ => rfl) (fun j => ?_)
    unfold sB
    by_cases y : j = i
    · rw [y, z, Bool.or_true]
    · rw [decide_eq_false y, Bool.false_or]
  · have z := b_of0 z
    have hct := ctB_sB z (gk g)
    rw [if_pos hi, ← h2] at hct
    have hct2 : ctB (sB S i) (gk g) ≤ gk g := ctB_le _ _
    refine ⟨fun y => absurd y (by omega), fun _ M2 e2 => ?_⟩
    have c2 : M2.1 t 14 = nI m := by rw [e2, w1_ne (by omega)]; exact h1
    rw [c2]
    refine ⟨(vp_nI (by omega) (by omega)).mpr (by omega), fun M3 e3 M4 e4 => ?_⟩
    have c3 : M3.1 t 14 = nI m := by rw [e3, w1_ne (by omega)]; exact c2
    rw [nI_CL (by omega)] at e3
    rw [c3, nI_A1] at e4
    have n4 : ∀ b, b ≠ t → b ≠ t + 9 → b ≠ t + 10 → M4.1 b = M.1 b := fun b b1 b2 b3 => by rw [e4, w1_ne b1, e3, w1_ne b3, e2, w1_ne b2]
    have q9 : M4.1 (t + 9) = upd (M.1 (t + 9)) i 1 := by rw [e4, w1_ne (by omega), e3, w1_ne (by omega), e2, w1_eq]
    have q10 : M4.1 (t + 10) = upd (M.1 (t + 10)) m (nI i) := by rw [e4, w1_ne (by omega), e3, w1_eq, e2, w1_ne (by omega)]
    refine h M4 (m + 1) (fun k => if k = m then i else q k) (sB S i) ⟨by rw [e4, w1_at], hct.symm, fun j hj => ?_, fun k hk => ?_, fun j hj => ?_⟩ ⟨n4, fun k hk => by rw [e4, w1_no hk, e3, w1_ne (by omega), e2, w1_ne (by omega)], by rw [e4, w1_2, e3, w1_2, e2, w1_2]⟩ (Nat.le_succ _) (fun k hk => if_neg (by omega)) (fun _ => rfl)
    · rw [q9]
      unfold sB
      by_cases y : j = i
      · rw [y, upd_at, decide_eq_true rfl, Bool.true_or]; rfl
      · rw [upd_no y, decide_eq_false y, Bool.false_or]; exact h3 j hj
    · rw [q10]
      dsimp only
      by_cases y : k = m
      · rw [if_pos y, y, upd_at]; exact ⟨rfl, hi, by unfold sB; rw [decide_eq_true rfl]; rfl⟩
      · rw [if_neg y, upd_no y]
        have := h4 k (by omega)
        exact ⟨this.1, this.2.1, by unfold sB; rw [this.2.2, Bool.or_true]⟩
    · by_cases y : j = i
      · exact ⟨by omega, m, by omega, by dsimp only; rw [if_pos rfl, y]⟩
      · unfold sB at hj
        rw [decide_eq_false y, Bool.false_or] at hj
        obtain ⟨a, k, b, c⟩ := h5 j hj
        exact ⟨a, k, by omega, by dsimp only; rw [if_neg (by omega)]; exact c⟩
