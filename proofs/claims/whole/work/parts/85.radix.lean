/-! parts of counts as numbers -/
def pr (x : Nat → Nat) : Nat → Nat
  | 0 => 1
  | s + 1 => pr x s * (x s + 1)
theorem pr_0 (x : Nat → Nat) : ∀ s, 0 < pr x s
  | 0 => by show 0 < 1; decide
  | s + 1 => Nat.mul_pos (pr_0 x s) (by omega)
/-- the greatest product of k numbers that are S and k together -/
def gmx : Nat → Nat → Nat
  | 0, _ => 1
  | k + 1, S => (List.range (S + 1)).foldl (fun m c => max m (gmx k (S - c) * (c + 1))) 1
theorem foldl_ge {f : Nat → Nat} : ∀ (l : List Nat) (m : Nat), m ≤ l.foldl (fun m c => max m (f c)) m ∧ ∀ c, c ∈ l → f c ≤ l.foldl (fun m c => max m (f c)) m
  | [], m => ⟨Nat.le_refl _, fun c h => nomatch h⟩
  | a :: l, m => by
    obtain ⟨h1, h2⟩ := foldl_ge (f := f) l (max m (f a))
    refine ⟨Nat.le_trans (Nat.le_max_left _ _) h1, fun c hc => ?_⟩
    rcases List.mem_cons.mp hc with q | q
    · rw [q]; exact Nat.le_trans (Nat.le_max_right _ _) h1
    · exact h2 c q
theorem pr_gmx {x : Nat → Nat} : ∀ {k S : Nat}, sm x k ≤ S → pr x k ≤ gmx k S
  | 0, _, _ => Nat.le_refl _
  | k + 1, S, h => by
    rw [sm] at h
    have ih := pr_gmx (x := x) (k := k) (S := S - x k) (by omega)
    rw [pr, gmx]
    exact Nat.le_trans (Nat.mul_le_mul_right _ ih) ((foldl_ge (f := fun c => gmx k (S - c) * (c + 1)) (List.range (S + 1)) 1).2 (x k) (List.mem_range.mpr (by omega)))
theorem gmx_8 : gmx 8 12 = 1296 := by decide +kernel
theorem pr_1296 {x : Nat → Nat} (h : sm x 8 ≤ 12) : pr x 8 ≤ 1296 := by
  have := pr_gmx (x := x) (k := 8) (S := 12) h
  rw [gmx_8] at this
  exact this
theorem pr_mono {x : Nat → Nat} {a b : Nat} (h : a ≤ b) : pr x a ≤ pr x b := by
  induction b with
  | zero => rw [Nat.le_zero.mp h]; exact Nat.le_refl _
  | succ b ih =>
    by_cases q : a = b + 1
    · rw [q]; exact Nat.le_refl _
    · rw [pr]
      exact Nat.le_trans (ih (by omega)) (Nat.le_mul_of_pos_right _ (by omega))
theorem pr_dvd2 {x : Nat → Nat} {a b : Nat} (h : a ≤ b) : pr x a ∣ pr x b := by
  induction b with
  | zero => rw [Nat.le_zero.mp h]; exact Nat.dvd_refl _
  | succ b ih =>
    by_cases q : a = b + 1
    · rw [q]; exact Nat.dvd_refl _
    · rw [pr]; exact Nat.dvd_trans (ih (by omega)) (Nat.dvd_mul_right _ _)
def dg (x : Nat → Nat) (at' s : Nat) : Nat := at' / pr x s % (x s + 1)
def ix (x u : Nat → Nat) : Nat → Nat
  | 0 => 0
  | s + 1 => ix x u s + u s * pr x s
theorem dg_le (x : Nat → Nat) (at' s : Nat) : dg x at' s ≤ x s := by
  have := Nat.mod_lt (at' / pr x s) (show 0 < x s + 1 by omega)
  unfold dg; omega
theorem ix_lt {x u : Nat → Nat} : ∀ {s : Nat}, (∀ i, i < s → u i ≤ x i) → ix x u s < pr x s
  | 0, _ => by show 0 < 1; decide
  | s + 1, h => by
    have ih := ix_lt (x := x) (u := u) (s := s) (fun i hi => h i (by omega))
    have := Nat.mul_le_mul_right (pr x s) (h s (by omega))
    rw [ix, pr, Nat.mul_add, Nat.mul_one, Nat.mul_comm (pr x s) (x s)]
    omega
theorem ix_dg {x : Nat → Nat} {a : Nat} : ∀ s, ix x (dg x a) s = a % pr x s
  | 0 => by rw [ix, pr, Nat.mod_one]
  | s + 1 => by rw [ix, pr, ix_dg s, Nat.mod_mul, Nat.mul_comm (pr x s) (a / pr x s % _)]; rfl
theorem ix_mod {x u : Nat → Nat} {s : Nat} (h : ∀ i, i < 8 → u i ≤ x i) : ∀ {k : Nat}, s ≤ k → k ≤ 8 → ix x u k % pr x s = ix x u s
  | 0, hs, _ => by rw [Nat.le_zero.mp hs]; rfl
  | k + 1, hs, hk => by
    by_cases q : s = k + 1
    · rw [q]; exact Nat.mod_eq_of_lt (ix_lt (fun i hi => h i (by omega)))
    · have ih := ix_mod (s := s) h (k := k) (by omega) (by omega)
      obtain ⟨w, hw⟩ := pr_dvd2 (x := x) (show s ≤ k by omega)
      rw [ix, hw, Nat.mul_left_comm, Nat.add_mul_mod_self_left]
      exact ih
theorem dg_ix {x u : Nat → Nat} (h : ∀ i, i < 8 → u i ≤ x i) {s : Nat} (hs : s < 8) : dg x (ix x u 8) s = u s := by
  have e := ix_mod (x := x) (u := u) (s := s + 1) h (k := 8) (by omega) (Nat.le_refl _)
  have l := ix_lt (x := x) (u := u) (s := s) (fun i hi => h i (by omega))
  unfold dg
  rw [← Nat.mod_mul_right_div_self, show pr x s * (x s + 1) = pr x (s + 1) from rfl, e, ix, Nat.add_mul_div_right _ _ (pr_0 x s), Nat.div_eq_of_lt l]
  omega
theorem ix_up {x u : Nat → Nat} {s m : Nat} : ∀ {k : Nat}, s < k → ix x (upT1 u s (u s + m)) k = ix x u k + m * pr x s
  | 0, h => absurd h (Nat.not_lt_zero _)
  | k + 1, h => by
    rw [ix, ix]
    by_cases q : s = k
    · have e : ∀ j, j ≤ s → ix x (upT1 u s (u s + m)) j = ix x u j := by
        intro j
        induction j with
        | zero => intro _; rfl
        | succ j ih => intro hj; rw [ix, ix, ih (by omega), upT1_o (by omega)]
      rw [← q, e s (Nat.le_refl _), upT1_s, Nat.add_mul]; omega
    · rw [ix_up (by omega), upT1_o (fun e => q e.symm)]; omega
theorem ix_cong {x u u' : Nat → Nat} : ∀ {k : Nat}, (∀ i, i < k → u i = u' i) → ix x u k = ix x u' k
  | 0, _ => rfl
  | k + 1, h => by rw [ix, ix, ix_cong (fun i hi => h i (by omega)), h k (by omega)]
/-- one more of a step -/
theorem dg_up {x : Nat → Nat} {a s : Nat} (ha : a < pr x 8) (hs : s < 8) (h : dg x a s < x s) : a + pr x s < pr x 8 ∧ ∀ i, i < 8 → dg x (a + pr x s) i = upT1 (dg x a) s (dg x a s + 1) i := by
  have ub : ∀ i, i < 8 → upT1 (dg x a) s (dg x a s + 1) i ≤ x i := fun i hi => by
    by_cases q : i = s
    · rw [q, upT1_s]; omega
    · rw [upT1_o q]; exact dg_le x a i
  have e : ix x (upT1 (dg x a) s (dg x a s + 1)) 8 = a + pr x s := by
    rw [ix_up hs, ix_dg, Nat.mod_eq_of_lt ha, Nat.one_mul]
  refine ⟨by rw [← e]; exact ix_lt (fun i hi => ub i hi), fun i hi => ?_⟩
  rw [← e, dg_ix ub hi]
/-- all of them: the last number -/
theorem dg_full {x : Nat → Nat} {a : Nat} (ha : a < pr x 8) : (∀ i, i < 8 → dg x a i = x i) ↔ a = pr x 8 - 1 := by
  have top : ∀ k, ix x x k = pr x k - 1 := by
    intro k
    induction k with
    | zero => rfl
    | succ k ih =>
      have := pr_0 x k
      rw [ix, pr, ih, Nat.mul_add, Nat.mul_one, Nat.mul_comm (x k)]; omega
  constructor
  · intro h
    have e := ix_dg (x := x) (a := a) 8
    rw [Nat.mod_eq_of_lt ha, ix_cong h, top 8] at e
    exact e.symm
  · intro h i hi
    have := dg_ix (x := x) (u := x) (fun _ _ => Nat.le_refl _) hi
    rw [top 8, ← h] at this
    exact this
/-! the other way of numbering, highest first -/
def pt (x w : Nat → Nat) : Nat → Nat
  | 0 => 0
  | s + 1 => pt x w s * (x s + 1) + w s
theorem pt_lt {x w : Nat → Nat} : ∀ {s : Nat}, (∀ i, i < s → w i ≤ x i) → pt x w s < pr x s
  | 0, _ => by show 0 < 1; decide
  | s + 1, h => by
    have ih := pt_lt (x := x) (w := w) (s := s) (fun i hi => h i (by omega))
    have := h s (by omega)
    have m := Nat.mul_le_mul_right (x s + 1) (show pt x w s + 1 ≤ pr x s by omega)
    rw [Nat.add_mul, Nat.one_mul] at m
    rw [pt, pr]; omega
theorem pt_inj {x w w' : Nat → Nat} : ∀ {s : Nat}, (∀ i, i < s → w i ≤ x i) → (∀ i, i < s → w' i ≤ x i) → pt x w s = pt x w' s → ∀ i, i < s → w i = w' i
  | 0, _, _, _, i, hi => absurd hi (Nat.not_lt_zero _)
  | s + 1, h, h', e, i, hi => by
    rw [pt, pt] at e
    have a := h s (by omega)
    have b := h' s (by omega)
    have e1 : w s = w' s := by
      have := congrArg (· % (x s + 1)) e
      rw [Nat.add_comm, Nat.add_comm (pt x w' s * (x s + 1)), Nat.add_mul_mod_self_right, Nat.add_mul_mod_self_right, Nat.mod_eq_of_lt (by omega), Nat.mod_eq_of_lt (by omega)] at this
      exact this
    rcases Nat.lt_succ_iff_lt_or_eq.mp hi with q | q
    · have e2 : pt x w s * (x s + 1) = pt x w' s * (x s + 1) := by omega
      exact pt_inj (fun i hi => h i (by omega)) (fun i hi => h' i (by omega)) (Nat.eq_of_mul_eq_mul_right (by omega) e2) i q
    · rw [q]; exact e1
/-! whether the rest can be done -/
def canI (n : NN) (u : Nat → Nat) (s : Nat) : Prop := (nS n).testBit s = true ∧ ∀ p, p < 10 → (nT n (10 * s + p) : Int) ≤ RV n u p ∧ RV n u p - (nT n (10 * s + p) : Int) + (nG n (10 * s + p) : Int) ≤ 999
def okU (n : NN) (x : Nat → Nat) : Nat → (Nat → Nat) → Prop
  | 0, _ => True
  | d + 1, u => ∃ s, s < 8 ∧ u s < x s ∧ canI n u s ∧ okU n x d (upT1 u s (u s + 1))
theorem RV_cong {n : NN} {u u' : Nat → Nat} (h : ∀ s, s < 8 → u s = u' s) (p : Nat) : RV n u p = RV n u' p := by
  unfold RV
  rw [dt_cong (u' := fun s => cgI n s p) (v' := fun s => (u' s : Int)) (fun i hi => ⟨rfl, by rw [h i hi]⟩)]
theorem canI_cong {n : NN} {u u' : Nat → Nat} {s : Nat} (h : ∀ s, s < 8 → u s = u' s) : canI n u s ↔ canI n u' s := by
  unfold canI
  have e : RV n u = RV n u' := funext (RV_cong h)
  rw [e]
theorem okU_cong {n : NN} {x : Nat → Nat} : ∀ {d : Nat} {u u' : Nat → Nat}, (∀ s, s < 8 → u s = u' s) → (okU n x d u ↔ okU n x d u')
  | 0, _, _, _ => Iff.rfl
  | d + 1, u, u', h => by
    have st : ∀ {u u' : Nat → Nat}, (∀ s, s < 8 → u s = u' s) → okU n x (d + 1) u → okU n x (d + 1) u' := fun {u u'} h ⟨s, s1, s2, s3, s4⟩ => by
      refine ⟨s, s1, by rw [← h s s1]; exact s2, (canI_cong h).mp s3, (okU_cong (d := d) (fun i hi => ?_)).mp s4⟩
      by_cases q : i = s
      · rw [q, upT1_s, upT1_s, h s s1]
      · rw [upT1_o q, upT1_o q, h i hi]
    exact ⟨st h, st (fun s hs => (h s hs).symm)⟩
/-- the first step of the first order -/
noncomputable def fsU (n : NN) (x : Nat → Nat) (d : Nat) (u : Nat → Nat) : Option Nat := ff (fun s => ifP (u s < x s ∧ canI n u s ∧ okU n x d (upT1 u s (u s + 1))) (some s)) 0 8
theorem fsU_ok {n : NN} {x : Nat → Nat} {d : Nat} {u : Nat → Nat} (h : okU n x (d + 1) u) : ∃ s, fsU n x d u = some s ∧ s < 8 ∧ u s < x s ∧ canI n u s ∧ okU n x d (upT1 u s (u s + 1)) ∧ ∀ s', s' < s → ¬ (u s' < x s' ∧ canI n u s' ∧ okU n x d (upT1 u s' (u s' + 1))) := by
  have key : ∀ k lo, (∃ s, lo ≤ s ∧ s < lo + k ∧ u s < x s ∧ canI n u s ∧ okU n x d (upT1 u s (u s + 1))) → ∃ s, ff (fun s => ifP (u s < x s ∧ canI n u s ∧ okU n x d (upT1 u s (u s + 1))) (some s)) lo k = some s ∧ lo ≤ s ∧ s < lo + k ∧ (u s < x s ∧ canI n u s ∧ okU n x d (upT1 u s (u s + 1))) ∧ ∀ s', lo ≤ s' → s' < s → ¬ (u s' < x s' ∧ canI n u s' ∧ okU n x d (upT1 u s' (u s' + 1))) := by
    intro k
    induction k with
    | zero => intro lo ⟨s, h1, h2, _⟩; omega
    | succ k ih =>
      intro lo ⟨s, h1, h2, h3⟩
      rw [ff]
      by_cases q : u lo < x lo ∧ canI n u lo ∧ okU n x d (upT1 u lo (u lo + 1))
      · rw [ifP_t q]
        exact ⟨lo, rfl, Nat.le_refl _, by omega, q, fun s' a b => by omega⟩
      · rw [ifP_f q]
        have ne : s ≠ lo := fun e => q (by rw [← e]; exact h3)
        obtain ⟨s0, a, b, c, d', e⟩ := ih (lo + 1) ⟨s, by omega, by omega, h3⟩
        refine ⟨s0, a, by omega, by omega, d', fun s' h1' h2' => ?_⟩
        by_cases z : s' = lo
        · rw [z]; exact q
        · exact e s' (by omega) h2'
  obtain ⟨s, s1, s2⟩ := h
  obtain ⟨s0, a, b, c, d', e⟩ := key 8 0 ⟨s, Nat.zero_le _, by omega, s2⟩
  exact ⟨s0, a, by omega, d'.1, d'.2.1, d'.2.2, fun s' h => e s' (Nat.zero_le _) h⟩
/-- the first order: its i-th step, so many yet to do -/
noncomputable def glU (n : NN) (x : Nat → Nat) : Nat → (Nat → Nat) → Nat → Nat
  | 0, _, _ => 0
  | d + 1, u, i => match fsU n x d u with
    | none => 0
    | some s => if i = 0 then s else glU n x d (upT1 u s (u s + 1)) (i - 1)
