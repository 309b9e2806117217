/-! nets over the naturals; searches -/
abbrev NN : Type := (Nat → Nat) × (Nat → Nat) × (Nat → Nat) × Nat × Nat
abbrev nT (n : NN) (i : Nat) : Nat := n.1 i
abbrev nG (n : NN) (i : Nat) : Nat := n.2.1 i
abbrev nH (n : NN) (i : Nat) : Nat := n.2.2.1 i
abbrev nP (n : NN) : Nat := n.2.2.2.1
abbrev nS (n : NN) : Nat := n.2.2.2.2
def enc (n : NN) : Rt := (fun i => nI (nT n i), fun i => nI (nG n i), fun i => nI (nH n i), nI (nP n), nI (nS n))
/-- a net as it may be: so many places, steps told -/
def WF (n : NN) (tp ts : Nat) : Prop := tp ≤ 10 ∧ ts ≤ 8 ∧ nP n < 2 ^ tp ∧ nS n < 2 ^ ts ∧ (∀ i, nT n i ≤ 3) ∧ (∀ i, nG n i ≤ 3) ∧ (∀ i, nT n i ≠ 0 → i < 80 ∧ (nP n).testBit (i % 10) = true ∧ (nS n).testBit (i / 10) = true) ∧ (∀ i, nG n i ≠ 0 → i < 80 ∧ (nP n).testBit (i % 10) = true ∧ (nS n).testBit (i / 10) = true) ∧ (∀ p, nH n p ≤ 999) ∧ (∀ p, nH n p ≠ 0 → (nP n).testBit p = true)
/-- the class's net at a cell -/
def atC (M : Mem) (t : Nat) (n : NN) (tp ts : Nat) : Prop := toR (nt M t) = enc n ∧ M.1 t 3 = nI tp ∧ M.1 t 4 = nI ts ∧ WF n tp ts
theorem p10 {n k : Nat} (h : n < 2 ^ k) (hk : k ≤ 10) : n < 1024 := Nat.lt_of_lt_of_le h (Nat.pow_le_pow_right (by omega) hk (n := 2))
theorem p8 {n k : Nat} (h : n < 2 ^ k) (hk : k ≤ 8) : n < 256 := Nat.lt_of_lt_of_le h (Nat.pow_le_pow_right (by omega) hk (n := 2))
theorem wf_P {n : NN} {tp ts : Nat} (w : WF n tp ts) : nP n < 1024 := p10 w.2.2.1 w.1
theorem wf_S {n : NN} {tp ts : Nat} (w : WF n tp ts) : nS n < 256 := p8 w.2.2.2.1 w.2.1
theorem wf_Ph {n : NN} {tp ts p : Nat} (w : WF n tp ts) (h : tp ≤ p) : (nP n).testBit p = false := tb_hi w.2.2.1 h
theorem wf_Sh {n : NN} {tp ts p : Nat} (w : WF n tp ts) (h : ts ≤ p) : (nS n).testBit p = false := tb_hi w.2.2.2.1 h
theorem wf_T3 {n : NN} {tp ts : Nat} (w : WF n tp ts) (i : Nat) : nT n i ≤ 3 := w.2.2.2.2.1 i
theorem wf_G3 {n : NN} {tp ts : Nat} (w : WF n tp ts) (i : Nat) : nG n i ≤ 3 := w.2.2.2.2.2.1 i
theorem wf_Tn {n : NN} {tp ts i : Nat} (w : WF n tp ts) (h : nT n i ≠ 0) : i < 80 ∧ (nP n).testBit (i % 10) = true ∧ (nS n).testBit (i / 10) = true := w.2.2.2.2.2.2.1 i h
theorem wf_Gn {n : NN} {tp ts i : Nat} (w : WF n tp ts) (h : nG n i ≠ 0) : i < 80 ∧ (nP n).testBit (i % 10) = true ∧ (nS n).testBit (i / 10) = true := w.2.2.2.2.2.2.2.1 i h
theorem wf_H {n : NN} {tp ts : Nat} (w : WF n tp ts) (p : Nat) : nH n p ≤ 999 := w.2.2.2.2.2.2.2.2.1 p
theorem wf_Hn {n : NN} {tp ts p : Nat} (w : WF n tp ts) (h : nH n p ≠ 0) : (nP n).testBit p = true := w.2.2.2.2.2.2.2.2.2 p h
theorem md {s p : Nat} (hp : p < 10) : (10 * s + p) % 10 = p ∧ (10 * s + p) / 10 = s := by omega
theorem wf_T0p {n : NN} {tp ts s p : Nat} (w : WF n tp ts) (hp : p < 10) (h : tp ≤ p) : nT n (10 * s + p) = 0 := by
  rcases Nat.eq_zero_or_pos (nT n (10 * s + p)) with q | q
  · exact q
  · have := (wf_Tn w (Nat.pos_iff_ne_zero.mp q)).2.1
    rw [(md hp).1, wf_Ph w h] at this; cases this
theorem wf_G0p {n : NN} {tp ts s p : Nat} (w : WF n tp ts) (hp : p < 10) (h : tp ≤ p) : nG n (10 * s + p) = 0 := by
  rcases Nat.eq_zero_or_pos (nG n (10 * s + p)) with q | q
  · exact q
  · have := (wf_Gn w (Nat.pos_iff_ne_zero.mp q)).2.1
    rw [(md hp).1, wf_Ph w h] at this; cases this
theorem wf_T0s {n : NN} {tp ts s p : Nat} (w : WF n tp ts) (hp : p < 10) (h : ts ≤ s) : nT n (10 * s + p) = 0 := by
  rcases Nat.eq_zero_or_pos (nT n (10 * s + p)) with q | q
  · exact q
  · have := (wf_Tn w (Nat.pos_iff_ne_zero.mp q)).2.2
    rw [(md hp).2, wf_Sh w h] at this; cases this
theorem wf_G0s {n : NN} {tp ts s p : Nat} (w : WF n tp ts) (hp : p < 10) (h : ts ≤ s) : nG n (10 * s + p) = 0 := by
  rcases Nat.eq_zero_or_pos (nG n (10 * s + p)) with q | q
  · exact q
  · have := (wf_Gn w (Nat.pos_iff_ne_zero.mp q)).2.2
    rw [(md hp).2, wf_Sh w h] at this; cases this
theorem rt_T {M : Mem} {g : Nat} {n : NN} (h : rt M g = enc n) {i : Nat} (hi : i < 80) : M.1 1 (80 * g + i) = nI (nT n i) := by
  have := congrFun (congrArg (·.1) h) i
  exact Eq.trans (tr_in (f := fun i => M.1 1 (80 * g + i)) hi).symm this
theorem rt_G {M : Mem} {g : Nat} {n : NN} (h : rt M g = enc n) {i : Nat} (hi : i < 80) : M.1 2 (80 * g + i) = nI (nG n i) := by
  have := congrFun (congrArg (·.2.1) h) i
  exact Eq.trans (tr_in (f := fun i => M.1 2 (80 * g + i)) hi).symm this
theorem rt_H {M : Mem} {g : Nat} {n : NN} (h : rt M g = enc n) {i : Nat} (hi : i < 10) : M.1 3 (10 * g + i) = nI (nH n i) := by
  have := congrFun (congrArg (·.2.2.1) h) i
  exact Eq.trans (tr_in (f := fun i => M.1 3 (10 * g + i)) hi).symm this
theorem rt_P {M : Mem} {g : Nat} {n : NN} (h : rt M g = enc n) : M.1 4 g = nI (nP n) := congrArg (·.2.2.2.1) h
theorem rt_S {M : Mem} {g : Nat} {n : NN} (h : rt M g = enc n) : M.1 5 g = nI (nS n) := congrArg (·.2.2.2.2) h
theorem ac_T {M : Mem} {t tp ts : Nat} {n : NN} (h : atC M t n tp ts) {i : Nat} (hi : i < 80) : M.1 (t + 1) i = nI (nT n i) := Eq.trans (tr_in (f := M.1 (t + 1)) hi).symm (congrFun (congrArg (·.1) h.1) i)
theorem ac_G {M : Mem} {t tp ts : Nat} {n : NN} (h : atC M t n tp ts) {i : Nat} (hi : i < 80) : M.1 (t + 2) i = nI (nG n i) := Eq.trans (tr_in (f := M.1 (t + 2)) hi).symm (congrFun (congrArg (·.2.1) h.1) i)
theorem ac_H {M : Mem} {t tp ts : Nat} {n : NN} (h : atC M t n tp ts) {i : Nat} (hi : i < 10) : M.1 (t + 3) i = nI (nH n i) := Eq.trans (tr_in (f := M.1 (t + 3)) hi).symm (congrFun (congrArg (·.2.2.1) h.1) i)
theorem ac_P {M : Mem} {t tp ts : Nat} {n : NN} (h : atC M t n tp ts) : M.1 t 5 = nI (nP n) := congrArg (·.2.2.2.1) h.1
theorem ac_S {M : Mem} {t tp ts : Nat} {n : NN} (h : atC M t n tp ts) : M.1 t 6 = nI (nS n) := congrArg (·.2.2.2.2) h.1
/-! searches: the first that fits -/
def ff {α : Type} (c : Nat → Option α) (lo : Nat) : Nat → Option α
  | 0 => none
  | k + 1 => match c lo with
    | some x => some x
    | none => ff c (lo + 1) k
theorem ff_some {α : Type} {c : Nat → Option α} {x : α} : ∀ {k lo : Nat}, ff c lo k = some x → ∃ j, lo ≤ j ∧ j < lo + k ∧ c j = some x
  | 0, lo, h => by cases h
  | k + 1, lo, h => by
    rw [ff] at h
    cases hc : c lo with
    | some y => rw [hc] at h; exact ⟨lo, Nat.le_refl _, by omega, by rw [hc]; exact h⟩
    | none => rw [hc] at h; obtain ⟨j, a, b, e⟩ := ff_some h; exact ⟨j, by omega, by omega, e⟩
theorem ff_none {α : Type} {c : Nat → Option α} : ∀ {k lo : Nat}, (∀ j, lo ≤ j → j < lo + k → c j = none) → ff c lo k = none
  | 0, _, _ => rfl
  | k + 1, lo, h => by rw [ff, h lo (Nat.le_refl _) (by omega)]; exact ff_none (fun j a b => h j (by omega) (by omega))
theorem ff_out {α : Type} {c : Nat → Option α} : ∀ {k lo d : Nat}, (∀ j, lo + k ≤ j → j < lo + k + d → c j = none) → ff c lo (k + d) = ff c lo k
  | 0, lo, d, h => by rw [Nat.zero_add]; exact ff_none (fun j a b => h j (by omega) (by omega))
  | k + 1, lo, d, h => by
    rw [show k + 1 + d = (k + d) + 1 by omega, ff, ff]
    cases c lo with
    | some x => rfl
    | none => exact ff_out (fun j a b => h j (by omega) (by omega))
theorem ff_cong {α : Type} {c c' : Nat → Option α} : ∀ {k lo : Nat}, (∀ j, lo ≤ j → j < lo + k → c j = c' j) → ff c lo k = ff c' lo k
  | 0, _, _ => rfl
  | k + 1, lo, h => by
    rw [ff, ff, h lo (Nat.le_refl _) (by omega)]
    cases c' lo with
    | some x => rfl
    | none => exact ff_cong (fun j a b => h j (by omega) (by omega))
/-- a search loop -/
theorem lpF {α : Type} (c : Nat → Option α) (Q : Option α → Prop) (W : Nat → Nat → Prop) (lo hi : Nat) (hlo : lo ≤ hi) (h : Q (ff c lo (hi - lo))) (hx : Q none → ∀ n, W (n + 1) hi)
    (hs : ∀ j, lo ≤ j → j < hi → ∀ n, (c j = none → W n (j + 1)) → (∀ x, c j = some x → Q (some x)) → W (n + 1) j) : ∃ n, W n lo := by
  have key : ∀ d j, j + d = hi → lo ≤ j → Q (ff c j d) → W (d + 1) j := by
    intro d
    induction d with
    | zero => intro j hj _ q; rw [Nat.add_zero] at hj; subst hj; exact hx q 0
    | succ d ih =>
      intro j hj hl q
      rw [ff] at q
      refine hs j hl (by omega) (d + 1) (fun e => ?_) (fun x e => ?_)
      · rw [e] at q; exact ih (j + 1) (by omega) (by omega) q
      · rw [e] at q; exact q
  exact ⟨_, key (hi - lo) lo (by omega) (Nat.le_refl lo) h⟩
/-- a loop that asks whether all hold -/
theorem lpA (c : Nat → Bool) (Q : Bool → Prop) (W : Nat → Nat → Prop) (hi : Nat) (h : Q (allB c hi)) (hx : Q true → ∀ n, W (n + 1) hi)
    (hs : ∀ j, j < hi → ∀ n, (c j = true → W n (j + 1)) → (c j = false → Q false) → W (n + 1) j) : ∃ n, W n 0 := by
  refine up W (fun j => allB c j = true) 0 hi (Nat.zero_le _) rfl (fun e n => hx (by rw [← e]; exact h) n) (fun j _ hj e n ih => hs j hj n (fun q => ih (by rw [allB, e, q]; rfl)) (fun q => ?_))
  rw [allB_f hj q] at h
  exact h
