/-! the rules of reduce, over the naturals -/
def dP (n : NN) (p : Nat) : NN := (fun i => if i % 10 = p then 0 else nT n i, fun i => if i % 10 = p then 0 else nG n i, fun i => if i = p then 0 else nH n i, dif (nP n) (2 ^ p), nS n)
def dS (n : NN) (s : Nat) : NN := (fun i => if i / 10 = s then 0 else nT n i, fun i => if i / 10 = s then 0 else nG n i, n.2.2.1, nP n, dif (nS n) (2 ^ s))
def appN (n : NN) (p s : Option Nat) : NN := match p, s with
  | some p, some s => dS (dP n p) s
  | some p, none => dP n p
  | none, some s => dS n s
  | none, none => n
theorem enc_dP (n : NN) {p : Nat} (hp : p < 10) : enc (dP n p) = drP (enc n) p := by
  unfold enc drP dP
  refine r5 ?_ ?_ ?_ ?_ rfl
  · funext i; show nI (if i % 10 = p then 0 else nT n i) = if i % 10 = p then 0 else nI (nT n i); split <;> rfl
  · funext i; show nI (if i % 10 = p then 0 else nG n i) = if i % 10 = p then 0 else nI (nG n i); split <;> rfl
  · funext i; show nI (if i = p then 0 else nH n i) = if i = p then 0 else nI (nH n i); split <;> rfl
  · rw [shl_nI (by omega), nI_dif]
theorem enc_dS (n : NN) {p : Nat} (hp : p < 8) : enc (dS n p) = drS (enc n) p := by
  unfold enc drS dS
  refine r5 ?_ ?_ rfl rfl ?_
  · funext i; show nI (if i / 10 = p then 0 else nT n i) = if i / 10 = p then 0 else nI (nT n i); split <;> rfl
  · funext i; show nI (if i / 10 = p then 0 else nG n i) = if i / 10 = p then 0 else nI (nG n i); split <;> rfl
  · rw [shl_nI (by omega), nI_dif]
theorem enc_app {n : NN} {p s : Option Nat} (hp : ∀ x, p = some x → x < 10) (hs : ∀ x, s = some x → x < 8) : app (enc n) p s = enc (appN n p s) := by
  cases p with
  | none => cases s with
    | none => rfl
    | some y => exact (enc_dS n (hs y rfl)).symm
  | some x => cases s with
    | none => exact (enc_dP n (hp x rfl)).symm
    | some y => show drS (drP (enc n) x) y = enc (dS (dP n x) y); rw [enc_dS _ (hs y rfl), enc_dP _ (hp x rfl)]
theorem dif_b {a k : Nat} {m : Nat} (h : a < 2 ^ k) : dif a m < 2 ^ k := Nat.lt_of_le_of_lt (sub_le (dif_sub a m)) h
theorem tb_d1 (a k i : Nat) : (dif a (2 ^ k)).testBit i = (a.testBit i && !decide (k = i)) := by rw [tb_dif, tb_one]
theorem WF_dP {n : NN} {tp ts p : Nat} (w : tp ≤ 10 ∧ ts ≤ 8 ∧ nP n < 2 ^ tp ∧ nS n < 2 ^ ts ∧ (∀ i, i % 10 ≠ p → nT n i ≤ 3) ∧ (∀ i, i % 10 ≠ p → nG n i ≤ 3) ∧ (∀ i, nT n i ≠ 0 → i < 80 ∧ (nP n).testBit (i % 10) = true ∧ (nS n).testBit (i / 10) = true) ∧ (∀ i, nG n i ≠ 0 → i < 80 ∧ (nP n).testBit (i % 10) = true ∧ (nS n).testBit (i / 10) = true) ∧ (∀ p, nH n p ≤ 999) ∧ (∀ p, nH n p ≠ 0 → (nP n).testBit p = true)) : WF (dP n p) tp ts := by
  obtain ⟨w1, w2, w3, w4, w5, w6, w7, w8, w9, w10⟩ := w
  refine ⟨w1, w2, dif_b w3, w4, fun i => ?_, fun i => ?_, fun i h => ?_, fun i h => ?_, fun i => ?_, fun i h => ?_⟩
  · show (if i % 10 = p then 0 else nT n i) ≤ 3
    split
    · omega
    · exact w5 i (by assumption)
  · show (if i % 10 = p then 0 else nG n i) ≤ 3
    split
    · omega
    · exact w6 i (by assumption)
  · change (if i % 10 = p then 0 else nT n i) ≠ 0 at h
    show i < 80 ∧ (dif (nP n) (2 ^ p)).testBit (i % 10) = true ∧ (nS n).testBit (i / 10) = true
    by_cases q : i % 10 = p
    · rw [if_pos q] at h; exact absurd rfl h
    · rw [if_neg q] at h
      obtain ⟨a, b, c⟩ := w7 i h
      rw [tb_d1, b, decide_eq_false (fun e => q e.symm)]
      exact ⟨a, rfl, c⟩
  · change (if i % 10 = p then 0 else nG n i) ≠ 0 at h
    show i < 80 ∧ (dif (nP n) (2 ^ p)).testBit (i % 10) = true ∧ (nS n).testBit (i / 10) = true
    by_cases q : i % 10 = p
    · rw [if_pos q] at h; exact absurd rfl h
    · rw [if_neg q] at h
      obtain ⟨a, b, c⟩ := w8 i h
      rw [tb_d1, b, decide_eq_false (fun e => q e.symm)]
      exact ⟨a, rfl, c⟩
  · show (if i = p then 0 else nH n i) ≤ 999
    have := w9 i
    split <;> omega
  · change (if i = p then 0 else nH n i) ≠ 0 at h
    show (dif (nP n) (2 ^ p)).testBit i = true
    by_cases q : i = p
    · rw [if_pos q] at h; exact absurd rfl h
    · rw [if_neg q] at h
      rw [tb_d1, w10 i h, decide_eq_false (fun e => q e.symm)]; rfl
theorem WF_dS {n : NN} {tp ts s : Nat} (w : tp ≤ 10 ∧ ts ≤ 8 ∧ nP n < 2 ^ tp ∧ nS n < 2 ^ ts ∧ (∀ i, i / 10 ≠ s → nT n i ≤ 3) ∧ (∀ i, i / 10 ≠ s → nG n i ≤ 3) ∧ (∀ i, nT n i ≠ 0 → i < 80 ∧ (nP n).testBit (i % 10) = true ∧ (nS n).testBit (i / 10) = true) ∧ (∀ i, nG n i ≠ 0 → i < 80 ∧ (nP n).testBit (i % 10) = true ∧ (nS n).testBit (i / 10) = true) ∧ (∀ p, nH n p ≤ 999) ∧ (∀ p, nH n p ≠ 0 → (nP n).testBit p = true)) : WF (dS n s) tp ts := by
  obtain ⟨w1, w2, w3, w4, w5, w6, w7, w8, w9, w10⟩ := w
  refine ⟨w1, w2, w3, dif_b w4, fun i => ?_, fun i => ?_, fun i h => ?_, fun i h => ?_, w9, w10⟩
  · show (if i / 10 = s then 0 else nT n i) ≤ 3
    split
    · omega
    · exact w5 i (by assumption)
  · show (if i / 10 = s then 0 else nG n i) ≤ 3
    split
    · omega
    · exact w6 i (by assumption)
  · change (if i / 10 = s then 0 else nT n i) ≠ 0 at h
    show i < 80 ∧ (nP n).testBit (i % 10) = true ∧ (dif (nS n) (2 ^ s)).testBit (i / 10) = true
    by_cases q : i / 10 = s
    · rw [if_pos q] at h; exact absurd rfl h
    · rw [if_neg q] at h
      obtain ⟨a, b, c⟩ := w7 i h
      rw [tb_d1, c, decide_eq_false (fun e => q e.symm)]
      exact ⟨a, b, rfl⟩
  · change (if i / 10 = s then 0 else nG n i) ≠ 0 at h
    show i < 80 ∧ (nP n).testBit (i % 10) = true ∧ (dif (nS n) (2 ^ s)).testBit (i / 10) = true
    by_cases q : i / 10 = s
    · rw [if_pos q] at h; exact absurd rfl h
    · rw [if_neg q] at h
      obtain ⟨a, b, c⟩ := w8 i h
      rw [tb_d1, c, decide_eq_false (fun e => q e.symm)]
      exact ⟨a, b, rfl⟩
theorem WF_dP' {n : NN} {tp ts p : Nat} (w : WF n tp ts) : WF (dP n p) tp ts := WF_dP ⟨w.1, w.2.1, w.2.2.1, w.2.2.2.1, fun i _ => wf_T3 w i, fun i _ => wf_G3 w i, fun _ h => wf_Tn w h, fun _ h => wf_Gn w h, wf_H w, fun _ h => wf_Hn w h⟩
theorem WF_dS' {n : NN} {tp ts p : Nat} (w : WF n tp ts) : WF (dS n p) tp ts := WF_dS ⟨w.1, w.2.1, w.2.2.1, w.2.2.2.1, fun i _ => wf_T3 w i, fun i _ => wf_G3 w i, fun _ h => wf_Tn w h, fun _ h => wf_Gn w h, wf_H w, fun _ h => wf_Hn w h⟩
abbrev RR : Type := Nat × Option Nat × Option Nat × NN
def col (A : Nat → Nat) (p : Nat) : Nat → Nat := fun s => A (10 * s + p)
def row (A : Nat → Nat) (s : Nat) : Nat → Nat := fun p => A (10 * s + p)
noncomputable def ifP {α : Type} (P : Prop) (x : Option α) : Option α := @ite _ P (Classical.propDecidable P) x none
theorem ifP_t {α : Type} {P : Prop} {x : Option α} (h : P) : ifP P x = x := if_pos h
theorem ifP_f {α : Type} {P : Prop} {x : Option α} (h : ¬ P) : ifP P x = none := if_neg h
theorem ifP_s {α : Type} {P : Prop} {x : Option α} {y : α} (h : ifP P x = some y) : P ∧ x = some y := by
  by_cases q : P
  · rw [ifP_t q] at h; exact ⟨q, h⟩
  · rw [ifP_f q] at h; cases h
noncomputable def g1 (n : NN) (p q : Nat) : Option RR := ifP ((nP n).testBit p = true ∧ (nP n).testBit q = true ∧ nH n p ≤ nH n q ∧ ∀ s, s < 8 → nT n (10 * s + p) = nT n (10 * s + q) ∧ nG n (10 * s + p) = nG n (10 * s + q)) (some (1, some q, none, dP n q))
noncomputable def g2 (n : NN) (s t : Nat) : Option RR := ifP ((nS n).testBit s = true ∧ (nS n).testBit t = true ∧ ∀ p, p < 10 → nT n (10 * s + p) = nT n (10 * t + p) ∧ nG n (10 * s + p) = nG n (10 * t + p)) (some (2, none, some t, dS n t))
noncomputable def g3 (n : NN) (p : Nat) : Option RR := ifP ((nP n).testBit p = true ∧ ∀ s, s < 8 → nT n (10 * s + p) = nG n (10 * s + p) ∧ nT n (10 * s + p) ≤ nH n p) (some (3, some p, none, dP n p))
noncomputable def g4 (n : NN) (s : Nat) : Option RR := ifP (1 < pop (nS n) ∧ (nS n).testBit s = true ∧ ∀ p, p < 10 → nT n (10 * s + p) = nG n (10 * s + p)) (some (4, none, some s, dS n s))
/-- step s gives what t gives, too -/
def j5 (n : NN) (s t : Nat) : NN := (n.1, fun i => if i / 10 = s then nG n i + nG n (10 * t + i % 10) else nG n i, n.2.2)
/-- place q gets what p gets, and has what p has, too -/
def j6 (n : NN) (p q : Nat) : NN := (n.1, fun i => if i % 10 = q ∧ i < 80 then nG n i + nG n (10 * (i / 10) + p) else nG n i, fun i => if i = q then nH n q + nH n p else nH n i, n.2.2.2)
noncomputable def h5 (n : NN) (p : Nat) (a b : Option Nat) : Option RR := match a, b with
    | some s, some t => ifP (s ≠ t ∧ one (row n.1 t) 10 = some p ∧ ∀ q, q < 10 → q = p ∨ nG n (10 * s + q) + nG n (10 * t + q) ≤ 3) (some (5, some p, some t, dS (dP (j5 n s t) p) t))
    | _, _ => none
noncomputable def g5 (n : NN) (p : Nat) : Option RR := ifP ((nP n).testBit p = true ∧ nH n p = 0) (h5 n p (one (col n.2.1 p) 8) (one (col n.1 p) 8))
noncomputable def h6 (n : NN) (s : Nat) (a b : Option Nat) : Option RR := match a, b with
    | some p, some q => ifP (p ≠ q ∧ one (col n.1 p) 8 = some s ∧ nH n p + nH n q ≤ 999 ∧ ∀ t, t < 8 → t = s ∨ nG n (10 * t + p) + nG n (10 * t + q) ≤ 3) (some (6, some p, some s, dS (dP (j6 n p q) p) s))
    | _, _ => none
noncomputable def g6 (n : NN) (s : Nat) : Option RR := ifP ((nS n).testBit s = true) (h6 n s (one (row n.1 s) 10) (one (row n.2.1 s) 10))
noncomputable def rl1 (n : NN) : Option RR := ff (fun p => ff (g1 n p) (p + 1) (10 - (p + 1))) 0 10
noncomputable def rl2 (n : NN) : Option RR := ff (fun p => ff (g2 n p) (p + 1) (8 - (p + 1))) 0 8
noncomputable def rl3 (n : NN) : Option RR := ff (g3 n) 0 10
noncomputable def rl4 (n : NN) : Option RR := ff (g4 n) 0 8
noncomputable def rl5 (n : NN) : Option RR := ff (g5 n) 0 10
noncomputable def rl6 (n : NN) : Option RR := ff (g6 n) 0 8
def oe {α : Type} (a b : Option α) : Option α := match a with
  | some x => some x
  | none => b
noncomputable def rl (n : NN) : Option RR := oe (rl1 n) (oe (rl2 n) (oe (rl3 n) (oe (rl4 n) (oe (rl5 n) (rl6 n)))))
