/-! a rule leaves a net as nets may be, and takes something away -/
def mu (n : NN) : Nat := pop (nP n) + pop (nS n)
theorem pop_d1 {a k : Nat} (ha : a < 1024) (h : a.testBit k = true) : pop (dif a (2 ^ k)) < pop a := by
  refine pop_lt ha (dif_sub _ _) (fun e => ?_)
  have : (dif a (2 ^ k)).testBit k = true := by rw [e]; exact h
  rw [tb_d1, decide_eq_true rfl, h] at this
  cases this
theorem pop_d0 {a m : Nat} (ha : a < 1024) : pop (dif a m) ≤ pop a := by
  by_cases q : dif a m = a
  · rw [q]; exact Nat.le_refl _
  · exact Nat.le_of_lt (pop_lt ha (dif_sub _ _) q)
theorem tb_lt {a k i : Nat} (ha : a < 2 ^ k) (h : a.testBit i = true) : i < k := by
  rcases Nat.lt_or_ge i k with q | q
  · exact q
  · rw [tb_hi ha q] at h; cases h
def okR (n : NN) (tp ts : Nat) (r : RR) : Prop := WF r.2.2.2 tp ts ∧ mu r.2.2.2 < mu n ∧ (∀ x, r.2.1 = some x → x < 10) ∧ (∀ x, r.2.2.1 = some x → x < 8)
theorem ok_P {n : NN} {tp ts k q : Nat} (w : WF n tp ts) (h : (nP n).testBit q = true) : okR n tp ts (k, some q, none, dP n q) :=
  ⟨WF_dP' w, Nat.add_lt_add_right (pop_d1 (wf_P w) h) _, fun x e => by cases e; have := tb_lt w.2.2.1 h; have := w.1; omega, fun x e => by cases e⟩
theorem ok_S {n : NN} {tp ts k q : Nat} (w : WF n tp ts) (h : (nS n).testBit q = true) : okR n tp ts (k, none, some q, dS n q) :=
  ⟨WF_dS' w, Nat.add_lt_add_left (pop_d1 (Nat.lt_trans (wf_S w) (by omega)) h) _, fun x e => (by cases e), fun x e => by cases e; have := tb_lt w.2.2.2.1 h; have := w.2.1; omega⟩
theorem ok_5 {n : NN} {tp ts p s t : Nat} (w : WF n tp ts) (h : (nP n).testBit p = true) (hs : one (col n.2.1 p) 8 = some s) (ht : one (col n.1 p) 8 = some t) (hne : s ≠ t) (hq : ∀ q, q < 10 → q = p ∨ nG n (10 * s + q) + nG n (10 * t + q) ≤ 3) : okR n tp ts (5, some p, some t, dS (dP (j5 n s t) p) t) := by
  obtain ⟨s8, s1, s0⟩ := one_some hs
  obtain ⟨t8, t1, t0⟩ := one_some ht
  have p10 : p < 10 := by have := tb_lt w.2.2.1 h; have := w.1; omega
  have sS : (nS n).testBit s = true := by
    have := (wf_Gn w (i := 10 * s + p) (by show col n.2.1 p s ≠ 0; omega)).2.2
    rw [(md p10).2] at this; exact this
  have tS : (nS n).testBit t = true := by
    have := (wf_Tn w (i := 10 * t + p) (by show col n.1 p t ≠ 0; omega)).2.2
    rw [(md p10).2] at this; exact this
  refine ⟨WF_dS' (WF_dP ⟨w.1, w.2.1, w.2.2.1, w.2.2.2.1, fun i _ => wf_T3 w i, fun i hi => ?_, w.2.2.2.2.2.2.1, fun i hi => ?_, w.2.2.2.2.2.2.2.2.1, w.2.2.2.2.2.2.2.2.2⟩), ?_, fun x e => by cases e; exact p10, fun x e => by cases e; exact t8⟩
  · show (if i / 10 = s then nG n i + nG n (10 * t + i % 10) else nG n i) ≤ 3
    by_cases q : i / 10 = s
    · rw [if_pos q]
      have := hq (i % 10) (by omega)
      rw [show 10 * s + i % 10 = i by omega] at this
      rcases this with z | z
      · exact absurd z hi
      · exact z
    · rw [if_neg q]; exact wf_G3 w i
  · change (if i / 10 = s then nG n i + nG n (10 * t + i % 10) else nG n i) ≠ 0 at hi
    show i < 80 ∧ (nP n).testBit (i % 10) = true ∧ (nS n).testBit (i / 10) = true
    by_cases q : i / 10 = s
    · rw [if_pos q] at hi
      rcases Nat.eq_zero_or_pos (nG n i) with z | z
      · have := (wf_Gn w (i := 10 * t + i % 10) (by omega)).2.1
        rw [show (10 * t + i % 10) % 10 = i % 10 by omega] at this
        exact ⟨by omega, this, by rw [q]; exact sS⟩
      · exact wf_Gn w (by omega)
    · rw [if_neg q] at hi; exact wf_Gn w hi
  · show pop (dif (nP n) (2 ^ p)) + pop (dif (nS n) (2 ^ t)) < pop (nP n) + pop (nS n)
    have := pop_d1 (wf_P w) h
    have := pop_d1 (Nat.lt_trans (wf_S w) (by omega)) tS
    omega
theorem ok_6 {n : NN} {tp ts p q s : Nat} (w : WF n tp ts) (h : (nS n).testBit s = true) (hp : one (row n.1 s) 10 = some p) (hq : one (row n.2.1 s) 10 = some q) (hne : p ≠ q) (hH : nH n p + nH n q ≤ 999) (hG : ∀ t, t < 8 → t = s ∨ nG n (10 * t + p) + nG n (10 * t + q) ≤ 3) : okR n tp ts (6, some p, some s, dS (dP (j6 n p q) p) s) := by
  obtain ⟨p10, p1, p0⟩ := one_some hp
  obtain ⟨q10, q1, q0⟩ := one_some hq
  have s8 : s < 8 := by have := tb_lt w.2.2.2.1 h; have := w.2.1; omega
  have pP : (nP n).testBit p = true := by
    have := (wf_Tn w (i := 10 * s + p) (by show row n.1 s p ≠ 0; omega)).2.1
    rw [(md p10).1] at this; exact this
  have qP : (nP n).testBit q = true := by
    have := (wf_Gn w (i := 10 * s + q) (by show row n.2.1 s q ≠ 0; omega)).2.1
    rw [(md q10).1] at this; exact this
  have c1 : ∀ i, i / 10 ≠ s → (if i % 10 = q ∧ i < 80 then nG n i + nG n (10 * (i / 10) + p) else nG n i) ≤ 3 := fun i hi => by
    by_cases z : i % 10 = q ∧ i < 80
    · rw [if_pos z]
      rcases hG (i / 10) (by omega) with y | y
      · exact absurd y hi
      · rw [show 10 * (i / 10) + q = i by omega] at y; omega
    · rw [if_neg z]; exact wf_G3 w i
  have c2 : ∀ i, (if i % 10 = q ∧ i < 80 then nG n i + nG n (10 * (i / 10) + p) else nG n i) ≠ 0 → i < 80 ∧ (nP n).testBit (i % 10) = true ∧ (nS n).testBit (i / 10) = true := fun i hi => by
    by_cases z : i % 10 = q ∧ i < 80
    · rw [if_pos z] at hi
      rcases Nat.eq_zero_or_pos (nG n i) with y | y
      · have := (wf_Gn w (i := 10 * (i / 10) + p) (by omega)).2.2
        rw [(md p10).2] at this
        exact ⟨z.2, by rw [z.1]; exact qP, this⟩
      · exact wf_Gn w (by omega)
    · rw [if_neg z] at hi; exact wf_Gn w hi
  -- first the step, then the place: the two commute
  have cm : dS (dP (j6 n p q) p) s = dP (dS (j6 n p q) s) p := by
    unfold dS dP nT nG nH nP nS
    dsimp only
    refine Prod.ext (funext fun i => ?_) (Prod.ext (funext fun i => ?_) rfl)
    · show (if i / 10 = s then 0 else if i % 10 = p then 0 else (j6 n p q).1 i) = if i % 10 = p then 0 else if i / 10 = s then 0 else (j6 n p q).1 i
      split <;> split <;> rfl
    · show (if i / 10 = s then 0 else if i % 10 = p then 0 else (j6 n p q).2.1 i) = if i % 10 = p then 0 else if i / 10 = s then 0 else (j6 n p q).2.1 i
      split <;> split <;> rfl
  refine ⟨?_, ?_, fun x e => by cases e; exact p10, fun x e => by cases e; exact s8⟩
  · show WF (dS (dP (j6 n p q) p) s) tp ts
    rw [cm]
    refine WF_dP' (WF_dS ⟨w.1, w.2.1, w.2.2.1, w.2.2.2.1, fun i _ => wf_T3 w i, c1, w.2.2.2.2.2.2.1, c2, fun i => ?_, fun i hi => ?_⟩)
    · show (if i = q then nH n q + nH n p else nH n i) ≤ 999
      have := wf_H w i
      split <;> omega
    · change (if i = q then nH n q + nH n p else nH n i) ≠ 0 at hi
      show (nP n).testBit i = true
      by_cases z : i = q
      · rw [z]; exact qP
      · rw [if_neg z] at hi; exact wf_Hn w hi
  · show pop (dif (nP n) (2 ^ p)) + pop (dif (nS n) (2 ^ s)) < pop (nP n) + pop (nS n)
    have := pop_d1 (wf_P w) pP
    have := pop_d1 (Nat.lt_trans (wf_S w) (by omega)) h
    omega
theorem oe_s {α : Type} {a b : Option α} {x : α} (h : oe a b = some x) : a = some x ∨ b = some x := by
  cases a with
  | none => exact Or.inr h
  | some y => exact Or.inl h
theorem rl_ok {n : NN} {tp ts : Nat} {r : RR} (w : WF n tp ts) (h : rl n = some r) : okR n tp ts r := by
  rcases oe_s h with h | h
  · obtain ⟨p, _, _, h⟩ := ff_some h
    obtain ⟨q, _, _, h⟩ := ff_some h
    obtain ⟨z, e⟩ := ifP_s h
    cases e
    exact ok_P w z.2.1
  rcases oe_s h with h | h
  · obtain ⟨p, _, _, h⟩ := ff_some h
    obtain ⟨q, _, _, h⟩ := ff_some h
    obtain ⟨z, e⟩ := ifP_s h
    cases e
    exact ok_S w z.2.1
  rcases oe_s h with h | h
  · obtain ⟨p, _, _, h⟩ := ff_some h
    obtain ⟨z, e⟩ := ifP_s h
    cases e
    exact ok_P w z.1
  rcases oe_s h with h | h
  · obtain ⟨p, _, _, h⟩ := ff_some h
    obtain ⟨z, e⟩ := ifP_s h
    cases e
    exact ok_S w z.2.1
  rcases oe_s h with h | h
  · obtain ⟨p, _, _, h⟩ := ff_some h
    obtain ⟨z, e⟩ := ifP_s h
    cases hs : one (col n.2.1 p) 8 with
    | none => rw [hs] at e; cases e
    | some s => cases ht : one (col n.1 p) 8 with
      | none => rw [hs, ht] at e; cases e
      | some t =>
        rw [hs, ht] at e
        obtain ⟨y, e⟩ := ifP_s e
        cases e
        exact ok_5 w z.1 hs ht y.1 y.2.2
  · obtain ⟨p, _, _, h⟩ := ff_some h
    obtain ⟨z, e⟩ := ifP_s h
    cases hs : one (row n.1 p) 10 with
    | none => rw [hs] at e; cases e
    | some s => cases ht : one (row n.2.1 p) 10 with
      | none => rw [hs, ht] at e; cases e
      | some t =>
        rw [hs, ht] at e
        obtain ⟨y, e⟩ := ifP_s e
        cases e
        exact ok_6 w z hs ht y.1 y.2.2.1 y.2.2.2
