/-! what a text that is read tells: arcs lie within what is there -/
def arcW (nP nS : Nat) (T : Nat → Nat) : Prop := ∀ i, T i ≠ 0 → i < 80 ∧ i % 10 < nP ∧ i / 10 < nS
theorem arcW_pu {nP s x v : Nat} {T : Nat → Nat} (h10 : nP ≤ 10) (hs : s < 8) (hx : x < nP) (h : arcW nP (s + 1) T) : arcW nP (s + 1) (pu T (s * 10 + x) v) := fun i hi => by
  unfold pu at hi
  by_cases e : i = s * 10 + x
  · rw [e]; omega
  · rw [if_neg e] at hi; exact h i hi
theorem arcW_up {nP nP' nS nS' : Nat} {T : Nat → Nat} (h1 : nP ≤ nP') (h2 : nS ≤ nS') (h : arcW nP nS T) : arcW nP' nS' T := fun i hi => by have := h i hi; omega
theorem pArc2_w {tp : Nat → Nat} {L nP : Nat} {pn : Nat → List Nat} {g : Bool} {s a v p : Nat} {T G : Nat → Nat} {y : AT} (h10 : nP ≤ 10) (hs : s < 8) (hT : arcW nP (s + 1) T) (hG : arcW nP (s + 1) G) (e : pArc2 tp L nP pn g s a v p T G = .ok y) : arcW nP (s + 1) y.2.1 ∧ arcW nP (s + 1) y.2.2 := by
  unfold pArc2 at e
  split at e
  · split at e
    · rename_i hx
      cases g
      · simp only [Bool.false_eq_true, if_false] at e
        split at e
        · injection e with e
          rw [← e]
          exact ⟨arcW_pu h10 hs hx hT, hG⟩
        · cases e
      · simp only [if_true] at e
        split at e
        · injection e with e
          rw [← e]
          exact ⟨hT, arcW_pu h10 hs hx hG⟩
        · cases e
    · cases e
  · cases e
theorem pArc_w {tp : Nat → Nat} {L nP : Nat} {pn : Nat → List Nat} {g : Bool} {s : Nat} {z y : AT} (h10 : nP ≤ 10) (hs : s < 8) (hT : arcW nP (s + 1) z.2.1) (hG : arcW nP (s + 1) z.2.2) (e : pArc tp L nP pn g s z = .ok y) : arcW nP (s + 1) y.2.1 ∧ arcW nP (s + 1) y.2.2 := by
  unfold pArc at e
  split at e
  · split at e
    · exact pArc2_w h10 hs hT hG e
    · cases e
  · exact pArc2_w h10 hs hT hG e
theorem pArcs_w {tp : Nat → Nat} {L nP : Nat} {pn : Nat → List Nat} {s : Nat} (h10 : nP ≤ 10) (hs : s < 8) : ∀ (f : Nat) (z y : AT), arcW nP (s + 1) z.2.1 → arcW nP (s + 1) z.2.2 → pArcs tp L nP pn s f z = .ok y → arcW nP (s + 1) y.2.1 ∧ arcW nP (s + 1) y.2.2
  | 0, z, y, hT, hG, e => by
    rw [pArcs] at e
    injection e with e
    rw [← e]; exact ⟨hT, hG⟩
  | f + 1, z, y, hT, hG, e => by
    rw [pArcs] at e
    by_cases q : isW tp L z.1 kTa = true
    · rw [if_pos q] at e
      cases c : pArc tp L nP pn false s z with
      | error x => rw [c] at e; cases e
      | ok x =>
        rw [c] at e
        have o := pArc_w h10 hs hT hG c
        exact pArcs_w h10 hs f x y o.1 o.2 e
    · rw [if_neg q] at e
      by_cases q2 : isW tp L z.1 kGi = true
      · rw [if_pos q2] at e
        cases c : pArc tp L nP pn true s z with
        | error x => rw [c] at e; cases e
        | ok x =>
          rw [c] at e
          have o := pArc_w h10 hs hT hG c
          exact pArcs_w h10 hs f x y o.1 o.2 e
      · rw [if_neg q2] at e
        injection e with e
        rw [← e]; exact ⟨hT, hG⟩
/-- what is read lies within what is there -/
def ptW (z : PT) : Prop := z.2.1.1 ≤ 10 ∧ z.2.2.1.1 ≤ 8 ∧ arcW z.2.1.1 z.2.2.1.1 z.2.2.2.1 ∧ arcW z.2.1.1 z.2.2.1.1 z.2.2.2.2.1 ∧ ∀ p, z.2.2.2.2.2 p ≠ 0 → p < z.2.1.1
theorem pClose_w {tp : Nat → Nat} {L : Nat} {z y : PT} (h : ptW z) (e : pClose tp L z = .ok y) : ptW y := by
  unfold pClose at e
  split at e
  · injection e with e
    rw [← e]; exact h
  · cases e
theorem pPl2_w {tp : Nat → Nat} {L p v : Nat} {z y : PT} {w : List Nat} (h : ptW z) (h9 : z.2.1.1 < 10) (e : pPl2 tp L z w v p = .ok y) : ptW y := by
  refine pClose_w ?_ e
  obtain ⟨a1, a2, a3, a4, a5⟩ := h
  refine ⟨?_, a2, arcW_up (Nat.le_succ _) (Nat.le_refl _) a3, arcW_up (Nat.le_succ _) (Nat.le_refl _) a4, fun q hq => ?_⟩
  · show z.2.1.1 + 1 ≤ 10; omega
  · show q < z.2.1.1 + 1
    have hq : pu z.2.2.2.2.2 z.2.1.1 v q ≠ 0 := hq
    unfold pu at hq
    by_cases c : q = z.2.1.1
    · omega
    · rw [if_neg c] at hq
      have := a5 q hq
      omega
theorem pLine_w {tp : Nat → Nat} {L : Nat} {z y : PT} (h : ptW z) (e : pLine tp L z = .ok y) : ptW y := by
  unfold pLine at e
  split at e
  · unfold pPlace at e
    split at e
    · rename_i h9
      cases n : pNew tp L z (tsp tp L z.1) with
      | some x => rw [n] at e; cases e
      | none =>
        rw [n] at e
        dsimp only at e
        split at e
        · split at e
          · exact pPl2_w h h9 e
          · cases e
        · exact pPl2_w h h9 e
    · cases e
  · split at e
    · unfold pStep at e
      split at e
      · rename_i h8
        cases n : pNew tp L z (tsp tp L z.1) with
        | some x => rw [n] at e; cases e
        | none =>
          rw [n] at e
          dsimp only at e
          cases m : pArcs tp L z.2.1.1 z.2.1.2 z.2.2.1.1 L (tsp tp L (tsp tp L z.1), z.2.2.2.1, z.2.2.2.2.1) with
          | error x => rw [m] at e; cases e
          | ok x =>
            rw [m] at e
            dsimp only at e
            obtain ⟨a1, a2, a3, a4, a5⟩ := h
            have o := pArcs_w a1 h8 L _ x (arcW_up (Nat.le_refl _) (Nat.le_succ _) a3) (arcW_up (Nat.le_refl _) (Nat.le_succ _) a4) m
            refine pClose_w ?_ e
            exact ⟨a1, h8, o.1, o.2, a5⟩
      · cases e
    · cases e
theorem pNet_w {tp : Nat → Nat} {L : Nat} : ∀ (f : Nat) (z y : PT), ptW z → pNet tp L f z = .ok y → ptW y
  | 0, z, y, h, e => by
    rw [pNet] at e
    injection e with e
    rw [← e]; exact h
  | f + 1, z, y, h, e => by
    rw [pNet] at e
    split at e
    · injection e with e
      rw [← e]; exact h
    · cases c : pLine tp L z with
      | error x => rw [c] at e; cases e
      | ok x =>
        rw [c] at e
        exact pNet_w f x y (pLine_w h c) e
theorem pt0_w : ptW pt0 := ⟨by decide, by decide, fun i hi => absurd rfl hi, fun i hi => absurd rfl hi, fun i hi => absurd rfl hi⟩
/-- the net that is read -/
def nnP (z : PT) : NN := (z.2.2.2.1, z.2.2.2.2.1, z.2.2.2.2.2, 2 ^ z.2.1.1 - 1, 2 ^ z.2.2.1.1 - 1)
theorem ones_bit {k i : Nat} : (2 ^ k - 1).testBit i = decide (i < k) := Nat.testBit_two_pow_sub_one k i
theorem nnP_wf {z : PT} (h : ptW z) (hT : ∀ i, i < 80 → z.2.2.2.1 i ≤ 3) (hG : ∀ i, i < 80 → z.2.2.2.2.1 i ≤ 3) (hH : ∀ i, i < 10 → z.2.2.2.2.2 i ≤ 99) : WF (nnP z) z.2.1.1 z.2.2.1.1 := by
  obtain ⟨a1, a2, a3, a4, a5⟩ := h
  have p1 := Nat.two_pow_pos z.2.1.1
  have p2 := Nat.two_pow_pos z.2.2.1.1
  refine ⟨a1, a2, ?_, ?_, fun i => ?_, fun i => ?_, fun i hi => ?_, fun i hi => ?_, fun p => ?_, fun p hp => ?_⟩
  · show 2 ^ z.2.1.1 - 1 < _; omega
  · show 2 ^ z.2.2.1.1 - 1 < _; omega
  · show z.2.2.2.1 i ≤ 3
    by_cases q : z.2.2.2.1 i = 0
    · omega
    · exact hT i (a3 i q).1
  · show z.2.2.2.2.1 i ≤ 3
    by_cases q : z.2.2.2.2.1 i = 0
    · omega
    · exact hG i (a4 i q).1
  · have := a3 i hi
    refine ⟨this.1, ?_, ?_⟩
    · show (2 ^ z.2.1.1 - 1).testBit (i % 10) = true
      rw [ones_bit]; exact decide_eq_true this.2.1
    · show (2 ^ z.2.2.1.1 - 1).testBit (i / 10) = true
      rw [ones_bit]; exact decide_eq_true this.2.2
  · have := a4 i hi
    refine ⟨this.1, ?_, ?_⟩
    · show (2 ^ z.2.1.1 - 1).testBit (i % 10) = true
      rw [ones_bit]; exact decide_eq_true this.2.1
    · show (2 ^ z.2.2.1.1 - 1).testBit (i / 10) = true
      rw [ones_bit]; exact decide_eq_true this.2.2
  · show z.2.2.2.2.2 p ≤ 999
    by_cases q : z.2.2.2.2.2 p = 0
    · omega
    · have := a5 p q
      have := hH p (by omega)
      omega
  · show (2 ^ z.2.1.1 - 1).testBit p = true
    rw [ones_bit]; exact decide_eq_true (a5 p hp)
theorem fun_tr {n : Nat} {f : Nat → Int32} {g : Nat → Nat} (h : ∀ i, i < n → f i = nI (g i)) (h0 : ∀ i, g i ≠ 0 → i < n) : tr n f = fun i => nI (g i) := by
  funext i
  unfold tr
  by_cases q : i < n
  · rw [if_pos q, h i q]
  · rw [if_neg q, show g i = 0 from Classical.byContradiction fun y => q (h0 i y)]
    rfl
