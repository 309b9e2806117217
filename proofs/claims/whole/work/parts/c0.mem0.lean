/-! the memory at the start -/
def M0 : Mem := (fun k i => bif Nat.beq k 0 then (bif Nat.beq i 17 then -1 else 0) else bif Nat.beq k 42 then (bif Nat.beq i 5 then -1 else bif Nat.beq i 7 then 1 else 0) else bif Nat.beq k 104 then (bif Nat.beq i 7 then -1 else 0) else bif Nat.beq k 109 then (bif Nat.beq i 7 then -1 else bif Nat.beq i 0 then 1 else 0) else bif Nat.beq k 114 then (bif Nat.beq i 6 then -1 else 0) else bif Nat.beq k 119 then (bif Nat.beq i 6 then -1 else bif Nat.beq i 0 then 1 else 0) else bif Nat.beq k 124 then (bif Nat.beq i 9 then -1 else bif Nat.beq i 12 then -1 else 0) else bif Nat.beq k 134 then (bif Nat.beq i 11 then -1 else bif Nat.beq i 16 then -1 else bif Nat.beq i 17 then -1 else 0) else bif Nat.beq k 146 then (bif Nat.beq i 5 then -1 else 0) else bif Nat.beq k 154 then (bif Nat.beq i 11 then -1 else bif Nat.beq i 16 then -1 else bif Nat.beq i 17 then -1 else 0) else 0, fun _ _ => 0)
def NN0 : NN := (fun _ => 0, fun _ => 0, fun _ => 0, 0, 0)
theorem WF0 : WF NN0 0 0 := ⟨by decide, by decide, by decide, by decide, fun i => Nat.zero_le _, fun i => Nat.zero_le _, fun i h => absurd rfl h, fun i h => absurd rfl h, fun i => Nat.zero_le _, fun i h => absurd rfl h⟩
theorem tr_0 {N : Nat} {f : Nat → Int32} (h : ∀ i, f i = 0) : tr N f = fun _ => nI 0 := by
  funext i
  unfold tr
  split
  · exact h i
  · rfl
theorem M0_I {k : Nat} (hk : k = 1 ∨ k = 2 ∨ k = 3 ∨ k = 4 ∨ k = 5 ∨ k = 8 ∨ k = 51 ∨ k = 52 ∨ k = 53 ∨ k = 125) (i : Nat) : M0.1 k i = 0 := by
  rcases hk with e | e | e | e | e | e | e | e | e | e <;> (subst e; rfl)
theorem Inv_0 : Inv 0 M0 := by
  have hat : toR (nt M0 50) = enc NN0 := by
    unfold toR nt enc NN0
    simp only []
    rw [tr_0 (fun i => M0_I (k := 50 + 1) (by omega) i), tr_0 (fun i => M0_I (k := 50 + 2) (by omega) i), tr_0 (fun i => M0_I (k := 50 + 3) (by omega) i)]
    rfl
  have hrt : rt M0 0 = enc NN0 := by
    unfold rt enc NN0
    rw [tr_0 (fun i => M0_I (k := 1) (by omega) _), tr_0 (fun i => M0_I (k := 2) (by omega) _), tr_0 (fun i => M0_I (k := 3) (by omega) _)]
    rfl
  refine ⟨((0, fun _ => 0), (0, -1), (NN0, 0, 0), [], fun _ => 0), ⟨fun _ => (NN0, 0, 0), 0, ⟨Nat.le_refl _, rfl⟩, ⟨⟨Nat.zero_le _, rfl, fun i hi => absurd hi (Nat.not_lt_zero _)⟩, rfl, rfl⟩, ?_, ?_, ?_, ?_⟩, ?_⟩
  · exact ⟨0, 0, Nat.le_refl _, Nat.le_refl _, rfl, rfl, rfl, rfl, hat, rfl, rfl, WF0⟩
  · exact ⟨0, by decide, rfl, rfl, Nat.zero_le _, fun i x h => by have h2 : ([] : List N3)[i]? = some x := h; simp at h2⟩
  · exact ⟨fun p hp => M0_I (k := 125) (by omega) p, fun p => Nat.zero_le _, Or.inl rfl⟩
  · exact ⟨⟨rfl, Or.inl rfl⟩, ⟨rfl, Or.inl rfl⟩, ⟨rfl, Or.inl rfl⟩, ⟨rfl, Or.inl rfl⟩, Or.inl rfl, Or.inl rfl, Or.inl rfl⟩
  · refine ⟨⟨Nat.zero_le _, rfl, fun i hi => absurd hi (Nat.not_lt_zero _)⟩, ⟨rfl, rfl⟩, ⟨hrt, WF0⟩, ⟨rfl, Nat.zero_le _, fun i x h => by have h2 : ([] : List N3)[i]? = some x := h; simp at h2⟩, fun p hp => ⟨M0_I (k := 8) (by omega) p, Nat.zero_le _⟩, fun h => absurd rfl h, fun h => absurd rfl h, fun h => absurd rfl h⟩
