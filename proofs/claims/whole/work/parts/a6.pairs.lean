/-! each call, of the class and then of the reference: the same answer, and what holds goes on -/
def Inv (c : Nat) (M : Mem) : Prop := ∃ z, IvC c M z ∧ IvR M z
theorem pairZ {α : Type} {fC fR : Mem → (α → Mem → Prop) → Prop} {a : α} {c c' : Nat} {M : Mem} {z z' : ZS} (h' : IvR M z) (hC : ∀ K : α → Mem → Prop, (∀ M', IvC c' M' z' → loC M M' → K a M') → fC M K) (hR : ∀ M1, IvR M1 z → ∀ K : α → Mem → Prop, (∀ M', IvR M' z' → hiC M1 M' → K a M') → fR M1 K) (hc : c' ≤ c + 1) : fC M (fun r M1 => fR M1 (fun r' M2 => r = r' ∧ Inv (c + 1) M2)) :=
  hC _ (fun M' i lo => hR M' (IvR_lo h' lo) _ (fun M2 i2 hi => ⟨rfl, z', IvC_up (IvC_hi i hi) hc, i2⟩))
theorem P_fault {c : Nat} {v1 : Int32} {M : Mem} (hc : c < 100000) (H : Inv c M) : f_X8_fault v1 M (fun r M1 => f_X9_fault v1 M1 (fun r' M2 => r = r' ∧ Inv (c + 1) M2)) := by
  obtain ⟨z, h, h'⟩ := H
  exact pairZ (fC := f_X8_fault v1) (fR := f_X9_fault v1) (c := c) (c' := c) (z' := z) h' (fun K k => C_fault h (k M h (loC_rf M))) (fun M1 i K k => R_fault i k) (Nat.le_succ _)
theorem P_arc {c : Nat} {v1 v2 v3 : Int32} {M : Mem} (hc : c < 100000) (H : Inv c M) : f_X8_arc v1 v2 v3 M (fun r M1 => f_X9_arc v1 v2 v3 M1 (fun r' M2 => r = r' ∧ Inv (c + 1) M2)) := by
  obtain ⟨z, h, h'⟩ := H
  exact pairZ (fC := f_X8_arc v1 v2 v3) (fR := f_X9_arc v1 v2 v3) (c := c) (c' := c) (z' := z) h' (fun K k => C_arc h (k M h (loC_rf M))) (fun M1 i K k => R_arc i k) (Nat.le_succ _)
theorem P_tokens {c : Nat} {v1 : Int32} {M : Mem} (hc : c < 100000) (H : Inv c M) : f_X8_tokens v1 M (fun r M1 => f_X9_tokens v1 M1 (fun r' M2 => r = r' ∧ Inv (c + 1) M2)) := by
  obtain ⟨z, h, h'⟩ := H
  exact pairZ (fC := f_X8_tokens v1) (fR := f_X9_tokens v1) (c := c) (c' := c) (z' := z) h' (fun K k => C_tokens h (k M h (loC_rf M))) (fun M1 i K k => R_tokens i k) (Nat.le_succ _)
theorem P_kind {c : Nat} {v1 : Int32} {M : Mem} (hc : c < 100000) (H : Inv c M) : f_X8_kind v1 M (fun r M1 => f_X9_kind v1 M1 (fun r' M2 => r = r' ∧ Inv (c + 1) M2)) := by
  obtain ⟨z, h, h'⟩ := H
  exact pairZ (fC := f_X8_kind v1) (fR := f_X9_kind v1) (c := c) (c' := c) (z' := z) h' (fun K k => C_kind h (k M h (loC_rf M))) (fun M1 i K k => R_kind i k) (Nat.le_succ _)
theorem P_can {c : Nat} {M : Mem} (hc : c < 100000) (H : Inv c M) : f_X8_can M (fun r M1 => f_X9_can M1 (fun r' M2 => r = r' ∧ Inv (c + 1) M2)) := by
  obtain ⟨z, h, h'⟩ := H
  exact pairZ (fC := f_X8_can) (fR := f_X9_can) (c := c) (c' := c) (z' := z) h' (fun K k => C_can h (k M h (loC_rf M))) (fun M1 i K k => R_can i k) (Nat.le_succ _)
theorem P_sums {c : Nat} {v1 : Int32} {M : Mem} (hc : c < 100000) (H : Inv c M) : f_X8_sums v1 M (fun r M1 => f_X9_sums v1 M1 (fun r' M2 => r = r' ∧ Inv (c + 1) M2)) := by
  obtain ⟨z, h, h'⟩ := H
  exact pairZ (fC := f_X8_sums v1) (fR := f_X9_sums v1) (c := c) (c' := c) (z' := z) h' (fun K k => C_sums hc h k) (fun M1 i K k => R_sums i k) (Nat.le_succ _)
theorem P_sum {c : Nat} {v1 v2 v3 : Int32} {M : Mem} (hc : c < 100000) (H : Inv c M) : f_X8_sum v1 v2 v3 M (fun r M1 => f_X9_sum v1 v2 v3 M1 (fun r' M2 => r = r' ∧ Inv (c + 1) M2)) := by
  obtain ⟨z, h, h'⟩ := H
  exact pairZ (fC := f_X8_sum v1 v2 v3) (fR := f_X9_sum v1 v2 v3) (c := c) (c' := c) (z' := z) h' (fun K k => C_sum hc h k) (fun M1 i K k => R_sum i k) (Nat.le_succ _)
theorem P_covered {c : Nat} {v1 : Int32} {M : Mem} (hc : c < 100000) (H : Inv c M) : f_X8_covered v1 M (fun r M1 => f_X9_covered v1 M1 (fun r' M2 => r = r' ∧ Inv (c + 1) M2)) := by
  obtain ⟨z, h, h'⟩ := H
  exact pairZ (fC := f_X8_covered v1) (fR := f_X9_covered v1) (c := c) (c' := c) (z' := z) h' (fun K k => C_covered hc h k) (fun M1 i K k => R_covered i k) (Nat.le_succ _)
theorem P_value {c : Nat} {v1 : Int32} {M : Mem} (hc : c < 100000) (H : Inv c M) : f_X8_value v1 M (fun r M1 => f_X9_value v1 M1 (fun r' M2 => r = r' ∧ Inv (c + 1) M2)) := by
  obtain ⟨z, h, h'⟩ := H
  exact pairZ (fC := f_X8_value v1) (fR := f_X9_value v1) (c := c) (c' := c) (z' := z) h' (fun K k => C_value hc h k) (fun M1 i K k => R_value i k) (Nat.le_succ _)
theorem P_bound {c : Nat} {v1 : Int32} {M : Mem} (hc : c < 100000) (H : Inv c M) : f_X8_bound v1 M (fun r M1 => f_X9_bound v1 M1 (fun r' M2 => r = r' ∧ Inv (c + 1) M2)) := by
  obtain ⟨z, h, h'⟩ := H
  exact pairZ (fC := f_X8_bound v1) (fR := f_X9_bound v1) (c := c) (c' := c) (z' := z) h' (fun K k => C_bound hc h k) (fun M1 i K k => R_bound i k) (Nat.le_succ _)
theorem P_siphons {c : Nat} {v1 : Int32} {M : Mem} (hc : c < 100000) (H : Inv c M) : f_X8_siphons v1 M (fun r M1 => f_X9_siphons v1 M1 (fun r' M2 => r = r' ∧ Inv (c + 1) M2)) := by
  obtain ⟨z, h, h'⟩ := H
  exact pairZ (fC := f_X8_siphons v1) (fR := f_X9_siphons v1) (c := c) (c' := c) (z' := z) h' (fun K k => C_siphons hc h k) (fun M1 i K k => R_siphons i k) (Nat.le_succ _)
theorem P_isSiphon {c : Nat} {v1 v2 : Int32} {M : Mem} (hc : c < 100000) (H : Inv c M) : f_X8_isSiphon v1 v2 M (fun r M1 => f_X9_isSiphon v1 v2 M1 (fun r' M2 => r = r' ∧ Inv (c + 1) M2)) := by
  obtain ⟨z, h, h'⟩ := H
  exact pairZ (fC := f_X8_isSiphon v1 v2) (fR := f_X9_isSiphon v1 v2) (c := c) (c' := c) (z' := z) h' (fun K k => C_isSiphon hc h k) (fun M1 i K k => R_isSiphon i k) (Nat.le_succ _)
theorem P_greatest {c : Nat} {v1 v2 : Int32} {M : Mem} (hc : c < 100000) (H : Inv c M) : f_X8_greatest v1 v2 M (fun r M1 => f_X9_greatest v1 v2 M1 (fun r' M2 => r = r' ∧ Inv (c + 1) M2)) := by
  obtain ⟨z, h, h'⟩ := H
  exact pairZ (fC := f_X8_greatest v1 v2) (fR := f_X9_greatest v1 v2) (c := c) (c' := c) (z' := z) h' (fun K k => C_greatest hc h k) (fun M1 i K k => R_greatest i k) (Nat.le_succ _)
theorem P_unguarded {c : Nat} {v1 : Int32} {M : Mem} (hc : c < 100000) (H : Inv c M) : f_X8_unguarded v1 M (fun r M1 => f_X9_unguarded v1 M1 (fun r' M2 => r = r' ∧ Inv (c + 1) M2)) := by
  obtain ⟨z, h, h'⟩ := H
  exact pairZ (fC := f_X8_unguarded v1) (fR := f_X9_unguarded v1) (c := c) (c' := c) (z' := z) h' (fun K k => C_unguarded hc h k) (fun M1 i K k => R_unguarded i k) (Nat.le_succ _)
theorem P_lost {c : Nat} {M : Mem} (hc : c < 100000) (H : Inv c M) : f_X8_lost M (fun r M1 => f_X9_lost M1 (fun r' M2 => r = r' ∧ Inv (c + 1) M2)) := by
  obtain ⟨z, h, h'⟩ := H
  exact pairZ (fC := f_X8_lost) (fR := f_X9_lost) (c := c) (c' := c) (z' := z) h' (fun K k => C_lost hc h k) (fun M1 i K k => R_lost i k) (Nat.le_succ _)
theorem P_counts {c : Nat} {v1 : Int32} {M : Mem} (hc : c < 100000) (H : Inv c M) : f_X8_counts v1 M (fun r M1 => f_X9_counts v1 M1 (fun r' M2 => r = r' ∧ Inv (c + 1) M2)) := by
  obtain ⟨z, h, h'⟩ := H
  exact pairZ (fC := f_X8_counts v1) (fR := f_X9_counts v1) (c := c) (c' := c) (z' := z) h' (fun K k => C_counts hc h k) (fun M1 i K k => R_counts i k) (Nat.le_succ _)
theorem P_order {c : Nat} {v1 : Int32} {M : Mem} (hc : c < 100000) (H : Inv c M) : f_X8_order v1 M (fun r M1 => f_X9_order v1 M1 (fun r' M2 => r = r' ∧ Inv (c + 1) M2)) := by
  obtain ⟨z, h, h'⟩ := H
  exact pairZ (fC := f_X8_order v1) (fR := f_X9_order v1) (c := c) (c' := c) (z' := z) h' (fun K k => C_order hc h k) (fun M1 i K k => R_order i k) (Nat.le_succ _)
theorem P_reaches {c : Nat} {M : Mem} (hc : c < 100000) (H : Inv c M) : f_X8_reaches M (fun r M1 => f_X9_reaches M1 (fun r' M2 => r = r' ∧ Inv (c + 1) M2)) := by
  obtain ⟨z, h, h'⟩ := H
  exact pairZ (fC := f_X8_reaches) (fR := f_X9_reaches) (c := c) (c' := c) (z' := z) h' (fun K k => C_reaches hc h k) (fun M1 i K k => R_reaches i k) (Nat.le_succ _)
theorem P_graph {c : Nat} {v1 : Int32} {M : Mem} (hc : c < 100000) (H : Inv c M) : f_X8_graph v1 M (fun r M1 => f_X9_graph v1 M1 (fun r' M2 => r = r' ∧ Inv (c + 1) M2)) := by
  obtain ⟨z, h, h'⟩ := H
  exact pairZ (fC := f_X8_graph v1) (fR := f_X9_graph v1) (c := c) (c' := c) (z' := z) h' (fun K k => C_graph hc h k) (fun M1 i K k => R_graph i k) (Nat.le_succ _)
theorem P_marking {c : Nat} {v1 v2 : Int32} {M : Mem} (hc : c < 100000) (H : Inv c M) : f_X8_marking v1 v2 M (fun r M1 => f_X9_marking v1 v2 M1 (fun r' M2 => r = r' ∧ Inv (c + 1) M2)) := by
  obtain ⟨z, h, h'⟩ := H
  exact pairZ (fC := f_X8_marking v1 v2) (fR := f_X9_marking v1 v2) (c := c) (c' := c) (z' := z) h' (fun K k => C_marking hc h k) (fun M1 i K k => R_marking i k) (Nat.le_succ _)
theorem P_came {c : Nat} {v1 v2 : Int32} {M : Mem} (hc : c < 100000) (H : Inv c M) : f_X8_came v1 v2 M (fun r M1 => f_X9_came v1 v2 M1 (fun r' M2 => r = r' ∧ Inv (c + 1) M2)) := by
  obtain ⟨z, h, h'⟩ := H
  exact pairZ (fC := f_X8_came v1 v2) (fR := f_X9_came v1 v2) (c := c) (c' := c) (z' := z) h' (fun K k => C_came hc h k) (fun M1 i K k => R_came i k) (Nat.le_succ _)
theorem P_live {c : Nat} {v1 : Int32} {M : Mem} (hc : c < 100000) (H : Inv c M) : f_X8_live v1 M (fun r M1 => f_X9_live v1 M1 (fun r' M2 => r = r' ∧ Inv (c + 1) M2)) := by
  obtain ⟨z, h, h'⟩ := H
  exact pairZ (fC := f_X8_live v1) (fR := f_X9_live v1) (c := c) (c' := c) (z' := z) h' (fun K k => C_live hc h k) (fun M1 i K k => R_live i k) (Nat.le_succ _)
theorem P_most {c : Nat} {v1 : Int32} {M : Mem} (hc : c < 100000) (H : Inv c M) : f_X8_most v1 M (fun r M1 => f_X9_most v1 M1 (fun r' M2 => r = r' ∧ Inv (c + 1) M2)) := by
  obtain ⟨z, h, h'⟩ := H
  exact pairZ (fC := f_X8_most v1) (fR := f_X9_most v1) (c := c) (c' := c) (z' := z) h' (fun K k => C_most hc h k) (fun M1 i K k => R_most i k) (Nat.le_succ _)
theorem P_reduce {c : Nat} {M : Mem} (hc : c < 100000) (H : Inv c M) : f_X8_reduce M (fun r M1 => f_X9_reduce M1 (fun r' M2 => r = r' ∧ Inv (c + 1) M2)) := by
  obtain ⟨z, h, h'⟩ := H
  exact pairZ (fC := f_X8_reduce) (fR := f_X9_reduce) (c := c) (c' := c) (z' := z) h' (fun K k => C_reduce hc h k) (fun M1 i K k => R_reduce i k) (Nat.le_succ _)
theorem P_rule {c : Nat} {v1 v2 : Int32} {M : Mem} (hc : c < 100000) (H : Inv c M) : f_X8_rule v1 v2 M (fun r M1 => f_X9_rule v1 v2 M1 (fun r' M2 => r = r' ∧ Inv (c + 1) M2)) := by
  obtain ⟨z, h, h'⟩ := H
  exact pairZ (fC := f_X8_rule v1 v2) (fR := f_X9_rule v1 v2) (c := c) (c' := c) (z' := z) h' (fun K k => C_rule hc h k) (fun M1 i K k => R_rule i k) (Nat.le_succ _)
theorem P_reduced {c : Nat} {v1 : Int32} {M : Mem} (hc : c < 100000) (H : Inv c M) : f_X8_reduced v1 M (fun r M1 => f_X9_reduced v1 M1 (fun r' M2 => r = r' ∧ Inv (c + 1) M2)) := by
  obtain ⟨z, h, h'⟩ := H
  exact pairZ (fC := f_X8_reduced v1) (fR := f_X9_reduced v1) (c := c) (c' := c) (z' := z) h' (fun K k => C_reduced hc h k) (fun M1 i K k => R_reduced i k) (Nat.le_succ _)
theorem P_about {c : Nat} {v1 : Int32} {M : Mem} (hc : c < 100000) (H : Inv c M) : f_X8_about v1 M (fun r M1 => f_X9_about v1 M1 (fun r' M2 => r = r' ∧ Inv (c + 1) M2)) := by
  obtain ⟨z, h, h'⟩ := H
  refine C_about h (fun e => rk_c h (fun M1 k0 ik i lo => ?_)) (fun ne => ?_)
  · exact R_about (IvR_lo h' lo) (fun _ M2 i2 hi2 => rk_r i2 ik (fun M3 i3 hi3 => ⟨rfl, z, IvC_up (IvC_hi (IvC_hi i hi2) hi3) (Nat.le_succ _), i3⟩)) (fun y => absurd e y)
  · exact R_about h' (fun y => absurd y ne) (fun _ M2 i2 hi2 => ⟨rfl, z, IvC_up (IvC_hi h hi2) (Nat.le_succ _), i2⟩)
theorem P_feed {c : Nat} {v1 v2 v3 v4 v5 : Int32} {M : Mem} (_ : c < 100000) (H : Inv c M) : f_X8_feed v1 v2 v3 v4 v5 M (fun r M1 => f_X9_feed v1 v2 v3 v4 v5 M1 (fun r' M2 => r = r' ∧ Inv (c + 1) M2)) := by
  obtain ⟨z, h, h'⟩ := H
  refine C_feed h (fun n => ?_) (fun y M1 i lo => ?_)
  · exact R_feed h' (fun _ M2 i2 hi => ⟨rfl, z, IvC_up (IvC_hi h hi) (Nat.le_succ _), i2⟩) (fun y => absurd y n)
  · exact R_feed (IvR_lo h' lo) (fun n => absurd y n) (fun _ M2 i2 hi => ⟨rfl, _, IvC_up (IvC_hi i hi) (Nat.le_succ _), i2⟩)
theorem P_end {c : Nat} {v1 : Int32} {M : Mem} (_ : c < 100000) (H : Inv c M) : f_X8_end v1 M (fun r M1 => f_X9_end v1 M1 (fun r' M2 => r = r' ∧ Inv (c + 1) M2)) := by
  obtain ⟨z, h, h'⟩ := H
  have l9 := h'.1.1
  refine C_end h (fun n => ?_) (fun n M1 e1 e2 i lo => ?_)
  · exact R_end h' (fun _ M2 i2 hi => ⟨rfl, z, IvC_up (IvC_hi h hi) (Nat.le_succ _), i2⟩) (fun y => absurd y n)
  · have r1 : 0 ≤ v1 := by rw [e1, i_le, t_0, i_nI (by omega)]; omega
    have r2 : v1 ≤ nI (zsL z) := by rw [e1, nI_LE (by omega) (by omega)]; exact e2
    refine R_end (IvR_lo h' lo) (fun q => absurd ⟨r1, r2⟩ q) (fun _ n' M2 e1' e2' i2 hi => ?_)
    have en : n' = n := by
      rw [e1', nI_EQ (by omega) (by omega)] at e1; exact e1
    rw [en] at i2
    exact ⟨rfl, _, IvC_up (IvC_hi i hi) (Nat.le_succ _), i2⟩
theorem P_net {c : Nat} {M : Mem} (_ : c < 100000) (H : Inv c M) : f_X8_net M (fun r M1 => f_X9_net M1 (fun r' M2 => r = r' ∧ Inv (c + 1) M2)) := by
  obtain ⟨z, h, h'⟩ := H
  refine C_net h (fun e M1 q i lo => ?_) (fun y M1 q i lo => ?_)
  · exact R_net (IvR_lo h' lo) (fun e' M2 q' i2 hi => by rw [q] at q'; cases q'; exact ⟨rfl, _, IvC_up (IvC_hi i hi) (Nat.le_succ _), i2⟩) (fun y' M2 q' _ _ => by rw [q] at q'; cases q')
  · exact R_net (IvR_lo h' lo) (fun e' M2 q' _ _ => by rw [q] at q'; cases q') (fun y' M2 q' i2 hi => by rw [q] at q'; cases q'; exact ⟨rfl, _, IvC_hi i hi, i2⟩)
theorem P_fire {c : Nat} {v1 : Int32} {M : Mem} (_ : c < 100000) (H : Inv c M) : f_X8_fire v1 M (fun r M1 => f_X9_fire v1 M1 (fun r' M2 => r = r' ∧ Inv (c + 1) M2)) := by
  obtain ⟨z, h, h'⟩ := H
  refine C_fire h (fun n => ?_) (fun y M1 i lo => ?_)
  · exact R_fire h' (fun _ M2 i2 hi => ⟨rfl, z, IvC_up (IvC_hi h hi) (Nat.le_succ _), i2⟩) (fun y => absurd y (by rw [n]; decide))
  · exact R_fire (IvR_lo h' lo) (fun n => absurd n (by rw [y]; decide)) (fun _ M2 i2 hi => ⟨rfl, _, IvC_hi i hi, i2⟩)
theorem P_set {c : Nat} {v1 v2 : Int32} {M : Mem} (_ : c < 100000) (H : Inv c M) : f_X8_set v1 v2 M (fun r M1 => f_X9_set v1 v2 M1 (fun r' M2 => r = r' ∧ Inv (c + 1) M2)) := by
  obtain ⟨z, h, h'⟩ := H
  refine C_set h (fun n => ?_) (fun y M1 i lo => ?_)
  · exact R_set h' (fun _ M2 i2 hi => ⟨rfl, z, IvC_up (IvC_hi h hi) (Nat.le_succ _), i2⟩) (fun y => absurd y (by rw [n]; decide))
  · exact R_set (IvR_lo h' lo) (fun n => absurd n (by rw [y]; decide)) (fun _ M2 i2 hi => ⟨rfl, _, IvC_hi i hi, i2⟩)
theorem P_run {c : Nat} {v1 v2 : Int32} {M : Mem} (_ : c < 100000) (H : Inv c M) : f_X8_run v1 v2 M (fun r M1 => f_X9_run v1 v2 M1 (fun r' M2 => r = r' ∧ Inv (c + 1) M2)) := by
  obtain ⟨z, h, h'⟩ := H
  refine C_run h (fun n => ?_) (fun y M1 i lo => ?_)
  · exact R_run h' (fun _ M2 i2 hi => ⟨rfl, z, IvC_up (IvC_hi h hi) (Nat.le_succ _), i2⟩) (fun y => absurd y (by rw [n]; decide))
  · exact R_run (IvR_lo h' lo) (fun n => absurd n (by rw [y]; decide)) (fun _ M2 i2 hi => ⟨rfl, _, IvC_hi i hi, i2⟩)
theorem P_undo {c : Nat} {M : Mem} (_ : c < 100000) (H : Inv c M) : f_X8_undo M (fun r M1 => f_X9_undo M1 (fun r' M2 => r = r' ∧ Inv (c + 1) M2)) := by
  obtain ⟨z, h, h'⟩ := H
  have pw := IvC_pw h
  refine C_undo h (fun n => ?_) (fun y M1 i lo => ?_)
  · exact R_undo h' pw (fun _ M2 i2 hi => ⟨rfl, z, IvC_up (IvC_hi h hi) (Nat.le_succ _), i2⟩) (fun y => absurd y (by omega))
  · exact R_undo (IvR_lo h' lo) pw (fun n => absurd y (by omega)) (fun _ M2 i2 hi => ⟨rfl, _, IvC_up (IvC_hi i hi) (Nat.le_succ _), i2⟩)
theorem P_aim {c : Nat} {v1 v2 : Int32} {M : Mem} (_ : c < 100000) (H : Inv c M) : f_X8_aim v1 v2 M (fun r M1 => f_X9_aim v1 v2 M1 (fun r' M2 => r = r' ∧ Inv (c + 1) M2)) := by
  obtain ⟨z, h, h'⟩ := H
  have hn := IvC_w h
  have w := hn.2.2.2
  refine C_aim h (fun n => ?_) (fun q p n M1 a1 a2 a3 a4 i lo => ?_)
  · exact R_aim h' (fun _ M2 i2 hi => ⟨rfl, z, IvC_up (IvC_hi h hi) (Nat.le_succ _), i2⟩) (fun y => absurd y (by rw [n]; decide))
  · refine R_aim (IvR_lo h' lo) (fun n => absurd n (by rw [q]; decide)) (fun _ p' n' M2 b1 b2 b3 b4 i2 hi => ?_)
    have e1 : p' = p := by rw [b3, nI_EQ (by omega) (by omega)] at a3; exact a3
    have e2 : n' = n := by rw [b4, nI_EQ (by omega) (by omega)] at a4; exact a4
    rw [e1, e2] at i2
    rw [e1]
    exact ⟨rfl, _, IvC_up (IvC_hi i hi) (Nat.le_succ _), i2⟩
theorem P_become {c : Nat} {M : Mem} (hc : c < 100000) (H : Inv c M) : f_X8_become M (fun r M1 => f_X9_become M1 (fun r' M2 => r = r' ∧ Inv (c + 1) M2)) := by
  obtain ⟨z, h, h'⟩ := H
  refine C_become hc h (fun n M1 i lo => ?_) (fun y M1 i lo => ?_)
  · exact R_become (IvR_lo h' lo) (fun _ M2 i2 hi => ⟨rfl, z, IvC_up (IvC_hi i hi) (Nat.le_succ _), i2⟩) (fun y => absurd n y)
  · exact R_become (IvR_lo h' lo) (fun n => absurd n y) (fun _ M2 i2 hi => ⟨rfl, _, IvC_hi i hi, i2⟩)
