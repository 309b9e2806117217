/-! sets, none within another -/
def spN (n : Nat) (ch : List Nat) : List (List Nat) := match ch.getLast? with
  | none => []
  | some z => (ch ++ [z ||| 2 ^ n]) :: (if ch.length ≤ 1 then [] else [ch.dropLast.map (fun x => x ||| 2 ^ n)])
def spC : Nat → List (List Nat)
  | 0 => [[0]]
  | n + 1 => (spC n).flatMap (spN n)
theorem spC_len : (spC 10).length = 252 := by decide +kernel
theorem sub_or {a b c : Nat} (h : sub a b = true) : sub (a ||| c) (b ||| c) = true := sub_iff.mpr fun i hi => by
  rw [Nat.testBit_or, Bool.or_eq_true] at hi
  rw [Nat.testBit_or, Bool.or_eq_true]
  exact hi.elim (fun q => Or.inl (sub_iff.mp h i q)) Or.inr
theorem sub_or2 {a b c : Nat} (h : sub a b = true) : sub a (b ||| c) = true := sub_iff.mpr fun i hi => by
  rw [Nat.testBit_or, Bool.or_eq_true]
  exact Or.inl (sub_iff.mp h i hi)
abbrev spUp (l : List Nat) : Prop := l.Pairwise (fun a b => sub a b = true)
theorem spUp_last {l : List Nat} {z : Nat} (h : spUp l) (hz : l.getLast? = some z) : ∀ a ∈ l, sub a z = true := by
  induction l with
  | nil => cases hz
  | cons x t ih =>
    intro a ha
    cases t with
    | nil =>
      have e : x = z := by simpa using hz
      have e2 : a = x := by simpa using ha
      rw [e2, e]; exact sub_rf z
    | cons y t =>
      have hz2 : (y :: t).getLast? = some z := by simpa [List.getLast?_cons_cons] using hz
      rcases List.mem_cons.mp ha with rfl | ha
      · exact (List.pairwise_cons.mp h).1 z (List.mem_of_getLast? hz2)
      · exact ih (List.pairwise_cons.mp h).2 hz2 a ha
theorem spC_up : ∀ n, ∀ l ∈ spC n, spUp l
  | 0, l, h => by
    have : l = [0] := by simpa [spC] using h
    rw [this]; exact List.pairwise_singleton _ _
  | n + 1, l, h => by
    rw [spC] at h
    obtain ⟨ch, h1, h2⟩ := List.mem_flatMap.mp h
    have hu := spC_up n ch h1
    unfold spN at h2
    cases hz : ch.getLast? with
    | none => rw [hz] at h2; cases h2
    | some z =>
      rw [hz] at h2
      rcases List.mem_cons.mp h2 with rfl | h2
      · refine List.pairwise_append.mpr ⟨hu, List.pairwise_singleton _ _, fun a ha b hb => ?_⟩
        have : b = z ||| 2 ^ n := by simpa using hb
        rw [this]
        exact sub_or2 (spUp_last hu hz a ha)
      · split at h2
        · cases h2
        · have : l = ch.dropLast.map (fun x => x ||| 2 ^ n) := by simpa using h2
          rw [this]
          refine List.pairwise_map.mpr ?_
          exact (hu.sublist (List.dropLast_sublist ch)).imp (fun h => sub_or h)
theorem spC_in : ∀ n m, m < 2 ^ n → ∃ l ∈ spC n, m ∈ l
  | 0, m, h => ⟨[0], by simp [spC], by have : m = 0 := by simpa using h
                                       rw [this]; simp⟩
  | n + 1, m, h => by
    have key : ∀ m', m' < 2 ^ n → ∃ ch ∈ spC n, m' ∈ ch ∧ ∃ z, ch.getLast? = some z := fun m' hm => by
      obtain ⟨ch, h1, h2⟩ := spC_in n m' hm
      cases hz : ch.getLast? with
      | none => rw [List.getLast?_eq_none_iff.mp hz] at h2; cases h2
      | some z => exact ⟨ch, h1, h2, z, hz⟩
    rcases Nat.lt_or_ge m (2 ^ n) with q | q
    · obtain ⟨ch, h1, h2, z, hz⟩ := key m q
      refine ⟨ch ++ [z ||| 2 ^ n], ?_, List.mem_append_left _ h2⟩
      rw [spC]
      refine List.mem_flatMap.mpr ⟨ch, h1, ?_⟩
      unfold spN; rw [hz]; exact List.mem_cons_self
    · have hp : 2 ^ (n + 1) = 2 ^ n + 2 ^ n := by rw [Nat.pow_succ]; omega
      obtain ⟨ch, h1, h2, z, hz⟩ := key (m - 2 ^ n) (by omega)
      have em : (m - 2 ^ n) ||| 2 ^ n = m := by
        have h9 : m - 2 ^ n < 2 ^ n := by omega
        have h8 := Nat.two_pow_add_eq_or_of_lt h9 1
        rw [Nat.mul_one] at h8
        rw [Nat.or_comm, ← h8]; omega
      by_cases e : m - 2 ^ n = z
      · refine ⟨ch ++ [z ||| 2 ^ n], ?_, ?_⟩
        · rw [spC]
          refine List.mem_flatMap.mpr ⟨ch, h1, ?_⟩
          unfold spN; rw [hz]; exact List.mem_cons_self
        · rw [← e, em]; exact List.mem_append_right _ (by simp)
      · have hd : m - 2 ^ n ∈ ch.dropLast := by
          have hc : ch = ch.dropLast ++ [z] := by
            have hne : ch ≠ [] := fun h => by rw [h] at hz; cases hz
            have e2 : ch.getLast hne = z := by rw [List.getLast?_eq_some_getLast hne] at hz; exact Option.some.inj hz
            rw [← e2]; exact (List.dropLast_concat_getLast hne).symm
          rw [hc] at h2
          rcases List.mem_append.mp h2 with q | q
          · exact q
          · exact absurd (by simpa using q) e
        refine ⟨ch.dropLast.map (fun x => x ||| 2 ^ n), ?_, ?_⟩
        · rw [spC]
          refine List.mem_flatMap.mpr ⟨ch, h1, ?_⟩
          unfold spN; rw [hz]
          refine List.mem_cons_of_mem _ ?_
          rw [if_neg (fun hl => by
            have : ch.dropLast.length ≤ 0 := by rw [List.length_dropLast]; omega
            have := List.eq_nil_of_length_eq_zero (Nat.le_zero.mp this)
            rw [this] at hd; cases hd)]
          simp
        · exact List.mem_map.mpr ⟨_, hd, em⟩
theorem spUp_cmp {l : List Nat} (h : spUp l) : ∀ a ∈ l, ∀ b ∈ l, sub a b = true ∨ sub b a = true := by
  induction l with
  | nil => intro a ha; cases ha
  | cons x t ih =>
    intro a ha b hb
    obtain ⟨h1, h2⟩ := List.pairwise_cons.mp h
    rcases List.mem_cons.mp ha with e1 | ha' <;> rcases List.mem_cons.mp hb with e2 | hb'
    · rw [e1, e2]; exact Or.inl (sub_rf _)
    · rw [e1]; exact Or.inl (h1 b hb')
    · rw [e2]; exact Or.inr (h1 a ha')
    · exact ih h2 a ha' b hb'
theorem holes : ∀ (m n : Nat) (f : Nat → Nat), (∀ i, i < n → f i < m) → (∀ i j, i < j → j < n → f i ≠ f j) → n ≤ m
  | 0, n, f, h, _ => by
    rcases Nat.eq_zero_or_pos n with e | e
    · omega
    · exact absurd (h 0 e) (Nat.not_lt_zero _)
  | m + 1, n, f, h, h2 => by
    rcases Nat.eq_zero_or_pos n with e | e
    · omega
    · obtain ⟨n', rfl⟩ : ∃ n', n = n' + 1 := ⟨n - 1, by omega⟩
      have := holes m n' (fun i => if f i = m then f n' else f i) (fun i hi => by
        have a1 := h i (by omega)
        have a2 := h n' (by omega)
        have a3 := h2 i n' hi (by omega)
        by_cases q : f i = m
        · simp only [if_pos q]; omega
        · simp only [if_neg q]; omega) (fun i j hij hj => by
        have a1 := h2 i j hij (by omega)
        have a2 := h2 i n' (by omega) (by omega)
        have a3 := h2 j n' (by omega) (by omega)
        by_cases q : f i = m <;> by_cases r : f j = m
        · omega
        · simp only [if_pos q, if_neg r]; exact fun z => a3 z.symm
        · simp only [if_neg q, if_pos r]; exact a2
        · simp only [if_neg q, if_neg r]; exact a1)
      omega
/-- sets, none within another: 252 at most -/
theorem sperner {c : Nat → Bool} (h : ∀ a b, a < 1024 → b < 1024 → c a = true → c b = true → sub a b = true → a = b) : ctB c 1024 ≤ 252 := by
  have hk2 : ∀ k, ∃ q : Nat × Nat, k < ctB c 1024 → (q.1 < 1024 ∧ c q.1 = true ∧ ctB c q.1 = k ∧ ∃ l, (spC 10)[q.2]? = some l ∧ q.1 ∈ l) := fun k => by
    by_cases q : k < ctB c 1024
    · obtain ⟨m, h1, h2, h3⟩ := ctB_kth q
      obtain ⟨l, h4, h5⟩ := spC_in 10 m h1
      obtain ⟨i, hi⟩ := List.getElem?_of_mem h4
      exact ⟨(m, i), fun _ => ⟨h1, h2, h3, l, hi, h5⟩⟩
    · exact ⟨(0, 0), fun z => absurd z q⟩
  obtain ⟨g, hg⟩ := Classical.axiomOfChoice hk2
  refine holes 252 (ctB c 1024) (fun k => (g k).2) (fun i hi => ?_) (fun i j hij hj e => ?_)
  · obtain ⟨-, -, -, l, hl, -⟩ := hg i hi
    have := (List.getElem?_eq_some_iff.mp hl).1
    rw [spC_len] at this
    exact this
  · obtain ⟨i1, i2, i3, l, hl, hm⟩ := hg i (by omega)
    obtain ⟨j1, j2, j3, l2, hl2, hm2⟩ := hg j hj
    simp only [e] at hl
    have el : l = l2 := Option.some.inj (hl.symm.trans hl2)
    subst el
    have e2 : (g i).1 = (g j).1 := by
      rcases spUp_cmp (spC_up 10 l (List.mem_of_getElem? hl)) _ hm _ hm2 with q | q
      · exact h _ _ i1 j1 i2 j2 q
      · exact (h _ _ j1 i1 j2 i2 q).symm
    rw [e2] at i3
    omega
