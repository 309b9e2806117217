theorem vpd {i : Int32} {n : Nat} (h : decide (¬ (i < 0 ∨ n ≤ i.toNatClampNeg)) = true) : vp_in i n := show ¬ (i < 0 ∨ n ≤ i.toNatClampNeg) from of_decide_eq_true h
theorem ite_p {P : Nat → Prop} {c : Prop} [Decidable c] {a b : Nat} (ha : P a) (hb : P b) : P (if c then a else b) := by split <;> assumption
theorem r_cases {p : Program} {l : Launch} {e : Env} {R : Room} {s : State} {m : MethodId} {args : Array Value} {below : List Frame} {meth : Method} {c : Code} {D : va_G} {cy : Nat → ClassId} {ad : Nat → Nat} {nL k0 n0 : Nat} {Q : State → Prop} {pc : Nat} {lv : List (Nat × Value)} {st : List Value} {M : Mem} {x : Int32} (y : Int32) (h1 : x = y → rw_W p l e R s m args below meth c D cy ad nL k0 n0 Q pc lv (.int x :: st) M) (h2 : ¬ x = y → rw_W p l e R s m args below meth c D cy ad nL k0 n0 Q pc lv (.int x :: st) M) : rw_W p l e R s m args below meth c D cy ad nL k0 n0 Q pc lv (.int x :: st) M := if h : x = y then h1 h else h2 h
theorem tab_dflt {x : Int32} {hi : Int} (n : Nat) (h : ∀ j : Nat, j < n → ¬ x = Int32.ofNat j) (hn : n < 2 ^ 31) (hh : hi + 1 = (n : Int)) : x.toInt < 0 ∨ hi < x.toInt := by
  rcases Int.lt_or_le x.toInt 0 with h0 | h0
  · exact Or.inl h0
  · refine Or.inr (Int.not_le.mp fun h1 => ?_)
    obtain ⟨j, hj, rfl⟩ := nI_of (x := x) (by rw [Int32.lt_iff_toInt_lt]; exact Int.not_lt.mpr h0)
    rw [nI_toInt hj] at h1
    exact h j (by omega) rfl
theorem look_dflt (ps : List (Int × Int)) (dflt x : Int) (h : ∀ q ∈ ps, ¬ x = q.1) : Op.lookupswitch.offset ps dflt x = dflt := by
  induction ps with
  | nil => rfl
  | cons a t ih =>
    have h1 : ¬ x = a.1 := h a List.mem_cons_self
    have h2 := ih (fun q hq => h q (List.mem_cons_of_mem _ hq))
    unfold Op.lookupswitch.offset
    first
      | (simp [h1, Ne.symm h1]; exact h2)
      | simp [h1, Ne.symm h1, h2]
