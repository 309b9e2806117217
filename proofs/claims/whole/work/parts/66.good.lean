/-! least supports -/
def ker (C : Nat → Nat → Int) (y : Nat → Int) : Prop := ∀ i, i < 10 → dt 10 y (fun u => C u i) = 0
def Sup (C : Nat → Nat → Int) (S : Nat) (y : Nat → Int) : Prop :=
  (∀ u, u < 10 → (S.testBit u = true → 0 < y u) ∧ (S.testBit u = false → y u = 0)) ∧ ker C y ∧ prm 10 y ∧ ∀ z : Nat → Int, (∀ u, u < 10 → z u ≠ 0 → S.testBit u = true) → ker C z → ∃ a b : Int, a ≠ 0 ∧ ∀ u, u < 10 → a * z u = b * y u
theorem prm_nz {n : Nat} {y : Nat → Int} (h : prm n y) : ∃ u, u < n ∧ y u ≠ 0 := Classical.byContradiction fun z => by
  have := h 2 (fun i hi => by
    have e : y i = 0 := Classical.byContradiction fun w => z ⟨i, hi, w⟩
    rw [e]; exact Int.dvd_zero 2)
  omega
theorem sq_eq {a b : Int} (ha : 0 ≤ a) (hb : 0 ≤ b) (h1 : a * a ≤ b * b) : a ≤ b := by
  rcases Int.lt_or_le b a with q | q
  · have h2 : b * b < a * a := Int.lt_of_le_of_lt (Int.mul_le_mul_of_nonneg_left (Int.le_of_lt q) hb) (Int.mul_lt_mul_of_pos_right q (by omega))
    omega
  · exact q
theorem Sup_u {C : Nat → Nat → Int} {S : Nat} {y y' : Nat → Int} (h : Sup C S y) (h' : Sup C S y') : ∀ u, u < 10 → y u = y' u := by
  obtain ⟨a, b, a0, e⟩ := h.2.2.2 y' (fun u hu z => by
    cases q : S.testBit u
    · exact absurd ((h'.1 u hu).2 q) z
    · rfl) h'.2.1
  obtain ⟨u0, hu0, z0⟩ := prm_nz h'.2.2.1
  have b0 : b ≠ 0 := fun z => by
    have := e u0 hu0
    rw [z, Int.zero_mul] at this
    exact Int.mul_ne_zero a0 z0 this
  have l1 := prm_le a0 b0 e h'.2.2.1
  have l2 := prm_le b0 a0 (fun i hi => (e i hi).symm) h.2.2.1
  have p : ∀ u, u < 10 → 0 ≤ y u ∧ 0 ≤ y' u := fun u hu => by
    cases q : S.testBit u
    · rw [(h.1 u hu).2 q, (h'.1 u hu).2 q]; omega
    · have := (h.1 u hu).1 q; have := (h'.1 u hu).1 q; omega
  intro u hu
  have r1 := sq_eq (p u hu).2 (p u hu).1 (l1 u hu)
  have r2 := sq_eq (p u hu).1 (p u hu).2 (l2 u hu)
  omega
/-- within a support there is no dependence -/
theorem Sup_in {C : Nat → Nat → Int} {S T : Nat} {y z : Nat → Int} (h : Sup C S y) (hS : S < 1024) (hT : sub T S = true) (ne : T ≠ S) (hz : ∀ u, u < 10 → z u ≠ 0 → T.testBit u = true) (hk : ker C z) : ∀ u, u < 10 → z u = 0 := by
  obtain ⟨a, b, a0, e⟩ := h.2.2.2 z (fun u hu w => sub_iff.mp hT u (hz u hu w)) hk
  obtain ⟨u0, s1, s2⟩ : ∃ u0, S.testBit u0 = true ∧ T.testBit u0 = false := Classical.byContradiction fun w => ne (Nat.eq_of_testBit_eq fun i => by
    cases q : T.testBit i
    · cases r : S.testBit i
      · rfl
      · exact absurd ⟨i, r, q⟩ w
    · exact (sub_iff.mp hT i q).symm)
  have hu0 : u0 < 10 := tb_lt (k := 10) (by omega) s1
  have z0 : z u0 = 0 := Classical.byContradiction fun w => by rw [hz u0 hu0 w] at s2; cases s2
  have b0 : b = 0 := by
    have := e u0 hu0
    rw [z0, Int.mul_zero] at this
    have p := (h.1 u0 hu0).1 s1
    exact (Int.mul_eq_zero.mp this.symm).resolve_right (by omega)
  intro u hu
  have := e u hu
  rw [b0, Int.zero_mul] at this
  exact (Int.mul_eq_zero.mp this).resolve_left a0
noncomputable def gdB (C : Nat → Nat → Int) (U S : Nat) : Bool := pB (sub S U = true ∧ ∃ y, Sup C S y)
noncomputable def yv (C : Nat → Nat → Int) (S : Nat) : Nat → Int := @Classical.epsilon _ ⟨fun _ => 0⟩ (Sup C S)
theorem yv_sp {C : Nat → Nat → Int} {S : Nat} (h : ∃ y, Sup C S y) : Sup C S (yv C S) := Classical.epsilon_spec h
theorem gd_anti {C : Nat → Nat → Int} {U : Nat} : ∀ x y, x < 1024 → y < 1024 → gdB C U x = true → gdB C U y = true → sub x y = true → x = y := by
  intro a b _ hb ha hb' hs
  obtain ⟨_, y, hy⟩ := pB_iff.mp ha
  obtain ⟨_, y', hy'⟩ := pB_iff.mp hb'
  refine Classical.byContradiction fun ne => ?_
  have := Sup_in hy' hb hs ne (z := y) (fun u hu w => by
    cases q : a.testBit u
    · exact absurd ((hy.1 u hu).2 q) w
    · rfl) hy.2.1
  obtain ⟨u, hu, z⟩ := prm_nz hy.2.2.1
  exact z (this u hu)
theorem gd_ct (C : Nat → Nat → Int) (U : Nat) : ctB (gdB C U) 1024 ≤ 252 := sperner gd_anti
theorem prm_10 {v : Nat → Int} (h : prm 20 v) (hz : ∀ i, i < 10 → v i = 0) : prm 10 (fun u => v (10 + u)) := fun g hg => h g (fun i hi => by
  rcases Nat.lt_or_ge i 10 with q | q
  · rw [hz i q]; exact Int.dvd_zero g
  · have : g ∣ v (10 + (i - 10)) := hg (i - 10) (by omega)
    rw [show 10 + (i - 10) = i by omega] at this
    exact this)
theorem dv_abs {g x : Int} (h : g ∣ (x.natAbs : Int)) : g ∣ x := Int.dvd_natAbs.mp h
/-- what a set is, whose last unit depends on those before it -/
theorem dep_prop {C : Nat → Nat → Int} {us : Nat → Nat} {x : Nat → Nat → Int} {c : Nat → Nat} {k u : Nat} {v : Nat → Int} (hE : ES C us x c k) (hu : u < 10) (h : RC C us x c k u v) (hz : ∀ i, i < 10 → v i = 0) (z : Nat → Int) (hs : ∀ u', u' < 10 → z u' ≠ 0 → u' = u ∨ ∃ l, l < k ∧ us l = u') (hk : ker C z) : ∀ u', u' < 10 → v (10 + u) * z u' = z u * v (10 + u') := by
  have vk : ker C (fun u' => v (10 + u')) := fun i hi => by rw [← h.2.2.1 i hi]; exact hz i hi
  have := ES_ind hE (fun u' => v (10 + u) * z u' - z u * v (10 + u')) (fun u' hu' w => ?_) (fun l hl => ?_)
  · intro u' hu'
    have := this u' hu'
    omega
  · by_cases q : u' = u
    · rw [q, Int.mul_comm] at w; exact absurd (by omega) w
    · by_cases q1 : z u' = 0
      · by_cases q2 : v (10 + u') = 0
        · rw [q1, q2] at w; exact absurd (by omega) w
        · exact (h.2.2.2.2.2 u' hu' q2).resolve_left q
      · exact (hs u' hu' q1).resolve_left q
  · rw [dt_lin, hk (c l) ((hE.2 l hl).1.1), vk (c l) ((hE.2 l hl).1.1)]; omega
theorem dep_ker {C : Nat → Nat → Int} {us : Nat → Nat} {x : Nat → Nat → Int} {c : Nat → Nat} {k u : Nat} {v : Nat → Int} (h : RC C us x c k u v) (hz : ∀ i, i < 10 → v i = 0) : ker C (fun u' => v (10 + u')) := fun i hi => by rw [← h.2.2.1 i hi]; exact hz i hi
def stU1 (S : Nat) (us : Nat → Nat) (k u : Nat) : Prop := ∀ u', u' < 10 → (S.testBit u' = true ↔ u' = u ∨ ∃ l, l < k ∧ us l = u')
def sgn (v : Nat → Int) (S : Nat) : Prop := (∀ u, u < 10 → S.testBit u = true → 0 < v (10 + u)) ∨ (∀ u, u < 10 → S.testBit u = true → v (10 + u) < 0)
theorem ker_abs {C : Nat → Nat → Int} {v : Nat → Int} {S : Nat} (hv : ∀ u, u < 10 → S.testBit u = false → v (10 + u) = 0) (hs : sgn v S) (hk : ker C (fun u => v (10 + u))) : ker C (fun u => ((v (10 + u)).natAbs : Int)) ∧ ∃ s : Int, s ≠ 0 ∧ ∀ u, u < 10 → v (10 + u) = s * ((v (10 + u)).natAbs : Int) := by
  have e : ∃ s : Int, (s = 1 ∨ s = -1) ∧ ∀ u, u < 10 → ((v (10 + u)).natAbs : Int) = s * v (10 + u) := by
    rcases hs with h | h
    · refine ⟨1, Or.inl rfl, fun u hu => ?_⟩
      cases q : S.testBit u
      · rw [hv u hu q]; rfl
      · have := h u hu q; omega
    · refine ⟨-1, Or.inr rfl, fun u hu => ?_⟩
      cases q : S.testBit u
      · rw [hv u hu q]; rfl
      · have := h u hu q; omega
  obtain ⟨s, s1, s2⟩ := e
  refine ⟨fun i hi => ?_, s, by omega, fun u hu => ?_⟩
  · have h1 := dt_lin (α := s) (β := 0) (a := fun u => v (10 + u)) (b := fun _ => 0) (w := fun u => C u i) 10
    rw [hk i hi] at h1
    rw [dt_cong (u := fun u => ((v (10 + u)).natAbs : Int)) (u' := fun u => s * v (10 + u) - 0 * 0) (v' := fun u => C u i) (fun u hu => ⟨by rw [s2 u hu]; omega, rfl⟩), h1]
    omega
  · rw [s2 u hu]
    rcases s1 with q | q <;> rw [q] <;> omega
theorem dep_good {C : Nat → Nat → Int} {us : Nat → Nat} {x : Nat → Nat → Int} {c : Nat → Nat} {k u S : Nat} {v : Nat → Int} (hE : ES C us x c k) (hu : u < 10) (h : RC C us x c k u v) (hz : ∀ i, i < 10 → v i = 0) (hS : stU1 S us k u) (hs : sgn v S) : Sup C S (fun u => ((v (10 + u)).natAbs : Int)) := by
  have hv : ∀ u', u' < 10 → S.testBit u' = false → v (10 + u') = 0 := fun u' hu' q => Classical.byContradiction fun w => by
    rw [(hS u' hu').mpr (h.2.2.2.2.2 u' hu' w)] at q; cases q
  obtain ⟨k1, s, s0, s1⟩ := ker_abs (C := C) hv hs (dep_ker h hz)
  refine ⟨fun u' hu' => ⟨fun q => ?_, fun q => ?_⟩, k1, fun g hg => ?_, fun z hz1 hz2 => ?_⟩
  · show 0 < ((v (10 + u')).natAbs : Int)
    rcases hs with w | w
    · have := w u' hu' q; omega
    · have := w u' hu' q; omega
  · show ((v (10 + u')).natAbs : Int) = 0
    rw [hv u' hu' q]; rfl
  · exact prm_10 h.2.1 hz g (fun i hi => dv_abs (hg i hi))
  · have := dep_prop hE hu h hz z (fun u' hu' w => (hS u' hu').mp (hz1 u' hu' w)) hz2
    refine ⟨v (10 + u), z u * s, h.2.2.2.1, fun u' hu' => ?_⟩
    rw [this u' hu', Int.mul_assoc, ← s1 u' hu']
theorem dep_bad {C : Nat → Nat → Int} {us : Nat → Nat} {x : Nat → Nat → Int} {c : Nat → Nat} {k u S : Nat} {v y : Nat → Int} (hE : ES C us x c k) (hu : u < 10) (h : RC C us x c k u v) (hz : ∀ i, i < 10 → v i = 0) (hS : stU1 S us k u) (hy : Sup C S y) : sgn v S := by
  have := dep_prop hE hu h hz y (fun u' hu' w => (hS u' hu').mp (by
    cases q : S.testBit u'
    · exact absurd ((hy.1 u' hu').2 q) w
    · rfl)) hy.2.1
  have yu := (hy.1 u hu).1 ((hS u hu).mpr (Or.inl rfl))
  have vu := h.2.2.2.1
  rcases Int.lt_or_lt_of_ne vu with q | q
  · refine Or.inr (fun u' hu' w => ?_)
    have e := this u' hu'
    have p := (hy.1 u' hu').1 w
    have n1 : v (10 + u) * y u' < 0 := Int.mul_neg_of_neg_of_pos q p
    rw [e] at n1
    rcases Int.lt_or_le (v (10 + u')) 0 with r | r
    · exact r
    · have := Int.mul_nonneg (Int.le_of_lt yu) r; omega
  · refine Or.inl (fun u' hu' w => ?_)
    have e := this u' hu'
    have p := (hy.1 u' hu').1 w
    have n1 : 0 < v (10 + u) * y u' := Int.mul_pos q p
    rw [e] at n1
    rcases Int.lt_or_le 0 (v (10 + u')) with r | r
    · exact r
    · have h9 := Int.mul_nonneg (Int.le_of_lt yu) (show 0 ≤ - v (10 + u') by omega)
      rw [Int.mul_neg] at h9
      omega
