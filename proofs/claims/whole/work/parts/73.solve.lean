/-! the reference: whether a set is a least support, and its numbers -/
theorem ct_img {pc : Nat → Nat} : ∀ {k : Nat}, (∀ j, j < k → pc j < 10) → (∀ i j, i < j → j < k → pc i ≠ pc j) → ctB (fun i => pB (∃ j, j < k ∧ pc j = i)) 10 = k
  | 0, _, _ => by
    rw [ctB_cong (d := fun _ => false) (fun i _ => pB_f (fun ⟨j, hj, _⟩ => absurd hj (Nat.not_lt_zero _)))]
    exact ctB_0 10
  | k + 1, h1, h2 => by
    have ih := ct_img (pc := pc) (k := k) (fun j hj => h1 j (by omega)) (fun i j hi hj => h2 i j hi (by omega))
    have e : ∀ i, i < 10 → pB (∃ j, j < k + 1 ∧ pc j = i) = sB (fun i => pB (∃ j, j < k ∧ pc j = i)) (pc k) i := fun i _ => by
      rw [Bool.eq_iff_iff, pB_iff]
      constructor
      · intro ⟨j, hj, e⟩
        rcases Nat.lt_succ_iff_lt_or_eq.mp hj with y | y
        · exact sB_o (pB_t ⟨j, y, e⟩)
        · rw [← e, y]; exact sB_i _ _
      · intro q
        rcases sB_e q with y | y
        · exact ⟨k, by omega, y.symm⟩
        · obtain ⟨j, hj, e⟩ := pB_iff.mp y
          exact ⟨j, by omega, e⟩
    rw [ctB_cong e, ctB_sB (pB_f (fun ⟨j, hj, e⟩ => h2 j k hj (by omega) e)), ih, if_pos (h1 k (by omega))]
theorem ct_add {a b c : Nat → Bool} : ∀ {n : Nat}, (∀ i, i < n → (a i = (b i || c i)) ∧ (b i && c i) = false) → ctB a n = ctB b n + ctB c n
  | 0, _ => rfl
  | n + 1, h => by
    have ih := ct_add (a := a) (b := b) (c := c) (n := n) (fun i hi => h i (by omega))
    obtain ⟨h1, h2⟩ := h n (by omega)
    rw [ctB, ctB, ctB, ih, h1]
    cases hb : b n <;> cases hc : c n <;> rw [hb, hc] at h2
    · rfl
    · show _ + _ + 1 = _ + 0 + (_ + 1); omega
    · show _ + _ + 1 = _ + 1 + (_ + 0); omega
    · cases h2
section
variable {n : NN} {w : Bool} {S : Nat} {m R : Nat → Nat → Int} {pc : Nat → Nat} {k0 : Nat}
theorem gj_cnt (h : GJs (AE n w S) m R pc k0 10) : pop S = k0 + ctB (fun i => S.testBit i && !pB (∃ j, j < k0 ∧ pc j = i)) 10 := by
  have e := ct_img (pc := pc) (k := k0) (fun j hj => (h.2.1 j hj).1) (fun i j hij hj e => by have := gj_inj h (by omega) hj e; omega)
  have := ct_add (a := fun i => S.testBit i) (b := fun i => pB (∃ j, j < k0 ∧ pc j = i)) (c := fun i => S.testBit i && !pB (∃ j, j < k0 ∧ pc j = i)) (n := 10) (fun i hi => by
    cases q : pB (∃ j, j < k0 ∧ pc j = i)
    · cases S.testBit i <;> exact ⟨rfl, rfl⟩
    · obtain ⟨j, hj, e⟩ := pB_iff.mp q
      rw [← e, gj_S h hj]; exact ⟨rfl, rfl⟩)
  rw [e] at this
  exact this
theorem gj_no (h : GJs (AE n w S) m R pc k0 10) (hc : pop S ≠ k0 + 1) : ¬ ∃ y, Sup (CH n w) S y := by
  intro ⟨y, hy⟩
  have hcn := gj_cnt h
  have ys : ∀ u, u < 10 → y u ≠ 0 → S.testBit u = true := fun u hu q => by
    cases r : S.testBit u
    · exact absurd ((hy.1 u hu).2 r) q
    · rfl
  rcases Nat.eq_zero_or_pos (ctB (fun i => S.testBit i && !pB (∃ j, j < k0 ∧ pc j = i)) 10) with z | z
  · have := gj_piv h (z := y) (fun u hu q => Classical.byContradiction fun t => by
      have := ctB_lt (c := fun i => S.testBit i && !pB (∃ j, j < k0 ∧ pc j = i)) hu (by rw [ys u hu q, pB_f t]; rfl)
      omega) hy.2.1
    obtain ⟨u, hu, q⟩ := prm_nz hy.2.2.1
    exact q (this u hu)
  · obtain ⟨f1, a1, a2, a3⟩ := ctB_kth (c := fun i => S.testBit i && !pB (∃ j, j < k0 ∧ pc j = i)) (k := 0) (n := 10) z
    obtain ⟨f2, b1, b2, b3⟩ := ctB_kth (c := fun i => S.testBit i && !pB (∃ j, j < k0 ∧ pc j = i)) (k := 1) (n := 10) (by omega)
    rw [Bool.and_eq_true] at a2 b2
    have ne : f1 ≠ f2 := fun e => by rw [e, b3] at a3; omega
    have np : ∀ {f : Nat}, (!pB (∃ j, j < k0 ∧ pc j = f)) = true → ∀ k, k < k0 → pc k ≠ f := fun {f} q k hk e => by
      rw [pB_t ⟨k, hk, e⟩] at q; cases q
    obtain ⟨z, z1, z2, z3⟩ := gj_free h b1 b2.1 (np b2.2)
    obtain ⟨a, b, a0, e⟩ := hy.2.2.2 z (fun u hu q => by
      rcases z2 u hu q with t | ⟨k, k1, k2⟩
      · rw [t]; exact b2.1
      · rw [← k2]; exact gj_S h k1) z3
    have zf1 : z f1 = 0 := Classical.byContradiction fun t => by
      rcases z2 f1 a1 t with q | ⟨k, k1, k2⟩
      · exact ne q
      · exact np a2.2 k k1 k2
    have e1 := e f1 a1
    rw [zf1, Int.mul_zero] at e1
    have p1 := (hy.1 f1 a1).1 a2.1
    have b0 : b = 0 := (Int.mul_eq_zero.mp e1.symm).resolve_right (by omega)
    have e2 := e f2 b1
    rw [b0, Int.zero_mul] at e2
    exact Int.mul_ne_zero a0 z1 e2
theorem gj_one (h : GJs (AE n w S) m R pc k0 10) (hc : pop S = k0 + 1) : ∃ f, f < 10 ∧ S.testBit f = true ∧ (∀ k, k < k0 → pc k ≠ f) ∧ ∀ u, u < 10 → S.testBit u = true → u = f ∨ ∃ k, k < k0 ∧ pc k = u := by
  have hcn := gj_cnt h
  obtain ⟨f1, a1, a2, a3⟩ := ctB_kth (c := fun i => S.testBit i && !pB (∃ j, j < k0 ∧ pc j = i)) (k := 0) (n := 10) (by omega)
  have a2' := a2
  rw [Bool.and_eq_true] at a2'
  refine ⟨f1, a1, a2'.1, fun k hk e => ?_, fun u hu q => Classical.byContradiction fun t => ?_⟩
  · rw [pB_t ⟨k, hk, e⟩] at a2'; cases a2'.2
  · have cu : (fun i => S.testBit i && !pB (∃ j, j < k0 ∧ pc j = i)) u = true := by
      dsimp only
      rw [q, pB_f (fun e => t (Or.inr e))]; rfl
    rcases Nat.lt_trichotomy u f1 with y | y | y
    · have := ctB_lt (c := fun i => S.testBit i && !pB (∃ j, j < k0 ∧ pc j = i)) y cu; omega
    · exact t (Or.inl y)
    · have := ctB_lt (c := fun i => S.testBit i && !pB (∃ j, j < k0 ∧ pc j = i)) y a2
      have := ctB_lt (c := fun i => S.testBit i && !pB (∃ j, j < k0 ∧ pc j = i)) hu cu
      omega
end
theorem oL_dn {a b : Nat} (ha : a ≤ 4611686018427387904) (hb : b ≤ 4611686018427387904) : oL (a : Int) / oL (b : Int) = oL ((a / b : Nat) : Int) := by rw [oL_div (rg_n ha) (rg_n hb), Int.ofNat_tdiv]
theorem oL_mn (a b : Nat) : oL (a : Int) * oL (b : Int) = oL ((a * b : Nat) : Int) := by rw [oL_mul, Int.natCast_mul]
/-- the part of a row: its own number, and that of the free column, made least -/
def prA (a b : Int) : Nat := a.natAbs / Int.gcd a b
theorem pr_sp {a b : Int} (ha : a ≠ 0) : 0 < Int.gcd a b ∧ Int.gcd a b * prA a b = a.natAbs ∧ Int.gcd a b * prA b a = b.natAbs ∧ Nat.gcd (prA a b) (prA b a) = 1 ∧ 0 < prA a b := by
  have g0 : 0 < Int.gcd a b := Nat.pos_of_ne_zero fun e => ha (Int.gcd_eq_zero_iff.mp e).1
  have e1 : Int.gcd a b * prA a b = a.natAbs := Nat.mul_div_cancel' (Int.gcd_dvd_natAbs_left a b)
  have e2 : Int.gcd a b * prA b a = b.natAbs := by unfold prA; rw [Int.gcd_comm b a]; exact Nat.mul_div_cancel' (Int.gcd_dvd_natAbs_right a b)
  refine ⟨g0, e1, e2, ?_, Nat.pos_of_ne_zero fun e => by rw [e, Nat.mul_zero] at e1; omega⟩
  have h := Nat.gcd_mul_left (Int.gcd a b) (prA a b) (prA b a)
  rw [e1, e2] at h
  have h' : Int.gcd a b * 1 = Int.gcd a b * Nat.gcd (prA a b) (prA b a) := by rw [← h, Nat.mul_one]; rfl
  exact (Nat.eq_of_mul_eq_mul_left g0 h').symm
/-- what solves a row has a free number that the row's part divides -/
theorem pr_dvd {a b zc zf : Int} (ha : a ≠ 0) (h : a * zc + b * zf = 0) : prA a b ∣ zf.natAbs := by
  obtain ⟨g0, e1, e2, e3, _⟩ := pr_sp (b := b) ha
  have e : a.natAbs * zc.natAbs = b.natAbs * zf.natAbs := by
    rw [← Int.natAbs_mul, ← Int.natAbs_mul]
    have : a * zc = -(b * zf) := by omega
    rw [this, Int.natAbs_neg]
  rw [← e1, ← e2, Nat.mul_assoc, Nat.mul_assoc] at e
  have e' := Nat.eq_of_mul_eq_mul_left g0 e
  exact Nat.Coprime.dvd_of_dvd_mul_left (show Nat.Coprime (prA a b) (prA b a) from e3) ⟨_, e'.symm⟩
def opp (a b : Int) : Prop := b ≠ 0 ∧ ((0 < a ∧ b < 0) ∨ (a < 0 ∧ 0 < b))
theorem opp_of {a b yc yf : Int} (hc : 0 < yc) (hf : 0 < yf) (ha : a ≠ 0) (h : a * yc + b * yf = 0) : opp a b := by
  rcases Int.lt_or_lt_of_ne ha with q | q
  · have h1 := Int.mul_neg_of_neg_of_pos q hc
    have b0 : 0 < b := by
      rcases Int.lt_or_le 0 b with t | t
      · exact t
      · have h9 := Int.mul_nonneg (show 0 ≤ -b by omega) (Int.le_of_lt hf)
        rw [Int.neg_mul] at h9; omega
    exact ⟨by omega, Or.inr ⟨q, b0⟩⟩
  · have h1 := Int.mul_pos q hc
    have b0 : b < 0 := by
      rcases Int.lt_or_le b 0 with t | t
      · exact t
      · have h9 := Int.mul_nonneg t (Int.le_of_lt hf); omega
    exact ⟨by omega, Or.inl ⟨q, b0⟩⟩
theorem opp_row {a b : Int} {L : Nat} (h : opp a b) (hL : prA a b ∣ L) (ha : a ≠ 0) : a * ((L / prA a b * prA b a : Nat) : Int) + b * (L : Int) = 0 := by
  obtain ⟨g0, e1, e2, e3, e4⟩ := pr_sp (b := b) ha
  obtain ⟨q, rfl⟩ := hL
  rw [Nat.mul_div_cancel_left _ e4]
  have e : a.natAbs * (q * prA b a) = b.natAbs * (prA a b * q) := by rw [← e1, ← e2]; simp only [Nat.mul_assoc, Nat.mul_comm, Nat.mul_left_comm]
  have e' : (a.natAbs : Int) * ((q * prA b a : Nat) : Int) = (b.natAbs : Int) * ((prA a b * q : Nat) : Int) := by rw [← Int.natCast_mul, ← Int.natCast_mul, e]
  rcases h.2 with ⟨t1, t2⟩ | ⟨t1, t2⟩
  · have x1 : (a.natAbs : Int) = a := by omega
    have x2 : (b.natAbs : Int) = -b := by omega
    rw [x1, x2, Int.neg_mul] at e'; omega
  · have x1 : (a.natAbs : Int) = -a := by omega
    have x2 : (b.natAbs : Int) = b := by omega
    rw [x1, x2, Int.neg_mul] at e'; omega
section
variable {n : NN} {w : Bool} {S : Nat} {m R : Nat → Nat → Int} {pc : Nat → Nat} {k0 : Nat}
/-- the numbers that the rows give -/
theorem gj_sup (h : GJs (AE n w S) m R pc k0 10) {f L : Nat} (hf : f < 10) (hS : S.testBit f = true) (hn : ∀ k, k < k0 → pc k ≠ f) (hall : ∀ u, u < 10 → S.testBit u = true → u = f ∨ ∃ k, k < k0 ∧ pc k = u) (hL : 0 < L) (hd : ∀ k, k < k0 → prA (m k (pc k)) (m k f) ∣ L) (hl : ∀ X : Nat, (∀ k, k < k0 → prA (m k (pc k)) (m k f) ∣ X) → L ∣ X) (ho : ∀ k, k < k0 → opp (m k (pc k)) (m k f)) (y : Nat → Int) (yf : y f = (L : Int)) (yp : ∀ k, k < k0 → y (pc k) = ((L / prA (m k (pc k)) (m k f) * prA (m k f) (m k (pc k)) : Nat) : Int)) (y0 : ∀ u, u < 10 → S.testBit u = false → y u = 0) : Sup (CH n w) S y := by
  have ys : ∀ u, u < 10 → y u ≠ 0 → u = f ∨ ∃ k, k < k0 ∧ pc k = u := fun u hu q => hall u hu (by
    cases r : S.testBit u
    · exact absurd (y0 u hu r) q
    · rfl)
  have rws : ∀ k, k < k0 → m k (pc k) * y (pc k) + m k f * y f = 0 := fun k hk => by rw [yf, yp k hk]; exact opp_row (ho k hk) (hd k hk) (h.2.1 k hk).2.1
  have ky := (gj_row h hf hn ys hS).mpr rws
  refine ⟨fun u hu => ⟨fun q => ?_, y0 u hu⟩, ky, fun g hg => ?_, fun z hz hk => ?_⟩
  · rcases hall u hu q with e | ⟨k, k1, k2⟩
    · rw [e, yf]; omega
    · rw [← k2, yp k k1]
      have a0 := (h.2.1 k k1).2.1
      obtain ⟨g0, e1, e2, e3, e4⟩ := pr_sp (b := m k f) a0
      have p1 : 0 < L / prA (m k (pc k)) (m k f) := Nat.div_pos (Nat.le_of_dvd hL (hd k k1)) e4
      have p2 : 0 < prA (m k f) (m k (pc k)) := Nat.pos_of_ne_zero fun e => by
        rw [e, Nat.mul_zero] at e2
        have := (ho k k1).1
        omega
      have := Nat.mul_pos p1 p2
      omega
  · have gL : g.natAbs ∣ L := by
      have := hg f hf
      rw [yf] at this
      exact Int.natAbs_dvd_natAbs.mpr this
    have gd : ∀ k, k < k0 → g.natAbs * prA (m k (pc k)) (m k f) ∣ L := fun k hk => by
      obtain ⟨g0, e1, e2, e3, e4⟩ := pr_sp (b := m k f) (h.2.1 k hk).2.1
      obtain ⟨t, ht⟩ := hd k hk
      have h1 := hg (pc k) (h.2.1 k hk).1
      rw [yp k hk, ht, Nat.mul_div_cancel_left _ e4] at h1
      have h2 : g.natAbs ∣ t * prA (m k f) (m k (pc k)) := Int.natAbs_dvd_natAbs.mpr h1
      have h3 : g.natAbs ∣ t * prA (m k (pc k)) (m k f) := by rw [Nat.mul_comm, ← ht]; exact gL
      have h4 := Nat.dvd_gcd h2 h3
      rw [Nat.gcd_mul_left, Nat.gcd_comm, e3, Nat.mul_one] at h4
      rw [ht, Nat.mul_comm g.natAbs]
      exact Nat.mul_dvd_mul_left _ h4
    obtain ⟨t, ht⟩ := gL
    have t0 : L ∣ t := hl t (fun k hk => by
      have := gd k hk
      rw [ht] at this
      have g1 : 0 < g.natAbs := Nat.pos_of_ne_zero fun e => by rw [e, Nat.zero_mul] at ht; omega
      exact Nat.dvd_of_mul_dvd_mul_left g1 this)
    obtain ⟨s, hs⟩ := t0
    have : L * 1 = L * (g.natAbs * s) := by
      have e5 : g.natAbs * t = L := ht.symm
      rw [hs] at e5
      rw [Nat.mul_one]
      have e6 : L * (g.natAbs * s) = g.natAbs * (L * s) := by simp only [Nat.mul_left_comm]
      rw [e6]; exact e5.symm
    have e7 := Nat.eq_of_mul_eq_mul_left hL this
    exact Int.natAbs_dvd_natAbs.mp ⟨s, e7⟩
  · refine ⟨(L : Int), z f, by omega, fun u hu => ?_⟩
    have zs : ∀ u, u < 10 → z u ≠ 0 → u = f ∨ ∃ k, k < k0 ∧ pc k = u := fun u hu q => hall u hu (hz u hu q)
    have zr := (gj_row h hf hn zs hS).mp hk
    by_cases q : S.testBit u = true
    · rcases hall u hu q with e | ⟨k, k1, k2⟩
      · rw [e, yf, Int.mul_comm]
      · have e1 := zr k k1
        have e2 := rws k k1
        rw [yf] at e2
        rw [k2] at e1 e2
        refine Int.eq_of_mul_eq_mul_left (a := m k u) (by rw [← k2]; exact (h.2.1 k k1).2.1) ?_
        have h1 : m k u * z u = -(m k f * z f) := by omega
        have h2 : m k u * y u = -(m k f * L) := by omega
        have e3 : m k u * (↑L * z u) = ↑L * (m k u * z u) := by grind
        have e4 : m k u * (z f * y u) = z f * (m k u * y u) := by grind
        rw [e3, e4, h1, h2]; grind
    · have z0 : z u = 0 := Classical.byContradiction fun t => q (hz u hu t)
      rw [Bool.not_eq_true] at q
      rw [z0, y0 u hu q]; omega
end
