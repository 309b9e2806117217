/-! the class: counts, found -/
def CT (M : Mem) (n : NN) (am : Nat → Nat) : Prop := (M.1 124 9 = -1 ∧ BN n am) ∨ ∃ x, M.1 124 9 = nI (sm x 8) ∧ (∀ s, s < 8 → M.1 129 s = nI (x s)) ∧ BX n am x
theorem dvd_dt {a z : Nat → Int} {g : Int} : ∀ {n : Nat}, (∀ i, i < n → g ∣ a i) → g ∣ dt n a z
  | 0, _ => Int.dvd_zero g
  | n + 1, h => by
    rw [dt]
    exact Int.dvd_add (dvd_dt (fun i hi => h i (by omega))) (Int.dvd_trans (h n (by omega)) (Int.dvd_mul_right _ _))
theorem X6_findCounts_sp {nc tp ts : Nat} {n : NN} {am : Nat → Nat} {M : Mem} {K : Mem → Prop} (hnc : nc + 3 < 124) (hn : atC M nc n tp ts) (ha : ∀ p, p < 10 → M.1 125 p = nI (am p)) (ha9 : ∀ p, am p ≤ 999) (hs : M.1 124 12 = M.1 nc 8 → K M)
    (h : ¬ M.1 124 12 = M.1 nc 8 → ∀ M', CT M' n am → M'.1 124 12 = M.1 nc 8 → M'.1 124 13 = 0 → M'.1 124 14 = M.1 124 14 → (∀ b, b ≠ 124 → b ≠ 127 → b ≠ 128 → b ≠ 129 → M'.1 b = M.1 b) → (∀ b, b ≠ 126 → M'.2 b = M.2 b) → K M') : f_X6_findCounts nc M K := by
  have hwf := hn.2.2.2
  unfold f_X6_findCounts
  refine ⟨fun q M2 e2 M3 e3 M4 e4 M5a e5 => ?_, hs⟩
  have n5a : ∀ b, b ≠ 124 → M5a.1 b = M.1 b := fun b hb => by rw [e5, w1_ne hb, e4, w1_ne hb, e3, w1_ne hb, e2, w1_ne hb]
  have hn5a : atC M5a nc n tp ts := atC_fr hn (n5a _ (by omega)) (n5a _ (by omega)) (n5a _ (by omega)) (n5a _ (by omega))
  refine X6_findUseful_sp hnc hn5a (fun M5 us hus u1 u2 u3 u4 => ?_)
  have n5 : ∀ b, b ≠ 124 → M5.1 b = M.1 b := fun b hb => by rw [u3 b hb, n5a b hb]
  have s9 : M5.1 124 9 = -1 := by rw [u2 9 (by decide), e5, w1_no (by decide), e4, w1_at]
  have s10 : M5.1 124 10 = 12 := by rw [u2 10 (by decide), e5, w1_at]
  have s11 : M5.1 124 12 = M.1 nc 8 := by rw [u2 12 (by decide), e5, w1_no (by decide), e4, w1_no (by decide), e3, w1_no (by decide), e2, w1_at]
  have s12 : M5.1 124 13 = 0 := by rw [u2 13 (by decide), e5, w1_no (by decide), e4, w1_no (by decide), e3, w1_at]
  have s13 : M5.1 124 14 = M.1 124 14 := by rw [u2 14 (by decide), e5, w1_no (by decide), e4, w1_no (by decide), e3, w1_no (by decide), e2, w1_no (by decide)]
  have m5 : M5.2 = M.2 := by rw [u4, e5, w1_2, e4, w1_2, e3, w1_2, e2, w1_2]
  have hn5 : atC M5 nc n tp ts := atC_fr hn (n5 _ (by omega)) (n5 _ (by omega)) (n5 _ (by omega)) (n5 _ (by omega))
  refine X6_layRows_sp hn5 (fun p hp => by rw [n5 125 (by decide)]; exact ha p hp) ha9 (fun M6 r6 f6 => ?_)
  refine X6_solveRows_sp (R := SR n am) (SR_s hwf ha9) r6 (fun M7 Y rw' c k g1 g2 g3 g4 g5 g6 => ⟨fun z => absurd z (by decide), fun _ => ?_⟩) (fun M7 Y rw' c k r g1 hr g2 g5 g6 => ⟨fun _ => ?_, fun z => absurd rfl z⟩)
  · have n7 : ∀ b, b ≠ 124 → b ≠ 127 → M7.1 b = M.1 b := fun b h1 h2 => by rw [g5 b h2, f6.1, n5 b h1]
    have t7 : ∀ j, M7.1 124 j = M5.1 124 j := fun j => by rw [g5 124 (by decide), f6.1]
    have := X6_seek_sp (n := n) (am := am) (k := k) ⟨g1, g2⟩ hus hwf 8 0 (by omega) 16 (by omega) (fun _ => 0) M7 K 12 (by rw [t7, u1]) g3 g4 (fun s hs => absurd hs (Nat.not_lt_zero _)) (by decide) (fun s hs => absurd hs (Nat.not_lt_zero _)) (fun i hi hc => absurd hc (Nat.not_lt_zero _)) ⟨by rw [t7, s10]; rfl, by decide, by decide, Or.inl ⟨by rw [t7, s9], rfl, fun y hy => by obtain ⟨i, i1, _⟩ := hy; exact absurd i1 (Nat.not_lt_zero _)⟩⟩ (fun M8 lm8 c8 f8 => h q M8 ?_ (by rw [f8.2.1 12 (by decide) (by decide), t7, s11]) (by rw [f8.2.1 13 (by decide) (by decide), t7, s12]) (by rw [f8.2.1 14 (by decide) (by decide), t7, s13]) (fun b h1 h2 h3 h4 => by rw [f8.1 b h1 h3 h4, n7 b h1 h2]) (fun b hb => by rw [f8.2.2.2, g6 b hb, f6.2 b hb, m5]))
    · exact this
    · have all : ∀ y : Nat → Nat, ltP 0 (fun _ => 0) y ∨ eqP 0 (fun _ => 0) y := fun y => Or.inr (fun l hl => absurd hl (Nat.not_lt_zero _))
      have ls : ∀ y : Nat → Nat, Sol n am y → ∃ z, adU n z ∧ Sol n am z ∧ sm z 8 ≤ sm y 8 ∧ (sm z 8 = sm y 8 → lexle z y) := fun y hy => use_of hy 8 (Nat.le_refl _)
      rcases c8.2.2.2 with ⟨d1, d2, d3⟩ | ⟨x, x1, x2, x3, x4, x5, x6, x7, x8⟩
      · refine Or.inl ⟨d1, fun y _ h2 => ?_⟩
        obtain ⟨z, z1, z2, z3, _⟩ := ls y h2
        have := d3 z (all z) z1 z2
        omega
      · refine Or.inr ⟨x, x1, x3, x5, x6, x7, fun y _ h2 => ?_⟩
        obtain ⟨z, z1, z2, z3, z4⟩ := ls y h2
        rcases x8 z (all z) z1 z2 with w | ⟨w1, w2⟩
        · exact Or.inl (by omega)
        · by_cases e : sm z 8 = sm y 8
          · exact Or.inr ⟨by omega, lexle_tr w2 (z4 e)⟩
          · exact Or.inl (by omega)
  · have t7 : ∀ j, M7.1 124 j = M5.1 124 j := fun j => by rw [g5 124 (by decide), f6.1]
    refine h q M7 (Or.inl ⟨by rw [t7, s9], fun y h1 h2 => ?_⟩) (by rw [t7, s11]) (by rw [t7, s12]) (by rw [t7, s13]) (fun b h1 h2 h3 h4 => by rw [g5 b h2, f6.1, n5 b h1]) (fun b hb => by rw [g6 b hb, f6.2 b hb, m5])
    have e := (g1.2.2.2.2.1 (fun s => (y s : Int))).mpr h2 r hr
    exact absurd (by rw [← e]; exact dvd_dt (fun i hi => gcN_dvd hi)) g2
/-! the reference: counts -/
/-- tokens behind counts -/
def RV (n : NN) (t : Nat → Nat) (p : Nat) : Int := (nH n p : Int) + dt 8 (fun s => cgI n s p) (fun s => (t s : Int))
def cI (z : Int) : Int32 := Int32.ofInt z
theorem cI_T {z : Int} (h1 : -100000 ≤ z) (h2 : z ≤ 100000) : (cI z).toInt = z := Int32.toInt_ofInt_of_le (by omega) (by omega)
theorem cI_nI (a : Nat) (h : a < 2147483648) : cI (a : Int) = nI a := by
  unfold cI
  rw [i_eq, i_nI h, Int32.toInt_ofInt_of_le (by omega) (by omega)]
theorem cI_add (a b : Int) : cI a + cI b = cI (a + b) := (Int32.ofInt_add a b).symm
theorem cI_mul (a b : Int) : cI a * cI b = cI (a * b) := (Int32.ofInt_mul a b).symm
theorem cI_sub (a b : Int) : cI a - cI b = cI (a - b) := (Int32.ofInt_sub a b).symm
theorem cI_neg (a : Int) : - cI a = cI (-a) := (Int32.ofInt_neg a).symm
theorem Sol_RV {n : NN} {tp ts : Nat} {am x : Nat → Nat} (hwf : WF n tp ts) : Sol n am x ↔ ∀ p, p < 10 → (nP n).testBit p = true → RV n x p = (am p : Int) := by
  unfold Sol RV
  have e : ∀ r, dt 8 (SR n am r) (fun s => (x s : Int)) = dt 8 (fun s => cgI n s r) (fun s => (x s : Int)) := fun r => dt_cong (fun i hi => ⟨by unfold SR; rw [if_pos hi], rfl⟩)
  constructor
  · intro h p hp hb
    have := h p hp
    rw [e p] at this
    unfold SR at this
    rw [if_neg (by omega), if_pos hb] at this
    omega
  · intro h r hr
    rw [e r]
    unfold SR
    rw [if_neg (by omega)]
    by_cases q : (nP n).testBit r = true
    · rw [if_pos q]; have := h r hr q; omega
    · rw [if_neg q]
      rw [Bool.not_eq_true] at q
      refine dt_z (fun s hs => ?_)
      unfold cgI
      have tz : ∀ f : Nat → Nat, (f (10 * s + r) ≠ 0 → (nP n).testBit ((10 * s + r) % 10) = true) → f (10 * s + r) = 0 := fun f hf => Classical.byContradiction fun w => by
        have := hf w
        rw [(md hr).1, q] at this; cases this
      have z1 : nG n (10 * s + r) = 0 := tz n.2.1 (fun w => (wf_Gn hwf w).2.1)
      have z2 : nT n (10 * s + r) = 0 := tz n.1 (fun w => (wf_Tn hwf w).2.1)
      rw [z1, z2]; rfl
theorem RV_b {n : NN} {tp ts : Nat} {t : Nat → Nat} (hwf : WF n tp ts) (ht : ∀ s, s < 8 → t s ≤ 12) (p : Nat) : -1000 ≤ RV n t p ∧ RV n t p ≤ 2000 := by
  have h1 := dt_bd (a := fun s => cgI n s p) (t := t) (B := 3) (n := 8) (fun s hs => ⟨by have := cgI_3 hwf s p; omega, ht s hs⟩)
  have h2 := wf_H hwf p
  unfold RV
  generalize dt 8 (fun s => cgI n s p) (fun s => (t s : Int)) = q at *
  omega
theorem X9_isAim_sp {a o : Nat} {n : NN} {am : Nat → Nat} {v : Nat → Int} {M : Mem} {K : Int32 → Mem → Prop} (hP : M.1 4 0 = nI (nP n)) (hP2 : nP n < 1024) (ha : ∀ p, p < 10 → M.1 8 p = nI (am p) ∧ am p ≤ 999) (ho : o + 10 ≤ alen a) (hal : alen a < 100000) (hv : ∀ p, p < 10 → M.1 a (o + p) = cI (v p) ∧ -100000 ≤ v p ∧ v p ≤ 100000)
    (h : K (bI (pB (∀ p, p < 10 → (nP n).testBit p = true → v p = (am p : Int)))) M) : f_X9_isAim a (nI o) M K := by
  unfold f_X9_isAim
  have e : ∀ i, i < 10 → decide ((nI (nP n) >>> (nI i &&& 31)) &&& 1 = 1) = (nP n).testBit i := fun i hi => bt_nI (n := nP n) (k := i) (by omega) (by omega)
  have key : ∀ d p, p + d = 10 → (∀ p', p' < p → (nP n).testBit p' = true → v p' = (am p' : Int)) → L_X9_isAim_2 a (nI o) (fun M_3 => K 1 M_3) K (d + 1) (nI p) M := by
    intro d
    induction d with
    | zero =>
      intro p hp c
      rw [L_X9_isAim_2, l_10, nI_LE (by omega) (by omega)]
      refine ⟨fun _ => ?_, by omega⟩
      rw [pB_t (fun p' hp' => c p' (by omega))] at h
      exact h
    | succ d ih =>
      intro p hp c
      have nx : ((nP n).testBit p = true → v p = (am p : Int)) → L_X9_isAim_2 a (nI o) (fun M_3 => K 1 M_3) K (d + 1) (nI (p + 1)) M := fun q => ih (p + 1) (by omega) (fun p' hp' => by
        rcases Nat.lt_succ_iff_lt_or_eq.mp hp' with t | t
        · exact c p' t
        · rw [t]; exact q)
      have s0 : gI M 4 (0 : Int32) = nI (nP n) := by rw [gI, show (0 : Int32).toNatClampNeg = 0 from rfl]; exact hP
      obtain ⟨v1, v2, v3⟩ := hv p (by omega)
      obtain ⟨a1, a2⟩ := ha p (by omega)
      rw [L_X9_isAim_2, l_10, nI_LE (by omega) (by omega), s0, nI_A1]
      refine ⟨by omega, fun _ => X9_isOf_sp ⟨fun q => nx (fun t => ?_), fun q => ?_⟩⟩
      · rw [e p (by omega)] at q; rw [b_of0 q] at t; cases t
      · rw [e p (by omega)] at q
        rw [nI_add, vp_nI (by omega) (by omega), vp_nI (by omega) (by omega), gI, gI, nI_CL (by omega), nI_CL (by omega), v1, a1, i_eq, cI_T v2 v3, i_nI (by omega)]
        refine ⟨by omega, by omega, fun t => nx (fun _ => t), fun t => ?_⟩
        rw [pB_f (fun w => t (w p (by omega) (b_ofn q)))] at h
        exact h
  exact ⟨_, key 10 0 (by omega) (fun p' hp' => absurd hp' (Nat.not_lt_zero _))⟩
