/-! long numbers -/
abbrev oL (z : Int) : Int64 := Int64.ofInt z
def rg (z : Int) : Prop := -4611686018427387904 ≤ z ∧ z ≤ 4611686018427387904
theorem oL_T {z : Int} (h : rg z) : (oL z).toInt = z := by
  unfold rg at h
  exact Int64.toInt_ofInt_of_le (by omega) (by omega)
theorem oL_EQ {a b : Int} (ha : rg a) (hb : rg b) : (oL a = oL b) = (a = b) := propext ⟨fun h => by rw [← oL_T ha, ← oL_T hb, h], fun h => by rw [h]⟩
theorem oL_LE {a b : Int} (ha : rg a) (hb : rg b) : (oL a ≤ oL b) = (a ≤ b) := propext (by rw [Int64.le_iff_toInt_le, oL_T ha, oL_T hb])
theorem oL_LT {a b : Int} (ha : rg a) (hb : rg b) : (oL a < oL b) = (a < b) := propext (by rw [Int64.lt_iff_toInt_lt, oL_T ha, oL_T hb])
theorem oL_mul (a b : Int) : oL a * oL b = oL (a * b) := (Int64.ofInt_mul a b).symm
theorem oL_sub (a b : Int) : oL a - oL b = oL (a - b) := (Int64.ofInt_sub a b).symm
theorem oL_add (a b : Int) : oL a + oL b = oL (a + b) := (Int64.ofInt_add a b).symm
theorem oL_neg (a : Int) : - oL a = oL (-a) := (Int64.ofInt_neg a).symm
theorem oL_div {a b : Int} (ha : rg a) (hb : rg b) : oL a / oL b = oL (a.tdiv b) := by
  unfold rg at ha hb
  have h1 : Int64.minValue.toInt = -9223372036854775808 := by decide
  have h2 : Int64.maxValue.toInt = 9223372036854775807 := by decide
  exact (Int64.ofInt_tdiv (by rw [h1]; omega) (by rw [h2]; omega) (by rw [h1]; omega) (by rw [h2]; omega)).symm
theorem oL_rem {a b : Int} (ha : rg a) (hb : rg b) : lrem (oL a) (oL b) = oL (a.tmod b) := by
  unfold lrem
  rw [oL_div ha hb, oL_mul, oL_sub, Int.tmod_def, Int.mul_comm]
theorem z_0 : (0 : Int64) = oL 0 := rfl
theorem z_1 : (1 : Int64) = oL 1 := rfl
theorem z_m1 : (-1 : Int64) = oL (-1) := by decide
theorem rg_0 : rg 0 := ⟨by decide, by decide⟩
theorem rg_1 : rg 1 := ⟨by decide, by decide⟩
theorem rg_m1 : rg (-1) := ⟨by decide, by decide⟩
theorem rg_n {a : Nat} (h : a ≤ 4611686018427387904) : rg (a : Int) := ⟨by omega, by omega⟩
theorem rg_abs {a : Int} (h : rg a) : rg (a.natAbs : Int) := by unfold rg at *; omega
theorem oL_ab {a : Int} (h : rg a) : (if 0 < oL a then oL a else -oL a) = oL (a.natAbs : Int) := by
  by_cases q : 0 < a
  · rw [if_pos (by rw [z_0, oL_LT rg_0 h]; exact q)]
    congr 1; omega
  · rw [if_neg (by rw [z_0, oL_LT rg_0 h]; exact q), oL_neg]
    congr 1; omega
theorem oL_ab' {a : Int} (h : rg a) : (if (0 : Int64) ≤ oL a then oL a else -oL a) = oL (a.natAbs : Int) := by
  by_cases q : 0 ≤ a
  · rw [if_pos (by rw [z_0, oL_LE rg_0 h]; exact q)]
    congr 1; omega
  · rw [if_neg (by rw [z_0, oL_LE rg_0 h]; exact q), oL_neg]
    congr 1; omega
theorem gcd_st {a b : Nat} : Nat.gcd b (a % b) = Nat.gcd a b := by rw [Nat.gcd_comm a b, Nat.gcd_rec b a, Nat.gcd_comm]
theorem oL_md {a b : Nat} (ha : a ≤ 4611686018427387904) (hb : b ≤ 4611686018427387904) : lrem (oL (a : Int)) (oL (b : Int)) = oL ((a % b : Nat) : Int) := by
  rw [oL_rem (rg_n ha) (rg_n hb), Int.ofNat_tmod]
theorem oL_Zn {b : Nat} (hb : b ≤ 4611686018427387904) : (oL (b : Int) = (0 : Int64)) = (b = 0) := by
  rw [z_0, oL_EQ (rg_n hb) rg_0]
  exact propext ⟨fun h => by omega, fun h => by omega⟩
theorem mod_half {b r : Nat} (h : r < b) (hr : 0 < r) : 2 * (b % r) < b := by
  have h1 := Nat.mod_lt b hr
  have h2 := Nat.div_add_mod b r
  have h3 : 1 ≤ b / r := (Nat.le_div_iff_mul_le hr).mpr (by omega)
  have h4 : r * 1 ≤ r * (b / r) := Nat.mul_le_mul_left r h3
  omega
theorem X8_cd15_sp {M : Mem} {X K : Int64 → Mem → Prop} : ∀ (k i a b : Nat), b < 2 ^ k → i + 2 * k ≤ 128 → a ≤ 4611686018427387904 → b ≤ 4611686018427387904 → X (oL (Nat.gcd a b : Nat)) M → L_X8_commonDivisor_15 X K (2 * k + 1) (oL a) (oL b) (nI i) M := by
  intro k
  induction k with
  | zero =>
    intro i a b hb hi ha hb2 h
    have b0 : b = 0 := by omega
    subst b0
    rw [Nat.gcd_zero_right] at h
    rw [L_X8_commonDivisor_15, oL_Zn (by omega)]
    exact ⟨fun _ => h, fun _ => ⟨fun _ => h, fun z => absurd rfl z⟩⟩
  | succ k ih =>
    intro i a b hb hi ha hb2 h
    rw [show 2 * (k + 1) + 1 = (2 * k + 1 + 1) + 1 by omega, L_X8_commonDivisor_15, oL_Zn (by omega), l_128, nI_LE (by omega) (by omega), nI_A1]
    refine ⟨fun z => absurd z (by omega), fun _ => ⟨fun z => ?_, fun z => ⟨z, fun x9 e9 => ?_⟩⟩⟩
    · rw [z, Nat.gcd_zero_right] at h; exact h
    · rw [oL_md ha hb2] at e9
      subst e9
      have rl := Nat.mod_lt a (Nat.pos_of_ne_zero z)
      rw [← gcd_st] at h
      generalize a % b = r at *
      rw [L_X8_commonDivisor_15, oL_Zn (by omega), l_128, nI_LE (by omega) (by omega), nI_A1]
      refine ⟨fun z => absurd z (by omega), fun _ => ⟨fun z => ?_, fun z => ⟨z, fun x9 e9 => ?_⟩⟩⟩
      · rw [z, Nat.gcd_zero_right] at h; exact h
      · rw [oL_md hb2 (by omega)] at e9
        subst e9
        have mh := mod_half rl (Nat.pos_of_ne_zero z)
        rw [← gcd_st] at h
        exact ih (i + 1 + 1) r (b % r) (by rw [Nat.pow_succ] at hb; omega) (by omega) (by omega) (by omega) h
theorem X8_commonDivisor_sp {a b : Int} {M : Mem} {K : Int64 → Mem → Prop} (ha : rg a) (hb : rg b) (h : K (oL (Int.gcd a b : Nat)) M) : f_X8_commonDivisor (oL a) (oL b) M K := by
  unfold f_X8_commonDivisor
  intro x4 e4 x6 e6
  rw [oL_ab ha] at e4
  rw [oL_ab hb] at e6
  rw [e4, e6]
  unfold rg at ha hb
  exact ⟨_, X8_cd15_sp 63 0 a.natAbs b.natAbs (by omega) (by omega) (by omega) (by omega) h⟩
theorem X9_cm28_sp {M : Mem} {X K : Int64 → Mem → Prop} : ∀ (f a b : Nat), b < f → a ≤ 4611686018427387904 → b ≤ 4611686018427387904 → X (oL (Nat.gcd a b : Nat)) M → L_X9_common_28 X K f (oL a) (oL b) M := by
  intro f
  induction f with
  | zero => intro a b hb; omega
  | succ f ih =>
    intro a b hb ha hb2 h
    rw [L_X9_common_28, oL_Zn (by omega)]
    refine ⟨fun z => ?_, fun z => ⟨z, fun x9 e9 => ?_⟩⟩
    · rw [z, Nat.gcd_zero_right] at h; exact h
    · rw [oL_md ha hb2] at e9
      subst e9
      have rl := Nat.mod_lt a (Nat.pos_of_ne_zero z)
      rw [← gcd_st] at h
      exact ih b (a % b) (by omega) hb2 (by omega) h
theorem X9_common_sp {a b : Int} {M : Mem} {K : Int64 → Mem → Prop} (ha : rg a) (hb : rg b) (h : K (oL (Int.gcd a b : Nat)) M) : f_X9_common (oL a) (oL b) M K := by
  unfold f_X9_common
  intro x4 e4 x6 e6
  rw [oL_ab' ha] at e4
  rw [oL_ab' hb] at e6
  rw [e4, e6]
  unfold rg at ha hb
  exact ⟨_, X9_cm28_sp (b.natAbs + 1) a.natAbs b.natAbs (by omega) (by omega) (by omega) h⟩
/-! the divisor of a whole row -/
def gcN (x : Nat → Int) : Nat → Nat
  | 0 => 0
  | n + 1 => Int.gcd (gcN x n) (x n)
theorem gcN_dvd {x : Nat → Int} : ∀ {n i : Nat}, i < n → ((gcN x n : Nat) : Int) ∣ x i
  | 0, i, h => absurd h (Nat.not_lt_zero _)
  | n + 1, i, h => by
    rw [gcN]
    rcases Nat.lt_succ_iff_lt_or_eq.mp h with y | y
    · exact Int.dvd_trans (Int.gcd_dvd_left _ _) (gcN_dvd y)
    · rw [y]; exact Int.gcd_dvd_right _ _
theorem gcN_of {x : Nat → Int} {d : Int} : ∀ {n : Nat}, (∀ i, i < n → d ∣ x i) → d ∣ ((gcN x n : Nat) : Int)
  | 0, _ => Int.dvd_zero d
  | n + 1, h => by rw [gcN]; exact Int.dvd_coe_gcd (gcN_of (fun i hi => h i (by omega))) (h n (by omega))
theorem gcN_0 {x : Nat → Int} {n : Nat} (h : gcN x n = 0) : ∀ i, i < n → x i = 0 := fun i hi => by
  have := gcN_dvd (x := x) hi
  rw [h] at this
  exact Int.zero_dvd.mp this
theorem gcN_le {x : Nat → Int} : ∀ {n : Nat}, (∀ i, i < n → rg (x i)) → gcN x n ≤ 4611686018427387904
  | 0, _ => Nat.zero_le _
  | n + 1, h => by
    rw [gcN]
    by_cases q : x n = 0
    · rw [q, Int.gcd_zero_right]
      have := gcN_le (x := x) (n := n) (fun i hi => h i (by omega))
      rw [Int.natAbs_natCast]; exact this
    · have h1 := Int.gcd_dvd_natAbs_right (gcN x n : Int) (x n)
      have h2 := Nat.le_of_dvd (by omega) h1
      have h3 := h n (by omega)
      unfold rg at h3
      omega
/-- the row divided by what all have in common -/
def dvR (x : Nat → Int) (n : Nat) : Nat → Int := fun i => if 1 < gcN x n then x i / (gcN x n : Nat) else x i
theorem dvR_sp {x : Nat → Int} {n : Nat} : ∃ G : Int, G ≠ 0 ∧ (∀ i, i < n → G * dvR x n i = x i) ∧ ((∀ i, i < n → dvR x n i = 0) ∨ prm n (dvR x n)) := by
  by_cases q : 1 < gcN x n
  · have e : ∀ i, i < n → ((gcN x n : Nat) : Int) * dvR x n i = x i := fun i hi => by
      unfold dvR
      rw [if_pos q]
      exact Int.mul_ediv_cancel' (gcN_dvd hi)
    refine ⟨((gcN x n : Nat) : Int), by omega, e, Or.inr (fun g hg => ?_)⟩
    have : (gcN x n : Int) * g ∣ ((gcN x n : Nat) : Int) := gcN_of (fun i hi => by
      rw [← e i hi]
      exact Int.mul_dvd_mul_left _ (hg i hi))
    obtain ⟨t, ht⟩ := this
    refine ⟨t, ?_⟩
    have h2 : ((gcN x n : Nat) : Int) * 1 = ((gcN x n : Nat) : Int) * (g * t) := by rw [Int.mul_one, ← Int.mul_assoc]; exact ht
    exact Int.eq_of_mul_eq_mul_left (by omega) h2
  · have e : ∀ i, dvR x n i = x i := fun i => by unfold dvR; exact if_neg q
    refine ⟨1, by decide, fun i _ => by rw [e i, Int.one_mul], ?_⟩
    rcases Nat.eq_zero_or_pos (gcN x n) with z | z
    · exact Or.inl (fun i hi => by rw [e i]; exact gcN_0 z i hi)
    · refine Or.inr (fun g hg => ?_)
      have := gcN_of (x := x) (d := g) (n := n) (fun i hi => by rw [← e i]; exact hg i hi)
      rw [show gcN x n = 1 by omega] at this
      exact this
/-- a row of longs -/
def rwL (M : Mem) (A wd r : Nat) (y : Nat → Int) : Prop := ∀ i, i < wd → M.2 A (wd * r + i) = oL (y i)
def frL (A lo wd : Nat) (M M' : Mem) : Prop := M'.1 = M.1 ∧ (∀ b, b ≠ A → M'.2 b = M.2 b) ∧ ∀ k, k < lo ∨ lo + wd ≤ k → M'.2 A k = M.2 A k
theorem frL_rf (A lo wd : Nat) (M : Mem) : frL A lo wd M M := ⟨rfl, fun _ _ => rfl, fun _ _ => rfl⟩
theorem frL_tr {A lo wd : Nat} {M M1 M2 : Mem} (h : frL A lo wd M M1) (h' : frL A lo wd M1 M2) : frL A lo wd M M2 := ⟨by rw [h'.1, h.1], fun b hb => by rw [h'.2.1 b hb, h.2.1 b hb], fun k hk => by rw [h'.2.2 k hk, h.2.2 k hk]⟩
theorem frL_w {A lo wd i : Nat} {x : Int64} (M : Mem) (h1 : lo ≤ i) (h2 : i < lo + wd) : frL A lo wd M (wL M A i x) := ⟨rfl, fun b hb => wL_ne hb, fun k hk => wL_no (by omega)⟩
theorem rwL_fr {M M' : Mem} {A wd r r' : Nat} {y : Nat → Int} (h : rwL M A wd r y) (f : frL A (wd * r') wd M M') (hr : r ≠ r') : rwL M' A wd r y := fun i hi => by
  rw [f.2.2 _ ?_]
  · exact h i hi
  · rcases Nat.lt_or_ge r r' with q | q
    · have := Nat.mul_le_mul_left wd (show r + 1 ≤ r' by omega)
      rw [Nat.mul_add, Nat.mul_one] at this
      omega
    · have := Nat.mul_le_mul_left wd (show r' + 1 ≤ r by omega)
      rw [Nat.mul_add, Nat.mul_one] at this
      omega
theorem ixL {r wd i : Nat} : nI r * nI wd + nI i = nI (wd * r + i) := by rw [pk_mul, nI_add, Nat.mul_comm]
theorem X8_cc122_sp {A wd r : Nat} {g : Nat} {x : Nat → Int} {M : Mem} {X K : Mem → Prop} (hw : wd ≤ 20) (hA : wd * r + wd ≤ alen A) (hA2 : alen A < 1000) (hg : 1 < g) (hg2 : g ≤ 4611686018427387904) (hx : ∀ i, i < wd → rg (x i) ∧ (g : Int) ∣ x i) (hr : rwL M A wd r x)
    (h : ∀ M', rwL M' A wd r (fun i => x i / (g : Int)) → frL A (wd * r) wd M M' → X M') : ∃ k, L_X8_clearColumn_122 A (nI r) (nI wd) (oL (g : Int)) X K k 0 M := by
  have key : ∀ d i, i + d = wd → ∀ M1 : Mem, (∀ j, j < i → M1.2 A (wd * r + j) = oL (x j / (g : Int))) → (∀ j, i ≤ j → j < wd → M1.2 A (wd * r + j) = oL (x j)) → frL A (wd * r) wd M M1 → L_X8_clearColumn_122 A (nI r) (nI wd) (oL (g : Int)) X K (d + 1) (nI i) M1 := by
    intro d
    induction d with
    | zero =>
      intro i hi M1 c1 c2 c3
      rw [L_X8_clearColumn_122, nI_LE (by omega) (by omega)]
      exact ⟨fun _ => h M1 (fun j hj => c1 j (by omega)) c3, by omega⟩
    | succ d ih =>
      intro i hi M1 c1 c2 c3
      obtain ⟨x1, x2⟩ := hx i (by omega)
      have ed : (x i).tdiv (g : Int) = x i / (g : Int) := by
        obtain ⟨t, ht⟩ := x2
        rw [ht, Int.mul_tdiv_cancel_left _ (by omega), Int.mul_ediv_cancel_left _ (by omega)]
      rw [L_X8_clearColumn_122, nI_LE (by omega) (by omega), ixL, vp_nI (by omega) (by omega), gL, nI_CL (by omega), c2 i (Nat.le_refl _) (by omega), oL_div x1 (rg_n hg2), ed, nI_A1]
      refine ⟨by omega, fun _ => ⟨by omega, by rw [oL_Zn (by omega)]; omega, fun M5 e5 => ih (i + 1) (by omega) M5 (fun j hj => ?_) (fun j hj hj' => ?_) (frL_tr c3 (by rw [e5]; exact frL_w M1 (by omega) (by omega)))⟩⟩
      · by_cases q : j = i
        · rw [e5, q, wL_at]
        · rw [e5, wL_no (by omega)]; exact c1 j (by omega)
      · rw [e5, wL_no (by omega)]; exact c2 j (by omega) hj'
  exact ⟨_, key wd 0 (by omega) M (fun j hj => absurd hj (Nat.not_lt_zero _)) (fun j _ hj => hr j hj) (frL_rf _ _ _ M)⟩
theorem X8_cc41_sp {A wd r1 r2 : Nat} {a b : Int} {y1 y2 : Nat → Int} {M : Mem} {X : Int64 → Mem → Prop} {K : Mem → Prop} (hw : wd ≤ 20) (hA1 : wd * r1 + wd ≤ alen A) (hA3 : wd * r2 + wd ≤ alen A) (hA2 : alen A < 1000) (ne : r1 ≠ r2) (h1 : rwL M A wd r1 y1) (h2 : rwL M A wd r2 y2) (hx : ∀ i, i < wd → rg (y1 i * a - y2 i * b))
    (h : ∀ M', rwL M' A wd r1 (fun i => y1 i * a - y2 i * b) → frL A (wd * r1) wd M M' → X (oL (gcN (fun i => y1 i * a - y2 i * b) wd : Nat)) M') : ∃ k, L_X8_clearColumn_41 A (nI r1) (nI r2) (nI wd) (oL a) (oL b) X K k 0 0 M := by
  have key : ∀ d i, i + d = wd → ∀ M1 : Mem, (∀ j, j < i → M1.2 A (wd * r1 + j) = oL (y1 j * a - y2 j * b)) → (∀ j, i ≤ j → j < wd → M1.2 A (wd * r1 + j) = oL (y1 j)) → frL A (wd * r1) wd M M1 → L_X8_clearColumn_41 A (nI r1) (nI r2) (nI wd) (oL a) (oL b) X K (d + 1) (oL (gcN (fun i => y1 i * a - y2 i * b) i : Nat)) (nI i) M1 := by
    intro d
    induction d with
    | zero =>
      intro i hi M1 c1 c2 c3
      have : i = wd := by omega
      subst this
      rw [L_X8_clearColumn_41, nI_LE (by omega) (by omega)]
      exact ⟨fun _ => h M1 (fun j hj => c1 j hj) c3, by omega⟩
    | succ d ih =>
      intro i hi M1 c1 c2 c3
      have e2 := rwL_fr h2 c3 (Ne.symm ne) i (by omega)
      have hxi := hx i (by omega)
      have gl := gcN_le (x := fun i => y1 i * a - y2 i * b) (n := i) (fun j hj => hx j (by omega))
      rw [L_X8_clearColumn_41, nI_LE (by omega) (by omega), ixL, ixL, vp_nI (by omega) (by omega), vp_nI (by omega) (by omega), gL, gL, nI_CL (by omega), nI_CL (by omega), c2 i (Nat.le_refl _) (by omega), e2, oL_mul, oL_mul, oL_sub, nI_A1]
      refine ⟨by omega, fun _ => ⟨by omega, by omega, fun x12 e12 M2 e2' => ?_⟩⟩
      subst e12
      have nx : L_X8_clearColumn_41 A (nI r1) (nI r2) (nI wd) (oL a) (oL b) X K (d + 1) (oL (gcN (fun i => y1 i * a - y2 i * b) (i + 1) : Nat)) (nI (i + 1)) M2 := by
        refine ih (i + 1) (by omega) M2 (fun j hj => ?_) (fun j hj hj' => ?_) (frL_tr c3 (by rw [e2']; exact frL_w M1 (by omega) (by omega)))
        · by_cases q : j = i
          · rw [e2', q, wL_at]
          · rw [e2', wL_no (by omega)]; exact c1 j (by omega)
        · rw [e2', wL_no (by omega)]; exact c2 j (by omega) hj'
      refine ⟨fun _ => X8_commonDivisor_sp (rg_n gl) hxi nx, fun z x9 e9 => ?_⟩
      rw [z_1, oL_EQ (rg_n gl) rg_1] at z
      have h1 : gcN (fun i => y1 i * a - y2 i * b) (i + 1) = 1 := by
        rw [gcN, show gcN (fun i => y1 i * a - y2 i * b) i = 1 by omega]
        exact Nat.gcd_one_left _
      rw [h1] at nx
      rw [e9, z_1]
      exact nx
  exact ⟨_, key wd 0 (by omega) M (fun j hj => absurd hj (Nat.not_lt_zero _)) (fun j _ hj => h1 j hj) (frL_rf _ _ _ M)⟩
theorem X8_clearColumn_sp {A wd r1 r2 c : Nat} {y1 y2 : Nat → Int} {M : Mem} {K : Mem → Prop} (hw : wd ≤ 20) (hc : c < wd) (hA1 : wd * r1 + wd ≤ alen A) (hA3 : wd * r2 + wd ≤ alen A) (hA2 : alen A < 1000) (ne : r1 ≠ r2) (h1 : rwL M A wd r1 y1) (h2 : rwL M A wd r2 y2) (b1 : rg (y1 c)) (b2 : rg (y2 c)) (hx : ∀ i, i < wd → rg (y1 i * y2 c - y2 i * y1 c))
    (h0 : y2 c = 0 ∨ y1 c = 0 → K M) (h : ∀ M', y2 c ≠ 0 → y1 c ≠ 0 → rwL M' A wd r1 (dvR (fun i => y1 i * y2 c - y2 i * y1 c) wd) → frL A (wd * r1) wd M M' → K M') : f_X8_clearColumn A (nI r1) (nI r2) (nI c) (nI wd) M K := by
  unfold f_X8_clearColumn
  rw [ixL, ixL, vp_nI (by omega) (by omega), vp_nI (by omega) (by omega), gL, gL, nI_CL (by omega), nI_CL (by omega), h1 c hc, h2 c hc]
  refine ⟨by omega, fun x5 e5 => ⟨by omega, fun x7 e7 => ?_⟩⟩
  subst e5
  subst e7
  rw [z_0, oL_EQ b2 rg_0, oL_EQ b1 rg_0]
  refine ⟨fun z => h0 (Or.inl z), fun z => ⟨fun y x9 e9 => ?_, fun y => h0 (Or.inr y)⟩⟩
  subst e9
  have gl := gcN_le (x := fun i => y1 i * y2 c - y2 i * y1 c) (n := wd) hx
  refine X8_cc41_sp hw hA1 hA3 hA2 ne h1 h2 hx (fun M4 r4 f4 => ?_)
  rw [z_1, oL_LE (rg_n gl) rg_1]
  refine ⟨fun q => h M4 z y (fun i hi => ?_) f4, fun q => X8_cc122_sp hw hA1 hA2 (by omega) gl (fun i hi => ⟨hx i hi, gcN_dvd hi⟩) r4 (fun M' r6 f6 => h M' z y (fun i hi => ?_) (frL_tr f4 f6))⟩
  · rw [r4 i hi]; unfold dvR; rw [if_neg (by omega)]
  · rw [r6 i hi]; unfold dvR; rw [if_pos (by omega)]
/-! the reference's own -/
theorem ix10 {r i : Nat} : nI 10 * nI r + nI i = nI (10 * r + i) := by rw [pk_mul, nI_add]
theorem X9_ls110_sp {r : Nat} {g : Nat} {x : Nat → Int} {M : Mem} {X K : Mem → Prop} (hr9 : r < 10) (hg2 : g ≤ 4611686018427387904) (hx : ∀ i, i < 10 → rg (x i) ∧ (g : Int) ∣ x i) (hr : rwL M 11 10 r x)
    (h : ∀ M', rwL M' 11 10 r (fun i => if 1 < g then x i / (g : Int) else x i) → frL 11 (10 * r) 10 M M' → X M') : ∃ k, L_X9_lessens_110 (nI r) (oL (g : Int)) X K k 0 M := by
  by_cases q1 : 1 < g
  · have key : ∀ d i, i + d = 10 → ∀ M1 : Mem, (∀ j, j < i → M1.2 11 (10 * r + j) = oL (x j / (g : Int))) → (∀ j, i ≤ j → j < 10 → M1.2 11 (10 * r + j) = oL (x j)) → frL 11 (10 * r) 10 M M1 → L_X9_lessens_110 (nI r) (oL (g : Int)) X K (d + 1) (nI i) M1 := by
      intro d
      induction d with
      | zero =>
        intro i hi M1 c1 c2 c3
        rw [L_X9_lessens_110, l_10, nI_LE (by omega) (by omega)]
        exact ⟨fun _ => h M1 (fun j hj => by dsimp only; rw [if_pos q1]; exact c1 j (by omega)) c3, by omega⟩
      | succ d ih =>
        intro i hi M1 c1 c2 c3
        obtain ⟨x1, x2⟩ := hx i (by omega)
        have ed : (x i).tdiv (g : Int) = x i / (g : Int) := by
          obtain ⟨t, ht⟩ := x2
          rw [ht, Int.mul_tdiv_cancel_left _ (by omega), Int.mul_ediv_cancel_left _ (by omega)]
        rw [L_X9_lessens_110, l_10, nI_LE (by omega) (by omega), ix10, vp_nI (by omega) (by omega), gL, nI_CL (by omega), c2 i (Nat.le_refl _) (by omega), oL_div x1 (rg_n hg2), ed, nI_A1, z_1, oL_LE (rg_n hg2) rg_1]
        refine ⟨by omega, fun _ => ⟨fun z => absurd z (by omega), fun _ => ⟨by omega, by show ¬ oL (g : Int) = 0; rw [oL_Zn (by omega)]; omega, fun M5 e5 => ih (i + 1) (by omega) M5 (fun j hj => ?_) (fun j hj hj' => ?_) (frL_tr c3 (by rw [e5]; exact frL_w M1 (by omega) (by omega)))⟩⟩⟩
        · by_cases q : j = i
          · rw [e5, q, wL_at]
          · rw [e5, wL_no (by omega)]; exact c1 j (by omega)
        · rw [e5, wL_no (by omega)]; exact c2 j (by omega) hj'
    exact ⟨_, key 10 0 (by omega) M (fun j hj => absurd hj (Nat.not_lt_zero _)) (fun j _ hj => hr j hj) (frL_rf _ _ _ M)⟩
  · refine ⟨1, ?_⟩
    rw [L_X9_lessens_110, z_1, oL_LE (rg_n hg2) rg_1]
    have fin := h M (fun j hj => by dsimp only; rw [if_neg q1]; exact hr j hj) (frL_rf _ _ _ M)
    exact ⟨fun _ => fin, fun _ => ⟨fun _ => fin, fun z => absurd z (by omega)⟩⟩
theorem X9_lessens_sp {r1 r2 c : Nat} {y1 y2 : Nat → Int} {M : Mem} {K : Mem → Prop} (hc : c < 10) (hr1 : r1 < 10) (hr2 : r2 < 10) (ne : r1 ≠ r2) (h1 : rwL M 11 10 r1 y1) (h2 : rwL M 11 10 r2 y2) (hx : ∀ i, i < 10 → rg (y1 i * y2 c - y2 i * y1 c))
    (h : ∀ M', rwL M' 11 10 r1 (dvR (fun i => y1 i * y2 c - y2 i * y1 c) 10) → frL 11 (10 * r1) 10 M M' → K M') : f_X9_lessens (nI r1) (nI r2) (nI c) M K := by
  unfold f_X9_lessens
  rw [l_10, ix10, ix10, vp_nI (by omega) (by omega), vp_nI (by omega) (by omega), gL, gL, nI_CL (by omega), nI_CL (by omega), h1 c hc, h2 c hc]
  refine ⟨by omega, fun x4 e4 => ⟨by omega, fun x6 e6 x8 e8 => ?_⟩⟩
  subst e4
  subst e6
  subst e8
  have key : ∀ d i, i + d = 10 → ∀ M1 : Mem, (∀ j, j < i → M1.2 11 (10 * r1 + j) = oL (y1 j * y2 c - y2 j * y1 c)) → (∀ j, i ≤ j → j < 10 → M1.2 11 (10 * r1 + j) = oL (y1 j)) → frL 11 (10 * r1) 10 M M1 → L_X9_lessens_32 (nI r1) (nI r2) (oL (y2 c)) (oL (y1 c)) (fun (v8_2 : Int64) (M_4 : Mem) => (∃ k110 : Nat, L_X9_lessens_110 (nI r1) v8_2 (fun  (M_6 : Mem) => K M_6) K k110 (0 : Int32) M_4)) K (d + 1) (oL (gcN (fun i => y1 i * y2 c - y2 i * y1 c) i : Nat)) (nI i) M1 := by
    intro d
    induction d with
    | zero =>
      intro i hi M1 c1 c2 c3
      have : i = 10 := by omega
      subst this
      have gl := gcN_le (x := fun i => y1 i * y2 c - y2 i * y1 c) (n := 10) hx
      rw [L_X9_lessens_32, l_10, nI_LE (by omega) (by omega)]
      refine ⟨fun _ => X9_ls110_sp hr1 gl (fun i hi => ⟨hx i hi, gcN_dvd hi⟩) (fun j hj => c1 j hj) (fun M' r6 f6 => h M' (fun i hi => ?_) (frL_tr c3 f6)), by omega⟩
      rw [r6 i hi]; rfl
    | succ d ih =>
      intro i hi M1 c1 c2 c3
      have e2 := rwL_fr h2 c3 (Ne.symm ne) i (by omega)
      have hxi := hx i (by omega)
      have gl := gcN_le (x := fun i => y1 i * y2 c - y2 i * y1 c) (n := i) (fun j hj => hx j (by omega))
      rw [L_X9_lessens_32, l_10, nI_LE (by omega) (by omega), ix10, ix10, vp_nI (by omega) (by omega), vp_nI (by omega) (by omega), gL, gL, nI_CL (by omega), nI_CL (by omega), c2 i (Nat.le_refl _) (by omega), e2, oL_mul, oL_mul, oL_sub, nI_A1]
      refine ⟨by omega, fun _ => ⟨by omega, by omega, fun M2 e2' => ?_⟩⟩
      have nx : L_X9_lessens_32 (nI r1) (nI r2) (oL (y2 c)) (oL (y1 c)) (fun (v8_2 : Int64) (M_4 : Mem) => (∃ k110 : Nat, L_X9_lessens_110 (nI r1) v8_2 (fun  (M_6 : Mem) => K M_6) K k110 (0 : Int32) M_4)) K (d + 1) (oL (gcN (fun i => y1 i * y2 c - y2 i * y1 c) (i + 1) : Nat)) (nI (i + 1)) M2 := by
        refine ih (i + 1) (by omega) M2 (fun j hj => ?_) (fun j hj hj' => ?_) (frL_tr c3 (by rw [e2']; exact frL_w M1 (by omega) (by omega)))
        · by_cases q : j = i
          · rw [e2', q, wL_at]
          · rw [e2', wL_no (by omega)]; exact c1 j (by omega)
        · rw [e2', wL_no (by omega)]; exact c2 j (by omega) hj'
      rw [gL, nI_CL (by omega), e2', wL_at, ← e2']
      exact X9_common_sp (rg_n gl) hxi nx
  exact ⟨_, key 10 0 (by omega) M (fun j hj => absurd hj (Nat.not_lt_zero _)) (fun j _ hj => h1 j hj) (frL_rf _ _ _ M)⟩
