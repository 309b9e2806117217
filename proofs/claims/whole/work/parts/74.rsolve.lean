/-! the reference: solves -/
def frZ (M M' : Mem) : Prop := (∀ b, b ≠ 13 → M'.1 b = M.1 b) ∧ ∀ b, b ≠ 11 → b ≠ 12 → M'.2 b = M.2 b
theorem frZ_tr {M M1 M2 : Mem} (h : frZ M M1) (h' : frZ M1 M2) : frZ M M2 := ⟨fun b hb => by rw [h'.1 b hb, h.1 b hb], fun b hb hc => by rw [h'.2 b hb hc, h.2 b hb hc]⟩
theorem frZ_E {M M' : Mem} (h : frE M M') : frZ M M' := ⟨h.1, fun b hb _ => h.2 b hb⟩
theorem frZ_J {M M' : Mem} (h : frJ M M') : frZ M M' := ⟨fun b _ => by rw [h.1], fun b hb _ => h.2 b hb⟩
/-- only the row of numbers is written -/
def fr12 (M M' : Mem) : Prop := M'.1 = M.1 ∧ ∀ b, b ≠ 12 → M'.2 b = M.2 b
theorem fr12_tr {M M1 M2 : Mem} (h : fr12 M M1) (h' : fr12 M1 M2) : fr12 M M2 := ⟨by rw [h'.1, h.1], fun b hb => by rw [h'.2 b hb, h.2 b hb]⟩
theorem fr12_w {k : Nat} {x : Int64} (M : Mem) : fr12 M (wL M 12 k x) := ⟨rfl, fun b hb => wL_ne hb⟩
theorem rows_12 {M M' : Mem} {y : Nat → Nat → Int} (h : rows M y) (f : fr12 M M') : rows M' y := fun r hr i hi => by rw [f.2 11 (by decide)]; exact h r hr i hi
theorem PV_12 {M M' : Mem} {pc : Nat → Nat} {k c : Nat} (h : PV M pc k c) (f : fr12 M M') : PV M' pc k c := by unfold PV; rw [f.1]; exact h
theorem X9_sv23_sp {S f k0 : Nat} {pc : Nat → Nat} {M : Mem} {X : Int32 → Mem → Prop} {K : Int32 → Mem → Prop} (hS2 : S < 1024) (hf : f < 10) (hS : S.testBit f = true) (hn : ∀ k, k < k0 → pc k ≠ f) (hk8 : k0 ≤ 8) (hall : ∀ u, u < 10 → S.testBit u = true → u = f ∨ ∃ k, k < k0 ∧ pc k = u) (hP : PV M pc k0 10) (h : X (nI f) M) : ∃ g, L_X9_solves_23 (nI S) X K g 0 M := by
  have e : ∀ i, i < 10 → decide ((nI S >>> (nI i &&& 31)) &&& 1 = 1) = S.testBit i := fun i hi => bt_nI (n := S) (k := i) (by omega) (by omega)
  have key : ∀ d j, j + d = f → L_X9_solves_23 (nI S) X K (d + 1) (nI j) M := by
    intro d
    induction d with
    | zero =>
      intro j hj
      have : j = f := by omega
      subst this
      rw [L_X9_solves_23]
      refine X9_isOf_sp ⟨fun z => ?_, fun z => ⟨(vp_nI (by omega) (by omega)).mpr (by omega), fun _ => h, fun q => ?_⟩⟩
      · rw [e j hf, hS] at z; exact absurd z (by decide)
      · rw [gI, nI_CL (by omega)] at q
        rcases hP j hf with ⟨k, k1, k2, k3⟩ | ⟨k1, k2⟩
        · exact absurd k2 (hn k k1)
        · rw [k2] at q; exact absurd (by decide) q
    | succ d ih =>
      intro j hj
      rw [L_X9_solves_23, nI_A1]
      refine X9_isOf_sp ⟨fun z => ih (j + 1) (by omega), fun z => ⟨(vp_nI (by omega) (by omega)).mpr (by omega), fun q => ?_, fun q => ih (j + 1) (by omega)⟩⟩
      rw [gI, nI_CL (by omega)] at q
      rw [e j (by omega)] at z
      rcases hall j (by omega) (b_ofn z) with t | ⟨k, k1, k2⟩
      · omega
      · rcases hP j (by omega) with ⟨k', k1', k2', k3'⟩ | ⟨k1', k2'⟩
        · rw [k3'] at q; exact absurd q (nI_neg (by omega))
        · exact absurd k2 (k1' k k1)
  exact ⟨_, key f 0 (by omega)⟩
theorem sgI {a b : Int} (ra : rg a) (rb : rg b) (ha : a ≠ 0) (hb : b ≠ 0) : ((if oL a ≤ (0 : Int64) then (0 : Int32) else 1) = (if oL b ≤ (0 : Int64) then (0 : Int32) else 1)) ↔ ¬ opp a b := by
  unfold opp
  by_cases q1 : a ≤ 0
  · rw [if_pos (by rw [z_0, oL_LE ra rg_0]; exact q1)]
    by_cases q2 : b ≤ 0
    · rw [if_pos (by rw [z_0, oL_LE rb rg_0]; exact q2)]
      exact ⟨fun _ t => by omega, fun _ => rfl⟩
    · rw [if_neg (by rw [z_0, oL_LE rb rg_0]; exact q2)]
      exact ⟨fun t => absurd t (by decide), fun t => absurd ⟨hb, by omega⟩ t⟩
  · rw [if_neg (by rw [z_0, oL_LE ra rg_0]; exact q1)]
    by_cases q2 : b ≤ 0
    · rw [if_pos (by rw [z_0, oL_LE rb rg_0]; exact q2)]
      exact ⟨fun t => absurd t (by decide), fun t => absurd ⟨hb, by omega⟩ t⟩
    · rw [if_neg (by rw [z_0, oL_LE rb rg_0]; exact q2)]
      exact ⟨fun _ t => by omega, fun _ => rfl⟩
theorem X9_sv52_sp {f k0 Z : Nat} {m : Nat → Nat → Int} {pc : Nat → Nat} {M : Mem} {X : Int64 → Mem → Prop} {K : Int32 → Mem → Prop} (hf : f < 10) (hk8 : k0 ≤ 8) (hb : ∀ r, r < 10 → ∀ i, i < 10 → (m r i).natAbs ≤ 65610000) (hp : ∀ k, k < k0 → pc k < 10 ∧ m k (pc k) ≠ 0) (hi : ∀ k l, k < k0 → l < k0 → pc k = pc l → k = l) (hm : rows M m) (hP : PV M pc k0 10) (hZ : 0 < Z) (hZ2 : Z ≤ 655000000) (hZd : ∀ k, k < k0 → prA (m k (pc k)) (m k f) ∣ Z)
    (h0 : ∀ k, k < k0 → ¬ opp (m k (pc k)) (m k f) → ∀ M', fr12 M M' → K 0 M')
    (h1 : ∀ (M' : Mem) (L : Nat), 0 < L → L ≤ Z → (∀ k, k < k0 → prA (m k (pc k)) (m k f) ∣ L) → (∀ X : Nat, (∀ k, k < k0 → prA (m k (pc k)) (m k f) ∣ X) → L ∣ X) → (∀ k, k < k0 → opp (m k (pc k)) (m k f)) → (∀ i, i < 10 → M'.2 12 i = oL 0) → fr12 M M' → X (oL (L : Int)) M') : ∃ g, L_X9_solves_52 (nI f) X K g (oL 1) 0 M := by
  have rgs : ∀ {z : Int}, z.natAbs ≤ 65610000 → rg z := fun hz => by unfold rg; omega
  have key : ∀ d c, c + d = 10 → ∀ (M1 : Mem) (L : Nat), 0 < L → L ≤ Z → (∀ k, k < k0 → pc k < c → prA (m k (pc k)) (m k f) ∣ L) → (∀ X : Nat, (∀ k, k < k0 → pc k < c → prA (m k (pc k)) (m k f) ∣ X) → L ∣ X) → (∀ k, k < k0 → pc k < c → opp (m k (pc k)) (m k f)) → (∀ i, i < c → M1.2 12 i = oL 0) → fr12 M M1 → L_X9_solves_52 (nI f) X K (d + 1) (oL (L : Int)) (nI c) M1 := by
    intro d
    induction d with
    | zero =>
      intro c hc M1 L c1 c2 c3 c4 c5 c6 c7
      have : c = 10 := by omega
      subst this
      rw [L_X9_solves_52, l_10, nI_LE (by omega) (by omega)]
      exact ⟨fun _ => h1 M1 L c1 c2 (fun k hk => c3 k hk (hp k hk).1) (fun X hX => c4 X (fun k hk _ => hX k hk)) (fun k hk => c5 k hk (hp k hk).1) c6 c7, by omega⟩
    | succ d ih =>
      intro c hc M1 L c1 c2 c3 c4 c5 c6 c7
      rw [L_X9_solves_52, l_10, nI_LE (by omega) (by omega), vp_nI (by omega) (by omega), nI_CL (by omega), nI_A1]
      refine ⟨by omega, fun _ => ⟨by omega, fun M7 e7 => ?_⟩⟩
      have f7 : fr12 M M7 := fr12_tr c7 (by rw [e7]; exact fr12_w M1)
      have r7 := rows_12 hm f7
      have c6' : ∀ i, i < c + 1 → M7.2 12 i = oL 0 := fun i hi => by
        by_cases q : i = c
        · rw [e7, q, wL_at]; rfl
        · rw [e7, wL_no q]; exact c6 i (by omega)
      rw [gI, nI_CL (by omega)]
      rcases PV_12 hP f7 c (by omega) with ⟨k, k1, k2, k3⟩ | ⟨k1, k2⟩
      · rw [k3]
        have bk := hb k (by omega) c (by omega)
        have bf := hb k (by omega) f hf
        have a0 : m k c ≠ 0 := by rw [← k2]; exact (hp k k1).2
        rw [ix10, ix10, vp_nI (by omega) (by omega), vp_nI (by omega) (by omega), gL, gL, nI_CL (by omega), nI_CL (by omega), r7 k (by omega) c (by omega), r7 k (by omega) f hf]
        refine ⟨fun _ => ⟨by omega, fun x7 e7' => ⟨by omega, fun x9 e9 => ?_⟩⟩, fun q => absurd (show 0 ≤ nI k by rw [l_0, nI_LE (by omega) (by omega)]; omega) q⟩
        subst e7'
        subst e9
        rw [z_0, oL_EQ (rgs bf) rg_0]
        refine ⟨fun z => h0 k k1 (fun t => t.1 (by exact z)) M7 f7, fun z => ?_⟩
        rw [← z_0, sgI (rgs bk) (rgs bf) a0 z]
        have cn : (¬ ¬ opp (m k c) (m k f)) = opp (m k c) (m k f) := propext Classical.not_not
        rw [cn]
        refine ⟨fun t => ?_, fun t => h0 k k1 (by rw [k2]; exact t) M7 f7⟩
        obtain ⟨g0, e1, e2, e3, e4⟩ := pr_sp (b := m k f) a0
        have gle : Int.gcd (m k c) (m k f) ≤ 65610000 := Nat.le_trans (Nat.le_of_dvd (by omega) (Int.gcd_dvd_natAbs_left _ _)) bk
        have ple : prA (m k c) (m k f) ≤ 65610000 := Nat.le_trans (Nat.div_le_self _ _) bk
        refine X9_common_sp (rgs bk) (rgs bf) ⟨by rw [show (0 : Int64) = oL 0 from rfl, oL_EQ (rg_n (by omega)) rg_0]; omega, fun x11 e11 => ?_⟩
        rw [oL_ab' (rgs bk), oL_dn (by omega) (by omega)] at e11
        subst e11
        have gg : 0 < Nat.gcd L (prA (m k c) (m k f)) := Nat.gcd_pos_of_pos_left _ c1
        have ggl : Nat.gcd L (prA (m k c) (m k f)) ≤ L := Nat.le_of_dvd c1 (Nat.gcd_dvd_left _ _)
        have pz : ∀ k', k' < k0 → pc k' < c + 1 → (pc k' < c ∨ k' = k) := fun k' hk' q => by
          rcases Nat.lt_succ_iff_lt_or_eq.mp q with y | y
          · exact Or.inl y
          · exact Or.inr (hi k' k hk' k1 (by rw [y, k2]))
        refine X9_common_sp (a := (L : Int)) (b := ((prA (m k c) (m k f) : Nat) : Int)) (rg_n (by omega)) (rg_n (by omega)) ⟨by rw [show (0 : Int64) = oL 0 from rfl, show Int.gcd (L : Int) ((prA (m k c) (m k f) : Nat) : Int) = Nat.gcd L (prA (m k c) (m k f)) from rfl, oL_EQ (rg_n (by omega)) rg_0]; omega, fun x4 e4' => ?_⟩
        rw [show Int.gcd (L : Int) ((prA (m k c) (m k f) : Nat) : Int) = Nat.gcd L (prA (m k c) (m k f)) from rfl, oL_dn (by omega) (by omega)] at e4'
        have ex : oL ((m k c).natAbs / Int.gcd (m k c) (m k f) : Nat) = oL ((prA (m k c) (m k f) : Nat) : Int) := rfl
        rw [ex, oL_mn, Nat.div_mul_right_comm (Nat.gcd_dvd_left _ _), show L * prA (m k c) (m k f) / Nat.gcd L (prA (m k c) (m k f)) = Nat.lcm L (prA (m k c) (m k f)) from rfl] at e4'
        subst e4'
        have lz : Nat.lcm L (prA (m k c) (m k f)) ∣ Z := Nat.lcm_dvd (c4 Z (fun k hk _ => hZd k hk)) (by have := hZd k k1; rw [k2] at this; exact this)
        refine ih (c + 1) (by omega) M7 _ (Nat.lcm_pos c1 e4) (Nat.le_of_dvd hZ lz) (fun k' hk' q => ?_) (fun X hX => ?_) (fun k' hk' q => ?_) c6' f7
        · rcases pz k' hk' q with y | y
          · exact Nat.dvd_trans (c3 k' hk' y) (Nat.dvd_lcm_left _ _)
          · rw [y, k2]; exact Nat.dvd_lcm_right _ _
        · refine Nat.lcm_dvd (c4 X (fun k' hk' y => hX k' hk' (by omega))) ?_
          have := hX k k1 (by omega)
          rw [k2] at this; exact this
        · rcases pz k' hk' q with y | y
          · exact c5 k' hk' y
          · rw [y, k2]; exact t
      · rw [k2]
        have pz : ∀ k', k' < k0 → pc k' < c + 1 → pc k' < c := fun k' hk' q => by
          rcases Nat.lt_succ_iff_lt_or_eq.mp q with y | y
          · exact y
          · exact absurd y (k1 k' hk')
        refine ⟨fun q => absurd q (by decide), fun _ => ih (c + 1) (by omega) M7 L c1 c2 (fun k hk q => c3 k hk (pz k hk q)) (fun X hX => c4 X (fun k hk q => hX k hk (by omega))) (fun k hk q => c5 k hk (pz k hk q)) c6' f7⟩
  exact ⟨_, key 10 0 (by omega) M 1 (by omega) (by omega) (fun k hk q => absurd q (Nat.not_lt_zero _)) (fun X _ => Nat.one_dvd X) (fun k hk q => absurd q (Nat.not_lt_zero _)) (fun i hi => absurd hi (Nat.not_lt_zero _)) ⟨rfl, fun _ _ => rfl⟩⟩
theorem X9_sv212_sp {f k0 L : Nat} {m : Nat → Nat → Int} {pc : Nat → Nat} {M : Mem} {X : Mem → Prop} {K : Int32 → Mem → Prop} (hf : f < 10) (hk8 : k0 ≤ 8) (hL : 0 < L) (hL2 : L ≤ 655000000) (hb : ∀ r, r < 10 → ∀ i, i < 10 → (m r i).natAbs ≤ 65610000) (hp : ∀ k, k < k0 → pc k < 10 ∧ m k (pc k) ≠ 0) (hi : ∀ k l, k < k0 → l < k0 → pc k = pc l → k = l) (hm : rows M m) (hP : PV M pc k0 10)
    (h : ∀ M', (∀ k, k < k0 → M'.2 12 (pc k) = oL ((L / prA (m k (pc k)) (m k f) * prA (m k f) (m k (pc k)) : Nat) : Int)) → (∀ i, i < 10 → (∀ k, k < k0 → pc k ≠ i) → M'.2 12 i = M.2 12 i) → fr12 M M' → X M') : ∃ g, L_X9_solves_212 (nI f) (oL (L : Int)) X K g 0 M := by
  have rgs : ∀ {z : Int}, z.natAbs ≤ 65610000 → rg z := fun hz => by unfold rg; omega
  have key : ∀ d c, c + d = 10 → ∀ M1 : Mem, (∀ k, k < k0 → pc k < c → M1.2 12 (pc k) = oL ((L / prA (m k (pc k)) (m k f) * prA (m k f) (m k (pc k)) : Nat) : Int)) → (∀ i, i < 10 → (∀ k, k < k0 → pc k ≠ i) → M1.2 12 i = M.2 12 i) → fr12 M M1 → L_X9_solves_212 (nI f) (oL (L : Int)) X K (d + 1) (nI c) M1 := by
    intro d
    induction d with
    | zero =>
      intro c hc M1 c1 c2 c3
      rw [L_X9_solves_212, l_10, nI_LE (by omega) (by omega)]
      exact ⟨fun _ => h M1 (fun k hk => c1 k hk (by have := (hp k hk).1; omega)) c2 c3, by omega⟩
    | succ d ih =>
      intro c hc M1 c1 c2 c3
      have r1 := rows_12 hm c3
      rw [L_X9_solves_212, l_10, nI_LE (by omega) (by omega), vp_nI (by omega) (by omega), gI, nI_CL (by omega), nI_A1]
      rcases PV_12 hP c3 c (by omega) with ⟨k, k1, k2, k3⟩ | ⟨k1, k2⟩
      · rw [k3]
        have bk := hb k (by omega) c (by omega)
        have bf := hb k (by omega) f hf
        have a0 : m k c ≠ 0 := by rw [← k2]; exact (hp k k1).2
        obtain ⟨g0, e1, e2, e3, e4⟩ := pr_sp (b := m k f) a0
        have gle : Int.gcd (m k c) (m k f) ≤ 65610000 := Nat.le_trans (Nat.le_of_dvd (by omega) (Int.gcd_dvd_natAbs_left _ _)) bk
        have ple : prA (m k c) (m k f) ≤ 65610000 := Nat.le_trans (Nat.div_le_self _ _) bk
        rw [ix10, ix10, vp_nI (by omega) (by omega), vp_nI (by omega) (by omega), gL, gL, nI_CL (by omega), nI_CL (by omega), r1 k (by omega) c (by omega), r1 k (by omega) f hf]
        refine ⟨by omega, fun _ => ⟨by omega, fun q => absurd q (nI_neg (by omega)), fun _ => ⟨by omega, fun x7 e7 => ⟨by omega, fun x9 e9 => ?_⟩⟩⟩⟩
        subst e7
        subst e9
        refine X9_common_sp (rgs bk) (rgs bf) ?_
        have d1 : oL ((m k c).natAbs : Int) / oL (Int.gcd (m k c) (m k f) : Nat) = oL (prA (m k c) (m k f) : Nat) := oL_dn (by omega) (by omega)
        have d2 : oL ((m k f).natAbs : Int) / oL (Int.gcd (m k c) (m k f) : Nat) = oL (prA (m k f) (m k c) : Nat) := by rw [oL_dn (by omega) (by omega)]; unfold prA; rw [Int.gcd_comm (m k f)]
        have d3 : oL (L : Int) / oL (prA (m k c) (m k f) : Nat) = oL (L / prA (m k c) (m k f) : Nat) := oL_dn (by omega) (by omega)
        rw [oL_ab' (rgs bk), oL_ab' (rgs bf), d1, d2, d3, oL_mn, show (0 : Int64) = oL 0 from rfl, oL_EQ (rg_n (by omega)) rg_0, oL_EQ (rg_n (by omega)) rg_0]
        refine ⟨by omega, by omega, fun M13 e13 => ih (c + 1) (by omega) M13 (fun k' hk' q => ?_) (fun i hi' hne => ?_) (fr12_tr c3 (by rw [e13]; exact fr12_w M1))⟩
        · by_cases y : pc k' = c
          · have e5 := hi k' k hk' k1 (by rw [y, k2])
            rw [e5, k2, e13, wL_at]
          · rw [e13, wL_no y]; exact c1 k' hk' (by omega)
        · rw [e13, wL_no (fun e => hne k k1 (by rw [k2, e]))]; exact c2 i hi' hne
      · rw [k2]
        refine ⟨by omega, fun _ => ⟨by omega, fun _ => ih (c + 1) (by omega) M1 (fun k hk q => ?_) c2 c3, fun q => absurd (by decide) q⟩⟩
        rcases Nat.lt_succ_iff_lt_or_eq.mp q with y | y
        · exact c1 k hk y
        · exact absurd y (k1 k hk)
  exact ⟨_, key 10 0 (by omega) M (fun k hk q => absurd q (Nat.not_lt_zero _)) (fun _ _ _ => rfl) ⟨rfl, fun _ _ => rfl⟩⟩
