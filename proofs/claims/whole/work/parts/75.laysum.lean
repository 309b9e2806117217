/-! the reference: solves, whole; all sums and rows, siphons and traps -/
theorem nI_sb {a b : Nat} (h : b ≤ a) : nI a - nI b = nI (a - b) := by
  have : nI a = nI (a - b) + nI b := by rw [nI_add, Nat.sub_add_cancel h]
  rw [this, Int32.add_sub_cancel]
theorem AE_3 {n : NN} {tp ts : Nat} (h : WF n tp ts) (w : Bool) (S r i : Nat) : -3 ≤ AE n w S r i ∧ AE n w S r i ≤ 3 := by
  unfold AE
  split
  · exact CH_3 h w i r
  · omega
theorem AE_z {n : NN} {tp ts : Nat} (h : WF n tp ts) (w : Bool) (S : Nat) : (∀ r, 8 ≤ r → r < 10 → ∀ i, i < 10 → AE n w S r i = 0) ∨ (∀ r, r < 10 → ∀ i, 8 ≤ i → i < 10 → AE n w S r i = 0) := by
  cases w
  · refine Or.inl (fun r h1 h2 i hi => ?_)
    unfold AE CH
    split
    · rw [if_neg (by decide), if_neg (by omega)]
    · rfl
  · refine Or.inr (fun r hr i h1 h2 => ?_)
    unfold AE CH
    split
    · rw [if_pos rfl]
      unfold cgI
      rw [wf_G0s h hr (show ts ≤ i by have := h.2.1; omega), wf_T0s h hr (show ts ≤ i by have := h.2.1; omega)]; rfl
    · rfl
theorem X9_solves_sp {S tp ts : Nat} {n : NN} {w : Bool} {M : Mem} {K : Int32 → Mem → Prop} (hn : rt M 0 = enc n) (hwf : WF n tp ts) (hS2 : S < 1024)
    (h0 : ∀ M', (¬ ∃ y, Sup (CH n w) S y) → frZ M M' → K 0 M')
    (h1 : ∀ M', (∃ y, Sup (CH n w) S y) → (∀ i, i < 10 → M'.2 12 i = oL (yv (CH n w) S i) ∧ 0 ≤ yv (CH n w) S i ∧ yv (CH n w) S i ≤ 655000000) → frZ M M' → K 1 M') : f_X9_solves (bI w) (nI S) M K := by
  unfold f_X9_solves
  refine X9_layRows_sp hn hwf hS2 (fun M2 r2 f2 => X9_many_sp (by omega) (X9_eliminates_sp (AE_3 hwf w S) (AE_z hwf w S) r2 (fun M4 m R pc k0 g4 r4 p4 f4 => ?_)))
  have f04 : frZ M M4 := frZ_tr (frZ_J f2) (frZ_E f4)
  have k8 := g4.2.2.2.2.2.2.1
  have pl := pop_le S
  have cnt := gj_cnt g4
  have hC := CH_3 hwf w
  rw [nI_sb (by omega), nI_E1 (by omega)]
  refine ⟨fun q => ?_, fun q => h0 M4 (gj_no g4 (by omega)) f04⟩
  obtain ⟨f, a1, a2, a3, a4⟩ := gj_one g4 (by omega)
  obtain ⟨z, z1, ⟨z2, z2'⟩, z3, z4⟩ := gj_Z g4 hC a1 a2 a3
  have zr := (gj_row g4 a1 a3 z3 a2).mp z4
  have hb := GJ_b g4 (Nat.le_refl _) (Or.inr (fun r r1 r2 i hi => gj_low g4 r1 r2 hi))
  have hp : ∀ k, k < k0 → pc k < 10 ∧ m k (pc k) ≠ 0 := fun k hk => ⟨(g4.2.1 k hk).1, (g4.2.1 k hk).2.1⟩
  have hi : ∀ k l, k < k0 → l < k0 → pc k = pc l → k = l := fun k l hk hl e => gj_inj g4 hk hl e
  have zf := z2 f a1
  refine X9_sv23_sp hS2 a1 a2 a3 k8 a4 p4 (fun x4 e4 => ?_)
  subst e4
  refine X9_sv52_sp (Z := (z f).natAbs) a1 k8 hb hp hi r4 p4 (by omega) zf (fun k hk => pr_dvd (hp k hk).2 (zr k hk)) (fun k hk no M' f' => h0 M' (fun ⟨y, hy⟩ => no ?_) (frZ_tr f04 ⟨fun b _ => by rw [f'.1], fun b _ hb => f'.2 b hb⟩)) (fun M5 L l1 l2 l3 l4 l5 l6 f5 => ⟨(vp_nI (by omega) (by omega)).mpr a1, fun M11 e11 => ?_⟩)
  · have ys : ∀ u, u < 10 → y u ≠ 0 → u = f ∨ ∃ k, k < k0 ∧ pc k = u := fun u hu t => a4 u hu (by
      cases r : S.testBit u
      · exact absurd ((hy.1 u hu).2 r) t
      · rfl)
    exact opp_of ((hy.1 _ (hp k hk).1).1 (gj_S g4 hk)) ((hy.1 f a1).1 a2) (hp k hk).2 ((gj_row g4 a1 a3 ys a2).mp hy.2.1 k hk)
  · rw [nI_CL (by omega)] at e11
    have f11 : fr12 M4 M11 := fr12_tr f5 (by rw [e11]; exact fr12_w M5)
    refine X9_sv212_sp a1 k8 l1 (by omega) hb hp hi (rows_12 r4 f11) (PV_12 p4 f11) (fun M14 c1 c2 f14 => ?_)
    have fz : frZ M M14 := frZ_tr f04 ⟨fun b _ => by rw [f14.1, f11.1], fun b _ hb => by rw [f14.2 b hb, f11.2 b hb]⟩
    have vf : M14.2 12 f = oL (L : Int) := by rw [c2 f a1 a3, e11, wL_at]
    have v0 : ∀ u, u < 10 → S.testBit u = false → M14.2 12 u = oL 0 := fun u hu t => by
      have ne : u ≠ f := fun e => by rw [e, a2] at t; cases t
      rw [c2 u hu (fun k hk e => by rw [← e, gj_S g4 hk] at t; cases t), e11, wL_no ne]
      exact l6 u hu
    have vb : ∀ k, k < k0 → L / prA (m k (pc k)) (m k f) * prA (m k f) (m k (pc k)) ≤ 4611686018427387904 := fun k hk => by
      have h1 : L / prA (m k (pc k)) (m k f) ≤ 655000000 := Nat.le_trans (Nat.div_le_self _ _) (by omega)
      have h2 : prA (m k f) (m k (pc k)) ≤ 65610000 := Nat.le_trans (Nat.div_le_self _ _) (hb k (by omega) f a1)
      exact Nat.le_trans (Nat.mul_le_mul h1 h2) (by decide)
    have sp : Sup (CH n w) S (fun i => (M14.2 12 i).toInt) := gj_sup g4 a1 a2 a3 a4 l1 l3 l4 l5 _ (by rw [vf, oL_T (rg_n (by omega))]) (fun k hk => by rw [c1 k hk, oL_T (rg_n (vb k hk))]) (fun u hu t => by rw [v0 u hu t, oL_T rg_0])
    have yu := Sup_u (yv_sp ⟨_, sp⟩) sp
    have yb : ∀ i, i < 10 → 0 ≤ yv (CH n w) S i ∧ yv (CH n w) S i ≤ 655000000 := fun i hi => by
      have hy := yv_sp ⟨_, sp⟩
      have p : 0 ≤ yv (CH n w) S i := by
        cases t : S.testBit i
        · rw [(hy.1 i hi).2 t]; omega
        · have := (hy.1 i hi).1 t; omega
      obtain ⟨a, b, a0, e⟩ := hy.2.2.2 z (fun u hu t => by
        rcases z3 u hu t with e | ⟨k, k1, k2⟩
        · rw [e]; exact a2
        · rw [← k2]; exact gj_S g4 k1) z4
      have b0 : b ≠ 0 := fun t => by
        have := e f a1
        rw [t, Int.zero_mul] at this
        exact Int.mul_ne_zero a0 z1 this
      have sq := prm_le b0 a0 (fun i hi => (e i hi).symm) hy.2.2.1 i hi
      have zb := z2 i hi
      have e1 : z i * z i = ((z i).natAbs : Int) * ((z i).natAbs : Int) := by rw [← Int.natCast_mul, Int.natAbs_mul_self]
      rw [e1] at sq
      have := abs_sq sq
      omega
    exact h1 M14 ⟨_, sp⟩ (fun i hi => ⟨by rw [yu i hi]; exact (Int64.ofInt_toInt _).symm, yb i hi⟩) fz
def bN (w : Bool) : Nat := if w then 1 else 0
theorem bI_N (w : Bool) : bI w = nI (bN w) := by cases w <;> rfl
theorem bN_2 (w : Bool) : bN w < 2 := by cases w <;> decide
theorem dif_0 {a b : Nat} : dif a b = 0 ↔ sub a b = true := by
  rw [sub_iff]
  constructor
  · intro h i hi
    have := tb_dif a b i
    rw [h, Nat.zero_testBit, hi, Bool.true_and] at this
    cases q : b.testBit i
    · rw [q] at this; cases this
    · rfl
  · intro h
    refine Nat.eq_of_testBit_eq fun i => ?_
    rw [tb_dif, Nat.zero_testBit]
    cases q : a.testBit i
    · rfl
    · rw [h i q]; rfl
theorem dif_le (a b : Nat) : dif a b ≤ a := sub_le (dif_sub a b)
theorem and_dif {a b : Nat} (ha : a < 1024) : (nI a &&& (nI b ^^^ (-1 : Int32)) = 0) = (sub a b = true) := by
  have := dif_le a b
  rw [nI_dif, nI_Z (by omega)]
  exact propext dif_0
theorem X9_hasLess_sp {S : Nat} {w : Bool} {l : Nat → Bool} {M : Mem} {K : Int32 → Mem → Prop} (hS : S < 1024) (hl : ctB l 1024 ≤ 252) (he : enumOK (M.1 18 (bN w)) (M.1 16) (260 * bN w) l S) (h1 : (∃ r, r < S ∧ l r = true ∧ sub r S = true) → K 1 M) (h0 : (¬ ∃ r, r < S ∧ l r = true ∧ sub r S = true) → K 0 M) : f_X9_hasLess (bI w) (nI S) M K := by
  have b2 := bN_2 w
  have ct : ctB l S ≤ 252 := Nat.le_trans (ctB_mono _ (by omega)) hl
  unfold f_X9_hasLess
  rw [bI_N]
  have key : ∀ d k, k + d = ctB l S → (∀ r, r < S → l r = true → ctB l r < k → sub r S = false) → L_X9_hasLess_2 (nI (bN w)) (nI S) (fun M_2 => K 0 M_2) K (d + 1) (nI k) M := by
    intro d
    induction d with
    | zero =>
      intro k hk c
      rw [L_X9_hasLess_2, gI, nI_CL (by omega), he.1, vp_nI (by omega) (by omega), nI_LE (by omega) (by omega)]
      refine ⟨b2, fun _ => h0 (fun ⟨r, r1, r2, r3⟩ => ?_), by omega⟩
      have := c r r1 r2 (by have := ctB_lt r1 r2; omega)
      rw [r3] at this; cases this
    | succ d ih =>
      intro k hk c
      obtain ⟨m, m1, m2, m3, m4⟩ := enum_get he (k := k) (by omega)
      rw [L_X9_hasLess_2, gI, gI, nI_CL (by omega), he.1, vp_nI (by omega) (by omega), nI_LE (by omega) (by omega), l_260, pk_mul, nI_add, vp_nI (by omega) (by omega), nI_CL (by omega), m4, and_dif (by omega), nI_A1]
      refine ⟨b2, by omega, fun _ => ⟨by omega, fun z => ih (k + 1) (by omega) (fun r r1 r2 r3 => ?_), fun z => h1 ⟨m, m1, m2, z⟩⟩⟩
      rcases Nat.lt_succ_iff_lt_or_eq.mp r3 with y | y
      · exact c r r1 r2 y
      · have : r = m := ctB_inj r2 m2 (by rw [y, m3])
        rw [this, ← Bool.not_eq_true]; exact z
  exact ⟨_, key (ctB l S) 0 (by omega) (fun r _ _ h => absurd h (Nat.not_lt_zero _))⟩
theorem lst_new {a b : Nat → Nat} {P S : Nat} (hS : S < 1024) (h0 : S ≠ 0) (hP : sub S P = true) (hc : cl a b S = true) : lst a b P S = true ↔ ¬ ∃ r, r < S ∧ lst a b P r = true ∧ sub r S = true := by
  constructor
  · intro h ⟨r, r1, r2, r3⟩
    have := lst_anti r S (by omega) hS r2 h r3
    omega
  · intro h
    rw [lst_iff hS]
    refine ⟨h0, hP, hc, fun q q0 qS qs => ?_⟩
    cases t : cl a b q
    · rfl
    · have ql : q < S := by have := sub_le qs; omega
      obtain ⟨r, r1, r2, r3⟩ := lst_in (P := P) q (by omega) q0 (sub_iff.mpr fun i hi => sub_iff.mp hP i (sub_iff.mp qs i hi)) t
      exact absurd ⟨r, by omega, r3, sub_iff.mpr fun i hi => sub_iff.mp qs i (sub_iff.mp r2 i hi)⟩ h
/-- sums (or rows) below b, as the reference has them -/
def rSw (M : Mem) (w : Bool) (C : Nat → Nat → Int) (U b : Nat) : Prop := enumOK (M.1 17 (bN w)) (M.1 14) (260 * bN w) (gdB C U) b ∧ ∀ S, S < b → gdB C U S = true → ∀ i, i < 10 → M.1 15 (10 * (260 * bN w + ctB (gdB C U) S) + i) = nI (yv C S i).toNat
theorem rSw_f {M : Mem} {w : Bool} {C : Nat → Nat → Int} {U b : Nat} (h : rSw M w C U b) (hg : gdB C U b = false) : rSw M w C U (b + 1) := ⟨enum_f h.1 hg, fun S hS hgS => by
  rcases Nat.lt_succ_iff_lt_or_eq.mp hS with y | y
  · exact h.2 S y hgS
  · rw [y, hg] at hgS; cases hgS⟩
def frQ (M M' : Mem) : Prop := (∀ b, b ≠ 13 → b ≠ 14 → b ≠ 15 → b ≠ 16 → b ≠ 17 → b ≠ 18 → M'.1 b = M.1 b) ∧ ∀ b, b ≠ 11 → b ≠ 12 → M'.2 b = M.2 b
theorem frQ_tr {M M1 M2 : Mem} (h : frQ M M1) (h' : frQ M1 M2) : frQ M M2 := ⟨fun b a c d e f g => by rw [h'.1 b a c d e f g, h.1 b a c d e f g], fun b hb hc => by rw [h'.2 b hb hc, h.2 b hb hc]⟩
theorem frQ_rf (M : Mem) : frQ M M := ⟨fun _ _ _ _ _ _ _ => rfl, fun _ _ _ => rfl⟩
theorem frQ_rt {M M' : Mem} (h : frQ M M') (o : Nat) : rt M' o = rt M o := by
  unfold rt
  rw [h.1 1 (by decide) (by decide) (by decide) (by decide) (by decide) (by decide), h.1 2 (by decide) (by decide) (by decide) (by decide) (by decide) (by decide), h.1 3 (by decide) (by decide) (by decide) (by decide) (by decide) (by decide), h.1 4 (by decide) (by decide) (by decide) (by decide) (by decide) (by decide), h.1 5 (by decide) (by decide) (by decide) (by decide) (by decide) (by decide)]
theorem frQ_rA {M M' : Mem} (h : frQ M M') (b : Bool) : rA M' b = rA M b := by
  unfold rA
  cases b
  · rw [if_neg (by decide), h.1 2 (by decide) (by decide) (by decide) (by decide) (by decide) (by decide)]
  · rw [if_pos rfl, h.1 1 (by decide) (by decide) (by decide) (by decide) (by decide) (by decide)]
theorem X9_ls105_sp {S D : Nat} {v1 v2 : Int32} {y : Nat → Int} {M : Mem} {X K : Mem → Prop} (hD : D < 520) (hy : ∀ i, i < 10 → M.2 12 i = oL (y i) ∧ 0 ≤ y i ∧ y i ≤ 655000000) (h : ∀ M', (∀ i, i < 10 → M'.1 15 (10 * D + i) = nI (y i).toNat) → (∀ j, j < 10 * D ∨ 10 * D + 10 ≤ j → M'.1 15 j = M.1 15 j) → fr1 15 M M' → X M') : ∃ g, L_X9_laySums_105 v1 v2 (nI S) (nI D) X K g 0 M := by
  have key : ∀ d i, i + d = 10 → ∀ M1 : Mem, (∀ j, j < i → M1.1 15 (10 * D + j) = nI (y j).toNat) → (∀ j, j < 10 * D ∨ 10 * D + 10 ≤ j → M1.1 15 j = M.1 15 j) → fr1 15 M M1 → L_X9_laySums_105 v1 v2 (nI S) (nI D) X K (d + 1) (nI i) M1 := by
    intro d
    induction d with
    | zero =>
      intro i hi M1 c1 c2 c3
      rw [L_X9_laySums_105, l_10, nI_LE (by omega) (by omega)]
      exact ⟨fun _ => h M1 (fun j hj => c1 j (by omega)) c2 c3, by omega⟩
    | succ d ih =>
      intro i hi M1 c1 c2 c3
      obtain ⟨y1, y2, y3⟩ := hy i (by omega)
      have e : (oL (y i)).toInt32 = nI (y i).toNat := by
        have := o2i (a := (y i).toNat) (by omega)
        rw [Int.toNat_of_nonneg y2] at this
        exact this
      rw [L_X9_laySums_105, l_10, nI_LE (by omega) (by omega), vp_nI (by omega) (by omega), ix10, vp_nI (by omega) (by omega), nI_CL (by omega), gL, nI_CL (by omega), c3.2, y1, e, nI_A1]
      refine ⟨by omega, fun _ => ⟨by omega, by omega, fun M8 e8 => ih (i + 1) (by omega) M8 (fun j hj => ?_) (fun j hj => by rw [e8, w1_no (by omega), c2 j hj]) (by rw [e8]; exact fr1_tr c3 (fr1_w M1))⟩⟩
      by_cases q : j = i
      · rw [e8, q, w1_at]
      · rw [e8, w1_no (by omega)]; exact c1 j (by omega)
  exact ⟨_, key 10 0 (by omega) M (fun j hj => absurd hj (Nat.not_lt_zero _)) (fun _ _ => rfl) (fr1_rf _ M)⟩
theorem gd_0 (C : Nat → Nat → Int) (U : Nat) : gdB C U 0 = false := pB_f (fun ⟨_, y, hy⟩ => by
  obtain ⟨u, hu, q⟩ := prm_nz hy.2.2.1
  exact q ((hy.1 u hu).2 (Nat.zero_testBit u)))
theorem lst_0 (a b : Nat → Nat) (P : Nat) : lst a b P 0 = false := rfl
