/-! the class: rows of steps, laid and cleared -/
def SR (n : NN) (am : Nat → Nat) (r i : Nat) : Int := if i < 8 then cgI n i r else if (nP n).testBit r = true then (am r : Int) - (nH n r : Int) else 0
theorem SR_s {n : NN} {tp ts : Nat} {am : Nat → Nat} (h : WF n tp ts) (ha : ∀ p, am p ≤ 999) (r : Nat) : sml (SR n am r) := by
  refine ⟨fun i hi => ?_, ?_⟩
  · unfold SR; rw [if_pos hi]; exact cgI_3 h i r
  · unfold SR
    rw [if_neg (by omega)]
    have := ha r
    have := wf_H h r
    split <;> omega
theorem nI_dL2 {a b : Nat} (ha : a ≤ 999) (hb : b ≤ 999) : (nI a - nI b).toInt64 = oL ((a : Int) - (b : Int)) := by
  rw [i2l, i_sub (by rw [i_nI (by omega), i_nI (by omega)]; omega) (by rw [i_nI (by omega), i_nI (by omega)]; omega), i_nI (by omega), i_nI (by omega)]
def rw9 (M : Mem) (y : Nat → Nat → Int) : Prop := ∀ r, r < 10 → rwL M 126 9 r (y r)
def frS6 (M M' : Mem) : Prop := M'.1 = M.1 ∧ ∀ b, b ≠ 126 → M'.2 b = M.2 b
theorem frS6_tr {M M1 M2 : Mem} (h : frS6 M M1) (h' : frS6 M1 M2) : frS6 M M2 := ⟨by rw [h'.1, h.1], fun b hb => by rw [h'.2 b hb, h.2 b hb]⟩
theorem X6_lr10_sp {nc r tp ts : Nat} {n : NN} {M : Mem} {X K : Mem → Prop} (hn : atC M nc n tp ts) (hr : r < 10) (h : ∀ M', (∀ i, i < 8 → M'.2 126 (9 * r + i) = oL (cgI n i r)) → frL 126 (9 * r) 9 M M' → X M') : ∃ g, L_X6_layRows_10 nc (nI r) X K g 0 M := by
  have key : ∀ d i, i + d = 8 → ∀ M1 : Mem, (∀ j, j < i → M1.2 126 (9 * r + j) = oL (cgI n j r)) → frL 126 (9 * r) 9 M M1 → L_X6_layRows_10 nc (nI r) X K (d + 1) (nI i) M1 := by
    intro d
    induction d with
    | zero =>
      intro i hi M1 c1 c2
      rw [L_X6_layRows_10, l_8, nI_LE (by omega) (by omega)]
      exact ⟨fun _ => h M1 (fun j hj => c1 j (by omega)) c2, by omega⟩
    | succ d ih =>
      intro i hi M1 c1 c2
      have hn1 := atC_1 hn c2.1
      rw [L_X6_layRows_10, l_8, nI_LE (by omega) (by omega), l_9, ixL, vp_nI (by omega) (by omega), nI_CL (by omega), nI_A1]
      refine ⟨by omega, fun _ => X1_change_sp (by omega) hr ⟨by omega, fun M3 e3 => ?_⟩⟩
      rw [ac_G hn1 (by omega), ac_T hn1 (by omega), nI_dL (wf_G3 hn.2.2.2 _) (wf_T3 hn.2.2.2 _)] at e3
      refine ih (i + 1) (by omega) M3 (fun j hj => ?_) (frL_tr c2 (by rw [e3]; exact frL_w M1 (by omega) (by omega)))
      by_cases q : j = i
      · rw [e3, q, wL_at]; rfl
      · rw [e3, wL_no (by omega)]; exact c1 j (by omega)
  exact ⟨_, key 8 0 (by omega) M (fun j hj => absurd hj (Nat.not_lt_zero _)) (frL_rf _ _ _ M)⟩
theorem X6_layRows_sp {nc tp ts : Nat} {n : NN} {am : Nat → Nat} {M : Mem} {K : Mem → Prop} (hn : atC M nc n tp ts) (ha : ∀ p, p < 10 → M.1 125 p = nI (am p)) (ha9 : ∀ p, am p ≤ 999) (h : ∀ M', rw9 M' (SR n am) → frS6 M M' → K M') : f_X6_layRows nc M K := by
  unfold f_X6_layRows
  have hP := wf_P hn.2.2.2
  have key : ∀ d r, r + d = 10 → ∀ M1 : Mem, (∀ j, j < r → rwL M1 126 9 j (SR n am j)) → frS6 M M1 → L_X6_layRows_2 nc (fun M_8 => K M_8) K (d + 1) (nI r) M1 := by
    intro d
    induction d with
    | zero =>
      intro r hr M1 c1 c2
      rw [L_X6_layRows_2, l_10, nI_LE (by omega) (by omega)]
      exact ⟨fun _ => h M1 (fun j hj => c1 j (by omega)) c2, by omega⟩
    | succ d ih =>
      intro r hr M1 c1 c2
      have hn1 := atC_1 hn c2.1
      rw [L_X6_layRows_2, nI_A1, l_10, nI_LE (by omega) (by omega)]
      refine ⟨by omega, fun _ => X6_lr10_sp hn1 (by omega) (fun M4 r4 f4 => ?_)⟩
      have hn4 := atC_1 hn1 f4.1
      have nx : ∀ z : Int64, z = oL (SR n am r 8) → vp_in (nI r * 9 + 8) 90 ∧ ∀ M_7 : Mem, M_7 = wL M4 126 (nI r * 9 + 8).toNatClampNeg z → L_X6_layRows_2 nc (fun M_8 => K M_8) K (d + 1) (nI (r + 1)) M_7 := fun z ez => by
        rw [l_9, l_8, ixL, nI_CL (by omega)]
        refine ⟨(vp_nI (by omega) (by omega)).mpr (by omega), fun M7 e7 => ih (r + 1) (by omega) M7 (fun j hj => ?_) (frS6_tr c2 ⟨by rw [e7]; exact f4.1, fun b hb => by rw [e7, wL_ne hb]; exact f4.2.1 b hb⟩)⟩
        by_cases q : j = r
        · rw [q]
          intro i hi
          by_cases t : i = 8
          · rw [t, e7, wL_at, ez]
          · rw [e7, wL_no (by omega), r4 i (by omega)]; unfold SR; rw [if_pos (by omega)]
        · intro i hi
          rw [e7, wL_no (by omega)]
          exact rwL_fr (c1 j (by omega)) f4 q i hi
      refine X1_hasPlace_sp ?_
      unfold S_X6_layRows_56
      rw [isPl_bt (by omega), ac_P hn4, bt_nI (by omega) (by omega)]
      refine ⟨fun q => nx _ ?_, fun q => ⟨(vp_nI (by omega) (by omega)).mpr (by omega), nx _ ?_⟩⟩
      · unfold SR; rw [if_neg (by omega), b_of0 q]; rfl
      · have m4 : M4.1 = M.1 := by rw [f4.1, c2.1]
        rw [gI, gI, nI_CL (by omega), ac_H hn4 (by omega), m4, ha r (by omega), nI_dL2 (ha9 r) (wf_H hn.2.2.2 r)]
        unfold SR; rw [if_neg (by omega), b_ofn q, if_pos rfl]
  exact ⟨_, key 10 0 (by omega) M (fun j hj => absurd hj (Nat.not_lt_zero _)) ⟨rfl, fun _ _ => rfl⟩⟩
theorem bit0_n {u r : Nat} (hu : u < 1024) (hr : r < 10) : (((nI u >>> (nI r &&& 31)) &&& (1 : Int32)) = 0) = (u.testBit r = false) := by
  have e : bt (nI u) r = u.testBit r := bt_nI (by omega) (by omega)
  refine propext ⟨fun q => ?_, fun q => ?_⟩
  · rw [← e]; exact decide_eq_false (bit_0.mp q)
  · rw [← e] at q; exact bit_0.mpr (of_decide_eq_false q)
theorem X6_freeRowWith_sp {s u : Nat} {y : Nat → Nat → Int} {M : Mem} {K : Int32 → Mem → Prop} (hs : s < 8) (hu : u < 1024) (hg : ∀ r t, r < 10 → t < 9 → rg (y r t)) (hy : rw9 M y) (h0 : (∀ r, r < 10 → u.testBit r = false → y r s = 0) → K (-1) M) (h1 : ∀ r, r < 10 → u.testBit r = false → y r s ≠ 0 → K (nI r) M) : f_X6_freeRowWith (nI s) (nI u) M K := by
  unfold f_X6_freeRowWith
  have key : ∀ d r, r + d = 10 → (∀ r', r' < r → u.testBit r' = false → y r' s = 0) → L_X6_freeRowWith_2 (nI s) (nI u) (fun M_2 => K (-1) M_2) K (d + 1) (nI r) M := by
    intro d
    induction d with
    | zero =>
      intro r hr c
      rw [L_X6_freeRowWith_2, l_10, nI_LE (by omega) (by omega)]
      exact ⟨fun _ => h0 (fun r' hr' => c r' (by omega)), by omega⟩
    | succ d ih =>
      intro r hr c
      have nx : (u.testBit r = false → y r s = 0) → L_X6_freeRowWith_2 (nI s) (nI u) (fun M_2 => K (-1) M_2) K (d + 1) (nI (r + 1)) M := fun q => ih (r + 1) (by omega) (fun r' hr' => by
        rcases Nat.lt_succ_iff_lt_or_eq.mp hr' with t | t
        · exact c r' t
        · rw [t]; exact q)
      rw [L_X6_freeRowWith_2, l_10, nI_LE (by omega) (by omega), bit0_n hu (by omega), l_9, ixL, vp_nI (by omega) (by omega), gL, nI_CL (by omega), hy r (by omega) s (by omega), z_0, oL_EQ (hg r s (by omega) (by omega)) rg_0, nI_A1]
      exact ⟨by omega, fun _ => ⟨fun q => nx (fun t => absurd t q), fun q => ⟨by omega, fun t => nx (fun _ => t), fun t => h1 r (by omega) q t⟩⟩⟩
  exact ⟨_, key 10 0 (by omega) (fun r' hr' => absurd hr' (Nat.not_lt_zero _))⟩
def UM (u : Nat) (rw' : Nat → Nat) (k : Nat) : Prop := u < 1024 ∧ ∀ r, r < 10 → (u.testBit r = true ↔ ∃ i, i < k ∧ rw' i = r)
theorem X6_sr40_sp {s u r0 : Nat} {y : Nat → Nat → Int} {M : Mem} {X : Mem → Prop} {K : Int32 → Mem → Prop} (hs : s < 8) (hu : u < 1024) (hr0 : r0 < 10) (h0 : u.testBit r0 = true) (hb0 : bd9 (y r0)) (hy0 : y r0 s ≠ 0) (hb : ∀ r, r < 10 → u.testBit r = false → bd9 (y r)) (hy : rw9 M y)
    (h : ∀ M' y', rw9 M' y' → (∀ r, r < 10 → u.testBit r = true → y' r = y r) → (∀ r, r < 10 → u.testBit r = false → y' r = clr9 (y r0) s (y r)) → frS6 M M' → X M') : ∃ g, L_X6_solveRows_40 (nI u) (nI s) (nI r0) X K g 0 M := by
  have rgb : ∀ {v : Nat → Int}, bd9 v → rg (v s) := fun hv => by have := hv.1 s hs; unfold rg; omega
  have key : ∀ d r, r + d = 10 → ∀ (M1 : Mem) y1, rw9 M1 y1 → (∀ r', r' < 10 → u.testBit r' = true → y1 r' = y r') → (∀ r', r' < r → u.testBit r' = false → y1 r' = clr9 (y r0) s (y r')) → (∀ r', r ≤ r' → r' < 10 → y1 r' = y r') → frS6 M M1 → L_X6_solveRows_40 (nI u) (nI s) (nI r0) X K (d + 1) (nI r) M1 := by
    intro d
    induction d with
    | zero =>
      intro r hr M1 y1 c1 c2 c3 c4 c5
      rw [L_X6_solveRows_40, l_10, nI_LE (by omega) (by omega)]
      exact ⟨fun _ => h M1 y1 c1 c2 (fun r' hr' => c3 r' (by omega)) c5, by omega⟩
    | succ d ih =>
      intro r hr M1 y1 c1 c2 c3 c4 c5
      rw [L_X6_solveRows_40, l_10, nI_LE (by omega) (by omega), bit0_n hu (by omega), nI_A1]
      refine ⟨by omega, fun _ => ⟨fun q => ih (r + 1) (by omega) M1 y1 c1 c2 (fun r' hr' t => ?_) (fun r' h1 h2 => c4 r' (by omega) h2) c5, fun q => ?_⟩⟩
      · rcases Nat.lt_succ_iff_lt_or_eq.mp hr' with y | y
        · exact c3 r' y t
        · rw [y] at t; exact absurd t q
      · have ne : r ≠ r0 := fun e => by rw [e, h0] at q; cases q
        have b := hb r (by omega) q
        have r1 : rwL M1 126 9 r (y r) := by have := c1 r (by omega); rw [c4 r (Nat.le_refl _) (by omega)] at this; exact this
        have r2 : rwL M1 126 9 r0 (y r0) := by have := c1 r0 hr0; rw [c2 r0 hr0 h0] at this; exact this
        rw [l_9]
        refine X8_clearColumn_sp (A := 126) (wd := 9) (by omega) (by omega) (by show 9 * r + 9 ≤ 90; omega) (by show 9 * r0 + 9 ≤ 90; omega) (by show 90 < 1000; omega) ne r1 r2 (rgb b) (rgb hb0) (fun i hi => rg_99 (bd_9 b hi) (hb0.1 s hs) (bd_9 hb0 hi) (b.1 s hs)) (fun t => ?_) (fun M' t1 t2 rr f' => ?_)
        · have t : y r s = 0 := t.resolve_left hy0
          refine ih (r + 1) (by omega) M1 y1 c1 c2 (fun r' hr' t' => ?_) (fun r' h1 h2 => c4 r' (by omega) h2) c5
          rcases Nat.lt_succ_iff_lt_or_eq.mp hr' with z | z
          · exact c3 r' z t'
          · rw [z, c4 r (Nat.le_refl _) (by omega)]; unfold clr9; rw [if_pos t]
        · refine ih (r + 1) (by omega) M' (fun r' => if r' = r then clr9 (y r0) s (y r) else y1 r') (fun r' hr' => ?_) (fun r' hr' t' => ?_) (fun r' hr' t' => ?_) (fun r' h1 h2 => ?_) (frS6_tr c5 ⟨f'.1, f'.2.1⟩)
          · dsimp only
            by_cases z : r' = r
            · rw [if_pos z, z]; unfold clr9; rw [if_neg t2]; exact rr
            · rw [if_neg z]; exact rwL_fr (c1 r' hr') f' z
          · rw [if_neg (fun e => by rw [e, q] at t'; cases t')]; exact c2 r' hr' t'
          · by_cases z : r' = r
            · rw [if_pos z, z]
            · rw [if_neg z]; exact c3 r' (by omega) t'
          · rw [if_neg (by omega)]; exact c4 r' (by omega) h2
  exact ⟨_, key 10 0 (by omega) M y hy (fun _ _ _ => rfl) (fun r' hr' => absurd hr' (Nat.not_lt_zero _)) (fun _ _ _ => rfl) ⟨rfl, fun _ _ => rfl⟩⟩
theorem X6_cw13_sp {r : Nat} {y : Nat → Nat → Int} {M : Mem} {X : Int64 → Mem → Prop} {K : Int32 → Mem → Prop} (hr : r < 10) (hg : ∀ r t, r < 10 → t < 9 → rg (y r t)) (hy : rw9 M y) (h : X (oL (gcN (y r) 8 : Nat)) M) : ∃ g, L_X6_canBeWhole_13 (nI r) X K g (0 : Int64) 0 M := by
  have key : ∀ d i, i + d = 8 → L_X6_canBeWhole_13 (nI r) X K (d + 1) (oL (gcN (y r) i : Nat)) (nI i) M := by
    intro d
    induction d with
    | zero =>
      intro i hi
      have : i = 8 := by omega
      subst this
      rw [L_X6_canBeWhole_13, l_8, nI_LE (by omega) (by omega)]
      exact ⟨fun _ => h, by omega⟩
    | succ d ih =>
      intro i hi
      have gl := gcN_le (x := y r) (n := i) (fun j hj => hg r j hr (by omega))
      rw [L_X6_canBeWhole_13, l_8, nI_LE (by omega) (by omega), l_9, ixL, vp_nI (by omega) (by omega), gL, nI_CL (by omega), hy r hr i (by omega), nI_A1]
      exact ⟨by omega, fun _ => ⟨by omega, X8_commonDivisor_sp (rg_n gl) (hg r i hr (by omega)) (ih (i + 1) (by omega))⟩⟩
  exact ⟨_, key 8 0 (by omega)⟩
theorem X6_canBeWhole_sp {y : Nat → Nat → Int} {M : Mem} {K : Int32 → Mem → Prop} (hg : ∀ r t, r < 10 → t < 9 → rg (y r t)) (hy : rw9 M y) (h1 : (∀ r, r < 10 → ((gcN (y r) 8 : Nat) : Int) ∣ y r 8) → K 1 M) (h0 : ∀ r, r < 10 → ¬ ((gcN (y r) 8 : Nat) : Int) ∣ y r 8 → K 0 M) : f_X6_canBeWhole M K := by
  unfold f_X6_canBeWhole
  have key : ∀ d r, r + d = 10 → (∀ r', r' < r → ((gcN (y r') 8 : Nat) : Int) ∣ y r' 8) → L_X6_canBeWhole_2 (fun M_4 => K 1 M_4) K (d + 1) (nI r) M := by
    intro d
    induction d with
    | zero =>
      intro r hr c
      rw [L_X6_canBeWhole_2, l_10, nI_LE (by omega) (by omega)]
      exact ⟨fun _ => h1 (fun r' hr' => c r' (by omega)), by omega⟩
    | succ d ih =>
      intro r hr c
      have gl := gcN_le (x := y r) (n := 8) (fun i hi => hg r i (by omega) (by omega))
      have nx : ((gcN (y r) 8 : Nat) : Int) ∣ y r 8 → L_X6_canBeWhole_2 (fun M_4 => K 1 M_4) K (d + 1) (nI (r + 1)) M := fun q => ih (r + 1) (by omega) (fun r' hr' => by
        rcases Nat.lt_succ_iff_lt_or_eq.mp hr' with t | t
        · exact c r' t
        · rw [t]; exact q)
      rw [L_X6_canBeWhole_2, l_10, nI_LE (by omega) (by omega), nI_A1]
      refine ⟨by omega, fun _ x2 e2 => ?_⟩
      subst e2
      refine X6_cw13_sp (by omega) hg hy ?_
      rw [l_9, l_8, ixL, vp_nI (by omega) (by omega), gL, nI_CL (by omega), hy r (by omega) 8 (by omega)]
      refine ⟨by omega, fun x4 e4 => ?_⟩
      subst e4
      have r8 := hg r 8 (by omega) (by omega)
      have rt : rg ((y r 8).tmod (gcN (y r) 8 : Nat)) := by
        have := Int.natAbs_tmod (y r 8) ((gcN (y r) 8 : Nat) : Int)
        have h9 := Nat.mod_le (y r 8).natAbs ((gcN (y r) 8 : Nat) : Int).natAbs
        unfold rg at *; omega
      rw [oL_rem r8 (rg_n gl), z_0, oL_EQ (rg_n gl) rg_0, oL_EQ r8 rg_0, oL_EQ rt rg_0]
      refine ⟨fun q => ⟨q, fun t => nx (Int.dvd_of_tmod_eq_zero t), fun t => h0 r (by omega) (fun z => t (Int.tmod_eq_zero_of_dvd z))⟩, fun q => ⟨fun t => nx (by rw [q, t]; exact Int.dvd_refl _), fun t => h0 r (by omega) (fun z => ?_)⟩⟩
      rw [q] at z
      exact t (Int.zero_dvd.mp z)
  exact ⟨_, key 10 0 (by omega) (fun r' hr' => absurd hr' (Nat.not_lt_zero _))⟩
/-- which row each step has -/
def RO (M : Mem) (rw' c : Nat → Nat) (k s : Nat) : Prop := ∀ s', s ≤ s' → s' < 8 → (∃ i, i < k ∧ c i = s' ∧ M.1 127 s' = nI (rw' i)) ∨ ((∀ i, i < k → c i ≠ s') ∧ M.1 127 s' = -1)
theorem X6_solveRows_sp {R : Nat → Nat → Int} {M : Mem} {K : Int32 → Mem → Prop} (hR : ∀ r, sml (R r)) (hy : rw9 M R)
    (h1 : ∀ M' y rw' c k, SE R y rw' c k 0 → (∀ r, r < 10 → ((gcN (y r) 8 : Nat) : Int) ∣ y r 8) → rw9 M' y → RO M' rw' c k 0 → (∀ b, b ≠ 127 → M'.1 b = M.1 b) → (∀ b, b ≠ 126 → M'.2 b = M.2 b) → K 1 M')
    (h0 : ∀ M' y rw' c k r, SE R y rw' c k 0 → r < 10 → ¬ ((gcN (y r) 8 : Nat) : Int) ∣ y r 8 → (∀ b, b ≠ 127 → M'.1 b = M.1 b) → (∀ b, b ≠ 126 → M'.2 b = M.2 b) → K 0 M') : f_X6_solveRows M K := by
  unfold f_X6_solveRows
  have key : ∀ s, s ≤ 8 → ∀ (M1 : Mem) y rw' c k u, SE R y rw' c k s → UM u rw' k → rw9 M1 y → RO M1 rw' c k s → (∀ b, b ≠ 127 → M1.1 b = M.1 b) → (∀ b, b ≠ 126 → M1.2 b = M.2 b) → L_X6_solveRows_5 (fun M_6 => f_X6_canBeWhole M_6 (fun (r_3 : Int32) (M_7 : Mem) => (r_3 &&& 1 = r_3) ∧ K r_3 M_7)) K (s + 1) (nI u) (nI s - 1) M1 := by
    intro s
    induction s with
    | zero =>
      intro _ M1 y rw' c k u g1 g2 g3 g4 g5 g6
      rw [L_X6_solveRows_5]
      refine ⟨fun _ => X6_canBeWhole_sp g1.2.2.2.2.2.1 g3 (fun q => ⟨by decide, h1 M1 y rw' c k g1 q g3 g4 g5 g6⟩) (fun r hr q => ⟨by decide, h0 M1 y rw' c k r g1 hr q g5 g6⟩), fun q => absurd (show nI 0 - 1 < 0 by decide) q⟩
    | succ s ih =>
      intro hs M1 y rw' c k u g1 g2 g3 g4 g5 g6
      have hk := g1.2.2.2.2.2.2.1
      have fu : ∀ r, r < 10 → (u.testBit r = false ↔ ∀ i, i < k → rw' i ≠ r) := fun r hr => by
        constructor
        · intro q i hi e
          rw [(g2.2 r hr).mpr ⟨i, hi, e⟩] at q; cases q
        · intro q
          cases t : u.testBit r
          · rfl
          · obtain ⟨i, i1, i2⟩ := (g2.2 r hr).mp t
            exact absurd i2 (q i i1)
      have em : nI s + (-1) = nI s - 1 := by rw [Int32.sub_eq_add_neg]
      rw [nI_s1, L_X6_solveRows_5, em, nI_CL (by omega)]
      refine ⟨fun q => absurd q (nI_neg (by omega)), fun _ => X6_freeRowWith_sp (by omega) g2.1 g1.2.2.2.2.2.1 g3 (fun q => ⟨(vp_nI (by omega) (by omega)).mpr (by omega), fun M3 e3 => ⟨fun t => absurd rfl t, fun _ => ?_⟩⟩) (fun r0 hr0 q t => ⟨(vp_nI (by omega) (by omega)).mpr (by omega), fun M3 e3 => ⟨fun _ x1 e1 => ?_, fun z => absurd z (nI_M (by omega))⟩⟩)⟩
      · refine ih (by omega) M3 y rw' c k u (SE_n g1 (fun r hr hu => q r hr ((fu r hr).mpr hu))) g2 (by rw [e3]; exact g3) (fun s' h1 h2 => ?_) (fun b hb => by rw [e3, w1_ne hb, g5 b hb]) (fun b hb => by rw [e3, w1_2, g6 b hb])
        by_cases z : s' = s
        · right
          rw [e3, z, w1_at]
          exact ⟨fun i hi e => by have := (g1.2.1 i hi).1.2.2; omega, rfl⟩
        · rw [e3, w1_no z]; exact g4 s' (by omega) h2
      · rw [shl_nI (by omega), nI_or] at e1
        subst e1
        have hu0 := (fu r0 hr0).mp q
        have ub : u ||| 2 ^ r0 < 1024 := Nat.or_lt_two_pow (n := 10) g2.1 (Nat.pow_lt_pow_right (by omega) hr0)
        have um : ∀ r, (u ||| 2 ^ r0).testBit r = (u.testBit r || decide (r0 = r)) := fun r => by rw [Nat.testBit_or, tb_one]
        have fu' : ∀ r, r < 10 → (u ||| 2 ^ r0).testBit r = false → r ≠ r0 ∧ ∀ i, i < k → rw' i ≠ r := fun r hr z => by
          rw [um, Bool.or_eq_false_iff] at z
          exact ⟨fun e => of_decide_eq_false z.2 e.symm, (fu r hr).mp z.1⟩
        refine X6_sr40_sp (by omega) ub hr0 (by rw [um, decide_eq_true rfl, Bool.or_true]) (SE_b g1 (by omega) hr0 hu0) t (fun r hr z => SE_b g1 (by omega) hr (fu' r hr z).2) (by rw [e3]; exact g3) (fun M5 y5 r5 a1 a2 f5 => ?_)
        refine ih (by omega) M5 y5 _ _ (k + 1) _ (SE_p g1 (by omega) hr0 hu0 t (a1 r0 hr0 (by rw [um, decide_eq_true rfl, Bool.or_true])) (fun i hi => a1 _ (g1.2.1 i hi).1.1 (by rw [um, (g2.2 _ (g1.2.1 i hi).1.1).mpr ⟨i, hi, rfl⟩]; rfl)) (fun r hr hne hu => a2 r hr (by rw [um, (fu r hr).mpr hu, decide_eq_false (fun e => hne e.symm)]; rfl))) ⟨ub, fun r hr => ?_⟩ r5 (fun s' h1 h2 => ?_) (fun b hb => by rw [f5.1, e3, w1_ne hb, g5 b hb]) (fun b hb => by rw [f5.2 b hb, e3, w1_2, g6 b hb])
        · rw [um, Bool.or_eq_true, g2.2 r hr]
          constructor
          · intro z
            rcases z with ⟨i, i1, i2⟩ | z
            · exact ⟨i, by omega, by dsimp only; rw [if_neg (by omega)]; exact i2⟩
            · exact ⟨k, by omega, by dsimp only; rw [if_pos rfl]; exact of_decide_eq_true z⟩
          · intro ⟨i, i1, i2⟩
            dsimp only at i2
            by_cases z : i = k
            · rw [if_pos z] at i2; exact Or.inr (decide_eq_true i2)
            · rw [if_neg z] at i2; exact Or.inl ⟨i, by omega, i2⟩
        · rw [f5.1, e3]
          by_cases z : s' = s
          · left
            exact ⟨k, by omega, by rw [if_pos rfl, z], by rw [z, w1_at, if_pos rfl]⟩
          · rw [w1_no z]
            rcases g4 s' (by omega) h2 with ⟨i, i1, i2, i3⟩ | ⟨i1, i2⟩
            · left
              exact ⟨i, by omega, by rw [if_neg (by omega)]; exact i2, by rw [if_neg (by omega)]; exact i3⟩
            · right
              refine ⟨fun i hi => ?_, i2⟩
              by_cases y : i = k
              · rw [if_pos y]; exact fun e => z e.symm
              · rw [if_neg y]; exact i1 i (by omega)
  have := key 8 (Nat.le_refl _) M R (fun _ => 0) (fun _ => 0) 0 0 (SE_0 hR _ _) ⟨by decide, fun r hr => ⟨fun q => (by rw [Nat.zero_testBit] at q; cases q), fun ⟨i, i1, _⟩ => absurd i1 (Nat.not_lt_zero _)⟩⟩ hy (fun s' h1 h2 => by omega) (fun _ _ => rfl) (fun _ _ => rfl)
  exact ⟨9, this⟩
