noncomputable def pB (p : Prop) : Bool := @decide p (Classical.propDecidable p)
theorem pB_t {p : Prop} (h : p) : pB p = true := @decide_eq_true p (Classical.propDecidable p) h
theorem pB_f {p : Prop} (h : ¬ p) : pB p = false := @decide_eq_false p (Classical.propDecidable p) h
theorem pB_iff {p : Prop} : pB p = true ↔ p := ⟨fun h => @of_decide_eq_true p (Classical.propDecidable p) h, pB_t⟩
theorem pB_cong {p q : Prop} (h : p ↔ q) : pB p = pB q := by rw [Bool.eq_iff_iff, pB_iff, pB_iff]; exact h
theorem pB_eq {p : Prop} {b : Bool} (h : b = true ↔ p) : b = pB p := by rw [Bool.eq_iff_iff, pB_iff]; exact h
theorem if_eqN {a b : Nat} (ha : a < 2147483648) (hb : b < 2147483648) : (if ¬ nI a = nI b then (0 : Int32) else 1) = bI (decide (a = b)) := by
  by_cases q : a = b
  · rw [if_neg (fun w => w (by rw [q])), decide_eq_true q]; rfl
  · rw [if_pos (by rw [nI_EQ ha hb]; exact q), decide_eq_false q]; rfl
theorem ctB_full {c : Nat → Bool} : ∀ {n : Nat}, ctB c n = n → ∀ i, i < n → c i = true
  | 0, _, i, hi => absurd hi (Nat.not_lt_zero _)
  | n + 1, h, i, hi => by
    have l := ctB_le c n
    cases q : c n
    · rw [ctB_f q] at h; omega
    · rw [ctB_t q] at h
      rcases Nat.lt_succ_iff_lt_or_eq.mp hi with y | y
      · exact ctB_full (by omega) i y
      · rw [y]; exact q
/-- what the graph's questions may change -/
def frH (t : Nat) (M M' : Mem) : Prop := (∀ b, b ≠ t → b ≠ t + 7 → b ≠ t + 8 → b ≠ t + 9 → b ≠ t + 10 → b ≠ t + 11 → M'.1 b = M.1 b) ∧ (∀ k, k ≠ 14 → k ≠ 15 → k ≠ 16 → k ≠ 17 → M'.1 t k = M.1 t k) ∧ M'.2 = M.2
theorem frH_rf (t : Nat) (M : Mem) : frH t M M := ⟨fun _ _ _ _ _ _ _ => rfl, fun _ _ _ _ _ => rfl, rfl⟩
theorem frH_tr {t : Nat} {M M1 M2 : Mem} (h : frH t M M1) (h' : frH t M1 M2) : frH t M M2 := ⟨fun b h1 h2 h3 h4 h5 h6 => by rw [h'.1 b h1 h2 h3 h4 h5 h6, h.1 b h1 h2 h3 h4 h5 h6], fun k a b c d => by rw [h'.2.1 k a b c d, h.2.1 k a b c d], by rw [h'.2.2, h.2.2]⟩
theorem frH_S {t : Nat} {M M' : Mem} (h : frS t M M') : frH t M M' := ⟨fun b h1 h2 h3 h4 h5 h6 => h.1 b h1 h4 h5, fun k a b c d => h.2.1 k a, h.2.2⟩
def hO (M : Mem) (t : Nat) (g : GS) : Prop := M.1 t 16 = nI (ctB (fun i => pB (hmP g i)) (gk g)) ∧ ∀ i, i < gk g → M.1 (t + 11) i = bI (pB (hmP g i))
theorem X0_findHomes_sp {t : Nat} {g : GS} {M : Mem} {K : Mem → Prop} (ht9 : alen (t + 9) = 300) (ht7 : alen (t + 7) = 301) (v : GV g) (k1 : 1 ≤ gk g) (hx : xok g (8 * gk g)) (hk : M.1 t 12 = nI (gk g)) (h5 : ∀ e, e < 8 * gk g → M.1 (t + 5) e = gx g e) (hb : M.1 t 15 ≠ 0 → bL M t g) (hh : M.1 t 16 ≠ -1 → hO M t g)
    (h : ∀ M', hO M' t g → frH t M M' → M'.1 t 17 = M.1 t 17 → (M'.1 t 15 ≠ 0 → bL M' t g) → K M') : f_X0_findHomes t M K := by
  have k3 := v.1
  unfold f_X0_findHomes
  refine ⟨fun z => ?_, fun z => h M (hh z) (frH_rf t M) rfl hb⟩
  refine X0_linkBack_sp ht7 v hx hk h5 hb (fun M2 b1 b2 b3 b4 b5 => ?_)
  have f2 : frH t M M2 := ⟨fun b h1 h2 h3 h4 h5 h6 => b3 b h1 h2 h3, fun k _ hk' _ _ => b4 k hk', b5⟩
  refine X0_lastStart_sp ht9 v k1 b1 (by rw [b4 12 (by decide)]; exact hk) (fun M3 c c1 c2 c3 => ?_)
  refine X0_forgetSeen_sp ht9 v (fun M4 q4 f4 => ?_)
  refine X0_see_sp v c1 q4 (fun M5 m5 q5 S5 d1 d2 d3 d4 d5 => ?_)
  have b5' : bL M5 t g := bL_fr b1 (frS_tr c3 (frS_tr f4 d2))
  refine X0_spreadBack_sp (f := 0) v b5' d1 (Nat.zero_le _) (fun k hk' => absurd hk' (Nat.not_lt_zero _)) (fun M6 m6 q6 S6 e1 e2 e3 e4 e5 => ?_)
  have f6 : frS t M2 M6 := frS_tr c3 (frS_tr f4 (frS_tr d2 e2))
  have ml6 := qS_le e1
  have all6 : (∀ i, i < gk g → S6 i = true) ↔ hmP g c := by
    constructor
    · intro a
      refine ⟨c1, fun j hj => ?_⟩
      obtain ⟨i, p1, p2⟩ := e5 j (a j hj)
      rw [d5 i] at p1
      rcases sB_e p1 with y | y
      · rw [← y]; exact p2
      · cases y
    · intro a i hi
      obtain ⟨kk, pp⟩ := a.2 i hi
      exact clB_R e4 pp (e3 c (by rw [d5 c]; exact sB_i _ _))
  have t12 : M6.1 t 12 = nI (gk g) := by rw [f6.2.1 12 (by decide), b4 12 (by decide)]; exact hk
  have e15 : ∀ M9, frS t M6 M9 → M9.1 t 15 = M2.1 t 15 := fun M9 f9 => by rw [f9.2.1 15 (by decide), f6.2.1 15 (by decide)]
  intro x2 ex2
  rw [e1.1, t12, if_eqN (by omega) (by omega)] at ex2
  refine X0_forgetSeen_sp ht9 v (fun M7 q7 f7 => ?_)
  have fin : ∀ (M10 : Mem) m10 q10 S10, qS M10 t g m10 q10 S10 → frS t M7 M10 → (∀ i, i < gk g → S10 i = pB (hmP g i)) → ∀ M11 : Mem, M11 = wI M10 t 16 (M10.1 t 14) → (¬ (M11.1 t 12) < 0) ∧ ((0 : Int32).toNatClampNeg + (M11.1 t 12).toNatClampNeg ≤ 300) ∧ ((0 : Int32).toNatClampNeg + (M11.1 t 12).toNatClampNeg ≤ 300) ∧ ∀ M12 : Mem, M12 = wC M11 (t + 9) (t + 11) (0 : Int32).toNatClampNeg (0 : Int32).toNatClampNeg (M11.1 t 12).toNatClampNeg → K M12 := by
    intro M10 m10 q10 S10 g1 g2 g3 M11 e11
    have f10 : frS t M2 M10 := frS_tr f6 (frS_tr f7 g2)
    have t11 : M11.1 t 12 = nI (gk g) := by rw [e11, w1_no (by decide), f10.2.1 12 (by decide), b4 12 (by decide)]; exact hk
    rw [t11, nI_CL (by omega), show (0 : Int32).toNatClampNeg = 0 from rfl]
    refine ⟨by rw [l_0, nI_LT (by omega) (by omega)]; omega, by omega, by omega, fun M12 e12 => ?_⟩
    have n12 : ∀ b, b ≠ t + 11 → M12.1 b = M11.1 b := fun b hb => by rw [e12, wC_ne hb]
    refine h M12 ⟨?_, fun i hi => ?_⟩ (frH_tr f2 (frH_tr (frH_S f10) ⟨fun b h1 _ _ _ _ h6 => by rw [n12 b h6, e11, w1_ne h1], fun k _ _ h3 _ => by rw [n12 t (by omega), e11, w1_no h3], by rw [e12, wC_2, e11, w1_2]⟩)) ?_ (fun _ => ?_)
    · rw [n12 t (by omega), e11, w1_at, g1.1, g1.2.1, ctB_cong g3]
    · rw [e12, wC_eq, cpy0, if_pos hi, e11, w1_ne (by omega), g1.2.2.1 i hi, g3 i hi]
    · rw [n12 t (by omega), e11, w1_no (by decide), f10.2.1 17 (by decide), b4 17 (by decide)]
    · have bb := bL_fr b1 f10
      unfold bL at bb ⊢
      rw [n12 (t + 7) (by omega), n12 (t + 8) (by omega), e11, w1_ne (by omega), w1_ne (by omega)]
      exact bb
  unfold S_X0_findHomes_54
  refine ⟨fun z0 => fin M7 0 _ _ q7 (frS_rf t M7) (fun i hi => ?_), fun z0 => ?_⟩
  · have nc : ¬ hmP g c := fun y => by
      have := all6.mpr y
      have : ctB S6 (gk g) = gk g := ctB_all this
      rw [ex2, e1.2.1, decide_eq_true this] at z0
      exact absurd z0 (by decide)
    rw [pB_f (fun y => nc (c2 i y))]
  · have hc : hmP g c := by
      rw [ex2] at z0
      exact all6.mp (ctB_full (by rw [← e1.2.1]; exact of_decide_eq_true (b_ofn z0)))
    refine X0_see_sp v c1 q7 (fun M8 m8 q8 S8 g1 g2 g3 g4 g5 => ?_)
    refine X0_spreadOn_sp v hx (fun e he => ?_) g1 (fun M9 m9 q9 S9 r1 r2 r3 r4 r5 => fin M9 m9 q9 S9 r1 (frS_tr g2 r2) (fun i hi => pB_eq ⟨fun y => ?_, fun y => ?_⟩))
    · rw [(frS_tr f6 (frS_tr f7 g2)).1 _ (by omega) (by omega) (by omega), b3 _ (by omega) (by omega) (by omega)]
      exact h5 e he
    · obtain ⟨i2, p1, p2⟩ := r5 i y
      rw [g5 i2] at p1
      rcases sB_e p1 with y' | y'
      · rw [y'] at p2; exact ⟨hi, fun j hj => R_tr (hc.2 j hj) p2⟩
      · cases y'
    · obtain ⟨kk, pp⟩ := y.2 c c1
      exact clF_R r4 pp (r3 c (by rw [g5 c]; exact sB_i _ _))
/-- live: from each one comes to one where it can be done -/
def lvP (n : NN) (g : GS) (s : Nat) : Prop := ∀ i, i < gk g → ∃ j, j < gk g ∧ R g i j ∧ can n (gm g j) s = true
theorem bt_mN {c : Nat → Bool} {s : Nat} (hs : s < 8) : bt (nI (mN c 8)) s = c s := by
  rw [bt_nI (Nat.lt_of_lt_of_le (mN_lt c 8) (by decide)) (by omega), mN_tb, decide_eq_true hs, Bool.true_and]
theorem X0_comesFromAll_sp {t s : Nat} {n : NN} {g : GS} {M : Mem} {K : Int32 → Mem → Prop} (ht9 : alen (t + 9) = 300) (v : GV g) (hs : s < 8) (hk : M.1 t 12 = nI (gk g)) (hb : bL M t g) (hw : ∀ j, j < gk g → M.1 (t + 4) j = nI (mN (can n (gm g j)) 8))
    (h : ∀ M', frS t M M' → K (bI (pB (lvP n g s))) M') : f_X0_comesFromAll t (nI s) M K := by
  have k3 := v.1
  unfold f_X0_comesFromAll
  refine X0_forgetSeen_sp ht9 v (fun M2 q2 f2 => ?_)
  have key : ∀ d i, i + d = gk g → ∀ (M1 : Mem) m1 q1 S1, qS M1 t g m1 q1 S1 → frS t M M1 → (∀ j, j < gk g → (S1 j = true ↔ j < i ∧ can n (gm g j) s = true)) → L_X0_comesFromAll_6 t (nI s) (fun M_4 => f_X0_spreadBack t (0 : Int32) M_4 (fun (M_5 : Mem) => ((¬ (M_5.1 t 14) = (M_5.1 t 12) → K (0 : Int32) M_5) ∧ ((M_5.1 t 14) = (M_5.1 t 12) → K (1 : Int32) M_5)))) K (d + 1) (nI i) M1 := by
    intro d
    induction d with
    | zero =>
      intro i hi M1 m1 q1 S1 c1 c2 c3
      have i' : i = gk g := by omega
      subst i'
      rw [L_X0_comesFromAll_6, c2.2.1 12 (by decide), hk, nI_LE (by omega) (by omega)]
      refine ⟨fun _ => ?_, by omega⟩
      refine X0_spreadBack_sp (f := 0) v (bL_fr hb c2) c1 (Nat.zero_le _) (fun k hk' => absurd hk' (Nat.not_lt_zero _)) (fun M6 m6 q6 S6 e1 e2 e3 e4 e5 => ?_)
      have ml6 := qS_le e1
      have f6 := frS_tr c2 e2
      rw [e1.1, f6.2.1 12 (by decide), hk, nI_EQ (by omega) (by omega)]
      have all6 : (∀ i, i < gk g → S6 i = true) ↔ lvP n g s := by
        constructor
        · intro a i hi
          obtain ⟨j, p1, p2⟩ := e5 i (a i hi)
          have jl := (c1.2.2.2.2 j p1).1
          exact ⟨j, jl, p2, ((c3 j jl).mp p1).2⟩
        · intro a i hi
          obtain ⟨j, p1, ⟨kk, pp⟩, p3⟩ := a i hi
          exact clB_R e4 pp (e3 j ((c3 j p1).mpr ⟨p1, p3⟩))
      have hh := h M6 f6
      refine ⟨fun z => ?_, fun z => ?_⟩
      · rw [pB_f (fun y => z (by rw [e1.2.1]; exact ctB_all (all6.mpr y)))] at hh; exact hh
      · rw [pB_t (all6.mp (ctB_full (by rw [← e1.2.1]; exact z)))] at hh; exact hh
    | succ d ih =>
      intro i hi M1 m1 q1 S1 c1 c2 c3
      have ew : M1.1 (t + 4) i = nI (mN (can n (gm g i)) 8) := by rw [c2.1 _ (by omega) (by omega) (by omega)]; exact hw i (by omega)
      have eb : ((nI (mN (can n (gm g i)) 8) >>> (nI s &&& 31)) &&& 1 = 1) ↔ can n (gm g i) s = true := by
        rw [← bt_mN (c := can n (gm g i)) hs]
        exact ⟨fun y => decide_eq_true y, fun y => of_decide_eq_true y⟩
      rw [L_X0_comesFromAll_6, c2.2.1 12 (by decide), hk, nI_LE (by omega) (by omega), vp_nI (by omega) (by omega), gI, nI_CL (by omega), ew, nI_A1, eb]
      refine ⟨by omega, fun _ => ⟨by omega, fun z => ?_, fun z => ?_⟩⟩
      · refine ih (i + 1) (by omega) M1 m1 q1 S1 c1 c2 (fun j hj => ?_)
        rw [c3 j hj]
        refine ⟨fun y => ⟨by omega, y.2⟩, fun y => ⟨?_, y.2⟩⟩
        rcases Nat.lt_succ_iff_lt_or_eq.mp y.1 with x | x
        · exact x
        · rw [x] at y; exact absurd y.2 z
      · refine X0_see_sp v (show i < gk g by omega) c1 (fun M3 m3 q3 S3 d1 d2 d3 d4 d5 => ih (i + 1) (by omega) M3 m3 q3 S3 d1 (frS_tr c2 d2) (fun j hj => ?_))
        rw [d5 j]
        constructor
        · intro y
          rcases sB_e y with x | x
          · rw [x]; exact ⟨by omega, z⟩
          · have := (c3 j hj).mp x; exact ⟨by omega, this.2⟩
        · intro y
          by_cases x : j = i
          · rw [x]; exact sB_i _ _
          · exact sB_o ((c3 j hj).mpr ⟨by omega, y.2⟩)
  exact ⟨_, key (gk g) 0 (by omega) M2 0 _ (fun _ => false) q2 f2 (fun j hj => ⟨fun y => (by cases y), fun y => absurd y.1 (Nat.not_lt_zero _)⟩)⟩
noncomputable def lvB (n : NN) (g : GS) : Nat := mN (fun s => (nS n).testBit s && pB (lvP n g s)) 8
theorem X0_liveOnes_sp {t c tp ts : Nat} {n : NN} {g : GS} {M : Mem} {K : Int32 → Mem → Prop} (ht9 : alen (t + 9) = 300) (ht7 : alen (t + 7) = 301) (v : GV g) (hx : xok g (8 * gk g)) (hc : c + 3 < t ∨ t + 11 < c) (hn : atC M c n tp ts) (hk : M.1 t 12 = nI (gk g)) (h5 : ∀ e, e < 8 * gk g → M.1 (t + 5) e = gx g e) (hw : ∀ j, j < gk g → M.1 (t + 4) j = nI (mN (can n (gm g j)) 8)) (hb : M.1 t 15 ≠ 0 → bL M t g) (hh : M.1 t 17 ≠ -1 → M.1 t 17 = nI (lvB n g))
    (h : ∀ M', M'.1 t 17 = nI (lvB n g) → frH t M M' → M'.1 t 16 = M.1 t 16 → M'.1 (t + 11) = M.1 (t + 11) → (M'.1 t 15 ≠ 0 → bL M' t g) → K (nI (lvB n g)) M') : f_X0_liveOnes t c M K := by
  have k3 := v.1
  have hS8 := wf_S hn.2.2.2
  unfold f_X0_liveOnes
  refine ⟨fun z => ?_, fun z => by rw [hh z]; exact h M (hh z) (frH_rf t M) rfl rfl hb⟩
  refine X0_linkBack_sp ht7 v hx hk h5 hb (fun M2 b1 b2 b3 b4 b5 M3 e3 => ?_)
  have key : ∀ d s, s + d = 8 → ∀ M1 : Mem, bL M1 t g → frH t M M1 → M1.1 t 16 = M.1 t 16 → M1.1 (t + 11) = M.1 (t + 11) → M1.1 t 17 = nI (mN (fun s => (nS n).testBit s && pB (lvP n g s)) s) → L_X0_liveOnes_24 t c (fun M_7 => K (M_7.1 t 17) M_7) K (d + 1) (nI s) M1 := by
    intro d
    induction d with
    | zero =>
      intro s hs M1 c1 c2 c3 c4 c5
      have s8 : s = 8 := by omega
      subst s8
      rw [L_X0_liveOnes_24, l_8, nI_LE (by omega) (by omega)]
      refine ⟨fun _ => ?_, by omega⟩
      rw [c5]
      exact h M1 c5 c2 c3 c4 (fun _ => c1)
    | succ d ih =>
      intro s hs M1 c1 c2 c3 c4 c5
      have hn1 : atC M1 c n tp ts := atC_fr hn (c2.1 _ (by omega) (by omega) (by omega) (by omega) (by omega) (by omega)) (c2.1 _ (by omega) (by omega) (by omega) (by omega) (by omega) (by omega)) (c2.1 _ (by omega) (by omega) (by omega) (by omega) (by omega) (by omega)) (c2.1 _ (by omega) (by omega) (by omega) (by omega) (by omega) (by omega))
      have ms := mN_s (fun s => (nS n).testBit s && pB (lvP n g s)) s
      rw [L_X0_liveOnes_24, l_8, nI_LE (by omega) (by omega), nI_A1]
      refine ⟨by omega, fun _ => X1_hasStep_sp ?_⟩
      rw [isSt_bt (by omega), ac_S hn1, bt_nI (by omega) (by omega)]
      refine ⟨fun y => ?_, fun y => ?_⟩
      · have y := b_of0 y
        refine ih (s + 1) (by omega) M1 c1 c2 c3 c4 (by rw [ms, if_neg (by rw [y, Bool.false_and]; decide)]; exact c5)
      · have y := b_ofn y
        refine X0_comesFromAll_sp (n := n) ht9 v (by omega) (by rw [c2.2.1 12 (by decide) (by decide) (by decide) (by decide)]; exact hk) c1 (fun j hj => by rw [c2.1 _ (by omega) (by omega) (by omega) (by omega) (by omega) (by omega)]; exact hw j hj) (fun M4 f4 => ⟨fun x => ?_, fun x M5 e5 => ?_⟩)
        · have x := b_of0 x
          refine ih (s + 1) (by omega) M4 (bL_fr c1 f4) (frH_tr c2 (frH_S f4)) (by rw [f4.2.1 16 (by decide)]; exact c3) (by rw [f4.1 _ (by omega) (by omega) (by omega)]; exact c4) (by rw [ms, if_neg (by rw [x, Bool.and_false]; decide), f4.2.1 17 (by decide)]; exact c5)
        · have x := b_ofn x
          rw [f4.2.1 17 (by decide), c5, shl_nI (by omega), nI_or] at e5
          refine ih (s + 1) (by omega) M5 ?_ (frH_tr c2 (frH_tr (frH_S f4) ⟨fun b h1 _ _ _ _ _ => by rw [e5, w1_ne h1], fun k _ _ _ h4 => by rw [e5, w1_no h4], by rw [e5, w1_2]⟩)) (by rw [e5, w1_no (by decide), f4.2.1 16 (by decide)]; exact c3) (by rw [e5, w1_ne (by omega), f4.1 _ (by omega) (by omega) (by omega)]; exact c4) (by rw [ms, if_pos (by rw [x, y]; rfl), e5, w1_at])
          have bb := bL_fr c1 f4
          unfold bL at bb ⊢
          rw [e5, w1_ne (by omega), w1_ne (by omega)]
          exact bb
  refine ⟨_, key 8 0 (by omega) M3 ?_ ⟨fun b h1 h2 h3 _ _ _ => by rw [e3, w1_ne h1, b3 b h1 h2 h3], fun k _ h2 _ h4 => by rw [e3, w1_no h4, b4 k h2], by rw [e3, w1_2, b5]⟩ (by rw [e3, w1_no (by decide), b4 16 (by decide)]) (by rw [e3, w1_ne (by omega), b3 _ (by omega) (by omega) (by omega)]) (by rw [e3, w1_at]; rfl)⟩
  unfold bL at b1 ⊢
  rw [e3, w1_ne (by omega), w1_ne (by omega)]
  exact b1
/-! counts and the first dead; the most; how deep -/
def ddB (n : NN) (g : GS) (i : Nat) : Bool := decide (mN (can n (gm g i)) 8 = 0)
theorem mN8 (c : Nat → Bool) : mN c 8 < 256 := mN_lt c 8
theorem X0_deadOnes_sp {t : Nat} {n : NN} {g : GS} {M : Mem} {K : Int32 → Mem → Prop} (v : GV g) (hk : M.1 t 12 = nI (gk g)) (hw : ∀ j, j < gk g → M.1 (t + 4) j = nI (mN (can n (gm g j)) 8)) (h : K (nI (ctB (ddB n g) (gk g))) M) : f_X0_deadOnes t M K := by
  have k3 := v.1
  unfold f_X0_deadOnes
  have key : ∀ d i, i + d = gk g → L_X0_deadOnes_4 t (fun v1_2 M_2 => K v1_2 M_2) K (d + 1) (nI (ctB (ddB n g) i)) (nI i) M := by
    intro d
    induction d with
    | zero =>
      intro i hi
      have : i = gk g := by omega
      subst this
      rw [L_X0_deadOnes_4, hk, nI_LE (by omega) (by omega)]
      exact ⟨fun _ => h, by omega⟩
    | succ d ih =>
      intro i hi
      have m8 := mN8 (can n (gm g i))
      rw [L_X0_deadOnes_4, hk, nI_LE (by omega) (by omega), vp_nI (by omega) (by omega), gI, nI_CL (by omega), hw i (by omega), nI_Z (by omega), nI_A1, nI_A1]
      refine ⟨by omega, fun _ => ⟨by omega, fun z => ?_, fun z => ?_⟩⟩
      · have := ih (i + 1) (by omega)
        rw [ctB_f (decide_eq_false z)] at this
        exact this
      · have := ih (i + 1) (by omega)
        rw [ctB_t (decide_eq_true z)] at this
        exact this
  exact ⟨_, key (gk g) 0 (by omega)⟩
noncomputable def fdB (n : NN) (g : GS) : Option Nat := ff (fun i => ifP (mN (can n (gm g i)) 8 = 0) (some i)) 0 (gk g)
theorem X0_firstDead_sp {t : Nat} {n : NN} {g : GS} {M : Mem} {K : Int32 → Mem → Prop} (v : GV g) (hk : M.1 t 12 = nI (gk g)) (hw : ∀ j, j < gk g → M.1 (t + 4) j = nI (mN (can n (gm g j)) 8)) (h : K (oI (fdB n g)) M) : f_X0_firstDead t M K := by
  have k3 := v.1
  unfold f_X0_firstDead
  refine lpF _ (fun r => K (oI r) M) (fun k j => L_X0_firstDead_2 t (fun M_2 => K (-1) M_2) K k (nI j) M) 0 (gk g) (Nat.zero_le _) h (fun e k => ?_) (fun i _ hi k z0 z1 => ?_)
  · rw [L_X0_firstDead_2, hk, nI_LE (by omega) (by omega)]
    exact ⟨fun _ => e, by omega⟩
  · have m8 := mN8 (can n (gm g i))
    rw [L_X0_firstDead_2, hk, nI_LE (by omega) (by omega), vp_nI (by omega) (by omega), gI, nI_CL (by omega), hw i (by omega), nI_Z (by omega), nI_A1]
    exact ⟨by omega, fun _ => ⟨by omega, fun z => z0 (ifP_f z), fun z => z1 i (ifP_t z)⟩⟩
def msB (g : GS) (p : Nat) : Nat → Nat
  | 0 => 0
  | i + 1 => if msB g p i < gm g i p then gm g i p else msB g p i
theorem msB_le {g : GS} (v : GV g) {p : Nat} (hp : p < 10) : ∀ i, i ≤ gk g → msB g p i ≤ 999
  | 0, _ => Nat.zero_le _
  | i + 1, hi => by
    have := msB_le v hp i (by omega)
    have := v.2.2.2.1 i (by omega) p hp
    rw [msB]; split <;> omega
theorem X0_mostIn_sp {t p : Nat} {g : GS} {M : Mem} {K : Int32 → Mem → Prop} (v : GV g) (hp : p < 10) (hk : M.1 t 12 = nI (gk g)) (hm : ∀ i, i < gk g → ∀ p, p < 10 → M.1 (t + 1) (10 * i + p) = nI (gm g i p)) (h : K (nI (msB g p (gk g))) M) : f_X0_mostIn t (nI p) M K := by
  have k3 := v.1
  unfold f_X0_mostIn
  have key : ∀ d i, i + d = gk g → L_X0_mostIn_4 t (nI p) (fun v2_2 M_2 => K v2_2 M_2) K (d + 1) (nI (msB g p i)) (nI i) M := by
    intro d
    induction d with
    | zero =>
      intro i hi
      have : i = gk g := by omega
      subst this
      rw [L_X0_mostIn_4, hk, nI_LE (by omega) (by omega)]
      exact ⟨fun _ => h, by omega⟩
    | succ d ih =>
      intro i hi
      have a1 := msB_le v hp i (by omega)
      have a2 := v.2.2.2.1 i (by omega) p hp
      rw [L_X0_mostIn_4, hk, nI_LE (by omega) (by omega), ix_z hp, vp_nI (by omega) (by omega), gI, nI_CL (by omega), hm i (by omega) p hp, nI_A1]
      refine ⟨by omega, fun _ => ⟨by omega, fun x2 e2 => ?_⟩⟩
      have := ih (i + 1) (by omega)
      rw [msB] at this
      by_cases q : msB g p i < gm g i p
      · rw [if_pos (by rw [nI_LT (by omega) (by omega)]; exact q)] at e2; rw [if_pos q] at this; rw [e2]; exact this
      · rw [if_neg (by rw [nI_LT (by omega) (by omega)]; exact q)] at e2; rw [if_neg q] at this; rw [e2]; exact this
  exact ⟨_, key (gk g) 0 (by omega)⟩
/-- how deep -/
def dpP (g : GS) (d : Nat → Nat) : Prop := ∀ i, i < gk g → d i ≤ i ∧ (gf g i = -1 → d i = 0) ∧ ∀ j, j < i → gf g i = nI j → d i = d j + 1
theorem X0_depthOf_sp {t i : Nat} {g : GS} {dd : Nat → Nat} {M : Mem} {K : Int32 → Mem → Prop} (v : GV g) (hi : i < gk g) (hd : dpP g dd) (hf : ∀ i, i < gk g → M.1 (t + 2) i = gf g i) (h : K (nI (dd i)) M) : f_X0_depthOf t (nI i) M K := by
  have k3 := v.1
  unfold f_X0_depthOf
  rw [vp_nI (by omega) (by omega), gI, nI_CL (by omega), hf i hi]
  have key : ∀ f j, j < f → j < gk g → ∀ c, c + dd j = dd i → L_X0_depthOf_9 t (fun v2_2 M_2 => K v2_2 M_2) K f (nI c) (gf g j) M := by
    intro f
    induction f with
    | zero => intro j hj; omega
    | succ f ih =>
      intro j hj hg c hc
      have di := (hd i hi).1
      rw [L_X0_depthOf_9]
      refine ⟨fun z => ?_, fun z => ?_⟩
      · have := (hd j hg).2.1 z
        rw [show c = dd i by omega]; exact h
      · rcases v.2.2.2.2 j hg with ⟨_, y⟩ | ⟨j', y1, y2⟩
        · exact absurd y z
        have e := (hd j hg).2.2 j' y1 y2
        rw [y2, l_300, nI_LE (by omega) (by omega), vp_nI (by omega) (by omega), gI, nI_CL (by omega), hf j' (by omega), nI_A1]
        exact ⟨fun _ => by omega, fun _ => ⟨by omega, fun x ex => by rw [ex]; exact ih j' (by omega) (by omega) (c + 1) (by omega)⟩⟩
  refine ⟨by omega, fun x3 e3 => ?_⟩
  rw [e3]
  exact ⟨_, key (i + 1) i (by omega) hi 0 (by omega)⟩
