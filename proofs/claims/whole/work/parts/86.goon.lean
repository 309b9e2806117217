/-! the class: an order of the counts -/
theorem X6_partLeft_sp {x w : Nat → Nat} {M : Mem} {K : Int32 → Mem → Prop} (hx : ∀ s, s < 8 → M.1 129 s = nI (x s)) (hw : ∀ s, s < 8 → M.1 132 s = nI (w s)) (h : K (nI (pt x w 8)) M) : f_X6_partLeft M K := by
  unfold f_X6_partLeft
  have key : ∀ d s, s + d = 8 → L_X6_partLeft_4 (fun v1_2 M_2 => K v1_2 M_2) K (d + 1) (nI (pt x w s)) (nI s) M := by
    intro d
    induction d with
    | zero =>
      intro s hs
      have : s = 8 := by omega
      subst this
      rw [L_X6_partLeft_4, l_8, nI_LE (by omega) (by omega)]
      exact ⟨fun _ => h, by omega⟩
    | succ d ih =>
      intro s hs
      rw [L_X6_partLeft_4, l_8, nI_LE (by omega) (by omega), vp_nI (by omega) (by omega), gI, gI, nI_CL (by omega), hx s (by omega), hw s (by omega), nI_A1, nI_A1, pk_mul, nI_add]
      exact ⟨by omega, fun _ => ⟨by omega, fun x1 e1 => by rw [e1]; exact ih (s + 1) (by omega)⟩⟩
  exact ⟨_, key 8 0 (by omega)⟩
/-- what was found to fail does -/
def FM (M : Mem) (n : NN) (x : Nat → Nat) : Prop := ∀ u, (∀ s, s < 8 → u s ≤ x s) → M.1 133 (pt x (fun s => x s - u s) 8) = 1 → ¬ okU n x (sm x 8 - sm u 8) u
def frO (d0 : Nat) (M M' : Mem) : Prop := (∀ b, b ≠ 130 → b ≠ 131 → b ≠ 132 → b ≠ 133 → M'.1 b = M.1 b) ∧ (∀ j, j < 10 * d0 + 10 → M'.1 131 j = M.1 131 j) ∧ (∀ j, j < d0 → M'.1 130 j = M.1 130 j) ∧ M'.2 = M.2
theorem frO_rf (d0 : Nat) (M : Mem) : frO d0 M M := ⟨fun _ _ _ _ _ => rfl, fun _ _ => rfl, fun _ _ => rfl, rfl⟩
theorem frO_tr {d0 : Nat} {M M1 M2 : Mem} (h : frO d0 M M1) (h' : frO d0 M1 M2) : frO d0 M M2 := ⟨fun b a c d e => by rw [h'.1 b a c d e, h.1 b a c d e], fun j hj => by rw [h'.2.1 j hj, h.2.1 j hj], fun j hj => by rw [h'.2.2.1 j hj, h.2.2.1 j hj], by rw [h'.2.2.2, h.2.2.2]⟩
theorem sm_up {u : Nat → Nat} {s : Nat} : ∀ {k : Nat}, s < k → sm (upT1 u s (u s + 1)) k = sm u k + 1
  | 0, h => absurd h (Nat.not_lt_zero _)
  | k + 1, h => by
    rw [sm, sm]
    by_cases q : s = k
    · have : sm (upT1 u s (u s + 1)) k = sm u k := sm_cong' (fun i hi => upT1_o (by omega))
      rw [this, ← q, upT1_s]; omega
    · rw [sm_up (by omega), upT1_o (fun e => q e.symm)]; omega
theorem sm_leq {u x : Nat → Nat} : ∀ {k : Nat}, (∀ s, s < k → u s ≤ x s) → sm u k ≤ sm x k
  | 0, _ => Nat.le_refl _
  | k + 1, h => by
    have := sm_leq (u := u) (x := x) (k := k) (fun s hs => h s (by omega))
    have := h k (by omega)
    rw [sm, sm]; omega
theorem mvF_at {T G row : Nat → Int32} {s o1 o2 p : Nat} (hp : p < 10) : mvF T G row s o1 o2 10 (o2 + p) = row (o1 + p) + (G (10 * s + p) - T (10 * s + p)) := by
  unfold mvF
  rw [if_pos (by omega), show o2 + p - o2 = p by omega]
theorem mvF_no {T G row : Nat → Int32} {s o1 o2 j : Nat} (h : j < o2 ∨ o2 + 10 ≤ j) : mvF T G row s o1 o2 10 j = row j := by
  unfold mvF
  rw [if_neg (by omega)]
theorem can_I {n : NN} {u mk : Nat → Nat} {s : Nat} (h : ∀ p, p < 10 → RV n u p = (mk p : Int)) : can n mk s = true ↔ canI n u s := by
  rw [can_iff]
  unfold canI
  constructor
  · intro ⟨a, b⟩
    refine ⟨a, fun p hp => ?_⟩
    have := b p hp
    rw [h p hp]; omega
  · intro ⟨a, b⟩
    refine ⟨a, fun p hp => ?_⟩
    have := b p hp
    rw [h p hp] at this; omega
theorem X6_goOn_sp {n : NN} {x : Nat → Nat} {nc tp ts : Nat} (hnc : nc + 3 < 124) (hwf : WF n tp ts) (hx12 : sm x 8 ≤ 12) : ∀ d, d ≤ sm x 8 → ∀ dp, d < dp → ∀ (u mk : Nat → Nat) (M : Mem) (K : Int32 → Mem → Prop), (∀ s, s < 8 → u s ≤ x s) → sm u 8 + d = sm x 8 → atC M nc n tp ts → M.1 124 9 = nI (sm x 8) → (∀ s, s < 8 → M.1 129 s = nI (x s)) → (∀ s, s < 8 → M.1 132 s = nI (x s - u s)) → (∀ p, p < 10 → M.1 131 (10 * sm u 8 + p) = nI (mk p) ∧ mk p ≤ 999 ∧ RV n u p = (mk p : Int)) → FM M n x →
    (∀ M', okU n x d u → (∀ i, i < d → M'.1 130 (sm u 8 + i) = nI (glU n x d u i)) → frO (sm u 8) M M' → K 1 M') → (∀ M', ¬ okU n x d u → FM M' n x → (∀ s, s < 8 → M'.1 132 s = M.1 132 s) → frO (sm u 8) M M' → K 0 M') → f_X6_goOn dp nc (nI (sm u 8)) M K := by
  have hS8 := wf_S hwf
  have xs : ∀ s, s < 8 → x s ≤ 12 := fun s hs => by
    have := sm_mono (f := x) (show s + 1 ≤ 8 by omega)
    rw [sm] at this; omega
  have p1296 := pr_1296 hx12
  intro d
  induction d with
  | zero =>
    intro _ dp hdp u mk M K hu hd hn h9 hb hl hw hF h1 h0
    obtain ⟨dp, rfl⟩ := Nat.exists_eq_add_of_le hdp
    rw [show 0 + 1 + dp = dp + 1 by omega, f_X6_goOn]
    unfold f_X6_goOnB
    rw [h9, nI_LE (by omega) (by omega)]
    exact ⟨fun _ => h1 M trivial (fun i hi => absurd hi (Nat.not_lt_zero _)) (frO_rf _ M), fun q => absurd q (by omega)⟩
  | succ d ih =>
    intro hdT dp hdp u mk M K hu hd hn h9 hb hl hw hF h1 h0
    obtain ⟨dp, rfl⟩ := Nat.exists_eq_add_of_le hdp
    have ptl : pt x (fun s => x s - u s) 8 < pr x 8 := pt_lt (fun i hi => by omega)
    rw [show d + 1 + 1 + dp = (d + 1 + dp) + 1 by omega, f_X6_goOn]
    unfold f_X6_goOnB
    rw [h9, nI_LE (by omega) (by omega), l_12, nI_LT (by omega) (by omega)]
    refine ⟨fun q => absurd q (by omega), fun _ => ⟨fun _ => X6_partLeft_sp hb hl ?_, fun q => absurd q (by omega)⟩⟩
    rw [l_1296, nI_LE (by omega) (by omega), vp_nI (by omega) (by omega), gI, nI_CL (by omega)]
    refine ⟨fun q => absurd q (by omega), fun _ => ⟨by omega, fun q => ?_, fun q => h0 M (fun ok => hF u hu q (by rw [show sm x 8 - sm u 8 = d + 1 by omega]; exact ok)) hF (fun _ _ => rfl) (frO_rf _ M)⟩⟩
    have lp : ∀ g s, s + g = 8 → ∀ M1 : Mem, (∀ s', s' < s → ¬ (u s' < x s' ∧ canI n u s' ∧ okU n x d (upT1 u s' (u s' + 1)))) → FM M1 n x → (∀ s, s < 8 → M1.1 132 s = nI (x s - u s)) → frO (sm u 8) M M1 → L_X6_goOn_43 nc (nI (sm u 8)) (nI (pt x (fun s => x s - u s) 8)) (f_X6_goOn (d + 1 + dp)) (fun (M_9 : Mem) => pt x (fun s => x s - u s) 8 < 1296 ∧ ∀ M_10 : Mem, M_10 = wI M_9 133 (pt x (fun s => x s - u s) 8) (1 : Int32).toInt8.toInt32 → K (0 : Int32) M_10) K (g + 1) (nI s) M1 := by
      intro g
      induction g with
      | zero =>
        intro s hs M1 c1 c2 c3 c4
        rw [L_X6_goOn_43, l_8, nI_LE (by omega) (by omega)]
        refine ⟨fun _ => ⟨by omega, fun M10 e10 => ?_⟩, by omega⟩
        rw [show (1 : Int32).toInt8.toInt32 = 1 by decide] at e10
        have no : ¬ okU n x (d + 1) u := fun ⟨s', a1, a2, a3, a4⟩ => c1 s' (by omega) ⟨a2, a3, a4⟩
        refine h0 M10 no (fun u2 hu2 q2 => ?_) (fun s hs => by rw [e10, w1_ne (by decide), c3 s hs, hl s hs]) (frO_tr c4 ⟨fun b _ _ _ h4 => by rw [e10, w1_ne h4], fun j _ => by rw [e10, w1_ne (by decide)], fun j _ => by rw [e10, w1_ne (by decide)], by rw [e10, w1_2]⟩)
        by_cases z : pt x (fun s => x s - u2 s) 8 = pt x (fun s => x s - u s) 8
        · have e := pt_inj (x := x) (s := 8) (w := fun s => x s - u2 s) (w' := fun s => x s - u s) (fun i hi => by omega) (fun i hi => by omega) z
          have eq : ∀ s, s < 8 → u2 s = u s := fun s hs => by have := e s hs; have := hu s hs; have := hu2 s hs; omega
          have es : sm u2 8 = sm u 8 := sm_cong' eq
          rw [es, show sm x 8 - sm u 8 = d + 1 by omega, okU_cong eq]
          exact no
        · rw [e10, w1_no z] at q2
          exact c2 u2 hu2 q2
      | succ g ihg =>
        intro s hs M1 c1 c2 c3 c4
        have nx : ∀ M2 : Mem, ¬ (u s < x s ∧ canI n u s ∧ okU n x d (upT1 u s (u s + 1))) → FM M2 n x → (∀ s, s < 8 → M2.1 132 s = nI (x s - u s)) → frO (sm u 8) M M2 → L_X6_goOn_43 nc (nI (sm u 8)) (nI (pt x (fun s => x s - u s) 8)) (f_X6_goOn (d + 1 + dp)) (fun (M_9 : Mem) => pt x (fun s => x s - u s) 8 < 1296 ∧ ∀ M_10 : Mem, M_10 = wI M_9 133 (pt x (fun s => x s - u s) 8) (1 : Int32).toInt8.toInt32 → K (0 : Int32) M_10) K (g + 1) (nI (s + 1)) M2 := fun M2 q1 q2 q3 q4 => ihg (s + 1) (by omega) M2 (fun s' hs' => by
          rcases Nat.lt_succ_iff_lt_or_eq.mp hs' with z | z
          · exact c1 s' z
          · rw [z]; exact q1) q2 q3 q4
        have hn1 : atC M1 nc n tp ts := atC_fr hn (c4.1 _ (by omega) (by omega) (by omega) (by omega)) (c4.1 _ (by omega) (by omega) (by omega) (by omega)) (c4.1 _ (by omega) (by omega) (by omega) (by omega)) (c4.1 _ (by omega) (by omega) (by omega) (by omega))
        have hw1 : ∀ p, p < 10 → M1.1 131 (10 * sm u 8 + p) = nI (mk p) ∧ mk p ≤ 999 := fun p hp => by rw [c4.2.1 _ (by omega)]; exact ⟨(hw p hp).1, (hw p hp).2.1⟩
        have xu := hu s (by omega)
        have x12 := xs s (by omega)
        rw [L_X6_goOn_43, l_8, nI_LE (by omega) (by omega), vp_nI (by omega) (by omega), gI, nI_CL (by omega), c3 s (by omega), nI_L0 (by omega), nI_A1, nI_A1, l_10, m_10, m_10]
        refine ⟨by omega, fun _ => ⟨by omega, fun q1 => nx M1 (fun z => by omega) c2 c3 c4, fun q1 => ?_⟩⟩
        refine X1_allows_nn hn1 (by omega) (by show 10 * sm u 8 + 10 ≤ 130; omega) (by show 130 < 100000; omega) hw1 ⟨fun q2 => nx M1 (fun z => ?_) c2 c3 c4, fun q2 => ?_⟩
        · have q2 : bI (can n mk s) = 0 := q2
          have := b_of0 q2
          rw [(can_I (fun p hp => (hw p hp).2.2)).mpr z.2.1] at this; cases this
        · have q2 : ¬ bI (can n mk s) = 0 := q2
          have cn := b_ofn q2
          have cI' := (can_I (u := u) (fun p hp => (hw p hp).2.2)).mp cn
          have cc := (can_iff.mp cn).2
          refine X1_move_sp (by rw [ac_S hn1, isSt_bt (by omega), bt_nI (by omega) (by omega)]; exact cI'.1) (by omega) (by omega) (by omega) (by show 130 < 100000; omega) (by show 10 * sm u 8 + 10 ≤ 130; omega) (by show 10 * (sm u 8 + 1) + 10 ≤ 130; omega) (by omega) ?_
          rw [vp_nI (by omega) (by omega)]
          refine ⟨by omega, fun M5 e5 M6 e6 => ?_⟩
          rw [nI_CL (by omega)] at e5
          have s132 : M5.1 132 s = nI (x s - u s) := by rw [e5, w1_ne (by decide), sA_ne (by decide)]; exact c3 s (by omega)
          rw [gI, nI_CL (by omega), s132, show x s - u s = (x s - (u s + 1)) + 1 by omega, nI_s1] at e6
          have n6 : ∀ b, b ≠ 130 → b ≠ 131 → b ≠ 132 → M6.1 b = M1.1 b := fun b h1 h2 h3 => by rw [e6, w1_ne h3, e5, w1_ne h1, sA_ne h2]
          have f6 : frO (sm u 8) M1 M6 := ⟨fun b h1 h2 h3 _ => n6 b h1 h2 h3, fun j hj => by rw [e6, w1_ne (by decide), e5, w1_ne (by decide), sA_eq, mvF_no (by omega)], fun j hj => by rw [e6, w1_ne (by decide), e5, w1_no (by omega), sA_ne (by decide)], by rw [e6, w1_2, e5, w1_2]; rfl⟩
          have fm6 : FM M6 n x := by unfold FM; rw [n6 133 (by decide) (by decide) (by decide)]; exact c2
          have su : sm (upT1 u s (u s + 1)) 8 = sm u 8 + 1 := sm_up (by omega)
          have f06 := frO_tr c4 f6
          rw [← su]
          refine ih (by omega) (d + 1 + dp) (by omega) (upT1 u s (u s + 1)) (mv n mk s) M6 _ (fun s' hs' => ?_) (by omega) (atC_fr hn1 (n6 _ (by omega) (by omega) (by omega)) (n6 _ (by omega) (by omega) (by omega)) (n6 _ (by omega) (by omega) (by omega)) (n6 _ (by omega) (by omega) (by omega))) (by rw [f06.1 124 (by decide) (by decide) (by decide) (by decide)]; exact h9) (fun s' hs' => by rw [f06.1 129 (by decide) (by decide) (by decide) (by decide)]; exact hb s' hs') (fun s' hs' => ?_) (fun p hp => ?_) fm6 (fun M7 ok7 l7 f7 => ⟨fun z => absurd z (by decide), fun _ => ?_⟩) (fun M7 no7 fm7 l7 f7 => ⟨fun _ M8 e8 => ?_, fun z => absurd rfl z⟩)
          · by_cases z : s' = s
            · rw [z, upT1_s]; omega
            · rw [upT1_o z]; exact hu s' hs'
          · by_cases z : s' = s
            · rw [z, e6, w1_at, upT1_s]
            · rw [e6, w1_no z, upT1_o z, e5, w1_ne (by decide), sA_ne (by decide)]; exact c3 s' hs'
          · have c5 := cc p hp
            refine ⟨?_, ?_, ?_⟩
            · rw [su, e6, w1_ne (by decide), e5, w1_ne (by decide), sA_eq, mvF_at hp, (hw1 p hp).1, ac_G hn1 (by omega), ac_T hn1 (by omega), nI_chg c5.1]; rfl
            · have := (hw p hp).2.1; unfold mv; omega
            · rw [RV_up (by omega), (hw p hp).2.2]
              unfold mv cgI
              have : (((u s + 1 : Nat) : Int) - (u s : Int)) = 1 := by omega
              rw [this, Int.one_mul]
              omega
          · have ok : okU n x (d + 1) u := ⟨s, by omega, by omega, cI', ok7⟩
            obtain ⟨s0, a1, a2, a3, a4, a5, a6⟩ := fsU_ok ok
            have es : s0 = s := by
              rcases Nat.lt_trichotomy s0 s with z | z | z
              · exact absurd ⟨a3, a4, a5⟩ (c1 s0 z)
              · exact z
              · exact absurd ⟨by omega, cI', ok7⟩ (a6 s z)
            rw [es] at a1
            have f67 : frO (sm u 8) M6 M7 := ⟨f7.1, fun j hj => f7.2.1 j (by rw [su]; omega), fun j hj => f7.2.2.1 j (by rw [su]; omega), f7.2.2.2⟩
            refine h1 M7 ok (fun i hi => ?_) (frO_tr f06 f67)
            rw [glU, a1]
            dsimp only
            by_cases z : i = 0
            · rw [if_pos z, z, Nat.add_zero, f7.2.2.1 _ (by rw [su]; omega), e6, w1_ne (by decide), e5, w1_at]
            · rw [if_neg z]
              have := l7 (i - 1) (by omega)
              rw [su, show sm u 8 + 1 + (i - 1) = sm u 8 + i by omega] at this
              exact this
          · have f67 : frO (sm u 8) M6 M7 := ⟨f7.1, fun j hj => f7.2.1 j (by rw [su]; omega), fun j hj => f7.2.2.1 j (by rw [su]; omega), f7.2.2.2⟩
            have l6 : ∀ s', s' < 8 → M7.1 132 s' = nI (x s' - upT1 u s (u s + 1) s') := fun s' hs' => by
              rw [l7 s' hs']
              by_cases z : s' = s
              · rw [z, e6, w1_at, upT1_s]
              · rw [e6, w1_no z, upT1_o z, e5, w1_ne (by decide), sA_ne (by decide)]; exact c3 s' hs'
            rw [gI, nI_CL (by omega), l6 s (by omega), upT1_s, nI_A1, show x s - (u s + 1) + 1 = x s - u s by omega] at e8
            refine nx M8 (fun z => no7 z.2.2) (by unfold FM; rw [e8, w1_ne (by decide)]; exact fm7) (fun s' hs' => ?_) (frO_tr f06 (frO_tr f67 ⟨fun b _ _ h3 _ => by rw [e8, w1_ne h3], fun j _ => by rw [e8, w1_ne (by decide)], fun j _ => by rw [e8, w1_ne (by decide)], by rw [e8, w1_2]⟩))
            by_cases z : s' = s
            · rw [e8, z, w1_at]
            · rw [e8, w1_no z, l6 s' hs', upT1_o z]
    have := lp 8 0 (by omega) M (fun s' hs' => absurd hs' (Nat.not_lt_zero _)) hF hl (frO_rf _ M)
    exact ⟨_, this⟩
theorem J7_fillB_sp {a N : Nat} {M : Mem} {K : Mem → Prop} (hN : alen a = N) (hN2 : N < 100000) (h : ∀ M', (∀ i, i < N → M'.1 a i = 0) → (∀ b, b ≠ a → M'.1 b = M.1 b) → M'.2 = M.2 → K M') : f_J7_fill_031fb a 0 M K := by
  unfold f_J7_fill_031fb
  have key : ∀ d j, j + d = N → ∀ M1 : Mem, (∀ i, i < j → M1.1 a i = 0) → (∀ b, b ≠ a → M1.1 b = M.1 b) → M1.2 = M.2 → L_J7_fill_031fb_5 a 0 (nI N) (fun M_2 => K M_2) K (d + 1) (nI j) M1 := by
    intro d
    induction d with
    | zero =>
      intro j hj M1 h1 h3 h4
      have : j = N := by omega
      subst this
      rw [L_J7_fill_031fb_5, nI_LE (by omega) (by omega)]
      exact ⟨fun _ => h M1 h1 h3 h4, by omega⟩
    | succ d ih =>
      intro j hj M1 h1 h3 h4
      rw [L_J7_fill_031fb_5, nI_LE (by omega) (by omega), hN, vp_nI (by omega) (by omega), nI_CL (by omega), nI_A1, show (0 : Int32).toInt8.toInt32 = 0 by decide]
      refine ⟨by omega, fun _ => ⟨by omega, fun M2 e2 => ih (j + 1) (by omega) M2 (fun i hi => ?_) (fun b hb => by rw [e2, w1_ne hb, h3 b hb]) (by rw [e2, w1_2, h4])⟩⟩
      by_cases q : i = j
      · rw [e2, q, w1_at]
      · rw [e2, w1_no q]; exact h1 i (by omega)
  have := key N 0 (by omega) M (fun i hi => absurd hi (Nat.not_lt_zero i)) (fun _ _ => rfl) rfl
  rw [hN]
  intro x3 e3
  rw [e3]
  exact ⟨_, this⟩
/-- the order, as the class has it -/
def LN (M : Mem) (n : NN) (x : Nat → Nat) : Prop := M.1 124 14 = bI (pB (okU n x (sm x 8) (fun _ => 0))) ∧ (okU n x (sm x 8) (fun _ => 0) → ∀ i, i < sm x 8 → M.1 130 i = nI (glU n x (sm x 8) (fun _ => 0) i))
theorem X6_findOrder_sp {nc tp ts : Nat} {n : NN} {x : Nat → Nat} {M : Mem} {K : Int32 → Mem → Prop} (hnc : nc + 3 < 124) (hn : atC M nc n tp ts) (hx12 : sm x 8 ≤ 12) (h9 : M.1 124 9 = nI (sm x 8)) (hb : ∀ s, s < 8 → M.1 129 s = nI (x s)) (hL : M.1 124 13 ≠ 0 → LN M n x)
    (h : ∀ M', LN M' n x → M'.1 124 13 ≠ 0 → (∀ j, j ≠ 13 → j ≠ 14 → M'.1 124 j = M.1 124 j) → (∀ b, b ≠ 124 → b ≠ 130 → b ≠ 131 → b ≠ 132 → b ≠ 133 → M'.1 b = M.1 b) → M'.2 = M.2 → K (bI (pB (okU n x (sm x 8) (fun _ => 0)))) M') : f_X6_findOrder nc M K := by
  have hwf := hn.2.2.2
  unfold f_X6_findOrder
  refine ⟨fun q M2 e2 M3 e3 M4 e4 => ?_, fun q => ?_⟩
  · rw [show (0 : Int32).toNatClampNeg = 0 from rfl, show (8 : Int32).toNatClampNeg = 8 from rfl] at e3
    rw [show (0 : Int32).toNatClampNeg = 0 from rfl, show (10 : Int32).toNatClampNeg = 10 from rfl] at e4
    have n4 : ∀ b, b ≠ 124 → b ≠ 131 → b ≠ 132 → M4.1 b = M.1 b := fun b h1 h2 h3 => by rw [e4, wC_ne h2, e3, wC_ne h3, e2, w1_ne h1]
    have t4 : ∀ j, j ≠ 13 → M4.1 124 j = M.1 124 j := fun j hj => by rw [e4, wC_ne (by decide), e3, wC_ne (by decide), e2, w1_no hj]
    refine J7_fillB_sp (N := 1296) rfl (by omega) (fun M5 a1 a2 a3 => ?_)
    have n5 : ∀ b, b ≠ 124 → b ≠ 131 → b ≠ 132 → b ≠ 133 → M5.1 b = M.1 b := fun b h1 h2 h3 h4 => by rw [a2 b h4, n4 b h1 h2 h3]
    have hn5 : atC M5 nc n tp ts := atC_fr hn (n5 _ (by omega) (by omega) (by omega) (by omega)) (n5 _ (by omega) (by omega) (by omega) (by omega)) (n5 _ (by omega) (by omega) (by omega) (by omega)) (n5 _ (by omega) (by omega) (by omega) (by omega))
    have hp := pr_1296 hx12
    have z8 : sm (fun _ => 0) 8 = 0 := rfl
    have fin : ∀ (b : Bool) (M6 : Mem), b = pB (okU n x (sm x 8) (fun _ => 0)) → (okU n x (sm x 8) (fun _ => 0) → ∀ i, i < sm x 8 → M6.1 130 i = nI (glU n x (sm x 8) (fun _ => 0) i)) → frO 0 M5 M6 → (bI b &&& 1 = bI b) ∧ ∀ M_7 : Mem, M_7 = wI M6 124 14 (bI b) → ((M_7.1 124 14) &&& 1 = (M_7.1 124 14)) ∧ K (M_7.1 124 14) M_7 := fun b M6 eb l6 f6 => by
      refine ⟨bI_z b, fun M7 e7 => ?_⟩
      have s13 : M7.1 124 14 = bI b := by rw [e7, w1_at]
      rw [s13, bI_z]
      refine ⟨rfl, ?_⟩
      rw [eb]
      have t7 : ∀ j, j ≠ 14 → M7.1 124 j = M4.1 124 j := fun j hj => by rw [e7, w1_no hj, f6.1 124 (by decide) (by decide) (by decide) (by decide), a2 124 (by decide)]
      refine h M7 ⟨by rw [s13, eb], fun ok i hi => by rw [e7, w1_ne (by decide)]; exact l6 ok i hi⟩ ?_ (fun j h1 h2 => by rw [t7 j h2, t4 j h1]) (fun b h1 h2 h3 h4 h5 => by rw [e7, w1_ne h1, f6.1 b h2 h3 h4 h5, n5 b h1 h3 h4 h5]) (by rw [e7, w1_2, f6.2.2.2, a3, e4, wC_2, e3, wC_2, e2, w1_2])
      rw [t7 13 (by decide), e4, wC_ne (by decide), e3, wC_ne (by decide), e2, w1_at]; decide
    have := X6_goOn_sp (n := n) (x := x) hnc hwf hx12 (sm x 8) (Nat.le_refl _) 16 (by omega) (fun _ => 0) (nH n) M5 (fun (r_2 : Int32) (M_6 : Mem) => (r_2 &&& 1 = r_2) ∧ ∀ M_7 : Mem, M_7 = wI M_6 124 14 r_2 → ((M_7.1 124 14) &&& 1 = (M_7.1 124 14)) ∧ K (M_7.1 124 14) M_7) (fun _ _ => Nat.zero_le _) (by rw [z8]; omega) hn5 (by rw [a2 124 (by decide), t4 9 (by decide)]; exact h9) (fun s hs => by rw [n5 129 (by decide) (by decide) (by decide) (by decide)]; exact hb s hs) (fun s hs => ?_) (fun p hp' => ?_) (fun u hu q5 => ?_) (fun M6 ok6 l6 f6 => ?_) (fun M6 no6 fm6 _ f6 => ?_)
    · exact this
    · rw [a2 132 (by decide), e4, wC_ne (by decide), e3, wC_eq, cpy0, if_pos hs, e2, w1_ne (by decide), hb s hs]; rfl
    · refine ⟨?_, wf_H hwf p, ?_⟩
      · rw [z8, show 10 * 0 + p = p by omega, a2 131 (by decide), e4, wC_eq, cpy0, if_pos hp', e3, wC_ne (by omega), e2, w1_ne (by omega)]
        exact ac_H hn hp'
      · unfold RV
        rw [dt_cm]
        have z0 : dt 8 (fun s => (((fun _ => 0) s : Nat) : Int)) (fun s => cgI n s p) = 0 := dt_z (fun _ _ => rfl)
        rw [z0]; omega
    · have l := pt_lt (x := x) (w := fun s => x s - u s) (s := 8) (fun i hi => by omega)
      rw [a1 _ (by omega)] at q5
      exact absurd q5 (by decide)
    · refine fin true M6 (pB_t ok6).symm (fun _ i hi => ?_) f6
      have := l6 i hi
      rw [z8, Nat.zero_add] at this
      exact this
    · exact fin false M6 (pB_f no6).symm (fun ok => absurd ok no6) f6
  · have l := hL q
    rw [l.1, bI_z]
    exact ⟨rfl, h M l q (fun _ _ _ => rfl) (fun _ _ _ _ _ _ => rfl) rfl⟩
