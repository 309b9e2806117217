/-! the reference: parts of the counts, and what can end -/
theorem canN_I {n : NN} {u : Nat → Nat} {s tp ts : Nat} {T G row : Nat → Int32} {S : Int32} (w : WF n tp ts) (hs : s < 8) (hT : ∀ i, i < 80 → T i = nI (nT n i)) (hG : ∀ i, i < 80 → G i = nI (nG n i)) (hS : S = nI (nS n)) (hr : ∀ p, p < 10 → row p = cI (RV n u p)) (hu : ∀ s, s < 8 → u s ≤ 12) : canN T G row S s 0 = pB (canI n u s) := by
  have hS8 := wf_S w
  refine pB_eq ?_
  unfold canN canI
  rw [hS, bt_nI (by omega) (by omega), Bool.and_eq_true, allB_iff]
  have e : ∀ p, p < 10 → (can1 T G row s 0 p = true ↔ (nT n (10 * s + p) : Int) ≤ RV n u p ∧ RV n u p - (nT n (10 * s + p) : Int) + (nG n (10 * s + p) : Int) ≤ 999) := fun p hp => by
    have a1 := wf_T3 w (10 * s + p)
    have a2 := wf_G3 w (10 * s + p)
    have a3 := RV_b w hu p
    unfold can1
    rw [Nat.zero_add, hT _ (by omega), hG _ (by omega), hr p hp, nI_cI (a := nT n (10 * s + p)) (by omega), nI_cI (a := nG n (10 * s + p)) (by omega), cI_sub, cI_add, Bool.and_eq_true, decide_eq_true_eq, decide_eq_true_eq, i_le, i_le, cI_T (by omega) (by omega), cI_T (by omega) (by omega), cI_T (by omega) (by omega), t_999]
  exact ⟨fun h => ⟨h.1, fun p hp => (e p hp).mp (h.2 p hp)⟩, fun h => ⟨h.1, fun p hp => (e p hp).mpr (h.2 p hp)⟩⟩
/-- weights and counts -/
def WT (M : Mem) (x : Nat → Nat) : Prop := (∀ s, s < 8 → M.1 22 s = nI (pr x s)) ∧ ∀ s, s < 8 → M.1 20 s = nI (x s)
theorem dgI {x : Nat → Nat} {a s : Nat} (hx : pr x 8 ≤ 1296) (ha : a < pr x 8) (hs : s < 8) (hxs : x s ≤ 12) : irem (nI a / nI (pr x s)) (nI (x s) + 1) = nI (dg x a s) := by
  have p1 := pr_mono (x := x) (show s ≤ 8 by omega)
  have p0 := pr_0 x s
  have dl := Nat.div_le_self a (pr x s)
  rw [pk_div (by omega) (by omega) (by omega), nI_A1, irem_n (by omega) (by omega) (by omega)]; rfl
theorem X9_layPart_sp {n : NN} {x : Nat → Nat} {a tp ts : Nat} {M : Mem} {K : Mem → Prop} (hn : rt M 0 = enc n) (hwf : WF n tp ts) (hW : WT M x) (hx : pr x 8 ≤ 1296) (hx12 : ∀ s, s < 8 → x s ≤ 12) (ha : a < pr x 8) (h : ∀ M', (∀ p, p < 10 → M'.1 21 p = cI (RV n (dg x a) p)) → fr1 21 M M' → K M') : f_X9_layPart (nI a) M K := by
  unfold f_X9_layPart
  have rt1 : ∀ M1 : Mem, fr1 21 M M1 → rt M1 0 = enc n := fun M1 f => by
    have : rt M1 0 = rt M 0 := by unfold rt; rw [f.1 1 (by decide), f.1 2 (by decide), f.1 3 (by decide), f.1 4 (by decide), f.1 5 (by decide)]
    rw [this]; exact hn
  have inner : ∀ (p : Nat), p < 10 → ∀ (X : Mem → Prop) (M1 : Mem), fr1 21 M M1 → M1.1 21 p = cI (nH n p : Int) → (∀ M', M'.1 21 p = cI (RV n (dg x a) p) → (∀ j, j ≠ p → M'.1 21 j = M1.1 21 j) → fr1 21 M M' → X M') → ∃ g, L_X9_layPart_22 (nI a) (nI p) X K g 0 M1 := by
    intro p hp X M1 f1 h1 kk
    have key : ∀ d s, s + d = 8 → ∀ M2 : Mem, M2.1 21 p = cI ((nH n p : Int) + dt s (fun s => cgI n s p) (fun s => (dg x a s : Int))) → (∀ j, j ≠ p → M2.1 21 j = M1.1 21 j) → fr1 21 M M2 → L_X9_layPart_22 (nI a) (nI p) X K (d + 1) (nI s) M2 := by
      intro d
      induction d with
      | zero =>
        intro s hs M2 c1 c2 c3
        have : s = 8 := by omega
        subst this
        rw [L_X9_layPart_22, l_8, nI_LE (by omega) (by omega)]
        exact ⟨fun _ => kk M2 c1 c2 c3, by omega⟩
      | succ d ih =>
        intro s hs M2 c1 c2 c3
        have p0 := pr_0 x s
        have p1 := pr_mono (x := x) (show s ≤ 8 by omega)
        have xs := hx12 s (by omega)
        have g22 : gI M2 22 (nI s) = nI (pr x s) := by rw [gI, nI_CL (by omega), c3.1 22 (by decide)]; exact hW.1 s (by omega)
        have g20 : gI M2 20 (nI s) = nI (x s) := by rw [gI, nI_CL (by omega), c3.1 20 (by decide)]; exact hW.2 s (by omega)
        have g21 : gI M2 21 (nI p) = cI ((nH n p : Int) + dt s (fun s => cgI n s p) (fun s => (dg x a s : Int))) := by rw [gI, nI_CL (by omega)]; exact c1
        rw [L_X9_layPart_22, l_8, nI_LE (by omega) (by omega), vp_nI (by omega) (by omega), vp_nI (by omega) (by omega), g22, g20, g21, dgI hx ha (by omega) xs, nI_A1, nI_A1, nI_Z (by omega), nI_Z (by omega), nI_CL (by omega)]
        refine ⟨by omega, fun _ => ⟨by omega, by omega, by omega, by omega, X9_change_sp (g := 0) (by omega) (by omega) hp (fun M4 e4 => ?_)⟩⟩
        have dl := dg_le x a s
        rw [chg_c (rt1 M2 c3) hwf (by omega) hp, nI_cI (a := dg x a s) (by omega), cI_mul, cI_add] at e4
        refine ih (s + 1) (by omega) M4 ?_ (fun j hj => by rw [e4, w1_no hj]; exact c2 j hj) (by rw [e4]; exact fr1_tr c3 (fr1_w M2))
        rw [e4, w1_at, dt]
        congr 1
        rw [Int.mul_comm (dg x a s : Int)]; omega
    refine ⟨_, key 8 0 (by omega) M1 (by rw [h1, dt, Int.add_zero]) (fun _ _ => rfl) f1⟩
  have key : ∀ d p, p + d = 10 → ∀ M1 : Mem, (∀ j, j < p → M1.1 21 j = cI (RV n (dg x a) j)) → fr1 21 M M1 → L_X9_layPart_2 (nI a) (fun M_6 => K M_6) K (d + 1) (nI p) M1 := by
    intro d
    induction d with
    | zero =>
      intro p hp M1 c1 c2
      rw [L_X9_layPart_2, l_10, nI_LE (by omega) (by omega)]
      exact ⟨fun _ => h M1 (fun j hj => c1 j (by omega)) c2, by omega⟩
    | succ d ih =>
      intro p hp M1 c1 c2
      have h3 : gI M1 3 (nI p) = cI (nH n p : Int) := by
        have := rt_H (rt1 M1 c2) (i := p) (by omega)
        have hh := wf_H hwf p
        rw [gI, nI_CL (by omega), ← nI_cI (by omega), ← this, show 10 * 0 + p = p by omega]
      rw [L_X9_layPart_2, l_10, nI_LE (by omega) (by omega), vp_nI (by omega) (by omega), vp_nI (by omega) (by omega), h3, nI_CL (by omega), nI_A1]
      refine ⟨by omega, fun _ => ⟨by omega, by omega, fun M2 e2 => ?_⟩⟩
      refine inner p (by omega) _ M2 (by rw [e2]; exact fr1_tr c2 (fr1_w M1)) (by rw [e2, w1_at]) (fun M3 a1 a2 a3 => ih (p + 1) (by omega) M3 (fun j hj => ?_) a3)
      by_cases q : j = p
      · rw [q]; exact a1
      · rw [a2 j q, e2, w1_no q]; exact c1 j (by omega)
  exact ⟨_, key 10 0 (by omega) M (fun j hj => absurd hj (Nat.not_lt_zero _)) (fr1_rf _ M)⟩
theorem X9_goesOnBy_sp {n : NN} {x : Nat → Nat} {a s tp ts : Nat} {ce : Nat → Bool} {M : Mem} {K : Int32 → Mem → Prop} (hn : rt M 0 = enc n) (hwf : WF n tp ts) (hW : WT M x) (hx : pr x 8 ≤ 1296) (hx12 : ∀ s, s < 8 → x s ≤ 12) (ha : a < pr x 8) (hs : s < 8) (hrow : ∀ p, p < 10 → M.1 21 p = cI (RV n (dg x a) p)) (hce : dg x a s < x s → M.1 23 (a + pr x s) = bI (ce (a + pr x s)))
    (h : K (bI (pB (dg x a s < x s ∧ ce (a + pr x s) = true ∧ canI n (dg x a) s))) M) : f_X9_goesOnBy (nI a) (nI s) M K := by
  unfold f_X9_goesOnBy
  have p0 := pr_0 x s
  have p1 := pr_mono (x := x) (show s ≤ 8 by omega)
  have xs := hx12 s hs
  have dl := dg_le x a s
  have g22 : gI M 22 (nI s) = nI (pr x s) := by rw [gI, nI_CL (by omega)]; exact hW.1 s hs
  have g20 : gI M 20 (nI s) = nI (x s) := by rw [gI, nI_CL (by omega)]; exact hW.2 s hs
  rw [vp_nI (by omega) (by omega), g22, g20, dgI hx ha hs xs, nI_A1, nI_Z (by omega), nI_Z (by omega), nI_LE (by omega) (by omega), nI_add, vp_nI (by omega) (by omega), gI, nI_CL (by omega)]
  refine ⟨hs, by omega, by omega, fun q => ?_, fun q => ?_⟩
  · rw [pB_f (fun z => by omega)] at h; exact h
  · have up := dg_up ha hs (show dg x a s < x s by omega)
    refine ⟨by omega, fun z => ?_, fun z => ?_⟩
    · rw [hce (by omega)] at z
      rw [pB_f (fun w => by rw [w.2.1] at z; exact absurd z (by decide))] at h; exact h
    · rw [hce (by omega)] at z
      have cn := canN_I (u := dg x a) (T := fun i => M.1 1 (80 * 0 + i)) (G := fun i => M.1 2 (80 * 0 + i)) (row := M.1 21) (S := M.1 5 0) hwf hs (fun i hi => rt_T hn hi) (fun i hi => rt_G hn hi) (rt_S hn) hrow (fun s hs => Nat.le_trans (dg_le x a s) (hx12 s hs))
      refine X9_canBe_sp (g := 0) (a := 21) (o := 0) (by omega) hs (by show 0 + 10 ≤ 10; omega) (by show 10 < 100000; omega) ⟨fun y => ?_, fun y => ?_⟩
      · rw [cn] at y
        have y := b_of0 y
        rw [pB_f (fun w => by rw [pB_t w.2.2] at y; cases y)] at h; exact h
      · rw [cn] at y
        rw [pB_t ⟨by omega, b_ofn z, pB_iff.mp (b_ofn y)⟩] at h; exact h
/-- whether what is left behind a part can be done -/
noncomputable def ceB (n : NN) (x : Nat → Nat) (a : Nat) : Bool := pB (okU n x (sm x 8 - sm (dg x a) 8) (dg x a))
theorem ceB_s {n : NN} {x : Nat → Nat} {a : Nat} (ha : a < pr x 8) : ceB n x a = true ↔ a = pr x 8 - 1 ∨ ∃ s, s < 8 ∧ dg x a s < x s ∧ ceB n x (a + pr x s) = true ∧ canI n (dg x a) s := by
  have le := sm_leq (u := dg x a) (x := x) (k := 8) (fun s _ => dg_le x a s)
  have nxt : ∀ s, s < 8 → dg x a s < x s → (ceB n x (a + pr x s) = true ↔ okU n x (sm x 8 - sm (dg x a) 8 - 1) (upT1 (dg x a) s (dg x a s + 1))) := fun s hs hd => by
    have up := dg_up ha hs hd
    have e : sm (dg x (a + pr x s)) 8 = sm (dg x a) 8 + 1 := by rw [sm_cong' up.2]; exact sm_up hs
    unfold ceB
    rw [pB_iff, e, okU_cong up.2, Nat.sub_add_eq]
  unfold ceB
  rw [pB_iff]
  rcases Nat.eq_zero_or_pos (sm x 8 - sm (dg x a) 8) with z | z
  · rw [z]
    have full : ∀ i, i < 8 → dg x a i = x i := by
      have key : ∀ k, k ≤ 8 → sm x k ≤ sm (dg x a) k + (sm x 8 - sm (dg x a) 8) + 0 → True := fun _ _ _ => trivial
      intro i hi
      refine Classical.byContradiction fun w => ?_
      have d := dg_le x a i
      have lt : ∀ k, i < k → sm (dg x a) k < sm x k := by
        intro k
        induction k with
        | zero => intro h; omega
        | succ k ih =>
          intro h
          rw [sm, sm]
          have dk := dg_le x a k
          by_cases y : i = k
          · have := sm_leq (u := dg x a) (x := x) (k := k) (fun s _ => dg_le x a s)
            rw [← y] at dk ⊢
            rw [← y] at this
            omega
          · have := ih (by omega); omega
      have := lt 8 hi
      omega
    exact ⟨fun _ => Or.inl ((dg_full ha).mp full), fun _ => trivial⟩
  · obtain ⟨d, hd⟩ : ∃ d, sm x 8 - sm (dg x a) 8 = d + 1 := ⟨_, (Nat.sub_add_cancel z).symm⟩
    rw [hd]
    constructor
    · intro ⟨s, s1, s2, s3, s4⟩
      refine Or.inr ⟨s, s1, s2, (nxt s s1 s2).mpr ?_, s3⟩
      rw [hd]; exact s4
    · intro q
      rcases q with q | ⟨s, s1, s2, s3, s4⟩
      · have := sm_cong' ((dg_full ha).mpr q)
        omega
      · have := (nxt s s1 s2).mp s3
        rw [hd] at this
        exact ⟨s, s1, s2, s4, this⟩
def SH (M : Mem) (n : NN) (x : Nat → Nat) : Prop := WT M x ∧ ∀ a, a < pr x 8 → M.1 23 a = bI (ceB n x a)
theorem bI_or (a b : Bool) : (bI a ||| bI b) &&& 1 = bI (a || b) := by cases a <;> cases b <;> decide
theorem X9_sh85_sp {n : NN} {x : Nat → Nat} {a tp ts : Nat} {M : Mem} {X K : Mem → Prop} (hn : rt M 0 = enc n) (hwf : WF n tp ts) (hW : WT M x) (hx : pr x 8 ≤ 1296) (hx12 : ∀ s, s < 8 → x s ≤ 12) (ha : a < pr x 8) (hrow : ∀ p, p < 10 → M.1 21 p = cI (RV n (dg x a) p)) (hce : ∀ a', a < a' → a' < pr x 8 → M.1 23 a' = bI (ceB n x a')) (h0 : M.1 23 a = bI (decide (a = pr x 8 - 1)))
    (h : ∀ M', M'.1 23 a = bI (ceB n x a) → (∀ j, j ≠ a → M'.1 23 j = M.1 23 j) → fr1 23 M M' → X M') : ∃ g, L_X9_layShapes_85 (nI a) X K g 0 M := by
  have key : ∀ d s, s + d = 8 → ∀ M1 : Mem, M1.1 23 a = bI (pB (a = pr x 8 - 1 ∨ ∃ s', s' < s ∧ dg x a s' < x s' ∧ ceB n x (a + pr x s') = true ∧ canI n (dg x a) s')) → (∀ j, j ≠ a → M1.1 23 j = M.1 23 j) → fr1 23 M M1 → L_X9_layShapes_85 (nI a) X K (d + 1) (nI s) M1 := by
    intro d
    induction d with
    | zero =>
      intro s hs M1 c1 c2 c3
      have : s = 8 := by omega
      subst this
      rw [L_X9_layShapes_85, l_8, nI_LE (by omega) (by omega)]
      refine ⟨fun _ => h M1 ?_ c2 c3, by omega⟩
      rw [c1]
      exact congrArg bI (pB_eq (ceB_s ha)).symm
    | succ d ih =>
      intro s hs M1 c1 c2 c3
      have p0 := pr_0 x s
      have hn1 : rt M1 0 = enc n := by
        have : rt M1 0 = rt M 0 := by unfold rt; rw [c3.1 1 (by decide), c3.1 2 (by decide), c3.1 3 (by decide), c3.1 4 (by decide), c3.1 5 (by decide)]
        rw [this]; exact hn
      rw [L_X9_layShapes_85, l_8, nI_LE (by omega) (by omega), vp_nI (by omega) (by omega), gI, nI_CL (by omega), c1, nI_A1]
      refine ⟨by omega, fun _ => ⟨by omega, X9_goesOnBy_sp (ce := ceB n x) hn1 hwf ⟨fun s hs => by rw [c3.1 22 (by decide)]; exact hW.1 s hs, fun s hs => by rw [c3.1 20 (by decide)]; exact hW.2 s hs⟩ hx hx12 ha (by omega) (fun p hp => by rw [c3.1 21 (by decide)]; exact hrow p hp) (fun q => by
        have up := dg_up ha (show s < 8 by omega) q
        rw [c2 _ (by omega)]; exact hce _ (by omega) up.1) (fun M9 e9 => ?_)⟩⟩
      rw [bI_or] at e9
      refine ih (s + 1) (by omega) M9 ?_ (fun j hj => by rw [e9, w1_no hj]; exact c2 j hj) (by rw [e9]; exact fr1_tr c3 (fr1_w M1))
      rw [e9, w1_at]
      refine congrArg bI (pB_eq ?_)
      rw [Bool.or_eq_true, pB_iff, pB_iff]
      constructor
      · intro q
        rcases q with (q | ⟨s', q1, q2⟩) | q
        · exact Or.inl q
        · exact Or.inr ⟨s', by omega, q2⟩
        · exact Or.inr ⟨s, by omega, q⟩
      · intro q
        rcases q with q | ⟨s', q1, q2⟩
        · exact Or.inl (Or.inl q)
        · rcases Nat.lt_succ_iff_lt_or_eq.mp q1 with z | z
          · exact Or.inl (Or.inr ⟨s', z, q2⟩)
          · rw [z] at q2; exact Or.inr q2
  refine ⟨_, key 8 0 (by omega) M ?_ (fun _ _ => rfl) (fr1_rf _ M)⟩
  rw [h0]
  refine congrArg bI (pB_eq ?_)
  rw [decide_eq_true_eq]
  exact ⟨fun q => Or.inl q, fun q => q.elim id (fun ⟨s', q1, _⟩ => absurd q1 (Nat.not_lt_zero _))⟩
theorem X9_layShapes_sp {n : NN} {x : Nat → Nat} {tp ts : Nat} {M : Mem} {K : Mem → Prop} (hn : rt M 0 = enc n) (hwf : WF n tp ts) (hx12 : sm x 8 ≤ 12) (hxm : ∀ s, s < 8 → M.1 20 s = nI (x s)) (h : ∀ M', SH M' n x → (∀ b, b ≠ 0 → b ≠ 21 → b ≠ 22 → b ≠ 23 → M'.1 b = M.1 b) → (∀ j, j ≠ 41 → M'.1 0 j = M.1 0 j) → M'.2 = M.2 → K M') : f_X9_layShapes M K := by
  have hx := pr_1296 hx12
  have xs : ∀ s, s < 8 → x s ≤ 12 := fun s hs => by
    have := sm_mono (f := x) (show s + 1 ≤ 8 by omega)
    rw [sm] at this; omega
  unfold f_X9_layShapes
  intro M2 e2
  have fr5 : ∀ M5 : Mem, (∀ b, b ≠ 0 → b ≠ 22 → M5.1 b = M.1 b) → (∀ j, j ≠ 41 → M5.1 0 j = M.1 0 j) → M5.2 = M.2 → M5.1 0 41 = nI (pr x 8) → (∀ s, s < 8 → M5.1 22 s = nI (pr x s)) → ∀ x1 : Int32, x1 = (M5.1 0 41) - (1 : Int32) → (∃ k53 : Nat, L_X9_layShapes_53 (fun (M_11 : Mem) => K M_11) K k53 x1 M5) := by
    intro M5 a1 a2 a3 a4 a5 x1 e1
    rw [a4] at e1
    subst e1
    have key : ∀ a, a ≤ pr x 8 → ∀ M6 : Mem, (∀ a', a ≤ a' → a' < pr x 8 → M6.1 23 a' = bI (ceB n x a')) → (∀ b, b ≠ 21 → b ≠ 23 → M6.1 b = M5.1 b) → M6.2 = M.2 → L_X9_layShapes_53 (fun (M_11 : Mem) => K M_11) K (a + 1) (nI a - 1) M6 := by
      intro a
      induction a with
      | zero =>
        intro _ M6 c1 c2 c3
        rw [L_X9_layShapes_53]
        refine ⟨fun _ => h M6 ⟨⟨fun s hs => by rw [c2 22 (by decide) (by decide)]; exact a5 s hs, fun s hs => by rw [c2 20 (by decide) (by decide), a1 20 (by decide) (by decide)]; exact hxm s hs⟩, fun a' ha' => c1 a' (Nat.zero_le _) ha'⟩ (fun b h1 h2 h3 h4 => by rw [c2 b h2 h4, a1 b h1 h3]) (fun j hj => by rw [c2 0 (by decide) (by decide), a2 j hj]) c3, fun z => absurd (show nI 0 - 1 < 0 by decide) z⟩
      | succ a ih =>
        intro ha M6 c1 c2 c3
        have em : nI a + (-1) = nI a - 1 := by rw [Int32.sub_eq_add_neg]
        have p0 := pr_0 x 8
        rw [nI_s1, L_X9_layShapes_53, vp_nI (by omega) (by omega), nI_CL (by omega), c2 0 (by decide) (by decide), a4, show pr x 8 = (pr x 8 - 1) + 1 by omega, nI_s1, if_eqI (by omega) (by omega), em]
        refine ⟨fun z => absurd z (nI_neg (by omega)), fun _ => ⟨by omega, fun M7 e7 => ?_⟩⟩
        have n7 : ∀ b, b ≠ 23 → M7.1 b = M6.1 b := fun b hb => by rw [e7, w1_ne hb]
        have w7 : WT M7 x := ⟨fun s hs => by rw [n7 22 (by decide), c2 22 (by decide) (by decide)]; exact a5 s hs, fun s hs => by rw [n7 20 (by decide), c2 20 (by decide) (by decide), a1 20 (by decide) (by decide)]; exact hxm s hs⟩
        have rt7 : rt M7 0 = enc n := by
          have : rt M7 0 = rt M 0 := by
            unfold rt
            rw [n7 1 (by decide), n7 2 (by decide), n7 3 (by decide), n7 4 (by decide), n7 5 (by decide), c2 1 (by decide) (by decide), c2 2 (by decide) (by decide), c2 3 (by decide) (by decide), c2 4 (by decide) (by decide), c2 5 (by decide) (by decide), a1 1 (by decide) (by decide), a1 2 (by decide) (by decide), a1 3 (by decide) (by decide), a1 4 (by decide) (by decide), a1 5 (by decide) (by decide)]
          rw [this]; exact hn
        refine X9_layPart_sp rt7 hwf w7 hx xs (by omega) (fun M8 r8 f8 => ?_)
        have rt8 : rt M8 0 = enc n := by
          have : rt M8 0 = rt M7 0 := by unfold rt; rw [f8.1 1 (by decide), f8.1 2 (by decide), f8.1 3 (by decide), f8.1 4 (by decide), f8.1 5 (by decide)]
          rw [this]; exact rt7
        refine X9_sh85_sp rt8 hwf ⟨fun s hs => by rw [f8.1 22 (by decide)]; exact w7.1 s hs, fun s hs => by rw [f8.1 20 (by decide)]; exact w7.2 s hs⟩ hx xs (by omega) r8 (fun a' h1 h2 => by rw [f8.1 23 (by decide), e7, w1_no (by omega)]; exact c1 a' (by omega) h2) (by rw [f8.1 23 (by decide), e7, w1_at]) (fun M9 d1 d2 f9 => ih (by omega) M9 (fun a' h1 h2 => ?_) (fun b h1 h2 => by rw [f9.1 b h2, f8.1 b h1, n7 b h2, c2 b h1 h2]) (by rw [f9.2, f8.2, e7, w1_2, c3]))
        by_cases q : a' = a
        · rw [q]; exact d1
        · rw [d2 a' q, f8.1 23 (by decide), e7, w1_no q]; exact c1 a' (by omega) h2
    exact ⟨_, key (pr x 8) (Nat.le_refl _) M5 (fun a' h1 h2 => by omega) (fun _ _ _ => rfl) a3⟩
  have key : ∀ d s, s + d = 8 → ∀ M1 : Mem, M1.1 0 41 = nI (pr x s) → (∀ j, j < s → M1.1 22 j = nI (pr x j)) → (∀ b, b ≠ 0 → b ≠ 22 → M1.1 b = M.1 b) → (∀ j, j ≠ 41 → M1.1 0 j = M.1 0 j) → M1.2 = M.2 → L_X9_layShapes_7 (fun (M_5 : Mem) => ∀ x1 : Int32, x1 = (M_5.1 0 41) - (1 : Int32) → (∃ k53 : Nat, L_X9_layShapes_53 (fun (M_11 : Mem) => K M_11) K k53 x1 M_5)) K (d + 1) (nI s) M1 := by
    intro d
    induction d with
    | zero =>
      intro s hs M1 c1 c2 c3 c4 c5
      have : s = 8 := by omega
      subst this
      rw [L_X9_layShapes_7, l_8, nI_LE (by omega) (by omega)]
      exact ⟨fun _ => fr5 M1 c3 c4 c5 c1 c2, by omega⟩
    | succ d ih =>
      intro s hs M1 c1 c2 c3 c4 c5
      rw [L_X9_layShapes_7, l_8, nI_LE (by omega) (by omega), vp_nI (by omega) (by omega), nI_CL (by omega), nI_A1, c1]
      refine ⟨by omega, fun _ => ⟨by omega, fun M3 e3 M4 e4 => ?_⟩⟩
      have s41 : M3.1 0 41 = nI (pr x s) := by rw [e3, w1_ne (by decide)]; exact c1
      have s20 : M3.1 20 s = nI (x s) := by rw [e3, w1_ne (by decide), c3 20 (by decide) (by decide)]; exact hxm s (by omega)
      rw [s41, gI, nI_CL (by omega), s20, nI_A1, pk_mul] at e4
      refine ih (s + 1) (by omega) M4 (by rw [e4, w1_at]; rfl) (fun j hj => ?_) (fun b h1 h2 => by rw [e4, w1_ne h1, e3, w1_ne h2, c3 b h1 h2]) (fun j hj => by rw [e4, w1_no hj, e3, w1_ne (by decide), c4 j hj]) (by rw [e4, w1_2, e3, w1_2, c5])
      by_cases q : j = s
      · rw [e4, w1_ne (by decide), e3, q, w1_at]
      · rw [e4, w1_ne (by decide), e3, w1_no q]; exact c2 j (by omega)
  exact ⟨_, key 8 0 (by omega) M2 (by rw [e2, w1_at]; rfl) (fun j hj => absurd hj (Nat.not_lt_zero _)) (fun b h1 _ => by rw [e2, w1_ne h1]) (fun j hj => by rw [e2, w1_no hj]) (by rw [e2, w1_2])⟩
