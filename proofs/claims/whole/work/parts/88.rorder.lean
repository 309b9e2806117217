/-! the reference: counts and order, whole -/
def RCt (M : Mem) (n : NN) (am : Nat → Nat) : Prop := (M.1 0 40 = nI 13 ∧ BN n am) ∨ ∃ x, M.1 0 40 = nI (sm x 8) ∧ (∀ s, s < 8 → M.1 20 s = nI (x s)) ∧ BX n am x ∧ SH M n x
theorem X9_lc21_sp {n : NN} {tp ts : Nat} {M : Mem} {X K : Mem → Prop} (hn : rt M 0 = enc n) (hwf : WF n tp ts) (h : ∀ M', (∀ p, p < 10 → M'.1 21 p = cI (nH n p : Int)) → fr1 21 M M' → X M') : ∃ g, L_X9_layCounts_21 X K g 0 M := by
  have key : ∀ d p, p + d = 10 → ∀ M1 : Mem, (∀ j, j < p → M1.1 21 j = cI (nH n j : Int)) → fr1 21 M M1 → L_X9_layCounts_21 X K (d + 1) (nI p) M1 := by
    intro d
    induction d with
    | zero =>
      intro p hp M1 c1 c2
      rw [L_X9_layCounts_21, l_10, nI_LE (by omega) (by omega)]
      exact ⟨fun _ => h M1 (fun j hj => c1 j (by omega)) c2, by omega⟩
    | succ d ih =>
      intro p hp M1 c1 c2
      have h3 : gI M1 3 (nI p) = cI (nH n p : Int) := by
        have := rt_H hn (i := p) (by omega)
        have hh := wf_H hwf p
        rw [gI, nI_CL (by omega), c2.1 3 (by decide), ← nI_cI (by omega), ← this, show 10 * 0 + p = p by omega]
      rw [L_X9_layCounts_21, l_10, nI_LE (by omega) (by omega), vp_nI (by omega) (by omega), vp_nI (by omega) (by omega), h3, nI_CL (by omega), nI_A1]
      refine ⟨by omega, fun _ => ⟨by omega, by omega, fun M2 e2 => ih (p + 1) (by omega) M2 (fun j hj => ?_) (by rw [e2]; exact fr1_tr c2 (fr1_w M1))⟩⟩
      by_cases q : j = p
      · rw [e2, q, w1_at]
      · rw [e2, w1_no q]; exact c1 j (by omega)
  exact ⟨_, key 10 0 (by omega) M (fun j hj => absurd hj (Nat.not_lt_zero _)) (fr1_rf _ M)⟩
theorem X9_lc47_sp {M : Mem} {X K : Mem → Prop} (h : ∀ M', (∀ s, s < 8 → M'.1 19 s = nI 0) → fr1 19 M M' → X M') : ∃ g, L_X9_layCounts_47 X K g 0 M := by
  have key : ∀ d p, p + d = 8 → ∀ M1 : Mem, (∀ j, j < p → M1.1 19 j = nI 0) → fr1 19 M M1 → L_X9_layCounts_47 X K (d + 1) (nI p) M1 := by
    intro d
    induction d with
    | zero =>
      intro p hp M1 c1 c2
      rw [L_X9_layCounts_47, l_8, nI_LE (by omega) (by omega)]
      exact ⟨fun _ => h M1 (fun j hj => c1 j (by omega)) c2, by omega⟩
    | succ d ih =>
      intro p hp M1 c1 c2
      rw [L_X9_layCounts_47, l_8, nI_LE (by omega) (by omega), vp_nI (by omega) (by omega), nI_CL (by omega), nI_A1]
      refine ⟨by omega, fun _ => ⟨by omega, fun M2 e2 => ih (p + 1) (by omega) M2 (fun j hj => ?_) (by rw [e2]; exact fr1_tr c2 (fr1_w M1))⟩⟩
      by_cases q : j = p
      · rw [e2, q, w1_at]; rfl
      · rw [e2, w1_no q]; exact c1 j (by omega)
  exact ⟨_, key 8 0 (by omega) M (fun j hj => absurd hj (Nat.not_lt_zero _)) (fr1_rf _ M)⟩
theorem X9_layCounts_sp {n : NN} {am : Nat → Nat} {tp ts : Nat} {M : Mem} {K : Mem → Prop} (hn : rt M 0 = enc n) (hwf : WF n tp ts) (ha : ∀ p, p < 10 → M.1 8 p = nI (am p) ∧ am p ≤ 999) (hc : M.1 0 24 ≠ 0 → RCt M n am)
    (h : ∀ M', RCt M' n am → M'.1 0 24 ≠ 0 → (∀ j, j ≠ 24 → j ≠ 40 → j ≠ 41 → M'.1 0 j = M.1 0 j) → (∀ b, b ≠ 0 → b ≠ 19 → b ≠ 20 → b ≠ 21 → b ≠ 22 → b ≠ 23 → M'.1 b = M.1 b) → M'.2 = M.2 → K M') : f_X9_layCounts M K := by
  unfold f_X9_layCounts
  refine ⟨fun q M2 e2 M3 e3 => ?_, fun q => h M (hc q) q (fun _ _ _ _ => rfl) (fun _ _ _ _ _ _ _ => rfl) rfl⟩
  have n3 : ∀ b, b ≠ 0 → M3.1 b = M.1 b := fun b hb => by rw [e3, w1_ne hb, e2, w1_ne hb]
  have rt3 : rt M3 0 = enc n := by
    have : rt M3 0 = rt M 0 := by unfold rt; rw [n3 1 (by decide), n3 2 (by decide), n3 3 (by decide), n3 4 (by decide), n3 5 (by decide)]
    rw [this]; exact hn
  refine X9_lc21_sp rt3 hwf (fun M5 r5 f5 => X9_lc47_sp (fun M7 t7 f7 => ?_))
  have n7 : ∀ b, b ≠ 0 → b ≠ 19 → b ≠ 21 → M7.1 b = M.1 b := fun b h1 h2 h3 => by rw [f7.1 b h2, f5.1 b h3, n3 b h1]
  have z7 : ∀ j, M7.1 0 j = M3.1 0 j := fun j => by rw [f7.1 0 (by decide), f5.1 0 (by decide)]
  have rt7 : rt M7 0 = enc n := by
    have : rt M7 0 = rt M 0 := by unfold rt; rw [n7 1 (by decide) (by decide) (by decide), n7 2 (by decide) (by decide) (by decide), n7 3 (by decide) (by decide) (by decide), n7 4 (by decide) (by decide) (by decide), n7 5 (by decide) (by decide) (by decide)]
    rw [this]; exact hn
  have T7 : TR M7 n (fun _ => 0) := ⟨fun s hs => t7 s hs, fun p hp => by
    rw [f7.1 21 (by decide), r5 p hp]
    unfold RV
    rw [dt_cm]
    have z0 : dt 8 (fun s => (((fun _ => 0) s : Nat) : Int)) (fun s => cgI n s p) = 0 := dt_z (fun _ _ => rfl)
    rw [z0, Int.add_zero]⟩
  have C7 : CR M7 n am (ltP 8 (fun _ => 0)) 13 := ⟨by rw [z7, e3, w1_at]; rfl, Nat.le_refl _, Or.inl ⟨rfl, fun y hy => by obtain ⟨i, _, _, i3⟩ := hy; exact absurd i3 (Nat.not_lt_zero _)⟩⟩
  have := X9_lc70_sp (K := K) (X := fun (M_16 : Mem) => (((12 : Int32) < (M_16.1 0 40) → K M_16) ∧ (¬ (12 : Int32) < (M_16.1 0 40) → f_X9_layShapes  M_16 (fun (M_17 : Mem) => K M_17)))) rt7 hwf (fun p hp => by rw [n7 8 (by decide) (by decide) (by decide)]; exact ha p hp) (fun M16 C c16 f16 => ?_) (13 ^ 8) (fun _ => 0) M7 13 (Nat.le_add_right _ _) (fun _ _ => Nat.zero_le _) (fun _ _ _ => rfl) (by show 0 < 13; decide) T7 C7 ⟨fun _ _ _ _ _ => rfl, fun _ _ => rfl, rfl⟩
  · exact ⟨_, this⟩
  · have ct := CR_CT c16
    have rt16 : rt M16 0 = enc n := by rw [rt_U f16]; exact rt7
    have z16 : ∀ j, j ≠ 24 → j ≠ 40 → M16.1 0 j = M.1 0 j := fun j h1 h2 => by rw [f16.2.1 j h2, z7, e3, w1_no h2, e2, w1_no h1]
    have c24 : M16.1 0 24 ≠ 0 := by rw [f16.2.1 24 (by decide), z7, e3, w1_no (by decide), e2, w1_at]; decide
    have n16 : ∀ b, b ≠ 0 → b ≠ 19 → b ≠ 20 → b ≠ 21 → M16.1 b = M.1 b := fun b h1 h2 h3 h4 => by rw [f16.1 b h1 h2 h3 h4, n7 b h1 h2 h4]
    have m16 : M16.2 = M.2 := by rw [f16.2.2, f7.2, f5.2, e3, w1_2, e2, w1_2]
    rcases ct with ⟨d1, d2⟩ | ⟨x, x1, x2, x3⟩
    · rw [d1, l_12, nI_LT (by omega) (by omega)]
      exact ⟨fun _ => h M16 (Or.inl ⟨d1, d2⟩) c24 (fun j h1 h2 _ => z16 j h1 h2) (fun b h1 h2 h3 h4 _ _ => n16 b h1 h2 h3 h4) m16, fun z => absurd (by omega) z⟩
    · have x12 := x3.2.2.1
      rw [x1, l_12, nI_LT (by omega) (by omega)]
      refine ⟨fun z => absurd z (by omega), fun _ => X9_layShapes_sp rt16 hwf x12 x2 (fun M17 s17 b1 b2 b3 => h M17 (Or.inr ⟨x, by rw [b2 40 (by decide)]; exact x1, fun s hs => by rw [b1 20 (by decide) (by decide) (by decide) (by decide)]; exact x2 s hs, x3, s17⟩) (by rw [b2 24 (by decide)]; exact c24) (fun j h1 h2 h3 => by rw [b2 j h3]; exact z16 j h1 h2) (fun b h1 h2 h3 h4 h5 h6 => by rw [b1 b h1 h4 h5 h6]; exact n16 b h1 h2 h3 h4) (by rw [b3, m16]))⟩
theorem ff_cg {α : Type} {c c' : Nat → Option α} {k : Nat} (h : ∀ j, j < k → c j = c' j) : ff c 0 k = ff c' 0 k := ff_cong (fun j _ hj => h j (by omega))
theorem fsU_cong {n : NN} {x : Nat → Nat} {d : Nat} {u u' : Nat → Nat} (h : ∀ s, s < 8 → u s = u' s) : fsU n x d u = fsU n x d u' := by
  unfold fsU
  refine ff_cg (fun s hs => ?_)
  have e : (u s < x s ∧ canI n u s ∧ okU n x d (upT1 u s (u s + 1))) ↔ (u' s < x s ∧ canI n u' s ∧ okU n x d (upT1 u' s (u' s + 1))) := by
    rw [h s hs, canI_cong h, okU_cong (u := upT1 u s (u' s + 1)) (u' := upT1 u' s (u' s + 1)) (fun i hi => ?_)]
    by_cases q : i = s
    · rw [q, upT1_s, upT1_s]
    · rw [upT1_o q, upT1_o q, h i hi]
  by_cases q : u s < x s ∧ canI n u s ∧ okU n x d (upT1 u s (u s + 1))
  · rw [ifP_t q, ifP_t (e.mp q)]
  · rw [ifP_f q, ifP_f (fun z => q (e.mpr z))]
theorem glU_cong {n : NN} {x : Nat → Nat} : ∀ {d : Nat} {u u' : Nat → Nat}, (∀ s, s < 8 → u s = u' s) → ∀ i, glU n x d u i = glU n x d u' i
  | 0, _, _, _, _ => rfl
  | d + 1, u, u', h, i => by
    rw [glU, glU, fsU_cong h]
    cases e : fsU n x d u' with
    | none => rfl
    | some s =>
      dsimp only
      have hs : s < 8 := by
        obtain ⟨j, _, hj, e2⟩ := ff_some e
        obtain ⟨_, e3⟩ := ifP_s e2
        cases e3
        omega
      rw [glU_cong (d := d) (u := upT1 u s (u s + 1)) (u' := upT1 u' s (u' s + 1)) (fun k hk => ?_)]
      by_cases q : k = s
      · rw [q, upT1_s, upT1_s, h s hs]
      · rw [upT1_o q, upT1_o q, h k hk]
/-- where the order goes -/
theorem X9_or55_sp {n : NN} {x : Nat → Nat} {i tp ts : Nat} {M0 : Mem} {X K : Int32 → Mem → Prop} (hn : rt M0 0 = enc n) (hwf : WF n tp ts) (hx12 : sm x 8 ≤ 12) (hi : i < sm x 8) (hSH : SH M0 n x) {r : Nat} (h : ∀ M', fr1 21 M0 M' → X (nI r) M') :
    ∀ g k, k + g = i + 1 → ∀ (a : Nat) (v3 : Int32) (M : Mem), a < pr x 8 → fr1 21 M0 M → (k ≤ i → sm (dg x a) 8 = k ∧ okU n x (sm x 8 - k) (dg x a) ∧ glU n x (sm x 8 - k) (dg x a) (i - k) = r) → (k = i + 1 → v3 = nI r) → L_X9_order_55 (nI i) X K (g + 1) (nI a) v3 (nI k) M := by
  have hx := pr_1296 hx12
  have xs : ∀ s, s < 8 → x s ≤ 12 := fun s hs => by
    have := sm_mono (f := x) (show s + 1 ≤ 8 by omega)
    rw [sm] at this; omega
  intro g
  induction g with
  | zero =>
    intro k hk a v3 M ha hf _ hv
    rw [L_X9_order_55, nI_LT (by omega) (by omega)]
    refine ⟨fun _ => ?_, by omega⟩
    rw [hv (by omega)]
    exact h M hf
  | succ g ih =>
    intro k hk a v3 M ha hf hst _
    obtain ⟨s1, s2, s3⟩ := hst (by omega)
    have rtM : ∀ M1 : Mem, fr1 21 M0 M1 → rt M1 0 = enc n := fun M1 f => by
      have : rt M1 0 = rt M0 0 := by unfold rt; rw [f.1 1 (by decide), f.1 2 (by decide), f.1 3 (by decide), f.1 4 (by decide), f.1 5 (by decide)]
      rw [this]; exact hn
    have wM : ∀ M1 : Mem, fr1 21 M0 M1 → WT M1 x := fun M1 f => ⟨fun s hs => by rw [f.1 22 (by decide)]; exact hSH.1.1 s hs, fun s hs => by rw [f.1 20 (by decide)]; exact hSH.1.2 s hs⟩
    obtain ⟨d, hd⟩ : ∃ d, sm x 8 - k = d + 1 := ⟨sm x 8 - k - 1, by omega⟩
    rw [hd] at s2 s3
    obtain ⟨s0, a1, a2, a3, a4, a5, a6⟩ := fsU_ok s2
    rw [L_X9_order_55, nI_LT (by omega) (by omega), nI_A1]
    refine ⟨by omega, fun _ => X9_layPart_sp (rtM M hf) hwf (wM M hf) hx xs ha (fun M5 r5 f5 => ?_)⟩
    have f05 := fr1_tr hf f5
    have cond : ∀ s, s < 8 → ((dg x a s < x s ∧ ceB n x (a + pr x s) = true ∧ canI n (dg x a) s) ↔ (dg x a s < x s ∧ canI n (dg x a) s ∧ okU n x d (upT1 (dg x a) s (dg x a s + 1)))) := fun s hs => by
      constructor
      · intro ⟨p, q, r⟩
        refine ⟨p, r, ?_⟩
        have up := dg_up ha hs p
        have e : sm (dg x (a + pr x s)) 8 = sm (dg x a) 8 + 1 := by rw [sm_cong' up.2]; exact sm_up hs
        unfold ceB at q
        rw [pB_iff, e, okU_cong up.2, s1, show sm x 8 - (k + 1) = d by omega] at q
        exact q
      · intro ⟨p, r, q⟩
        refine ⟨p, ?_, r⟩
        have up := dg_up ha hs p
        have e : sm (dg x (a + pr x s)) 8 = sm (dg x a) 8 + 1 := by rw [sm_cong' up.2]; exact sm_up hs
        unfold ceB
        rw [pB_iff, e, okU_cong up.2, s1, show sm x 8 - (k + 1) = d by omega]
        exact q
    have lp : ∀ c s, s + c = s0 → L_X9_order_68 (nI i) (nI a) (nI k) (fun (v3_2 : Int32) (M_7 : Mem) => vp_in v3_2 8 ∧ ∀ x2 : Int32, x2 = nI a + (gI M_7 22 v3_2) → L_X9_order_55 (nI i) X K (g + 1) x2 v3_2 (nI (k + 1)) M_7) K (c + 1) (nI s) M5 := by
      intro c
      have goes : ∀ s, s < 8 → ∀ (K1 : Int32 → Mem → Prop), K1 (bI (pB (dg x a s < x s ∧ ceB n x (a + pr x s) = true ∧ canI n (dg x a) s))) M5 → f_X9_goesOnBy (nI a) (nI s) M5 K1 := fun s hs K1 hk1 => X9_goesOnBy_sp (ce := ceB n x) (rtM M5 f05) hwf (wM M5 f05) hx xs ha hs r5 (fun q => by
        have up := dg_up ha hs q
        rw [f05.1 23 (by decide)]; exact hSH.2 _ up.1) hk1
      induction c with
      | zero =>
        intro s hs
        have : s = s0 := by omega
        subst this
        rw [L_X9_order_68]
        refine goes s a2 _ ?_
        rw [pB_t ((cond s a2).mpr ⟨a3, a4, a5⟩)]
        refine ⟨fun _ => ⟨(vp_nI (by omega) (by omega)).mpr a2, fun x2 e2 => ?_⟩, fun z => absurd z (by decide)⟩
        have up := dg_up ha a2 a3
        rw [gI, nI_CL (by omega), (wM M5 f05).1 s a2, nI_add] at e2
        subst e2
        have e : sm (dg x (a + pr x s)) 8 = sm (dg x a) 8 + 1 := by rw [sm_cong' up.2]; exact sm_up a2
        rw [glU, a1] at s3
        dsimp only at s3
        refine ih (k + 1) (by omega) (a + pr x s) (nI s) M5 up.1 f05 (fun hk' => ⟨by rw [e, s1], ?_, ?_⟩) (fun hk' => ?_)
        · rw [show sm x 8 - (k + 1) = d by omega, okU_cong up.2]; exact a5
        · rw [if_neg (by omega)] at s3
          rw [show sm x 8 - (k + 1) = d by omega, show i - (k + 1) = i - k - 1 by omega, ← s3]
          exact glU_cong up.2 _
        · rw [if_pos (by omega)] at s3
          rw [s3]
      | succ c ihc =>
        intro s hs
        rw [L_X9_order_68, nI_A1]
        refine goes s (by omega) _ ?_
        rw [pB_f (fun z => a6 s (by omega) ((cond s (by omega)).mp z))]
        exact ⟨fun z => absurd rfl z, fun _ => ihc (s + 1) (by omega)⟩
    exact ⟨_, lp s0 0 (by omega)⟩
