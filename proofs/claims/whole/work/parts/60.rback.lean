/-! the reference: back, forth, home, live -/
theorem nI_m1 (c : Nat) : nI (c + 1) + (-1) = nI c := by
  rw [← nI_A1, Int32.add_assoc, show (1 : Int32) + -1 = 0 from rfl, Int32.add_zero]
theorem nI_s1 (c : Nat) : nI (c + 1) - 1 = nI c := by rw [← nI_A1]; exact Int32.add_sub_cancel _ _
theorem nI_neg {a : Nat} (h : a < 2147483648) : ¬ nI a < 0 := by rw [l_0, nI_LT h (by omega)]; omega
def bk (M : Mem) (a : Nat) (g : GS) (S : Nat → Bool) : Prop := ∀ i, i < gk g → M.1 a i = bI (S i)
theorem bk_w {M : Mem} {a i : Nat} {g : GS} {S : Nat → Bool} (h : bk M a g S) : bk (wI M a i 1) a g (sB S i) := fun j hj => by
  unfold sB
  by_cases q : j = i
  · rw [q, w1_at, decide_eq_true rfl]; rfl
  · rw [w1_no q, decide_eq_false q, Bool.false_or]; exact h j hj
def th (M : Mem) (o : Nat) (g : GS) : Prop := M.1 30 o = nI (gk g) ∧ ∀ e, e < 8 * gk g → M.1 29 (8 * (300 * o) + e) = gx g e
theorem X9_gb24_sp {o i : Nat} {g : GS} {S : Nat → Bool} {more : Int32} {M : Mem} {X : Int32 → Mem → Prop} {K : Mem → Prop} (ho : o < 2) (v : GV g) (hx : xok g (8 * gk g)) (hi : i < gk g) (hb : bk M 34 g S) (ht : th M o g)
    (h0 : (S i = true ∨ ∀ j, E g i j → S j = false) → X more M) (h1 : S i = false → (∃ j, E g i j ∧ S j = true) → X 1 (wI M 34 i 1)) : ∃ n, L_X9_goesBack_24 (nI o) (nI i) X K n more 0 M := by
  have k3 := v.1
  have key : ∀ d s, s + d = 8 → (∀ s', s' < s → ∀ j, j < gk g → gx g (8 * i + s') = nI j → S j = false) → L_X9_goesBack_24 (nI o) (nI i) X K (d + 1) more (nI s) M := by
    intro d
    induction d with
    | zero =>
      intro s hs c
      rw [L_X9_goesBack_24, l_8, nI_LE (by omega) (by omega)]
      refine ⟨fun _ => h0 (Or.inr (fun j e => ?_)), by omega⟩
      obtain ⟨_, e2, s', e3, e4⟩ := e
      exact c s' (by omega) j e2 e4
    | succ d ih =>
      intro s hs c
      have r29 : M.1 29 (8 * (300 * o + i) + s) = gx g (8 * i + s) := by rw [show 8 * (300 * o + i) + s = 8 * (300 * o) + (8 * i + s) by omega]; exact ht.2 _ (by omega)
      rw [L_X9_goesBack_24, l_8, l_300, nI_LE (by omega) (by omega), vp_nI (by omega) (by omega), gI, nI_CL (by omega), hb i hi, m300_, nI_add, m8_, nI_add, vp_nI (by omega) (by omega), gI, nI_CL (by omega), r29, nI_A1]
      refine ⟨by omega, fun _ => ⟨by omega, fun z => h0 (Or.inl (b_ofn z)), fun z => ⟨by omega, fun x5 e5 => ?_⟩⟩⟩
      rcases hx (8 * i + s) (by omega) with y | ⟨j, hj, y⟩
      · rw [y] at e5
        subst e5
        refine ⟨fun _ => ih (s + 1) (by omega) (fun s' hs' j hj e => ?_), fun w => absurd (show (-1 : Int32) < 0 by decide) w⟩
        by_cases q : s' = s
        · rw [q, y] at e; exact absurd e.symm (nI_M (by omega))
        · exact c s' (by omega) j hj e
      · rw [y] at e5
        subst e5
        refine ⟨fun w => absurd w (nI_neg (by omega)), fun _ => ⟨(vp_nI (by omega) (by omega)).mpr (by omega), fun w => ?_, fun w => ?_⟩⟩
        · rw [gI, nI_CL (by omega), hb j hj] at w
          refine ih (s + 1) (by omega) (fun s' hs' j' hj' e => ?_)
          by_cases q : s' = s
          · rw [q, y, nI_EQ (by omega) (by omega)] at e; rw [← e]; exact b_of0 w
          · exact c s' (by omega) j' hj' e
        · rw [gI, nI_CL (by omega), hb j hj] at w
          intro M2 e2
          rw [show (1 : Int32) &&& 1 = 1 by decide] at e2
          have fin := h1 (b_of0 z) ⟨j, ⟨hi, hj, s, by omega, y⟩, b_ofn w⟩
          rw [← e2] at fin
          cases d with
          | zero =>
            rw [L_X9_goesBack_24, l_8, nI_LE (by omega) (by omega)]
            exact ⟨fun _ => fin, by omega⟩
          | succ d =>
            rw [L_X9_goesBack_24, l_8, nI_LE (by omega) (by omega), vp_nI (by omega) (by omega), gI, nI_CL (by omega), e2, w1_at]
            refine ⟨by omega, fun _ => ⟨by omega, fun _ => by rw [← e2]; exact fin, fun w' => absurd w' (by decide)⟩⟩
  exact ⟨_, key 8 0 (by omega) (fun s' hs' => absurd hs' (Nat.not_lt_zero _))⟩
/-- only one array is changed -/
def fr1 (a : Nat) (M M' : Mem) : Prop := (∀ b, b ≠ a → M'.1 b = M.1 b) ∧ M'.2 = M.2
theorem fr1_rf (a : Nat) (M : Mem) : fr1 a M M := ⟨fun _ _ => rfl, rfl⟩
theorem fr1_tr {a : Nat} {M M1 M2 : Mem} (h : fr1 a M M1) (h' : fr1 a M1 M2) : fr1 a M M2 := ⟨fun b hb => by rw [h'.1 b hb, h.1 b hb], by rw [h'.2, h.2]⟩
theorem fr1_w {a k : Nat} {x : Int32} (M : Mem) : fr1 a M (wI M a k x) := ⟨fun b hb => w1_ne hb, rfl⟩
theorem th_f {a o : Nat} {g : GS} {M M' : Mem} (h : th M o g) (f : fr1 a M M') (h1 : a ≠ 29) (h2 : a ≠ 30) : th M' o g := by
  unfold th
  rw [f.1 30 (Ne.symm h2), f.1 29 (Ne.symm h1)]
  exact h
theorem X9_gb17_sp {o : Nat} {g : GS} {S : Nat → Bool} {M : Mem} {X : Int32 → Mem → Prop} {K : Mem → Prop} (ho : o < 2) (v : GV g) (hx : xok g (8 * gk g)) (hb : bk M 34 g S) (ht : th M o g)
    (h0 : (∀ i, i < gk g → S i = true ∨ ∀ j, E g i j → S j = false) → X 0 M) (h1 : ∀ M' S', bk M' 34 g S' → fr1 34 M M' → (∀ j, S j = true → S' j = true) → (∀ j, S' j = true → ∃ i, S i = true ∧ R g j i) → ctB S (gk g) < ctB S' (gk g) → X 1 M') :
    L_X9_goesBack_17 (nI o) X K (gk g + 1) 0 (nI (gk g) - 1) M := by
  have k3 := v.1
  have key : ∀ c, c ≤ gk g → ∀ (M1 : Mem) S1 more, bk M1 34 g S1 → fr1 34 M M1 → (∀ j, S j = true → S1 j = true) → (∀ j, S1 j = true → ∃ i, S i = true ∧ R g j i) → ((more = 0 ∧ M1 = M ∧ S1 = S ∧ (∀ i, c ≤ i → i < gk g → S i = true ∨ ∀ j, E g i j → S j = false)) ∨ (more = 1 ∧ ctB S (gk g) < ctB S1 (gk g))) → L_X9_goesBack_17 (nI o) X K (c + 1) more (nI c - 1) M1 := by
    intro c
    induction c with
    | zero =>
      intro hc M1 S1 more b1 f1 s1 r1 hm
      rw [L_X9_goesBack_17]
      refine ⟨fun _ => ?_, fun w => absurd (show nI 0 - 1 < 0 by decide) w⟩
      rcases hm with ⟨a, b, c, d⟩ | ⟨a, b⟩
      · rw [a, b]; exact h0 (fun i hi => d i (Nat.zero_le _) hi)
      · rw [a]; exact h1 M1 S1 b1 f1 s1 r1 b
    | succ c ih =>
      intro hc M1 S1 more b1 f1 s1 r1 hm
      rw [nI_s1, L_X9_goesBack_17]
      refine ⟨fun w => absurd w (nI_neg (by omega)), fun _ => ?_⟩
      have ec : nI c + (-1) = nI c - 1 := by rw [Int32.sub_eq_add_neg]
      refine X9_gb24_sp ho v hx (show c < gk g by omega) b1 (th_f ht f1 (by decide) (by decide)) (fun a => ?_) (fun a e => ?_)
      · rw [ec]
        refine ih (by omega) M1 S1 more b1 f1 s1 r1 ?_
        rcases hm with ⟨p, q, r, t⟩ | z
        · refine Or.inl ⟨p, q, r, fun i hi hi' => ?_⟩
          by_cases y : i = c
          · rw [y]; rw [r] at a; exact a
          · exact t i (by omega) hi'
        · exact Or.inr z
      · rw [ec]
        obtain ⟨j, e1, e2⟩ := e
        have ct := ctB_sB a (gk g)
        rw [if_pos (show c < gk g by omega)] at ct
        refine ih (by omega) _ (sB S1 c) 1 (bk_w b1) (fr1_tr f1 (fr1_w M1)) (fun j hj => sB_o (s1 j hj)) (fun j' hj' => ?_) (Or.inr ⟨rfl, ?_⟩)
        · rcases sB_e hj' with y | y
          · obtain ⟨i, q1, q2⟩ := r1 j e2
            exact ⟨i, q1, by rw [y]; exact R_tr (R_1 e1) q2⟩
          · exact r1 j' y
        · rcases hm with ⟨p, q, r, t⟩ | z
          · rw [ct, r]; omega
          · have := z.2; omega
  exact key (gk g) (Nat.le_refl _) M S 0 hb (fr1_rf _ M) (fun _ z => z) (fun j hj => ⟨j, hj, R_rf g j⟩) (Or.inl ⟨rfl, rfl, rfl, fun i hi hi' => absurd hi' (by omega)⟩)
theorem X9_goesBack_sp {o : Nat} {g : GS} {S : Nat → Bool} {M : Mem} {K : Mem → Prop} (ho : o < 2) (v : GV g) (hx : xok g (8 * gk g)) (hb : bk M 34 g S) (ht : th M o g)
    (h : ∀ M' S', bk M' 34 g S' → fr1 34 M M' → (∀ j, S j = true → S' j = true) → (∀ j, S' j = true → ∃ i, S i = true ∧ R g j i) → (∀ i j, i < gk g → S' j = true → R g i j → S' i = true) → K M') : f_X9_goesBack (nI o) M K := by
  have k3 := v.1
  unfold f_X9_goesBack
  have key : ∀ d, ∀ (M1 : Mem) S1, gk g - ctB S1 (gk g) ≤ d → bk M1 34 g S1 → fr1 34 M M1 → (∀ j, S j = true → S1 j = true) → (∀ j, S1 j = true → ∃ i, S i = true ∧ R g j i) → L_X9_goesBack_2 (nI o) (fun M_5 => K M_5) K (d + 2) 1 M1 := by
    intro d
    induction d with
    | zero =>
      intro M1 S1 hd b1 f1 s1 r1
      have cl := ctB_le S1 (gk g)
      have ht1 := th_f ht f1 (by decide) (by decide)
      rw [L_X9_goesBack_2, vp_nI (by omega) (by omega), gI, nI_CL (by omega), ht1.1]
      refine ⟨fun w => absurd w (by decide), fun _ => ⟨ho, fun x3 e3 => ?_⟩⟩
      subst e3
      refine ⟨_, X9_gb17_sp ho v hx b1 ht1 (fun a => ?_) (fun M2 S2 b2 f2 s2 r2 l2 => ?_)⟩
      · rw [L_X9_goesBack_2]
        exact ⟨fun _ => h M1 S1 b1 f1 s1 r1 (fun i j hi _ _ => ctB_full (by omega) i hi), fun w => absurd rfl w⟩
      · have := ctB_le S2 (gk g); omega
    | succ d ih =>
      intro M1 S1 hd b1 f1 s1 r1
      have cl := ctB_le S1 (gk g)
      have ht1 := th_f ht f1 (by decide) (by decide)
      rw [L_X9_goesBack_2, vp_nI (by omega) (by omega), gI, nI_CL (by omega), ht1.1]
      refine ⟨fun w => absurd w (by decide), fun _ => ⟨ho, fun x3 e3 => ?_⟩⟩
      subst e3
      refine ⟨_, X9_gb17_sp ho v hx b1 ht1 (fun a => ?_) (fun M2 S2 b2 f2 s2 r2 l2 => ?_)⟩
      · rw [L_X9_goesBack_2]
        refine ⟨fun _ => h M1 S1 b1 f1 s1 r1 ?_, fun w => absurd rfl w⟩
        have cl : ∀ {k i j : Nat}, pth g k i j → i < gk g → S1 j = true → S1 i = true := by
          intro k
          induction k with
          | zero => intro i j e _ hj; cases e; exact hj
          | succ k ihk =>
            intro i j ⟨u, e, p⟩ hi hj
            have hu := ihk p e.2.1 hj
            rcases a i hi with y | y
            · exact y
            · rw [y u e] at hu; cases hu
        intro i j hi hj ⟨k, p⟩
        exact cl p hi hj
      · exact ih M2 S2 (by omega) b2 (fr1_tr f1 f2) (fun j hj => s2 j (s1 j hj)) (fun j hj => by
          obtain ⟨i, p1, p2⟩ := r2 j hj
          obtain ⟨i', p3, p4⟩ := r1 i p1
          exact ⟨i', p3, R_tr p2 p4⟩)
  exact ⟨_, key (gk g) M S (by omega) hb (fr1_rf _ M) (fun _ z => z) (fun j hj => ⟨j, hj, R_rf g j⟩)⟩
/-- two arrays are changed -/
def fr2 (a c : Nat) (M M' : Mem) : Prop := (∀ b, b ≠ a → b ≠ c → M'.1 b = M.1 b) ∧ M'.2 = M.2
theorem fr2_tr {a c : Nat} {M M1 M2 : Mem} (h : fr2 a c M M1) (h' : fr2 a c M1 M2) : fr2 a c M M2 := ⟨fun b hb hc => by rw [h'.1 b hb hc, h.1 b hb hc], by rw [h'.2, h.2]⟩
theorem if_eqI {a b : Nat} (ha : a < 2147483648) (hb : b < 2147483648) : (if ¬ nI a = nI b then (0 : Int32) else 1) &&& 1 = bI (decide (a = b)) := by rw [if_eqN ha hb, bI_z]
theorem X9_gf2_sp {i0 : Nat} {g : GS} {M : Mem} {X K : Mem → Prop} (v : GV g) (hi : i0 < gk g) (hk : M.1 30 0 = nI (gk g)) (h : ∀ M', bk M' 35 g (fun i => decide (i = i0)) → fr1 35 M M' → X M') : ∃ n, L_X9_goesForth_2 (nI i0) X K n 0 M := by
  have k3 := v.1
  have key : ∀ d i, i + d = gk g → ∀ M1 : Mem, (∀ j, j < i → M1.1 35 j = bI (decide (j = i0))) → fr1 35 M M1 → L_X9_goesForth_2 (nI i0) X K (d + 1) (nI i) M1 := by
    intro d
    induction d with
    | zero =>
      intro i hi' M1 c1 c2
      rw [L_X9_goesForth_2, gI, show (0 : Int32).toNatClampNeg = 0 from rfl, c2.1 30 (by decide), hk, nI_LE (by omega) (by omega)]
      exact ⟨fun _ => h M1 (fun j hj => c1 j (by omega)) c2, by omega⟩
    | succ d ih =>
      intro i hi' M1 c1 c2
      rw [L_X9_goesForth_2, gI, show (0 : Int32).toNatClampNeg = 0 from rfl, c2.1 30 (by decide), hk, nI_LE (by omega) (by omega), vp_nI (by omega) (by omega), nI_CL (by omega), nI_A1, if_eqI (by omega) (by omega)]
      refine ⟨by omega, fun _ => ⟨by omega, fun M2 e2 => ih (i + 1) (by omega) M2 (fun j hj => ?_) (by rw [e2]; exact fr1_tr c2 (fr1_w M1))⟩⟩
      by_cases q : j = i
      · rw [e2, q, w1_at]
      · rw [e2, w1_no q]; exact c1 j (by omega)
  exact ⟨_, key (gk g) 0 (by omega) M (fun j hj => absurd hj (Nat.not_lt_zero _)) (fr1_rf _ M)⟩
/-- the row of those that are forth -/
def qF (M : Mem) (g : GS) (m : Nat) (q : Nat → Nat) (S : Nat → Bool) : Prop := m = ctB S (gk g) ∧ bk M 35 g S ∧ (∀ k, k < m → M.1 32 k = nI (q k) ∧ q k < gk g ∧ S (q k) = true) ∧ (∀ i, i < gk g → S i = true → ∃ k, k < m ∧ q k = i)
theorem X9_gf53_sp {k m : Nat} {g : GS} {q : Nat → Nat} {S : Nat → Bool} {M : Mem} {X : Int32 → Mem → Prop} {K : Mem → Prop} (v : GV g) (hx : xok g (8 * gk g)) (ht : th M 0 g) (hk : k < m) (hq : qF M g m q S)
    (h : ∀ M' m' q' S', qF M' g m' q' S' → fr2 32 35 M M' → m ≤ m' → (∀ k, k < m → q' k = q k) → (∀ j, S j = true → S' j = true) → (∀ j, E g (q k) j → S' j = true) → (∀ j, S' j = true → S j = true ∨ E g (q k) j) → X (nI m') M') :
    ∃ n, L_X9_goesForth_53 (nI k) X K n (nI m) 0 M := by
  have k3 := v.1
  have ml0 : m ≤ gk g := by rw [hq.1]; exact ctB_le _ _
  have qk := (hq.2.2.1 k hk).2.1
  have key : ∀ d s, s + d = 8 → ∀ (M1 : Mem) m1 q1 S1, qF M1 g m1 q1 S1 → fr2 32 35 M M1 → m ≤ m1 → (∀ k, k < m → q1 k = q k) → (∀ j, S j = true → S1 j = true) → (∀ s', s' < s → ∀ j, j < gk g → gx g (8 * q k + s') = nI j → S1 j = true) → (∀ j, S1 j = true → S j = true ∨ E g (q k) j) → L_X9_goesForth_53 (nI k) X K (d + 1) (nI m1) (nI s) M1 := by
    intro d
    induction d with
    | zero =>
      intro s hs M1 m1 q1 S1 c1 c2 c3 c4 c5 c6 c7
      rw [L_X9_goesForth_53, l_8, nI_LE (by omega) (by omega)]
      refine ⟨fun _ => h M1 m1 q1 S1 c1 c2 c3 c4 c5 (fun j hj => ?_) c7, by omega⟩
      obtain ⟨_, e2, s', e3, e4⟩ := hj
      exact c6 s' (by omega) j e2 e4
    | succ d ih =>
      intro s hs M1 m1 q1 S1 c1 c2 c3 c4 c5 c6 c7
      have ml : m1 ≤ gk g := by rw [c1.1]; exact ctB_le _ _
      have r32 : M1.1 32 k = nI (q k) := by rw [(c1.2.2.1 k (by omega)).1, c4 k hk]
      have r29 : M1.1 29 (8 * q k + s) = gx g (8 * q k + s) := by
        rw [c2.1 29 (by decide) (by decide)]
        have := ht.2 (8 * q k + s) (by omega)
        rw [show 8 * (300 * 0) + (8 * q k + s) = 8 * q k + s by omega] at this
        exact this
      rw [L_X9_goesForth_53, l_8, nI_LE (by omega) (by omega), vp_nI (by omega) (by omega), gI, gI, nI_CL (by omega), r32, m8_, nI_add, vp_nI (by omega) (by omega), nI_CL (by omega), r29, nI_A1]
      refine ⟨by omega, fun _ => ⟨by omega, by omega, fun x5 e5 => ?_⟩⟩
      rcases hx (8 * q k + s) (by omega) with y | ⟨j, hj, y⟩
      · rw [y] at e5
        subst e5
        refine ⟨fun _ => ih (s + 1) (by omega) M1 m1 q1 S1 c1 c2 c3 c4 c5 (fun s' hs' j hj e => ?_) c7, fun w => absurd (show (-1 : Int32) < 0 by decide) w⟩
        by_cases z : s' = s
        · rw [z, y] at e; exact absurd e.symm (nI_M (by omega))
        · exact c6 s' (by omega) j hj e
      · rw [y] at e5
        subst e5
        rw [gI, nI_CL (by omega), c1.2.1 j hj]
        refine ⟨fun w => absurd w (nI_neg (by omega)), fun _ => ⟨(vp_nI (by omega) (by omega)).mpr (by omega), fun w => ?_, fun w M5 e5 => ?_⟩⟩
        · refine ih (s + 1) (by omega) M1 m1 q1 S1 c1 c2 c3 c4 c5 (fun s' hs' j' hj' e => ?_) c7
          by_cases z : s' = s
          · rw [z, y, nI_EQ (by omega) (by omega)] at e; rw [← e]; exact b_ofn w
          · exact c6 s' (by omega) j' hj' e
        · have w := b_of0 w
          have ct := ctB_sB w (gk g)
          rw [if_pos hj, ← c1.1] at ct
          have ctl : ctB (sB S1 j) (gk g) ≤ gk g := ctB_le _ _
          rw [show (1 : Int32) &&& 1 = 1 by decide] at e5
          refine ⟨(vp_nI (by omega) (by omega)).mpr (by omega), fun M6 e6 => ?_⟩
          rw [nI_CL (by omega)] at e6
          rw [nI_A1]
          refine ih (s + 1) (by omega) M6 (m1 + 1) (fun k => if k = m1 then j else q1 k) (sB S1 j) ⟨ct.symm, ?_, fun k' hk' => ?_, fun i hi hS => ?_⟩ (fr2_tr c2 ⟨fun b h1 h2 => by rw [e6, w1_ne h1, e5, w1_ne h2], by rw [e6, w1_2, e5, w1_2]⟩) (by omega) (fun k' hk' => by show (if k' = m1 then j else q1 k') = q k'; rw [if_neg (by omega)]; exact c4 k' hk') (fun j' hj' => sB_o (c5 j' hj')) (fun s' hs' j' hj' e => ?_) (fun j' hj' => ?_)
          · have b5 : bk M5 35 g (sB S1 j) := by rw [e5]; exact bk_w c1.2.1
            intro i hi
            rw [e6, w1_ne (by decide)]
            exact b5 i hi
          · rw [e6]
            dsimp only
            by_cases z : k' = m1
            · rw [z, w1_at, if_pos rfl]; exact ⟨rfl, hj, sB_i _ _⟩
            · rw [w1_no z, if_neg z, e5, w1_ne (by decide)]
              have := c1.2.2.1 k' (by omega)
              exact ⟨this.1, this.2.1, sB_o this.2.2⟩
          · rcases sB_e hS with z | z
            · exact ⟨m1, by omega, by dsimp only; rw [if_pos rfl, z]⟩
            · obtain ⟨k', p1, p2⟩ := c1.2.2.2 i hi z
              exact ⟨k', by omega, by dsimp only; rw [if_neg (by omega)]; exact p2⟩
          · by_cases z : s' = s
            · rw [z, y, nI_EQ (by omega) (by omega)] at e; rw [← e]; exact sB_i _ _
            · exact sB_o (c6 s' (by omega) j' hj' e)
          · rcases sB_e hj' with z | z
            · rw [z]; exact Or.inr ⟨qk, hj, s, by omega, y⟩
            · exact c7 j' z
  exact ⟨_, key 8 0 (by omega) M m q S hq ⟨fun _ _ _ => rfl, rfl⟩ (Nat.le_refl _) (fun _ _ => rfl) (fun _ z => z) (fun s' hs' => absurd hs' (Nat.not_lt_zero _)) (fun _ z => Or.inl z)⟩
theorem ctB_one {i0 : Nat} : ∀ n, ctB (fun i => decide (i = i0)) n = if i0 < n then 1 else 0
  | 0 => rfl
  | n + 1 => by
    have ih := ctB_one (i0 := i0) n
    by_cases q : n = i0
    · rw [ctB_t (c := fun i => decide (i = i0)) (decide_eq_true q), ih, if_neg (by omega), if_pos (by omega)]
    · rw [ctB_f (c := fun i => decide (i = i0)) (decide_eq_false q), ih]
      by_cases z : i0 < n
      · rw [if_pos z, if_pos (by omega)]
      · rw [if_neg z, if_neg (by omega)]
theorem X9_goesForth_sp {i0 : Nat} {g : GS} {M : Mem} {K : Mem → Prop} (v : GV g) (hx : xok g (8 * gk g)) (ht : th M 0 g) (hi : i0 < gk g) (h : ∀ M', bk M' 35 g (fun i => pB (R g i0 i)) → fr2 32 35 M M' → K M') : f_X9_goesForth (nI i0) M K := by
  have k3 := v.1
  unfold f_X9_goesForth
  refine X9_gf2_sp v hi ht.1 (fun M3 b3 f3 M4 e4 => ?_)
  rw [show (0 : Int32).toNatClampNeg = 0 from rfl] at e4
  have f4 : fr2 32 35 M M4 := ⟨fun b h1 h2 => by rw [e4, w1_ne h1, f3.1 b h2], by rw [e4, w1_2, f3.2]⟩
  have key : ∀ d k, k + d = gk g → ∀ (M1 : Mem) m1 q1 S1, k ≤ m1 → qF M1 g m1 q1 S1 → fr2 32 35 M M1 → S1 i0 = true → (∀ k', k' < k → ∀ j, E g (q1 k') j → S1 j = true) → (∀ j, S1 j = true → R g i0 j) → L_X9_goesForth_45 (fun M_8 => K M_8) K (d + 1) (nI m1) (nI k) M1 := by
    intro d
    have fin : ∀ k, ∀ (M1 : Mem) m1 q1 S1, m1 ≤ k → qF M1 g m1 q1 S1 → fr2 32 35 M M1 → S1 i0 = true → (∀ k', k' < k → ∀ j, E g (q1 k') j → S1 j = true) → (∀ j, S1 j = true → R g i0 j) → K M1 := by
      intro k M1 m1 q1 S1 hk c1 c2 c3 c4 c5
      refine h M1 (fun i hi' => ?_) c2
      rw [c1.2.1 i hi']
      refine congrArg bI (pB_eq ⟨fun y => c5 i y, fun y => ?_⟩)
      obtain ⟨kk, pp⟩ := y
      refine clF_R (S := S1) (fun a b ha e => ?_) pp c3
      obtain ⟨k', p1, p2⟩ := c1.2.2.2 a e.1 ha
      exact c4 k' (by omega) b (by rw [p2]; exact e)
    induction d with
    | zero =>
      intro k hk M1 m1 q1 S1 c0 c1 c2 c3 c4 c5
      have ml : m1 ≤ gk g := by rw [c1.1]; exact ctB_le _ _
      rw [L_X9_goesForth_45, nI_LE (by omega) (by omega)]
      exact ⟨fun _ => fin k M1 m1 q1 S1 (by omega) c1 c2 c3 c4 c5, fun w => absurd w (by omega)⟩
    | succ d ih =>
      intro k hk M1 m1 q1 S1 c0 c1 c2 c3 c4 c5
      have ml : m1 ≤ gk g := by rw [c1.1]; exact ctB_le _ _
      rw [L_X9_goesForth_45, nI_LE (by omega) (by omega), nI_A1]
      refine ⟨fun w => fin k M1 m1 q1 S1 w c1 c2 c3 c4 c5, fun w => ?_⟩
      have ht1 : th M1 0 g := by unfold th; rw [c2.1 30 (by decide) (by decide), c2.1 29 (by decide) (by decide)]; exact ht
      refine X9_gf53_sp v hx ht1 (show k < m1 by omega) c1 (fun M2 m2 q2 S2 d1 d2 d3 d4 d5 d6 d7 => ih (k + 1) (by omega) M2 m2 q2 S2 (by omega) d1 (fr2_tr c2 d2) (d5 i0 c3) (fun k' hk' j e => ?_) (fun j hj => ?_))
      · by_cases y : k' = k
        · rw [y, d4 k (by omega)] at e; exact d6 j e
        · rw [d4 k' (by omega)] at e; exact d5 j (c4 k' (by omega) j e)
      · rcases d7 j hj with y | y
        · exact c5 j y
        · exact R_tr (c5 _ (c1.2.2.1 k (by omega)).2.2) (R_1 y)
  refine ⟨_, key (gk g) 0 (by omega) M4 1 (fun _ => i0) (fun i => decide (i = i0)) (by omega) ⟨by rw [ctB_one, if_pos hi], fun i hi' => by rw [e4, w1_ne (by decide)]; exact b3 i hi', fun k hk => ?_, fun i hi' hS => ⟨0, by omega, (of_decide_eq_true hS).symm⟩⟩ f4 (decide_eq_true rfl) (fun k' hk' => absurd hk' (Nat.not_lt_zero _)) (fun j hj => by rw [of_decide_eq_true hj]; exact R_rf g i0)⟩
  have k0 : k = 0 := by omega
  subst k0
  rw [e4, w1_at]
  exact ⟨rfl, hi, decide_eq_true rfl⟩
