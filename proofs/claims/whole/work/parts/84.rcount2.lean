/-! lexicographic order -/
def lexlt (x y : Nat → Nat) : Prop := ∃ j, j < 8 ∧ (∀ i, i < j → x i = y i) ∧ x j < y j
theorem ltP_lt {t y : Nat → Nat} : ltP 8 t y ↔ lexlt y t := Iff.rfl
theorem lex_tri (x y : Nat → Nat) : lexlt x y ∨ (∀ s, s < 8 → x s = y s) ∨ lexlt y x := by
  have : ∀ k, k ≤ 8 → lexlt x y ∨ (∀ s, s < k → x s = y s) ∨ lexlt y x := by
    intro k
    induction k with
    | zero => intro _; exact Or.inr (Or.inl (fun s hs => absurd hs (Nat.not_lt_zero _)))
    | succ k ih =>
      intro hk
      rcases ih (by omega) with h | h | h
      · exact Or.inl h
      · rcases Nat.lt_trichotomy (x k) (y k) with q | q | q
        · exact Or.inl ⟨k, by omega, h, q⟩
        · refine Or.inr (Or.inl (fun s hs => ?_))
          rcases Nat.lt_succ_iff_lt_or_eq.mp hs with z | z
          · exact h s z
          · rw [z]; exact q
        · exact Or.inr (Or.inr ⟨k, by omega, fun i hi => (h i hi).symm, q⟩)
      · exact Or.inr (Or.inr h)
  exact this 8 (Nat.le_refl _)
theorem lex_tr {x y z : Nat → Nat} (h : lexlt x y ∨ ∀ s, s < 8 → x s = y s) (h' : lexlt y z) : lexle x z := by
  obtain ⟨k, k1, k2, k3⟩ := h'
  rcases h with ⟨j, j1, j2, j3⟩ | h
  · rcases Nat.lt_trichotomy j k with q | q | q
    · exact Or.inr ⟨j, j1, fun i hi => by rw [j2 i hi, k2 i (by omega)], by rw [← k2 j q]; exact j3⟩
    · subst q; exact Or.inr ⟨j, j1, fun i hi => by rw [j2 i hi, k2 i hi], by omega⟩
    · exact Or.inr ⟨k, k1, fun i hi => by rw [j2 i (by omega), k2 i hi], by rw [j2 k q]; exact k3⟩
  · exact Or.inr ⟨k, k1, fun i hi => by rw [h i (by omega), k2 i hi], by rw [h k k1]; exact k3⟩
/-- between one and the next there is none with so few -/
theorem ndx_gap {n : NN} {t y : Nat → Nat} {s C : Nat} (hy : adm n y) (h1 : lexlt t y) (h2 : lexlt y (ndx t s)) (hs : s < 8) (hj : ∀ j, s < j → j < 8 → (nS n).testBit j = true → C ≤ sm t (j + 1) + 1) : C ≤ sm y 8 := by
  obtain ⟨j, j1, j2, j3⟩ := h1
  obtain ⟨k, k1, k2, k3⟩ := h2
  have sj : s < j := by
    rcases Nat.lt_trichotomy j s with q | q | q
    · have nj : ∀ i, i ≤ j → ndx t s i = t i := fun i hi => by unfold ndx; rw [if_pos (by omega)]
      rcases Nat.lt_trichotomy k j with z | z | z
      · have := j2 k z; rw [nj k (by omega)] at k3; omega
      · rw [z, nj j (Nat.le_refl _)] at k3; omega
      · have := k2 j z; rw [nj j (Nat.le_refl _)] at this; omega
    · subst q
      have ni : ∀ i, i < j → ndx t j i = t i := fun i hi => by unfold ndx; rw [if_pos hi]
      have ns : ndx t j j = t j + 1 := by unfold ndx; rw [if_neg (by omega), if_pos rfl]
      have nz : ∀ i, j < i → ndx t j i = 0 := fun i hi => by unfold ndx; rw [if_neg (by omega), if_neg (by omega)]
      rcases Nat.lt_trichotomy k j with z | z | z
      · have := j2 k z; rw [ni k z] at k3; omega
      · rw [z, ns] at k3; omega
      · rw [nz k z] at k3; omega
    · exact q
  have pj : (nS n).testBit j = true := by
    cases q : (nS n).testBit j
    · have := hy j j1 q; omega
    · rfl
  have a := hj j sj j1 pj
  have b : sm t j = sm y j := sm_cong' j2
  have c := sm_mono (f := y) (show j + 1 ≤ 8 by omega)
  have d : sm y (j + 1) = sm y j + y j := rfl
  have e : sm t (j + 1) = sm t j + t j := rfl
  omega
theorem end_gap {n : NN} {t y : Nat → Nat} {C : Nat} (hy : adm n y) (h1 : lexlt t y) (hj : ∀ j, j < 8 → (nS n).testBit j = true → C ≤ sm t (j + 1) + 1) : C ≤ sm y 8 := by
  obtain ⟨j, j1, j2, j3⟩ := h1
  have pj : (nS n).testBit j = true := by
    cases q : (nS n).testBit j
    · have := hy j j1 q; omega
    · rfl
  have a := hj j j1 pj
  have b : sm t j = sm y j := sm_cong' j2
  have c := sm_mono (f := y) (show j + 1 ≤ 8 by omega)
  have d : sm y (j + 1) = sm y j + y j := rfl
  have e : sm t (j + 1) = sm t j + t j := rfl
  omega
/-- what counting may change -/
def frU (M M' : Mem) : Prop := (∀ b, b ≠ 0 → b ≠ 19 → b ≠ 20 → b ≠ 21 → M'.1 b = M.1 b) ∧ (∀ j, j ≠ 40 → M'.1 0 j = M.1 0 j) ∧ M'.2 = M.2
theorem frU_tr {M M1 M2 : Mem} (h : frU M M1) (h' : frU M1 M2) : frU M M2 := ⟨fun b a c d e => by rw [h'.1 b a c d e, h.1 b a c d e], fun j hj => by rw [h'.2.1 j hj, h.2.1 j hj], by rw [h'.2.2, h.2.2]⟩
theorem frU_A {M M' : Mem} (h : frA M M') : frU M M' := ⟨fun b _ h2 _ h4 => h.1 b h2 h4, fun j _ => by rw [h.1 0 (by decide) (by decide)], h.2⟩
theorem rt_U {M M' : Mem} (h : frU M M') (o : Nat) : rt M' o = rt M o := by
  unfold rt
  rw [h.1 1 (by decide) (by decide) (by decide) (by decide), h.1 2 (by decide) (by decide) (by decide) (by decide), h.1 3 (by decide) (by decide) (by decide) (by decide), h.1 4 (by decide) (by decide) (by decide) (by decide), h.1 5 (by decide) (by decide) (by decide) (by decide)]
theorem X9_lc101_sp {v1 v2 : Int32} {t : Nat → Nat} {M : Mem} {X K : Mem → Prop} (hT : ∀ s, s < 8 → M.1 19 s = nI (t s)) (h : ∀ M', (∀ s, s < 8 → M'.1 20 s = nI (t s)) → fr1 20 M M' → X M') : ∃ g, L_X9_layCounts_101 v1 v2 X K g 0 M := by
  have key : ∀ d s, s + d = 8 → ∀ M1 : Mem, (∀ j, j < s → M1.1 20 j = nI (t j)) → fr1 20 M M1 → L_X9_layCounts_101 v1 v2 X K (d + 1) (nI s) M1 := by
    intro d
    induction d with
    | zero =>
      intro s hs M1 c1 c2
      rw [L_X9_layCounts_101, l_8, nI_LE (by omega) (by omega)]
      exact ⟨fun _ => h M1 (fun j hj => c1 j (by omega)) c2, by omega⟩
    | succ d ih =>
      intro s hs M1 c1 c2
      rw [L_X9_layCounts_101, l_8, nI_LE (by omega) (by omega), vp_nI (by omega) (by omega), gI, nI_CL (by omega), c2.1 19 (by decide), hT s (by omega), nI_A1]
      refine ⟨by omega, fun _ => ⟨by omega, fun M2 e2 => ih (s + 1) (by omega) M2 (fun j hj => ?_) (by rw [e2]; exact fr1_tr c2 (fr1_w M1))⟩⟩
      by_cases q : j = s
      · rw [e2, q, w1_at]
      · rw [e2, w1_no q]; exact c1 j (by omega)
  exact ⟨_, key 8 0 (by omega) M (fun j hj => absurd hj (Nat.not_lt_zero _)) (fr1_rf _ M)⟩
theorem ndx_12 {t : Nat → Nat} {s C : Nat} (hs : s < 8) (ht : ∀ i, i < 8 → t i ≤ 12) (h : sm t (s + 1) + 1 < C) (hC : C ≤ 13) : (∀ i, i < 8 → ndx t s i ≤ 12) ∧ sm (ndx t s) 8 = sm t (s + 1) + 1 := by
  have e : sm (ndx t s) 8 = sm t (s + 1) + 1 := by
    have e1 : sm (ndx t s) (s + 1) = sm t (s + 1) + 1 := by
      have : sm (ndx t s) s = sm t s := sm_cong' (fun i hi => by unfold ndx; rw [if_pos hi])
      rw [sm, sm, this]
      unfold ndx; rw [if_neg (by omega), if_pos rfl]; omega
    have : ∀ k, s + 1 ≤ k → sm (ndx t s) k = sm (ndx t s) (s + 1) := by
      intro k hk
      induction k with
      | zero => omega
      | succ k ih =>
        by_cases q : s = k
        · rw [q]
        · have z : ndx t s k = 0 := by unfold ndx; rw [if_neg (by omega), if_neg (by omega)]
          rw [sm, ih (by omega), z]; omega
    rw [this 8 (by omega), e1]
  refine ⟨fun i hi => ?_, e⟩
  have := sm_mono (f := ndx t s) (show i + 1 ≤ 8 by omega)
  rw [sm] at this
  omega
theorem X9_lc70_sp {n : NN} {am : Nat → Nat} {tp ts : Nat} {M0 : Mem} {X K : Mem → Prop} (hn : rt M0 0 = enc n) (hwf : WF n tp ts) (ha : ∀ p, p < 10 → M0.1 8 p = nI (am p) ∧ am p ≤ 999)
    (h : ∀ M' C, CR M' n am (fun _ => True) C → frU M0 M' → X M') : ∀ f (t : Nat → Nat) (M : Mem) (C : Nat), 13 ^ 8 ≤ f + vl t 8 → (∀ s, s < 8 → t s ≤ 12) → adm n t → sm t 8 < C → TR M n t → CR M n am (ltP 8 t) C → frU M0 M → L_X9_layCounts_70 X K (f + 2) (nI (sm t 8)) 1 M := by
  have hP := wf_P hwf
  intro f
  induction f with
  | zero => intro t M C hf ht; have := vl_lt (j := 8) ht; omega
  | succ f ih =>
    intro t M C hf ht hadm hsm hT hC hfr
    have hC13 := hC.2.1
    have hn1 : rt M 0 = enc n := by rw [rt_U hfr]; exact hn
    rw [L_X9_layCounts_70]
    refine ⟨fun z => absurd z (by decide), fun _ => ?_⟩
    -- behind the test
    have go : ∀ (M1 : Mem) (C1 : Nat), TR M1 n t → CR M1 n am (fun y => ltP 8 t y ∨ eqP 8 t y) C1 → frU M0 M1 → ∃ k130, L_X9_layCounts_130 (fun (v1_2 : Int32) (v2_2 : Int32) (M_15 : Mem) => L_X9_layCounts_70 X K (f + 2) v1_2 v2_2 M_15) K k130 (nI (sm t 8)) (0 : Int32) (7 : Int32) M1 := by
      intro M1 C1 T1 R1 F1
      have hn2 : rt M1 0 = enc n := by rw [rt_U F1]; exact hn
      have key := X9_lc130_sp (am := am) (K := K) (X := fun (v1_2 : Int32) (v2_2 : Int32) (M_15 : Mem) => L_X9_layCounts_70 X K (f + 2) v1_2 v2_2 M_15) hn2 hwf hadm ht R1.1 R1.2.1 (fun s M' s1 s2 s3 s4 s5 s6 => ?_) (fun M' v s4 s6 => ?_) 8 (Nat.le_refl _) M1 (by
          have : cut t 8 = fun i => if i < 8 then t i else 0 := rfl
          refine ⟨fun s hs => by rw [this]; dsimp only; rw [if_pos hs]; exact T1.1 s hs, fun p hp => ?_⟩
          rw [T1.2 p hp]
          unfold RV
          rw [dt_cong (u' := fun s => cgI n s p) (v := fun s => (t s : Int)) (v' := fun s => ((cut t 8 s : Nat) : Int)) (fun i hi => ⟨rfl, by unfold cut; rw [if_pos hi]⟩)]) (frA_rf M1) (fun j j1 j2 => by omega)
      · exact ⟨_, key⟩
      · obtain ⟨n1, n2⟩ := ndx_12 s1 ht s3 R1.2.1
        have e40 : M'.1 0 40 = M1.1 0 40 := by rw [s6.1 0 (by decide) (by decide)]
        have vu := vl_up (t := t) (t' := ndx t s) (s := s) (fun i hi => by unfold ndx; rw [if_pos hi]) (by unfold ndx; rw [if_neg (by omega), if_pos rfl]) ht s1 (Nat.le_refl _)
        have lts : ltP 8 (ndx t s) t := ⟨s, s1, fun l hl => by unfold ndx; rw [if_pos hl], by unfold ndx; rw [if_neg (by omega), if_pos rfl]; omega⟩
        rw [← n2]
        refine ih (ndx t s) M' C1 (by omega) n1 (fun i hi hb => ?_) (by omega) s5 (CR_ext R1 e40 (s6.1 20 (by decide) (by decide)) (fun y hy => ?_) (fun y hy y1 y2 => ?_)) (frU_tr F1 (frU_A s6))
        · unfold ndx
          by_cases q : i < s
          · rw [if_pos q]; exact hadm i hi hb
          · rw [if_neg q]
            by_cases z : i = s
            · rw [z, s2] at hb; cases hb
            · rw [if_neg z]
        · have l2 : lexlt t (ndx t s) := lts
          rcases lex_tr (x := y) (y := t) (z := ndx t s) hy l2 with q | q
          · exfalso
            rcases hy with z | z
            · obtain ⟨j, j1, j2, j3⟩ := z
              obtain ⟨k, k1, k2, k3⟩ := l2
              rcases Nat.lt_trichotomy j k with w | w | w
              · have := q j j1; have := k2 j w; omega
              · subst w; have := q j j1; omega
              · have := q k k1; have := j2 k w; omega
            · obtain ⟨k, k1, k2, k3⟩ := l2
              have := q k k1; have := z k k1; omega
          · exact q
        · rcases lex_tri y t with q | q | q
          · exact Or.inl (Or.inl q)
          · exact Or.inl (Or.inr q)
          · exact Or.inr ⟨ndx_gap y1 q hy s1 s4, fun x hx => lex_tr hx q⟩
      · show L_X9_layCounts_70 X K (f + 2) v 0 M'
        rw [L_X9_layCounts_70]
        refine ⟨fun _ => h M' C1 (CR_ext R1 (by rw [s6.1 0 (by decide) (by decide)]) (s6.1 20 (by decide) (by decide)) (fun y _ => trivial) (fun y _ y1 y2 => ?_)) (frU_tr F1 (frU_A s6)), fun z => absurd rfl z⟩
        rcases lex_tri y t with q | q | q
        · exact Or.inl (Or.inl q)
        · exact Or.inl (Or.inr q)
        · exact Or.inr ⟨end_gap y1 q s4, fun x hx => lex_tr hx q⟩
    unfold S_X9_layCounts_79
    rw [hC.1, nI_LE (by omega) (by omega)]
    refine ⟨fun z => absurd z (by omega), fun _ => ?_⟩
    have rb := RV_b hwf ht
    refine X9_isAim_sp (a := 21) (o := 0) (v := RV n t) (n := n) (am := am) (rt_P hn1) hP (fun p hp => by rw [hfr.1 8 (by decide) (by decide) (by decide) (by decide)]; exact ha p hp) (by show 0 + 10 ≤ 10; omega) (by show 10 < 100000; omega) (fun p hp => by rw [Nat.zero_add]; exact ⟨hT.2 p hp, by have := rb p; omega, by have := rb p; omega⟩) ⟨fun q => ?_, fun q M9 e9 => ?_⟩
    · have nsol : ¬ Sol n am t := fun w => by
        have := b_of0 q
        rw [pB_t ((Sol_RV hwf).mp w)] at this; cases this
      refine go M C hT (CR_ext hC rfl rfl (fun y hy => Or.inl hy) (fun y hy y1 y2 => ?_)) hfr
      rcases hy with z | z
      · exact Or.inl z
      · exfalso
        refine nsol (fun r hr => ?_)
        rw [← y2 r hr]
        exact dt_cong (fun i hi => ⟨rfl, by rw [z i hi]⟩)
    · have sol : Sol n am t := (Sol_RV hwf).mpr (pB_iff.mp (b_ofn q))
      refine X9_lc101_sp (t := t) (fun s hs => by rw [e9, w1_ne (by decide)]; exact hT.1 s hs) (fun M10 c10 f10 => ?_)
      have n10 : ∀ b, b ≠ 0 → b ≠ 20 → M10.1 b = M.1 b := fun b h1 h2 => by rw [f10.1 b h2, e9, w1_ne h1]
      refine go M10 (sm t 8) ⟨fun s hs => by rw [n10 19 (by decide) (by decide)]; exact hT.1 s hs, fun p hp => by rw [n10 21 (by decide) (by decide)]; exact hT.2 p hp⟩ ⟨by rw [f10.1 0 (by decide), e9, w1_at], by omega, Or.inr ⟨t, rfl, c10, Or.inr (fun _ _ => rfl), hadm, sol, by omega, fun y hy y1 y2 => ?_⟩⟩ (frU_tr hfr ⟨fun b h1 _ h3 _ => n10 b h1 h3, fun j hj => by rw [f10.1 0 (by decide), e9, w1_no hj], by rw [f10.2, e9, w1_2]⟩)
      rcases hy with z | z
      · left
        rcases hC.2.2 with ⟨d1, d2⟩ | ⟨x, x2, x3, x4, x5, x6, x7, x8⟩
        · have := d2 y z y1 y2; omega
        · have := x8 y z y1 y2; omega
      · exact Or.inr ⟨(sm_cong' z).symm, Or.inl (fun s hs => (z s hs).symm)⟩
/-- the reference's counts -/
def CT9 (M : Mem) (n : NN) (am : Nat → Nat) : Prop := (M.1 0 40 = nI 13 ∧ BN n am) ∨ ∃ x, M.1 0 40 = nI (sm x 8) ∧ (∀ s, s < 8 → M.1 20 s = nI (x s)) ∧ BX n am x
theorem CR_CT {M : Mem} {n : NN} {am : Nat → Nat} {C : Nat} (h : CR M n am (fun _ => True) C) : CT9 M n am := by
  obtain ⟨a, b, d⟩ := h
  rcases d with ⟨d1, d2⟩ | ⟨x, x2, x3, x4, x5, x6, x7, x8⟩
  · exact Or.inl ⟨by rw [a, d1], fun y h1 h2 => d2 y trivial h1 h2⟩
  · exact Or.inr ⟨x, by rw [a, x2], x3, x5, x6, x7, fun y h1 h2 => x8 y trivial h1 h2⟩
