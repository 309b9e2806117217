/-! the least closed sets -/
def lst (a b : Nat → Nat) (P m : Nat) : Bool := !decide (m = 0) && sub m P && cl a b m && allB (fun q => decide (q = 0) || decide (q = m) || !sub q m || !cl a b q) 1024
theorem lst_iff {a b : Nat → Nat} {P m : Nat} (hm : m < 1024) : lst a b P m = true ↔ m ≠ 0 ∧ sub m P = true ∧ cl a b m = true ∧ ∀ q, q ≠ 0 → q ≠ m → sub q m = true → cl a b q = false := by
  unfold lst
  rw [Bool.and_eq_true, Bool.and_eq_true, Bool.and_eq_true, allB_iff]
  constructor
  · intro ⟨⟨⟨h1, h2⟩, h3⟩, h4⟩
    refine ⟨by simpa using h1, h2, h3, fun q q0 qm qs => ?_⟩
    have := h4 q (Nat.lt_of_le_of_lt (sub_le qs) hm)
    simpa [q0, qm, qs] using this
  · intro ⟨h1, h2, h3, h4⟩
    refine ⟨⟨⟨by simpa using h1, h2⟩, h3⟩, fun q _ => ?_⟩
    by_cases q0 : q = 0
    · simp [q0]
    · by_cases qm : q = m
      · simp [qm]
      · cases qs : sub q m
        · simp
        · simp [h4 q q0 qm qs]
theorem lst_anti {a b : Nat → Nat} {P : Nat} : ∀ x y, x < 1024 → y < 1024 → lst a b P x = true → lst a b P y = true → sub x y = true → x = y := by
  intro x y hx hy h1 h2 h
  obtain ⟨x0, -, xc, -⟩ := (lst_iff hx).mp h1
  obtain ⟨-, -, -, y4⟩ := (lst_iff hy).mp h2
  rcases Nat.decEq x y with q | q
  · have := y4 x x0 q h
    rw [xc] at this; cases this
  · exact q
theorem lst_ct (a b : Nat → Nat) (P : Nat) : ctB (lst a b P) 1024 ≤ 252 := sperner lst_anti
/-- a closed part has a least one -/
theorem lst_in {a b : Nat → Nat} {P : Nat} : ∀ q, q < 1024 → q ≠ 0 → sub q P = true → cl a b q = true → ∃ r, r ≤ q ∧ sub r q = true ∧ lst a b P r = true := by
  intro q
  induction q using Nat.strongRecOn with
  | _ q ih =>
    intro hq q0 qP qc
    cases h : lst a b P q
    · have hn : ¬ (q ≠ 0 ∧ sub q P = true ∧ cl a b q = true ∧ ∀ q', q' ≠ 0 → q' ≠ q → sub q' q = true → cl a b q' = false) := fun z => by rw [(lst_iff hq).mpr z] at h; cases h
      have : ∃ q', q' ≠ 0 ∧ q' ≠ q ∧ sub q' q = true ∧ cl a b q' = true := by
        refine Classical.byContradiction fun z => hn ⟨q0, qP, qc, fun q' z1 z2 z3 => ?_⟩
        cases z4 : cl a b q'
        · rfl
        · exact absurd ⟨q', z1, z2, z3, z4⟩ z
      obtain ⟨q', z1, z2, z3, z4⟩ := this
      have hle := sub_le z3
      obtain ⟨r, r1, r2, r3⟩ := ih q' (by omega) (by omega) z1 (sub_tr z3 qP) z4
      exact ⟨r, by omega, sub_tr r2 z3, r3⟩
    · exact ⟨q, Nat.le_refl _, sub_rf q, h⟩
/-- whether a set holds a closed one -/
def hasC (a b : Nat → Nat) (m : Nat) : Prop := ∃ q, q ≠ 0 ∧ sub q m = true ∧ cl a b q = true
theorem hasC_less {a b : Nat → Nat} {m : Nat} (hm : m < 1024) : (∃ p, p < 10 ∧ m.testBit p = true ∧ hasC a b (dif m (2 ^ p))) ↔ ∃ q, q ≠ 0 ∧ q ≠ m ∧ sub q m = true ∧ cl a b q = true := by
  constructor
  · intro ⟨p, hp, h1, q, h2, h3, h4⟩
    refine ⟨q, h2, fun e => ?_, sub_tr h3 (dif_sub _ _), h4⟩
    have := sub_iff.mp h3 p (by rw [e]; exact h1)
    rw [tb_dif, tb_one] at this
    simp at this
  · intro ⟨q, h1, h2, h3, h4⟩
    have : ∃ p, m.testBit p = true ∧ q.testBit p = false := by
      refine Classical.byContradiction fun z => h2 (sub_as h3 (sub_iff.mpr fun i hi => ?_))
      cases hq : q.testBit i
      · exact absurd ⟨i, hi, hq⟩ z
      · rfl
    obtain ⟨p, z1, z2⟩ := this
    have hp : p < 10 := by
      rcases Nat.lt_or_ge p 10 with k | k
      · exact k
      · rw [tb_hi (k := 10) hm k] at z1; cases z1
    refine ⟨p, hp, z1, q, h1, sub_iff.mpr fun i hi => ?_, h4⟩
    rw [tb_dif, sub_iff.mp h3 i hi, tb_one]
    by_cases e : p = i
    · subst e; rw [z2] at hi; cases hi
    · simp [e]
theorem X3_holdsSmaller_sp {t m : Nat} {M : Mem} {K : Int32 → Mem → Prop} (hm : m < 1024) (h1 : (∃ p, p < 10 ∧ m.testBit p = true ∧ M.1 (t + 4) (dif m (2 ^ p)) = 1) → K 1 M) (h0 : (¬ ∃ p, p < 10 ∧ m.testBit p = true ∧ M.1 (t + 4) (dif m (2 ^ p)) = 1) → K 0 M) : f_X3_holdsSmaller t (nI m) M K := by
  refine up (fun n j => L_X3_holdsSmaller_2 t (nI m) (fun M => K 0 M) K n (nI j) M) (fun j => ∀ p, p < j → m.testBit p = true → ¬ M.1 (t + 4) (dif m (2 ^ p)) = 1) 0 10 (by omega) (fun s hs => absurd hs (Nat.not_lt_zero s)) (fun hI n => ?_) (fun j _ hj hI n ih => ?_)
  · rw [L_X3_holdsSmaller_2]
    exact ⟨fun _ => h0 (fun ⟨p, z1, z2, z3⟩ => hI p z1 z2 z3), fun q => absurd (by rw [l_10, nI_LE (by omega) (by omega)]; exact Nat.le_refl _) q⟩
  · rw [L_X3_holdsSmaller_2]
    have hb : ((nI m >>> (nI j &&& 31)) &&& 1 = 1) ↔ m.testBit j = true := by
      have := bt_nI (n := m) (k := j) (by omega) (by omega)
      unfold bt at this
      rw [← this, decide_eq_true_eq]
    have ed : nI m &&& (((1 : Int32) <<< (nI j &&& 31)) ^^^ (-1)) = nI (dif m (2 ^ j)) := by rw [shl_nI (by omega), nI_dif]
    have hd : dif m (2 ^ j) < 1024 := Nat.lt_of_le_of_lt (sub_le (dif_sub _ _)) hm
    have nx : (m.testBit j = true → ¬ M.1 (t + 4) (dif m (2 ^ j)) = 1) → L_X3_holdsSmaller_2 t (nI m) (fun M => K 0 M) K n (nI j + 1) M := fun q => by
      rw [l_1, nI_add]
      refine ih (fun s hs => ?_)
      rcases Nat.lt_succ_iff_lt_or_eq.mp hs with k | rfl
      · exact hI s k
      · exact q
    rw [hb, ed, gI, nI_CL (by omega)]
    refine ⟨fun q => absurd q (by rw [l_10, nI_LE (by omega) (by omega)]; omega), fun _ => ⟨fun q => nx (fun z => absurd z q), fun q => ⟨(vp_nI (by omega) (by omega)).mpr hd, fun r => nx (fun _ => r), fun r => h1 ⟨j, hj, q, r⟩⟩⟩⟩
theorem X3_findLeast_sp {t P : Nat} {a b : Nat → Nat} {M : Mem} {K : Mem → Prop} (ha : ∀ s, s < 8 → M.1 (t + 1) s = nI (a s) ∧ a s < 1024) (hb : ∀ s, s < 8 → M.1 (t + 2) s = nI (b s) ∧ b s < 1024) (hP : P < 1024)
    (h1 : ¬ M.1 t 7 = 0 → K M) (h : M.1 t 7 = 0 → ∀ M' : Mem, enumOK (M'.1 t 5) (M'.1 (t + 3)) 0 (lst a b P) 1024 → M'.1 t 7 = 1 → (∀ k, k ≠ 5 → k ≠ 7 → M'.1 t k = M.1 t k) → (∀ c, c ≠ t → c ≠ t + 3 → c ≠ t + 4 → M'.1 c = M.1 c) → M'.2 = M.2 → K M') : f_X3_findLeast t (nI P) M K := by
  unfold f_X3_findLeast
  refine ⟨fun q M1 e1 M2 e2 M3 e3 => ?_, h1⟩
  have ct : ∀ n, n ≤ 1024 → ctB (lst a b P) n ≤ 252 := fun n hn => Nat.le_trans (ctB_mono _ hn) (lst_ct a b P)
  have key : ∀ d j (M' : Mem), j + d = 1024 → 1 ≤ j → enumOK (M'.1 t 5) (M'.1 (t + 3)) 0 (lst a b P) j → (∀ x, x < j → (M'.1 (t + 4) x = 1 ↔ sub x P = true ∧ hasC a b x)) → M'.1 t 7 = 1 → (∀ k, k ≠ 5 → k ≠ 7 → M'.1 t k = M.1 t k) → (∀ c, c ≠ t → c ≠ t + 3 → c ≠ t + 4 → M'.1 c = M.1 c) → M'.2 = M.2 →
      L_X3_findLeast_27 t (nI P) (fun M => K M) K (d + 1) (nI j) M' := by
    intro d
    induction d with
    | zero =>
      intro j M' hj hj1 he hh h7 hk hc h2
      have e : j = 1024 := by omega
      subst e
      rw [L_X3_findLeast_27]
      exact ⟨fun _ => h q M' he h7 hk hc h2, fun z => absurd (by rw [l_1024, nI_LE (by omega) (by omega)]; exact Nat.le_refl _) z⟩
    | succ d ih =>
      intro j M' hj hj1 he hh h7 hk hc h2
      have hj4 : j < 1024 := by omega
      have hct := ct j (by omega)
      rw [L_X3_findLeast_27]
      refine ⟨fun z => absurd z (by rw [l_1024, nI_LE (by omega) (by omega)]; omega), fun _ => ⟨(vp_nI (by omega) (by omega)).mpr hj4, fun M5 e5 => ?_⟩⟩
      rw [nI_CL (by omega), show (0 : Int32).toInt8.toInt32 = 0 from rfl] at e5
      have m5 : ∀ c, c ≠ t + 4 → M5.1 c = M'.1 c := fun c z => by rw [e5, w1_ne z]
      have m5h : ∀ x, x ≠ j → M5.1 (t + 4) x = M'.1 (t + 4) x := fun x z => by rw [e5, w1_no z]
      have m5j : M5.1 (t + 4) j = 0 := by rw [e5, w1_at]
      rw [sub_cp (by omega), nI_CL (by omega), show (1 : Int32).toInt8.toInt32 = 1 from rfl]
      -- the next set, the row of marks as it now stands
      have nx : ∀ (M6 : Mem), enumOK (M6.1 t 5) (M6.1 (t + 3)) 0 (lst a b P) (j + 1) → (∀ x, x ≠ j → M6.1 (t + 4) x = M'.1 (t + 4) x) → (M6.1 (t + 4) j = 1 ↔ sub j P = true ∧ hasC a b j) → (∀ k, k ≠ 5 → M6.1 t k = M'.1 t k) → (∀ c, c ≠ t → c ≠ t + 3 → c ≠ t + 4 → M6.1 c = M'.1 c) → M6.2 = M'.2 → L_X3_findLeast_27 t (nI P) (fun M => K M) K (d + 1) (nI j + 1) M6 := by
        intro M6 z1 z2 z3 z4 z5 z6
        rw [l_1, nI_add]
        refine ih (j + 1) M6 (by omega) (by omega) z1 (fun x hx => ?_) ((z4 7 (by decide)).trans h7) (fun k k5 k7 => (z4 k k5).trans (hk k k5 k7)) (fun c c1 c2 c3 => (z5 c c1 c2 c3).trans (hc c c1 c2 c3)) (z6.trans h2)
        rcases Nat.lt_succ_iff_lt_or_eq.mp hx with k | rfl
        · rw [z2 x (by omega)]; exact hh x k
        · exact z3
      have e5t : M5.1 t = M'.1 t := m5 t (by omega)
      have e53 : M5.1 (t + 3) = M'.1 (t + 3) := m5 (t + 3) (by omega)
      have no1 : ¬ ((0 : Int32) = 1) := by decide
      have hless := hasC_less (a := a) (b := b) hj4
      refine ⟨fun z => X3_holdsSmaller_sp hj4 (fun y => ?_) (fun y => ?_), fun z => ?_⟩
      · -- a smaller one
        have hC : ∃ q', q' ≠ 0 ∧ q' ≠ j ∧ sub q' j = true ∧ cl a b q' = true := by
          obtain ⟨p, y1, y2, y3⟩ := y
          have hlt : dif j (2 ^ p) < j := dif_lt (fun w => absurd ⟨by rw [tb_one]; simp, y2⟩ (and_0.mp w p))
          rw [m5h _ (by omega)] at y3
          exact hless.mp ⟨p, y1, y2, ((hh _ hlt).mp y3).2⟩
        have hl : lst a b P j = false := by
          cases w : lst a b P j
          · rfl
          · obtain ⟨q', w1, w2, w3, w4⟩ := hC
            have := ((lst_iff hj4).mp w).2.2.2 q' w1 w2 w3
            rw [w4] at this; cases this
        refine ⟨fun w => absurd w (by decide), fun _ M6 e6 => nx M6 ?_ (fun x hx => ?_) ?_ (fun k _ => ?_) (fun c c1 c2 c3 => ?_) ?_⟩
        · rw [e6, w1_ne (by omega), w1_ne (by omega), e5t, e53]
          exact enum_f he hl
        · rw [e6, w1_no hx, m5h x hx]
        · rw [e6, w1_at]
          refine ⟨fun _ => ⟨z, ?_⟩, fun _ => rfl⟩
          obtain ⟨q', w1, w2, w3, w4⟩ := hC
          exact ⟨q', w1, w3, w4⟩
        · rw [e6, w1_ne (by omega), e5t]
        · rw [e6, w1_ne c3, m5 c c3]
        · rw [e6, w1_2, e5, w1_2]
      · -- none smaller
        have hC : ¬ ∃ q', q' ≠ 0 ∧ q' ≠ j ∧ sub q' j = true ∧ cl a b q' = true := fun w => by
          obtain ⟨p, y1, y2, y3⟩ := hless.mpr w
          have hlt : dif j (2 ^ p) < j := dif_lt (fun w => absurd ⟨by rw [tb_one]; simp, y2⟩ (and_0.mp w p))
          exact y ⟨p, y1, y2, by rw [m5h _ (by omega)]; exact (hh _ hlt).mpr ⟨sub_tr (dif_sub _ _) z, y3⟩⟩
        refine ⟨fun _ => X3_isClosed_sp (a := a) (b := b) (fun s hs => by rw [m5 _ (by omega), hc _ (by omega) (by omega) (by omega)]; exact ha s hs) (fun s hs => by rw [m5 _ (by omega), hc _ (by omega) (by omega) (by omega)]; exact hb s hs) ?_, fun w => absurd rfl w⟩
        have hl : lst a b P j = cl a b j := by
          cases w : cl a b j
          · cases w2 : lst a b P j
            · rfl
            · have := ((lst_iff hj4).mp w2).2.2.1
              rw [w] at this; cases this
          · refine (lst_iff hj4).mpr ⟨by omega, z, w, fun q' w1 w2 w3 => ?_⟩
            cases w4 : cl a b q'
            · rfl
            · exact absurd ⟨q', w1, w2, w3, w4⟩ hC
        have hj5 : M5.1 t 5 = nI (ctB (lst a b P) j) := by rw [e5t]; exact he.1
        refine ⟨fun w => ?_, fun w => ⟨fun w2 => absurd w2 (by rw [hj5, l_256, nI_LE (by omega) (by omega)]; omega), fun _ M8 e8 => ⟨?_, fun M9 e9 M10 e10 => ?_⟩⟩⟩
        · have wc := b_of0 w
          refine nx M5 (by rw [e5t, e53]; exact enum_f he (by rw [hl]; exact wc)) m5h ?_ (fun k _ => by rw [e5t]) (fun c c1 c2 c3 => m5 c c3) (by rw [e5, w1_2])
          rw [m5j]
          refine ⟨fun w2 => absurd w2 no1, fun ⟨_, q', w1, w2, w3⟩ => ?_⟩
          by_cases e : q' = j
          · rw [e, wc] at w3; cases w3
          · exact absurd ⟨q', w1, e, w2, w3⟩ hC
        · rw [e8, w1_ne (by omega), hj5]; exact (vp_nI (by omega) (by omega)).mpr (by omega)
        · have wc := b_ofn w
          rw [e8, w1_ne (show t ≠ t + 4 by omega), hj5, nI_CL (by omega), ← e8] at e9
          have e9t : M9.1 t 5 = nI (ctB (lst a b P) j) := by rw [e9, w1_ne (by omega), e8, w1_ne (by omega), hj5]
          refine nx M10 ?_ (fun x hx => ?_) ?_ (fun k k5 => ?_) (fun c c1 c2 c3 => ?_) ?_
          · rw [e10, w1_at, w1_ne (by omega), e9t, e9, w1_eq, e8, w1_ne (by omega), e53, ← he.1]
            have := enum_t he (by rw [hl]; exact wc)
            rw [Nat.zero_add] at this
            exact this
          · rw [e10, w1_ne (by omega), e9, w1_ne (by omega), e8, w1_no hx, m5h x hx]
          · rw [e10, w1_ne (by omega), e9, w1_ne (by omega), e8, w1_at]
            exact ⟨fun _ => ⟨z, j, by omega, sub_rf j, wc⟩, fun _ => rfl⟩
          · rw [e10, w1_no k5, e9, w1_ne (by omega), e8, w1_ne (by omega), e5t]
          · rw [e10, w1_ne c1, e9, w1_ne c2, e8, w1_ne c3, m5 c c3]
          · rw [e10, w1_2, e9, w1_2, e8, w1_2, e5, w1_2]
      · -- not of places that there are
        have zf : sub j P = false := by cases w : sub j P; rfl; exact absurd w z
        refine nx M5 (by rw [e5t, e53]; exact enum_f he (by
          cases w : lst a b P j
          · rfl
          · have := ((lst_iff hj4).mp w).2.1
            rw [zf] at this; cases this)) m5h ?_ (fun k _ => by rw [e5t]) (fun c c1 c2 c3 => m5 c c3) (by rw [e5, w1_2])
        rw [m5j, zf]
        exact ⟨fun w2 => absurd w2 no1, fun w => by cases w.1⟩
  have k5 : ∀ c, c ≠ t → c ≠ t + 4 → M3.1 c = M.1 c := fun c z1 z2 => by rw [e3, w1_ne z2, e2, w1_ne z1, e1, w1_ne z1]
  rw [show (0 : Int32).toNatClampNeg = 0 from rfl, show (0 : Int32).toInt8.toInt32 = 0 from rfl] at e3
  have l0 : lst a b P 0 = false := by unfold lst; simp
  refine ⟨1024, key 1023 1 M3 (by omega) (by omega) ?_ ?_ ?_ ?_ ?_ ?_⟩
  · have e : M3.1 t 5 = 0 := by rw [e3, w1_ne (by omega), e2, w1_at]
    rw [e]
    exact enum_f enum_0 l0
  · intro x hx
    have : x = 0 := by omega
    subst this
    rw [e3, w1_at]
    refine ⟨fun w => absurd w (by decide), fun ⟨_, q', w1, w2, w3⟩ => ?_⟩
    have := sub_le w2
    omega
  · rw [e3, w1_ne (by omega), e2, w1_no (by decide), e1, w1_at]
  · intro k k5 k7
    rw [e3, w1_ne (by omega), e2, w1_no k5, e1, w1_no k7]
  · intro c c1 c2 c3
    exact k5 c c1 c3
  · rw [e3, w1_2, e2, w1_2, e1, w1_2]
