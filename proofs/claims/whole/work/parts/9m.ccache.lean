/-! the class: what is worked out once for a stamp -/
theorem ak_takes {t tp ts s : Nat} {n : NN} {M : Mem} {K : Int32 → Mem → Prop} (hn : atC M t n tp ts) (ha : alen (t + 1) = 80) (hs : s < 8) (h : K (nI (akN n true s)) M) : f_X1_takenFrom t (nI s) M K := by
  refine X1_takenFrom_sp hn.2.1 hn.2.2.2.1 ha hs (ac_oT hn) ?_
  rw [aks_akN (f := nT n) hn.2.2.2.2.2.2.2.1 (fun p hp => ac_T hn (by omega))]
  exact h
theorem ak_gives {t tp ts s : Nat} {n : NN} {M : Mem} {K : Int32 → Mem → Prop} (hn : atC M t n tp ts) (ha : alen (t + 2) = 80) (hs : s < 8) (h : K (nI (akN n false s)) M) : f_X1_givenTo t (nI s) M K := by
  refine X1_givenTo_sp hn.2.1 hn.2.2.2.1 ha hs (ac_oG hn) ?_
  rw [aks_akN (f := nG n) hn.2.2.2.2.2.2.2.2.1 (fun p hp => ac_G hn (by omega))]
  exact h
theorem X3_lookAt_sp {t tp ts : Nat} {n : NN} {w : Bool} {M : Mem} {K : Mem → Prop} (ht : 53 < t) (hw : M.1 t 0 = bI w) (hn : atC M 50 n tp ts) (hs : M.1 t 6 = M.1 50 7 → K M)
    (h : ¬ M.1 t 6 = M.1 50 7 → ∀ M', plS M' t n w → M'.1 t 6 = M.1 50 7 → M'.1 t 7 = 0 → M'.1 t 0 = M.1 t 0 → (∀ b, b ≠ t → b ≠ t + 1 → b ≠ t + 2 → M'.1 b = M.1 b) → M'.2 = M.2 → K M') : f_X3_lookAt t 50 M K := by
  unfold f_X3_lookAt
  refine ⟨fun q M2 e2 M3 e3 => ?_, hs⟩
  have key : ∀ d s, s + d = 8 → ∀ M1 : Mem, (∀ b, b ≠ t + 1 → b ≠ t + 2 → M1.1 b = M3.1 b) → M1.2 = M3.2 → (∀ j, j < s → M1.1 (t + 1) j = nI (akN n w j) ∧ M1.1 (t + 2) j = nI (akN n (!w) j)) → L_X3_lookAt_27 t 50 (fun M_12 => K M_12) K (d + 1) (nI s) M1 := by
    intro d
    induction d with
    | zero =>
      intro s hs8 M1 f1 g1 a1
      rw [L_X3_lookAt_27, l_8, nI_LE (by omega) (by omega)]
      refine ⟨fun _ => h q M1 ⟨fun j hj => ⟨(a1 j (by omega)).1, akN_lt _ _ _⟩, fun j hj => ⟨(a1 j (by omega)).2, akN_lt _ _ _⟩⟩ ?_ ?_ ?_ (fun b h0 h1 h2 => ?_) ?_, by omega⟩
      · rw [f1 t (by omega) (by omega), e3, w1_no (by decide), e2, w1_at]
      · rw [f1 t (by omega) (by omega), e3, w1_at]
      · rw [f1 t (by omega) (by omega), e3, w1_no (by decide), e2, w1_no (by decide)]
      · rw [f1 b h1 h2, e3, w1_ne h0, e2, w1_ne h0]
      · rw [g1, e3, e2]; rfl
    | succ d ih =>
      intro s hs8 M1 f1 g1 a1
      have w0 : ∀ M' : Mem, (∀ b, b ≠ t + 1 → b ≠ t + 2 → M'.1 b = M3.1 b) → M'.1 t 0 = bI w ∧ atC M' 50 n tp ts := fun M' f' => by
        have o : ∀ b, b ≠ t → b ≠ t + 1 → b ≠ t + 2 → M'.1 b = M.1 b := fun b h0 h1 h2 => by rw [f' b h1 h2, e3, w1_ne h0, e2, w1_ne h0]
        refine ⟨?_, atC_fr hn (o _ (by omega) (by omega) (by omega)) (o _ (by omega) (by omega) (by omega)) (o _ (by omega) (by omega) (by omega)) (o _ (by omega) (by omega) (by omega))⟩
        rw [f' t (by omega) (by omega), e3, w1_no (by decide), e2, w1_no (by decide), hw]
      have r1 : ∀ X : Int32 → Mem → Prop, X (nI (akN n w s)) M1 → S_X3_lookAt_42 t 50 (nI s) (M1.1 t 0) (nI s) (t + 1) X K M1 := fun X hx => by
        have := w0 M1 f1
        rw [this.1]
        unfold S_X3_lookAt_42
        cases w
        · exact ⟨fun _ => ak_gives this.2 rfl (by omega) hx, fun y => absurd rfl y⟩
        · exact ⟨fun y => absurd y (by decide), fun _ => ak_takes this.2 rfl (by omega) hx⟩
      rw [L_X3_lookAt_27, l_8, nI_LE (by omega) (by omega), nI_A1, nI_CL (by omega)]
      refine ⟨by omega, fun _ => r1 _ ⟨(vp_nI (by omega) (by omega)).mpr (by omega), fun M4 e4 => ?_⟩⟩
      have f4 : ∀ b, b ≠ t + 1 → b ≠ t + 2 → M4.1 b = M3.1 b := fun b h1 h2 => by rw [e4, w1_ne h1, f1 b h1 h2]
      have r2 : ∀ X : Int32 → Mem → Prop, X (nI (akN n (!w) s)) M4 → S_X3_lookAt_68 t 50 (nI s) (M4.1 t 0) (nI s) (t + 2) X K M4 := fun X hx => by
        have := w0 M4 f4
        rw [this.1]
        unfold S_X3_lookAt_68
        cases w
        · exact ⟨fun _ => ak_takes this.2 rfl (by omega) hx, fun y => absurd rfl y⟩
        · exact ⟨fun y => absurd y (by decide), fun _ => ak_gives this.2 rfl (by omega) hx⟩
      refine r2 _ ⟨(vp_nI (by omega) (by omega)).mpr (by omega), fun M5 e5 => ih (s + 1) (by omega) M5 (fun b h1 h2 => ?_) ?_ (fun j hj => ?_)⟩
      · rw [e5, w1_ne h2, f4 b h1 h2]
      · rw [e5, e4]; exact g1
      · by_cases e : j = s
        · rw [e, e5, w1_ne (by omega), w1_at, e4, w1_at]; exact ⟨rfl, rfl⟩
        · rw [e5, w1_ne (by omega), w1_no e, e4, w1_no e, w1_ne (by omega)]
          exact a1 j (by omega)
  exact ⟨_, key 8 0 (by omega) M3 (fun _ _ _ => rfl) rfl (fun j hj => absurd hj (Nat.not_lt_zero _))⟩
theorem IvC_c {c : Nat} {M M' : Mem} {S : Nat → N3} {st : Nat} {z : ZS} (h : IvS c M S st z) (e : ∀ b, 41 ≤ b → b ≤ 103 → M'.1 b = M.1 b) (e2 : ∀ b, 124 ≤ b → b ≤ 130 → M'.1 b = M.1 b) (ca : iCa M' S st) : IvC c M' z := by
  obtain ⟨a1, a2, a3, a4, a5, a6⟩ := h
  exact ⟨S, st, ⟨a1.1, by rw [e 41 (by decide) (by decide)]; exact a1.2⟩, iTp_f a2 (fun b h1 h2 => e b (by omega) (by omega)), iNt_f a3 (fun b h1 h2 => e b (by omega) (by omega)), iPa_f a4 (fun b h1 h2 => e b (by omega) (by omega)), iSk_f a5 e2, ca⟩
def wtC (w : Bool) : Nat := if w then 109 else 104
def psC (w : Bool) : Nat := if w then 119 else 114
theorem X8_weights_sp {c : Nat} {w : Bool} {v : Int32} {M : Mem} {z : ZS} {K : Nat → Mem → Prop} (hc : c < 100000) (hv : v = bI w) (h : IvC c M z) (k : ∀ M', IvC c M' z → lsW M' (wtC w) (CH (zsN z) w) (unM (zsN z) w) 1024 → loC M M' → K (wtC w) M') : f_X8_weights v M K := by
  have e : (if ¬ v = 0 then 109 else 104) = wtC w := by rw [hv]; cases w <;> rfl
  obtain ⟨S, st, h⟩ := h
  obtain ⟨a1, a2, a3, a4, a5, a6⟩ := id h
  obtain ⟨f, s, b1, b2, b3, b4, b5, b6, b7⟩ := a3
  have W : iWt M S st (wtC w) w := by cases w; exact a6.1; exact a6.2.1
  unfold f_X8_weights
  rw [e]
  refine X7_findLeast_sp (t := wtC w) (w := w) (by cases w <;> rfl) (Or.inl (by cases w <;> decide)) b7 W.1 (fun q => ?_) (fun q M' g1 g2 g3 g4 g5 => ?_)
  · refine k M ⟨S, st, h⟩ ?_ (loC_rf M)
    rw [b3] at q
    rcases W.2 with y | ⟨f', y1, y2, y3⟩
    · rw [q] at y; exact absurd y (nI_M (by omega))
    · rw [y2, nI_EQ (by omega) (by omega)] at q
      rw [q, CH_ar b6, unM_ar b6] at y3
      exact y3
  · have lo : ∀ b, b < wtC w ∨ wtC w + 4 < b → M'.1 b = M.1 b := fun b hb => g4 b (by omega) (by omega) (by omega) (by omega)
    have W' : iWt M' S st (wtC w) w := ⟨by rw [g3]; exact W.1, Or.inr ⟨f, b1, by rw [g2]; exact b3, by rw [CH_ar b6, unM_ar b6]; exact g1⟩⟩
    refine k M' (IvC_c h (fun b h1 h2 => lo b (Or.inl ?_)) (fun b h1 h2 => lo b (Or.inr ?_)) ?_) g1 (fun b hb => lo b (Or.inl ?_))
    · cases w
      · show b < 104; omega
      · show b < 109; omega
    · cases w
      · show 104 + 4 < b; omega
      · show 109 + 4 < b; omega
    · obtain ⟨x1, x2, x3, x4, x5, x6, x7⟩ := a6
      cases w
      · have lo : ∀ b, b < 104 ∨ 108 < b → M'.1 b = M.1 b := lo
        exact ⟨W', iWt_f x2 (lo _ (by omega)) (lo _ (by omega)) (lo _ (by omega)), iPs_f x3 (lo _ (by omega)) (lo _ (by omega)) (lo _ (by omega)) (lo _ (by omega)), iPs_f x4 (lo _ (by omega)) (lo _ (by omega)) (lo _ (by omega)) (lo _ (by omega)), iGr_f x5 (fun b h1 h2 => lo b (by omega)), iRd_f x6 (fun b h1 h2 => lo b (by omega)), iGr_f x7 (fun b h1 h2 => lo b (by omega))⟩
      · have lo : ∀ b, b < 109 ∨ 113 < b → M'.1 b = M.1 b := lo
        exact ⟨iWt_f x1 (lo _ (by omega)) (lo _ (by omega)) (lo _ (by omega)), W', iPs_f x3 (lo _ (by omega)) (lo _ (by omega)) (lo _ (by omega)) (lo _ (by omega)), iPs_f x4 (lo _ (by omega)) (lo _ (by omega)) (lo _ (by omega)) (lo _ (by omega)), iGr_f x5 (fun b h1 h2 => lo b (by omega)), iRd_f x6 (fun b h1 h2 => lo b (by omega)), iGr_f x7 (fun b h1 h2 => lo b (by omega))⟩
    · cases w
      · show b < 104; omega
      · show b < 109; omega
theorem iCa_ps {M M' : Mem} {S : Nat → N3} {st : Nat} {w : Bool} (h : iCa M S st) (e : ∀ b, b < psC w ∨ psC w + 4 < b → M'.1 b = M.1 b) (n : iPs M' S st (psC w) w) : iCa M' S st := by
  obtain ⟨x1, x2, x3, x4, x5, x6, x7⟩ := h
  cases w
  · have lo : ∀ b, b < 114 ∨ 118 < b → M'.1 b = M.1 b := e
    exact ⟨iWt_f x1 (lo _ (by omega)) (lo _ (by omega)) (lo _ (by omega)), iWt_f x2 (lo _ (by omega)) (lo _ (by omega)) (lo _ (by omega)), n, iPs_f x4 (lo _ (by omega)) (lo _ (by omega)) (lo _ (by omega)) (lo _ (by omega)), iGr_f x5 (fun b h1 h2 => lo b (by omega)), iRd_f x6 (fun b h1 h2 => lo b (by omega)), iGr_f x7 (fun b h1 h2 => lo b (by omega))⟩
  · have lo : ∀ b, b < 119 ∨ 123 < b → M'.1 b = M.1 b := e
    exact ⟨iWt_f x1 (lo _ (by omega)) (lo _ (by omega)) (lo _ (by omega)), iWt_f x2 (lo _ (by omega)) (lo _ (by omega)) (lo _ (by omega)), iPs_f x3 (lo _ (by omega)) (lo _ (by omega)) (lo _ (by omega)) (lo _ (by omega)), n, iGr_f x5 (fun b h1 h2 => lo b (by omega)), iRd_f x6 (fun b h1 h2 => lo b (by omega)), iGr_f x7 (fun b h1 h2 => lo b (by omega))⟩
theorem psC_in (w : Bool) : psC w = 114 ∨ psC w = 119 := by cases w; exact Or.inl rfl; exact Or.inr rfl
theorem iCa_p {M : Mem} {S : Nat → N3} {st : Nat} {w : Bool} (h : iCa M S st) : iPs M S st (psC w) w := by cases w; exact h.2.2.1; exact h.2.2.2.1
/-- the sets that are looked at are those of the net that is now; searched, if so -/
def psN (M : Mem) (n : NN) (w : Bool) (q : Bool) : Prop := plS M (psC w) n w ∧ (q = true → enumOK (M.1 (psC w) 5) (M.1 (psC w + 3)) 0 (lsN n w) 1024)
theorem X8_placeSets_x {c : Nat} {w : Bool} {v : Int32} {M : Mem} {z : ZS} {K : Nat → Mem → Prop} (hc : c < 100000) (hv : v = bI w) (h : IvC c M z) (k : ∀ M', IvC c M' z → plS M' (psC w) (zsN z) w → M'.1 (psC w) 6 = M'.1 50 7 → (M'.1 (psC w) 7 ≠ 0 → enumOK (M'.1 (psC w) 5) (M'.1 (psC w + 3)) 0 (lsN (zsN z) w) 1024) → (∀ b, b < psC w ∨ psC w + 4 < b → M'.1 b = M.1 b) → K (psC w) M') : f_X8_placeSets v M K := by
  have e : (if ¬ v = 0 then 119 else 114) = psC w := by rw [hv]; cases w <;> rfl
  have pi := psC_in w
  obtain ⟨S, st, h⟩ := h
  obtain ⟨a1, a2, a3, a4, a5, a6⟩ := id h
  obtain ⟨f, s, b1, b2, b3, b4, b5, b6, b7⟩ := a3
  have W : iPs M S st (psC w) w := iCa_p a6
  unfold f_X8_placeSets
  rw [e]
  refine X3_lookAt_sp (w := w) (by omega) W.1 b7 (fun q => ?_) (fun q M' g1 g2 g3 g4 g5 g6 => ?_)
  · have q0 := q
    rw [b3] at q
    rcases W.2 with y | ⟨f', y1, y2, y3, y4⟩
    · rw [q] at y; exact absurd y (nI_M (by omega))
    · rw [y2, nI_EQ (by omega) (by omega)] at q
      subst q
      refine k M ⟨S, st, h⟩ ?_ q0 (fun y => ?_) (fun _ _ => rfl)
      · unfold plS at *
        rw [akN_ar b6, akN_ar b6] at y3
        exact y3
      · have := y4 y
        rw [lsN_ar b6] at this
        exact this
  · have lo : ∀ b, b < psC w ∨ psC w + 4 < b → M'.1 b = M.1 b := fun b hb => g5 b (by omega) (by omega) (by omega)
    refine k M' (IvC_c h (fun b h1 h2 => lo b (by omega)) (fun b h1 h2 => lo b (by omega)) (iCa_ps (w := w) a6 lo ⟨by rw [g4]; exact W.1, Or.inr ⟨f, b1, by rw [g2]; exact b3, ?_, fun y => absurd g3 y⟩⟩)) g1 (by rw [g2, lo 50 (by omega)]) (fun y => absurd g3 y) lo
    unfold plS at *
    rw [akN_ar b6, akN_ar b6]
    exact g1
theorem X8_placeSets_sp {c : Nat} {w : Bool} {v : Int32} {M : Mem} {z : ZS} {K : Nat → Mem → Prop} (hc : c < 100000) (hv : v = bI w) (h : IvC c M z) (k : ∀ M', IvC c M' z → plS M' (psC w) (zsN z) w → (∀ b, b < psC w ∨ psC w + 4 < b → M'.1 b = M.1 b) → K (psC w) M') : f_X8_placeSets v M K :=
  X8_placeSets_x hc hv h (fun M' a b _ _ d => k M' a b d)
theorem isX3_ps (w : Bool) : isX3 (psC w) := by cases w; exact isX3_114; exact isX3_119
theorem X8_leastSets_sp {c : Nat} {w : Bool} {v : Int32} {M : Mem} {z : ZS} {K : Nat → Mem → Prop} (hc : c < 100000) (hv : v = bI w) (h : IvC c M z) (k : ∀ M', IvC c M' z → plS M' (psC w) (zsN z) w → enumOK (M'.1 (psC w) 5) (M'.1 (psC w + 3)) 0 (lsN (zsN z) w) 1024 → (∀ b, b < psC w ∨ psC w + 4 < b → M'.1 b = M.1 b) → K (psC w) M') : f_X8_leastSets v M K := by
  have pi := psC_in w
  unfold f_X8_leastSets
  refine X8_placeSets_x hc hv h (fun M1 a b d6 d lo1 => ⟨isX3_ps w, ?_⟩)
  obtain ⟨S, st, a⟩ := a
  obtain ⟨a1, a2, a3, a4, a5, a6⟩ := id a
  obtain ⟨f, s, b1, b2, b3, b4, b5, b6, b7⟩ := a3
  have W : iPs M1 S st (psC w) w := iCa_p a6
  rw [ac_P b7]
  refine X3_findLeast_sp (a := akN (zsN z) w) (b := akN (zsN z) (!w)) b.1 b.2 (by have := b7.2.2.2.2.2.1; have := b7.2.2.2.1; have := Nat.pow_le_pow_right (show 0 < 2 by decide) this; omega) (fun q => k M1 ⟨S, st, a⟩ b (d q) lo1) (fun q M' g1 g2 g3 g4 g5 => ?_)
  have lo : ∀ b, b < psC w ∨ psC w + 4 < b → M'.1 b = M1.1 b := fun b hb => g4 b (by omega) (by omega) (by omega)
  have pl : plS M' (psC w) (zsN z) w := plS_f b (g4 _ (by omega) (by omega) (by omega)) (g4 _ (by omega) (by omega) (by omega))
  refine k M' (IvC_c a (fun b h1 h2 => lo b (by omega)) (fun b h1 h2 => lo b (by omega)) (iCa_ps (w := w) a6 lo ⟨by rw [g3 0 (by decide) (by decide)]; exact W.1, ?_⟩)) pl g1 (fun b hb => by rw [lo b hb, lo1 b hb])
  refine Or.inr ⟨f, b1, by rw [g3 6 (by decide) (by decide), d6]; exact b3, ?_, fun _ => ?_⟩
  · unfold plS at *
    rw [akN_ar b6, akN_ar b6]
    exact pl
  · rw [lsN_ar b6]; exact g1
