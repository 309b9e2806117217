/-! the reference's reader: leaves -/
def PRn (M : Mem) (z : PT) : Prop := (M.1 0 20 = nI z.2.1.1 ∧ z.2.1.1 ≤ 10 ∧ M.1 0 21 = nI z.2.2.1.1 ∧ z.2.2.1.1 ≤ 8) ∧ nms 32 6 M z.2.1.1 z.2.1.2 ∧ nms 32 7 M z.2.2.1.1 z.2.2.1.2 ∧ (∀ i, i < 80 → M.1 1 (160 + i) = nI (z.2.2.2.1 i) ∧ z.2.2.2.1 i ≤ 3) ∧ (∀ i, i < 80 → M.1 2 (160 + i) = nI (z.2.2.2.2.1 i) ∧ z.2.2.2.2.1 i ≤ 3) ∧ (∀ i, i < 10 → M.1 3 (20 + i) = nI (z.2.2.2.2.2 i) ∧ z.2.2.2.2.2 i ≤ 99) ∧ M.1 0 18 = 0
theorem PRn_f {M M' : Mem} {z : PT} (h : PRn M z) (f : fr0 M M') : PRn M' z := by
  unfold PRn nms at *
  rw [f.1 6 (by decide), f.1 7 (by decide), f.1 1 (by decide), f.1 2 (by decide), f.1 3 (by decide), f.2.1 18 (by decide) (by decide) (by decide) (by decide), f.2.1 20 (by decide) (by decide) (by decide) (by decide), f.2.1 21 (by decide) (by decide) (by decide) (by decide)]
  exact h
/-- something is wrong -/
def BR (M : Mem) (e : Nat × Nat) : Prop := M.1 0 18 = nI e.1 ∧ M.1 0 19 = nI e.2 ∧ ¬ M.1 0 18 = 0
theorem BR_f {M M' : Mem} {e : Nat × Nat} (h : BR M e) (f : fr0 M M') : BR M' e := by
  unfold BR at *
  rw [f.2.1 18 (by decide) (by decide) (by decide) (by decide), f.2.1 19 (by decide) (by decide) (by decide) (by decide)]
  exact h
/-- only what the reader reads into is changed -/
def frRd (M M' : Mem) : Prop := (∀ b, b ≠ 0 → b ≠ 1 → b ≠ 2 → b ≠ 3 → b ≠ 6 → b ≠ 7 → M'.1 b = M.1 b) ∧ (∀ j, ¬ (12 ≤ j ∧ j ≤ 15) → ¬ (18 ≤ j ∧ j ≤ 19) → M'.1 0 j = M.1 0 j) ∧ (∀ j, j < 160 → M'.1 1 j = M.1 1 j ∧ M'.1 2 j = M.1 2 j) ∧ (∀ j, j < 20 → M'.1 3 j = M.1 3 j) ∧ M'.2 = M.2
theorem frRd_rf (M : Mem) : frRd M M := ⟨fun _ _ _ _ _ _ _ => rfl, fun _ _ _ => rfl, fun _ _ => ⟨rfl, rfl⟩, fun _ _ => rfl, rfl⟩
theorem frRd_tr {M M1 M2 : Mem} (h : frRd M M1) (h' : frRd M1 M2) : frRd M M2 := ⟨fun b a1 a2 a3 a4 a5 a6 => by rw [h'.1 b a1 a2 a3 a4 a5 a6, h.1 b a1 a2 a3 a4 a5 a6], fun j a b => by rw [h'.2.1 j a b, h.2.1 j a b], fun j hj => ⟨by rw [(h'.2.2.1 j hj).1, (h.2.2.1 j hj).1], by rw [(h'.2.2.1 j hj).2, (h.2.2.1 j hj).2]⟩, fun j hj => by rw [h'.2.2.2.1 j hj, h.2.2.2.1 j hj], by rw [h'.2.2.2.2, h.2.2.2.2]⟩
theorem frRd_0 {M M' : Mem} (f : fr0 M M') : frRd M M' := ⟨fun b hb _ _ _ _ _ => f.1 b hb, fun j a _ => f.2.1 j (by omega) (by omega) (by omega) (by omega), fun j _ => ⟨by rw [f.1 1 (by decide)], by rw [f.1 2 (by decide)]⟩, fun j _ => by rw [f.1 3 (by decide)], f.2.2⟩
theorem frRd_w {j : Nat} {v : Int32} (M : Mem) (hj : 18 ≤ j ∧ j ≤ 19) : frRd M (wI M 0 j v) := ⟨fun b hb _ _ _ _ _ => w1_ne hb, fun k _ b => w1_no (by omega), fun k _ => ⟨by rw [w1_ne (by decide)], by rw [w1_ne (by decide)]⟩, fun k _ => by rw [w1_ne (by decide)], rfl⟩
theorem tpR_Rd {M M' : Mem} {tp : Nat → Nat} {L : Nat} (h : tpR M tp L) (f : frRd M M') : tpR M' tp L := ⟨h.1, by rw [f.2.1 11 (by decide) (by decide)]; exact h.2.1, fun i hi => by rw [f.1 9 (by decide) (by decide) (by decide) (by decide) (by decide) (by decide)]; exact h.2.2 i hi⟩
theorem X9_good_1 {z : PT} {M : Mem} {K : Int32 → Mem → Prop} (hP : PRn M z) (h : K 1 M) : f_X9_isGood M K := ⟨fun q => absurd hP.2.2.2.2.2.2 q, fun _ => h⟩
theorem X9_good_0 {e : Nat × Nat} {M : Mem} {K : Int32 → Mem → Prop} (hB : BR M e) (h : K 0 M) : f_X9_isGood M K := ⟨fun _ => h, fun q => absurd q hB.2.2⟩
theorem kR_4 {k : Nat} (h : k ≤ 4) : kR k ≤ 4 ∧ (kR k = 4 ↔ k = 0) ∧ (kR k = 1 ↔ k = 2) ∧ (kR k = 2 ↔ k = 3) ∧ (kR k = 3 ↔ k = 4) ∧ (kR k = 0 ↔ k = 1) := by
  unfold kR
  split <;> omega
theorem X9_failsAt_sp {z : PT} {k a : Nat} {M : Mem} {K : Mem → Prop} (hP : PRn M z) (hk : 1 ≤ k ∧ k ≤ 5) (h : ∀ M', BR M' (k, a) → (∀ b, b ≠ 0 → M'.1 b = M.1 b) → (∀ j, j ≠ 18 → j ≠ 19 → M'.1 0 j = M.1 0 j) → M'.2 = M.2 → frRd M M' → K M') : f_X9_failsAt (nI k) (nI a) M K := by
  refine ⟨fun q => absurd hP.2.2.2.2.2.2 q, fun _ M2 e2 M3 e3 => h M3 ⟨?_, ?_, ?_⟩ (fun b hb => by rw [e3, w1_ne hb, e2, w1_ne hb]) (fun j a b => by rw [e3, w1_no b, e2, w1_no a]) (by rw [e3, e2]; rfl) (frRd_tr (M1 := M2) (by rw [e2]; exact frRd_w M (by omega)) (by rw [e3]; exact frRd_w M2 (by omega)))⟩
  · rw [e3, w1_no (by decide), e2, w1_at]
  · rw [e3, w1_at]
  · rw [e3, w1_no (by decide), e2, w1_at, l_0, nI_EQ (by omega) (by omega)]; omega
theorem X9_fails_sp {tp : Nat → Nat} {L p k : Nat} {z : PT} {M : Mem} {K : Mem → Prop} (hP : PRn M z) (hT : TS9 M tp L p) (hk : 1 ≤ k ∧ k ≤ 5) (h : ∀ M', BR M' (flt tp L p k) → (∀ b, b ≠ 0 → M'.1 b = M.1 b) → (∀ j, j ≠ 18 → j ≠ 19 → M'.1 0 j = M.1 0 j) → M'.2 = M.2 → frRd M M' → K M') : f_X9_fails (nI k) M K := by
  have k4 := tkd_le (tp := tp) (L := L) (p := p)
  have kr := kR_4 k4
  unfold f_X9_fails
  have e : (if ¬ (M.1 0 14) = (4 : Int32) then nI k else (1 : Int32)) = nI (flt tp L p k).1 := by
    unfold flt
    by_cases q : tkd tp L p = 0
    · rw [if_pos q, if_neg (fun y => y (by rw [hT.2.1, q]; rfl))]; rfl
    · rw [if_neg q, if_pos (by rw [hT.2.1, l_4, nI_EQ (by omega) (by omega)]; omega)]
  rw [e, hT.2.2.1]
  refine X9_failsAt_sp hP ?_ h
  unfold flt
  dsimp only
  split <;> omega
theorem X9_fails_b {e : Nat × Nat} {k : Int32} {M : Mem} {K : Mem → Prop} (hB : BR M e) (h : K M) : f_X9_fails k M K := ⟨fun _ => h, fun q => absurd q hB.2.2⟩
theorem X9_goesOn_sp {tp : Nat → Nat} {L p : Nat} {z : PT} {M : Mem} {K : Mem → Prop} (hL : tpR M tp L) (hT : TS9 M tp L p) (hp : p ≤ L) (hP : PRn M z) (h : ∀ M', TS9 M' tp L (tsp tp L p) → fr0 M M' → K M') : f_X9_goesOn M K := by
  unfold f_X9_goesOn
  exact X9_good_1 hP ⟨fun q => absurd q (by decide), fun _ => X9_next_sp hL (tsp_le hp).2 hT.1 h⟩
theorem X9_goesOn_b {e : Nat × Nat} {M : Mem} {K : Mem → Prop} (hB : BR M e) (h : K M) : f_X9_goesOn M K := by
  unfold f_X9_goesOn
  exact X9_good_0 hB ⟨fun _ => h, fun q => absurd rfl q⟩
theorem X9_isWord_sp {tp : Nat → Nat} {L p : Nat} {w : List Nat} {c : Int32} {M : Mem} {K : Int32 → Mem → Prop} (hT : TS9 M tp L p) (hw : wok w) (hc : c = nI (wcd 32 w)) (h : K (bI (isW tp L p w)) M) : f_X9_isWord c M K := by
  have k4 := tkd_le (tp := tp) (L := L) (p := p)
  have kr := kR_4 k4
  unfold f_X9_isWord
  have zk : (M.1 0 14 = (1 : Int32)) = (tkd tp L p = 2) := by rw [hT.2.1, l_1, nI_EQ (by omega) (by omega)]; exact propext kr.2.2.1
  rw [zk]
  refine ⟨fun q => ?_, fun q => ?_⟩
  · rw [isW_f (fun x => q x.1)] at h; exact h
  · have e9 : M.1 0 15 = nI (wcd 32 (twl tp L p)) := by rw [hT.2.2.2.1 q, tw_wcd]
    rw [e9, hc, e32 (twl_ok q) hw]
    refine ⟨fun a => ?_, fun a => ?_⟩
    · rw [isW_f (fun x => a x.2)] at h; exact h
    · rw [isW_t q a] at h; exact h
theorem X9_mustBeName_sp {tp : Nat → Nat} {L p : Nat} {z : PT} {M : Mem} {K : Mem → Prop} (hT : TS9 M tp L p) (hP : PRn M z) (h1 : isNm tp L p = true → K M) (h2 : isNm tp L p = false → ∀ M', BR M' (flt tp L p 2) → (∀ b, b ≠ 0 → M'.1 b = M.1 b) → (∀ j, j ≠ 18 → j ≠ 19 → M'.1 0 j = M.1 0 j) → M'.2 = M.2 → frRd M M' → K M') : f_X9_mustBeName M K := by
  have k4 := tkd_le (tp := tp) (L := L) (p := p)
  have kr := kR_4 k4
  unfold f_X9_mustBeName
  have zk : (M.1 0 14 = (1 : Int32)) = (tkd tp L p = 2) := by rw [hT.2.1, l_1, nI_EQ (by omega) (by omega)]; exact propext kr.2.2.1
  rw [zk]
  have bad : isNm tp L p = false → f_X9_fails (2 : Int32) M (fun (M_2 : Mem) => K M_2) := fun q => X9_fails_sp (k := 2) hP hT (by omega) (h2 q)
  refine ⟨fun q => bad (decide_eq_false (fun x => q x.1)), fun q => ?_⟩
  refine X9_isWord_sp hT kPl_ok k32.1 ⟨fun a => bad ?_, fun a => X9_isWord_sp hT kSt_ok k32.2.1 ⟨fun b => bad ?_, fun b => X9_isWord_sp hT kTa_ok k32.2.2.1 ⟨fun c => bad ?_, fun c => X9_isWord_sp hT kGi_ok k32.2.2.2 ⟨fun d => h1 ?_, fun d => bad ?_⟩⟩⟩⟩
  · exact decide_eq_false (fun x => x.2.1 (of_decide_eq_true (b_ofn a)).2)
  · exact decide_eq_false (fun x => x.2.2.1 (of_decide_eq_true (b_ofn b)).2)
  · exact decide_eq_false (fun x => x.2.2.2.1 (of_decide_eq_true (b_ofn c)).2)
  · exact decide_eq_true ⟨q, fun x => of_decide_eq_false (b_of0 a) ⟨q, x⟩, fun x => of_decide_eq_false (b_of0 b) ⟨q, x⟩, fun x => of_decide_eq_false (b_of0 c) ⟨q, x⟩, fun x => of_decide_eq_false (b_of0 d) ⟨q, x⟩⟩
  · exact decide_eq_false (fun x => x.2.2.2.2 (of_decide_eq_true (b_ofn d)).2)
theorem X9_placeCalled_sp {n : Nat} {pn : Nat → List Nat} {w : List Nat} {M : Mem} {K : Int32 → Mem → Prop} (hc : n ≤ 10) (h2 : M.1 0 20 = nI n) (hn : nms 32 6 M n pn) (hw : wok w) (h9 : M.1 0 15 = nI (wcd 32 w)) (h : K (ixI pn w n) M) : f_X9_placeCalled M K := by
  unfold f_X9_placeCalled
  unfold ixI at h
  refine up (fun k j => L_X9_placeCalled_2 _ K k (nI j) M) (fun j => nx pn w (n - j) j = nx pn w n 0) 0 n (by omega) rfl (fun e k => ?_) (fun j _ hj e k nxt => ?_)
  · rw [Nat.sub_self, nx] at e
    show L_X9_placeCalled_2 _ K (k + 1) (nI n) M
    rw [L_X9_placeCalled_2, h2]
    rw [← e, if_neg (by omega)] at h
    exact ⟨fun _ => h, fun z => absurd (by rw [nI_LE (by omega) (by omega)]; exact Nat.le_refl _) z⟩
  · show L_X9_placeCalled_2 _ K (k + 1) (nI j) M
    rw [show n - j = (n - (j + 1)) + 1 by omega, nx] at e
    rw [L_X9_placeCalled_2, h2, nI_LE (by omega) (by omega), vp_nI (by omega) (by omega), gI, nI_CL (by omega), (hn j hj).1, h9, e32 (hn j hj).2 hw, nI_A1]
    refine ⟨by omega, fun _ => ⟨by omega, fun q => nxt ?_, fun q => ?_⟩⟩
    · rw [if_neg q] at e; exact e
    · rw [if_pos q] at e
      rw [← e, if_pos hj] at h; exact h
theorem X9_placeCalled_b {n : Nat} {M : Mem} {K : Int32 → Mem → Prop} (hc : n ≤ 10) (h2 : M.1 0 20 = nI n) (h : ∀ r, K r M) : f_X9_placeCalled M K := by
  unfold f_X9_placeCalled
  refine upT (fun k j => L_X9_placeCalled_2 _ K k (nI j) M) 0 n (by omega) (fun k => ?_) (fun j _ hj k nxt => ?_)
  · show L_X9_placeCalled_2 _ K (k + 1) (nI n) M
    rw [L_X9_placeCalled_2, h2]
    exact ⟨fun _ => h _, fun z => absurd (by rw [nI_LE (by omega) (by omega)]; exact Nat.le_refl _) z⟩
  · show L_X9_placeCalled_2 _ K (k + 1) (nI j) M
    rw [L_X9_placeCalled_2, h2, nI_LE (by omega) (by omega), vp_nI (by omega) (by omega), nI_A1]
    exact ⟨by omega, fun _ => ⟨by omega, fun _ => nxt, fun _ => h _⟩⟩
