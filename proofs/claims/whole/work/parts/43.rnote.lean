/-! the reference: a rule is noted -/
theorem ix1 {s p : Nat} : nI (80 + (10 * s + p)) = nI (80 + 10 * s + p) := by rw [Nat.add_assoc]
theorem X9_arc1_sp {s p : Nat} {M : Mem} {K : Int32 → Mem → Prop} (hs : s < 8) (hp : p < 10) (h : K (nI (80 + (10 * s + p))) M) : f_X9_arcAt 1 (nI s) (nI p) M K := by
  unfold f_X9_arcAt
  simp only [l_1, l_80, l_10, pk_mul, nI_add]
  rw [show 80 * 1 + 10 * s + p = 80 + (10 * s + p) by omega]
  exact h
def sR (M : Mem) (f g : Nat → Int32) : Mem := sA (sA M 1 f) 2 g
theorem X9_n71_sp {p : Nat} {v : Int32} {M : Mem} {X K : Mem → Prop} (hp : p < 10) (h : X (sA (sA M 1 (zC (M.1 1) p 80 8)) 2 (zC (M.1 2) p 80 8))) : ∃ n, L_X9_notes_71 (nI p) v X K n 0 M := by
  have e0 : M = sA (sA M 1 (zC (M.1 1) p 80 0)) 2 (zC (M.1 2) p 80 0) := by rw [zC_0, zC_0, sA_id, sA_id]
  have key : ∃ n, L_X9_notes_71 (nI p) v X K n (nI 0) (sA (sA M 1 (zC (M.1 1) p 80 0)) 2 (zC (M.1 2) p 80 0)) := by
    refine upT (fun n j => L_X9_notes_71 (nI p) v X K n (nI j) (sA (sA M 1 (zC (M.1 1) p 80 j)) 2 (zC (M.1 2) p 80 j))) 0 8 (by omega) (fun n => ?_) (fun j _ hj n ih => ?_)
    · rw [L_X9_notes_71]
      exact ⟨fun _ => h, fun q => absurd (by rw [l_8, nI_LE (by omega) (by omega)]; exact Nat.le_refl _) q⟩
    · rw [L_X9_notes_71]
      refine ⟨fun q => absurd q (by rw [l_8, nI_LE (by omega) (by omega)]; omega), fun _ => X9_arc1_sp hj hp ⟨(vp_nI (by omega) (by omega)).mpr (by omega), fun M1 e1 => X9_arc1_sp hj hp ⟨(vp_nI (by omega) (by omega)).mpr (by omega), fun M2 e2 => ?_⟩⟩⟩
      rw [nI_CL (by omega), sA_cm _ (by omega), wI_of_sA, zC_s _ hp] at e1
      rw [nI_CL (by omega), e1, sA_cm _ (by omega), wI_of_sA, zC_s _ hp] at e2
      rw [e2, nI_A1]
      exact ih
  rw [← e0] at key
  exact key
theorem X9_n133_sp {s : Nat} {M : Mem} {X K : Mem → Prop} (hs : s < 8) (h : X (sA (sA M 1 (zR (M.1 1) s 80 10)) 2 (zR (M.1 2) s 80 10))) : ∃ n, L_X9_notes_133 (nI s) X K n 0 M := by
  have e0 : M = sA (sA M 1 (zR (M.1 1) s 80 0)) 2 (zR (M.1 2) s 80 0) := by rw [zR_0, zR_0, sA_id, sA_id]
  have key : ∃ n, L_X9_notes_133 (nI s) X K n (nI 0) (sA (sA M 1 (zR (M.1 1) s 80 0)) 2 (zR (M.1 2) s 80 0)) := by
    refine upT (fun n j => L_X9_notes_133 (nI s) X K n (nI j) (sA (sA M 1 (zR (M.1 1) s 80 j)) 2 (zR (M.1 2) s 80 j))) 0 10 (by omega) (fun n => ?_) (fun j _ hj n ih => ?_)
    · rw [L_X9_notes_133]
      exact ⟨fun _ => h, fun q => absurd (by rw [l_10, nI_LE (by omega) (by omega)]; exact Nat.le_refl _) q⟩
    · rw [L_X9_notes_133]
      refine ⟨fun q => absurd q (by rw [l_10, nI_LE (by omega) (by omega)]; omega), fun _ => X9_arc1_sp hs hj ⟨(vp_nI (by omega) (by omega)).mpr (by omega), fun M1 e1 => X9_arc1_sp hs hj ⟨(vp_nI (by omega) (by omega)).mpr (by omega), fun M2 e2 => ?_⟩⟩⟩
      rw [nI_CL (by omega), sA_cm _ (by omega), wI_of_sA, zR_s _ hj] at e1
      rw [nI_CL (by omega), e1, sA_cm _ (by omega), wI_of_sA, zR_s _ hj] at e2
      rw [e2, nI_A1]
      exact ih
  rw [← e0] at key
  exact key
/-- what a rule leaves as it was, but for the small net -/
def frR (M M' : Mem) : Prop := (∀ i, i < 80 ∨ 160 ≤ i → M'.1 1 i = M.1 1 i ∧ M'.1 2 i = M.1 2 i) ∧ (∀ i, i < 10 ∨ 20 ≤ i → M'.1 3 i = M.1 3 i) ∧ (∀ i, i ≠ 1 → M'.1 4 i = M.1 4 i ∧ M'.1 5 i = M.1 5 i)
theorem frR_rf (M : Mem) : frR M M := ⟨fun _ _ => ⟨rfl, rfl⟩, fun _ _ => rfl, fun _ _ => ⟨rfl, rfl⟩⟩
theorem frR_tr {M M1 M2 : Mem} (h : frR M M1) (h' : frR M1 M2) : frR M M2 := ⟨fun i hi => ⟨by rw [(h'.1 i hi).1, (h.1 i hi).1], by rw [(h'.1 i hi).2, (h.1 i hi).2]⟩, fun i hi => by rw [h'.2.1 i hi, h.2.1 i hi], fun i hi => ⟨by rw [(h'.2.2 i hi).1, (h.2.2 i hi).1], by rw [(h'.2.2 i hi).2, (h.2.2 i hi).2]⟩⟩
theorem zC_fr {f : Nat → Int32} {p i : Nat} (h : i < 80 ∨ 160 ≤ i) : zC f p 80 8 i = f i := by unfold zC; rw [if_neg (by omega)]
theorem zR_fr {f : Nat → Int32} {p i : Nat} (hp : p < 8) (h : i < 80 ∨ 160 ≤ i) : zR f p 80 10 i = f i := by unfold zR; rw [if_neg (by omega)]
theorem tr_up10 (f : Nat → Int32) {p : Nat} (hp : p < 10) : tr 10 (fun i => upd f (10 + p) 0 (10 + i)) = fun i => if i = p then 0 else tr 10 (fun i => f (10 + i)) i := by
  funext i
  unfold tr upd
  by_cases h : i = p
  · subst h; rw [if_pos hp, if_pos rfl]; exact if_pos rfl
  · by_cases h2 : i < 10
    · rw [if_pos h2, if_neg h, if_pos h2]; exact if_neg (by omega)
    · rw [if_neg h2, if_neg h, if_neg h2]
/-- the place goes -/
theorem X9_n41_sp {p : Option Nat} {v : Int32} {M : Mem} {X K : Mem → Prop} (hp : ∀ x, p = some x → x < 10)
    (h : ∀ M' : Mem, rt M' 1 = app (rt M 1) p none → frR M M' → (∀ b, b ≠ 1 → b ≠ 2 → b ≠ 3 → b ≠ 4 → M'.1 b = M.1 b) → M'.2 = M.2 → X M') : S_X9_notes_41 (oI p) v (oI p) X K M := by
  unfold S_X9_notes_41
  cases p with
  | none => exact ⟨fun _ => h M rfl (frR_rf M) (fun _ _ _ _ _ => rfl) rfl, fun e => absurd (show (-1 : Int32) < 0 by decide) e⟩
  | some p =>
    have p10 := hp p rfl
    show (nI p < 0 → X M) ∧ (¬ nI p < 0 → _)
    rw [nI_l0 (by omega)]
    refine ⟨fun e => e.elim, fun _ M6 e6 => ⟨?_, fun M7 e7 => ?_⟩⟩
    · show vp_in (10 + nI p) 30
      rw [l_10, nI_add]; exact (vp_nI (by omega) (by omega)).mpr (by omega)
    · rw [show (10 : Int32) + oI (some p) = nI (10 + p) from by rw [l_10]; exact nI_add 10 p, nI_CL (by omega)] at e7
      rw [show (1 : Int32).toNatClampNeg = 1 from rfl, gI, show (1 : Int32).toNatClampNeg = 1 from rfl] at e6
      have q1 : M7.1 1 = M.1 1 := by rw [e7, w1_ne (by decide), e6, w1_ne (by decide)]
      have q2 : M7.1 2 = M.1 2 := by rw [e7, w1_ne (by decide), e6, w1_ne (by decide)]
      have q3 : M7.1 3 = upd (M.1 3) (10 + p) 0 := by rw [e7, w1_eq, e6, w1_ne (by decide)]
      have q4 : M7.1 4 = upd (M.1 4) 1 (M.1 4 1 &&& (((1 : Int32) <<< (nI p &&& 31)) ^^^ (-1))) := by rw [e7, w1_ne (by decide), e6, w1_eq]; rfl
      have q5 : M7.1 5 = M.1 5 := by rw [e7, w1_ne (by decide), e6, w1_ne (by decide)]
      refine X9_n71_sp p10 (h _ ?_ ⟨fun i hi => ⟨?_, ?_⟩, fun i hi => ?_, fun i hi => ⟨?_, ?_⟩⟩ (fun b h1 h2 h3 h4 => ?_) ?_)
      · unfold rt
        rw [sA_eq, sA_ne (by decide), sA_eq, sA_ne (by decide), sA_ne (by decide), sA_ne (by decide), sA_ne (by decide), sA_ne (by decide), sA_ne (by decide), q1, q2, q3, q4, q5]
        simp only [Nat.mul_one]
        exact r5 (zC_tr _) (zC_tr _) (tr_up10 _ p10) upd_at rfl
      · rw [sA_ne (by decide), sA_eq, q1, zC_fr hi]
      · rw [sA_eq, q2, zC_fr hi]
      · rw [sA_ne (by decide), sA_ne (by decide), q3, upd_no (by omega)]
      · rw [sA_ne (by decide), sA_ne (by decide), q4, upd_no hi]
      · rw [sA_ne (by decide), sA_ne (by decide), q5]
      · rw [sA_ne h2, sA_ne h1, e7, w1_ne h3, e6, w1_ne h4]
      · rw [sA_2, sA_2, e7, w1_2, e6, w1_2]
def outR (M M' : Mem) (c : Nat) (r : RR) : Prop := rt M' 1 = enc r.2.2.2 ∧ frR M M' ∧ M'.1 0 = upd (M.1 0) 58 (nI (c + 1)) ∧ M'.1 37 = upd (M.1 37) c (nI r.1) ∧ M'.1 38 = upd (M.1 38) c (oI r.2.1) ∧ M'.1 39 = upd (M.1 39) c (oI r.2.2.1) ∧ (∀ b, 5 < b → b ≠ 37 → b ≠ 38 → b ≠ 39 → M'.1 b = M.1 b) ∧ M'.2 = M.2
theorem note_R {M0 M : Mem} {k c : Nat} {p s : Option Nat} {n : NN} {K : Mem → Prop} (hc : M0.1 0 58 = nI c) (hc18 : c < 20) (hp : ∀ x, p = some x → x < 10) (hs : ∀ x, s = some x → x < 8) (hM : ∀ b, b ≠ 2 → b ≠ 3 → M.1 b = M0.1 b) (hM2 : frR M0 M) (h2 : M.2 = M0.2) (hn : rt M 1 = enc n) (h : ∀ M', outR M0 M' c (k, p, s, appN n p s) → K M') : f_X9_notes (nI k) (oI p) (oI s) M K := by
  unfold f_X9_notes
  have hc0 : M.1 0 58 = nI c := by rw [hM 0 (by decide) (by decide)]; exact hc
  rw [hc0]
  refine ⟨(vp_nI (by omega) (by omega)).mpr (by omega), fun M2 e2 => ?_⟩
  have c2 : M2.1 0 58 = nI c := by rw [e2, w1_ne (by decide), hc0]
  rw [c2]
  refine ⟨(vp_nI (by omega) (by omega)).mpr (by omega), fun M3 e3 => ?_⟩
  have c3 : M3.1 0 58 = nI c := by rw [e3, w1_ne (by decide), c2]
  rw [c3]
  refine ⟨(vp_nI (by omega) (by omega)).mpr (by omega), fun M4 e4 M5 e5 => ?_⟩
  rw [nI_CL (by omega)] at e2 e3 e4
  have c4 : M4.1 0 58 = nI c := by rw [e4, w1_ne (by decide), c3]
  rw [c4, nI_A1] at e5
  have b5 : ∀ b, b ≠ 0 → b ≠ 37 → b ≠ 38 → b ≠ 39 → M5.1 b = M.1 b := fun b h1 h2 h3 h4 => by rw [e5, w1_ne h1, e4, w1_ne h4, e3, w1_ne h3, e2, w1_ne h2]
  have a0 : M5.1 0 = upd (M0.1 0) 58 (nI (c + 1)) := by rw [e5, w1_eq, e4, w1_ne (by decide), e3, w1_ne (by decide), e2, w1_ne (by decide), hM 0 (by decide) (by decide)]
  have a37 : M5.1 37 = upd (M0.1 37) c (nI k) := by rw [e5, w1_ne (by decide), e4, w1_ne (by decide), e3, w1_ne (by decide), e2, w1_eq, hM 37 (by decide) (by decide)]
  have a38 : M5.1 38 = upd (M0.1 38) c (oI p) := by rw [e5, w1_ne (by decide), e4, w1_ne (by decide), e3, w1_eq, e2, w1_ne (by decide), hM 38 (by decide) (by decide)]
  have a39 : M5.1 39 = upd (M0.1 39) c (oI s) := by rw [e5, w1_ne (by decide), e4, w1_eq, e3, w1_ne (by decide), e2, w1_ne (by decide), hM 39 (by decide) (by decide)]
  have n5 : rt M5 1 = rt M 1 := by unfold rt; rw [b5 1 (by decide) (by decide) (by decide) (by decide), b5 2 (by decide) (by decide) (by decide) (by decide), b5 3 (by decide) (by decide) (by decide) (by decide), b5 4 (by decide) (by decide) (by decide) (by decide), b5 5 (by decide) (by decide) (by decide) (by decide)]
  have m5 : M5.2 = M0.2 := by rw [e5, w1_2, e4, w1_2, e3, w1_2, e2, w1_2, h2]
  have fr5 : frR M0 M5 := frR_tr hM2 ⟨fun i _ => by rw [b5 1 (by decide) (by decide) (by decide) (by decide), b5 2 (by decide) (by decide) (by decide) (by decide)]; exact ⟨rfl, rfl⟩, fun i _ => by rw [b5 3 (by decide) (by decide) (by decide) (by decide)], fun i _ => by rw [b5 4 (by decide) (by decide) (by decide) (by decide), b5 5 (by decide) (by decide) (by decide) (by decide)]; exact ⟨rfl, rfl⟩⟩
  refine X9_n41_sp hp (fun M6 g1 g2 g3 g4 => ?_)
  rw [n5, hn] at g1
  have ea := enc_app (n := n) hp hs
  have fr6 := frR_tr fr5 g2
  have fin : ∀ M7 : Mem, rt M7 1 = app (enc n) p s → frR M0 M7 → (∀ b, b ≠ 1 → b ≠ 2 → b ≠ 5 → M7.1 b = M6.1 b) → M7.2 = M6.2 → K M7 := fun M7 k1 k2 k3 k4 => by
    refine h M7 ⟨by rw [k1, ea], k2, ?_, ?_, ?_, ?_, fun b h1 h2 h3 h4 => ?_, by rw [k4, g4, m5]⟩
    · rw [k3 0 (by decide) (by decide) (by decide), g3 0 (by decide) (by decide) (by decide) (by decide), a0]
    · rw [k3 37 (by decide) (by decide) (by decide), g3 37 (by decide) (by decide) (by decide) (by decide), a37]
    · rw [k3 38 (by decide) (by decide) (by decide), g3 38 (by decide) (by decide) (by decide) (by decide), a38]
    · rw [k3 39 (by decide) (by decide) (by decide), g3 39 (by decide) (by decide) (by decide) (by decide), a39]
    · rw [k3 b (by omega) (by omega) (by omega), g3 b (by omega) (by omega) (by omega) (by omega), b5 b (by omega) h2 h3 h4, hM b (by omega) (by omega)]
  cases s with
  | none => exact ⟨fun _ => fin M6 g1 fr6 (fun _ _ _ _ => rfl) rfl, fun e => absurd (show (-1 : Int32) < 0 by decide) e⟩
  | some s =>
    have s8 := hs s rfl
    show (nI s < 0 → K M6) ∧ (¬ nI s < 0 → _)
    rw [nI_l0 (by omega)]
    refine ⟨fun e => e.elim, fun _ M7 e7 => ?_⟩
    rw [show (1 : Int32).toNatClampNeg = 1 from rfl, gI, show (1 : Int32).toNatClampNeg = 1 from rfl] at e7
    have q5 : M7.1 5 = upd (M6.1 5) 1 (M6.1 5 1 &&& (((1 : Int32) <<< (nI s &&& 31)) ^^^ (-1))) := by rw [e7, w1_eq]; rfl
    have qb : ∀ b, b ≠ 5 → M7.1 b = M6.1 b := fun b hb => by rw [e7, w1_ne hb]
    have eP : app (enc n) p (some s) = drS (app (enc n) p none) s := by cases p <;> rfl
    refine X9_n133_sp s8 (fin _ ?_ (frR_tr fr6 ⟨fun i hi => ⟨?_, ?_⟩, fun i hi => ?_, fun i hi => ⟨?_, ?_⟩⟩) (fun b h1 h2 h3 => ?_) ?_)
    · rw [eP, ← g1]
      unfold rt
      rw [sA_eq, sA_ne (by decide), sA_eq, sA_ne (by decide), sA_ne (by decide), sA_ne (by decide), sA_ne (by decide), sA_ne (by decide), sA_ne (by decide), qb 1 (by decide), qb 2 (by decide), qb 3 (by decide), qb 4 (by decide), q5]
      simp only [Nat.mul_one]
      exact r5 (zR_tr _) (zR_tr _) rfl rfl upd_at
    · rw [sA_ne (by decide), sA_eq, qb 1 (by decide), zR_fr s8 hi]
    · rw [sA_eq, qb 2 (by decide), zR_fr s8 hi]
    · rw [sA_ne (by decide), sA_ne (by decide), qb 3 (by decide)]
    · rw [sA_ne (by decide), sA_ne (by decide), qb 4 (by decide)]
    · rw [sA_ne (by decide), sA_ne (by decide), q5, upd_no hi]
    · rw [sA_ne h2, sA_ne h1, qb b h3]
    · rw [sA_2, sA_2, e7, w1_2]
