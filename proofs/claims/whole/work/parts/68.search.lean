/-! the class: all least supports, by their bits -/
def cvN (g : Nat → Bool) : Nat → Nat
  | 0 => 0
  | b + 1 => if g b = true then cvN g b ||| b else cvN g b
theorem cvN_lt {g : Nat → Bool} {b : Nat} (hb : b ≤ 1024) : cvN g b < 1024 := by
  induction b with
  | zero => show 0 < 1024; decide
  | succ b ih =>
    rw [cvN]
    split
    · exact Nat.or_lt_two_pow (n := 10) (ih (by omega)) (by omega)
    · exact ih (by omega)
theorem o2i {a : Nat} (h : a < 2147483648) : (oL (a : Int)).toInt32 = nI a := by
  rw [Int64.toInt32_ofInt, i_eq, i_nI h, Int32.toInt_ofInt_of_le (by omega) (by omega)]
def lsW (M : Mem) (t : Nat) (C : Nat → Nat → Int) (U b : Nat) : Prop := M.1 t 5 = nI (ctB (gdB C U) b) ∧ M.1 t 6 = nI (cvN (gdB C U) b) ∧ ∀ S, S < b → gdB C U S = true → M.1 (t + 3) (ctB (gdB C U) S) = nI S ∧ ∀ i, i < 10 → M.1 (t + 4) (10 * ctB (gdB C U) S + i) = nI (yv C S i).toNat
theorem sk {g : Nat → Bool} {b : Nat} : ∀ {d : Nat}, (∀ S, b ≤ S → S < b + d → g S = false) → ctB g (b + d) = ctB g b ∧ cvN g (b + d) = cvN g b
  | 0, _ => ⟨rfl, rfl⟩
  | d + 1, h => by
    have ih := sk (g := g) (b := b) (d := d) (fun S h1 h2 => h S h1 (by omega))
    have e := h (b + d) (by omega) (by omega)
    rw [← Nat.add_assoc, ctB_f e, cvN, if_neg (by rw [e]; decide)]
    exact ih
theorem lsW_sk {M : Mem} {t U b b' : Nat} {C : Nat → Nat → Int} (h : lsW M t C U b) (hb : b ≤ b') (hg : ∀ S, b ≤ S → S < b' → gdB C U S = false) : lsW M t C U b' := by
  obtain ⟨d, rfl⟩ := Nat.exists_eq_add_of_le hb
  obtain ⟨e1, e2⟩ := sk hg
  refine ⟨by rw [e1]; exact h.1, by rw [e2]; exact h.2.1, fun S hS hgS => ?_⟩
  rcases Nat.lt_or_ge S b with q | q
  · exact h.2.2 S q hgS
  · rw [hg S q hS] at hgS; cases hgS
def frK (t : Nat) (M M' : Mem) : Prop := (∀ b, b ≠ t → b ≠ t + 3 → b ≠ t + 4 → M'.1 b = M.1 b) ∧ (∀ j, j ≠ 5 → j ≠ 6 → M'.1 t j = M.1 t j) ∧ M'.2 = M.2
theorem X7_ka8_sp {t k S : Nat} {v : Nat → Int} {M : Mem} {X : Int32 → Int32 → Mem → Prop} {K : Mem → Prop} (hk : k ≤ 8) (hS2 : S < 1024) (rv : ∀ i, i < 20 → rg (v i)) (row : ∀ i, i < 10 → M.2 (t + 1) (20 * k + 10 + i) = oL (v (10 + i)))
    (h : X (bI (allB (fun u => !S.testBit u || decide (0 < v (10 + u))) 10)) (bI (allB (fun u => !S.testBit u || decide (v (10 + u) < 0)) 10)) M) : ∃ f, L_X7_keepIfAbove_8 t (nI S) (nI (20 * k + 10)) X K f 1 1 0 M := by
  have key : ∀ d i, i + d = 10 → L_X7_keepIfAbove_8 t (nI S) (nI (20 * k + 10)) X K (d + 1) (bI (allB (fun u => !S.testBit u || decide (0 < v (10 + u))) i)) (bI (allB (fun u => !S.testBit u || decide (v (10 + u) < 0)) i)) (nI i) M := by
    intro d
    induction d with
    | zero =>
      intro i hi
      have : i = 10 := by omega
      subst this
      rw [L_X7_keepIfAbove_8, l_10, nI_LE (by omega) (by omega)]
      exact ⟨fun _ => h, by omega⟩
    | succ d ih =>
      intro i hi
      have rr := row i (by omega)
      have nx := ih (i + 1) (by omega)
      have eb : ((nI S >>> (nI i &&& 31)) &&& 1 = 1) ↔ S.testBit i = true := by
        rw [← bt_nI (n := S) (k := i) (by omega) (by omega)]
        exact ⟨fun y => decide_eq_true y, fun y => of_decide_eq_true y⟩
      rw [L_X7_keepIfAbove_8, l_10, nI_LE (by omega) (by omega), eb, nI_A1]
      refine ⟨by omega, fun _ => ⟨fun z => ?_, fun z => ?_⟩⟩
      · rw [allB, allB] at nx
        rw [Bool.not_eq_true] at z
        rw [z, Bool.not_false, Bool.true_or, Bool.true_or, Bool.and_true, Bool.and_true] at nx
        exact nx
      · rw [allB, allB, z, Bool.not_true, Bool.false_or, Bool.false_or] at nx
        rw [nI_add, vp_nI (by omega) (by omega)]
        unfold S_X7_keepIfAbove_26
        rw [nI_add, vp_nI (by omega) (by omega), gL, nI_CL (by omega), rr, z_0, oL_LE (rv (10 + i) (by omega)) rg_0]
        have two : ∀ (w : Int32), w = bI (allB (fun u => !S.testBit u || decide (0 < v (10 + u))) i && decide (0 < v (10 + i))) → ((bI (allB (fun u => !S.testBit u || decide (v (10 + u) < 0)) i) = 0 → L_X7_keepIfAbove_8 t (nI S) (nI (20 * k + 10)) X K (d + 1) w 0 (nI (i + 1)) M) ∧ (¬ bI (allB (fun u => !S.testBit u || decide (v (10 + u) < 0)) i) = 0 → 20 * k + 10 + i < 220 ∧ ((0 ≤ v (10 + i) → L_X7_keepIfAbove_8 t (nI S) (nI (20 * k + 10)) X K (d + 1) w 0 (nI (i + 1)) M) ∧ (¬ 0 ≤ v (10 + i) → L_X7_keepIfAbove_8 t (nI S) (nI (20 * k + 10)) X K (d + 1) w 1 (nI (i + 1)) M)))) := by
          intro w ew
          rw [ew]
          refine ⟨fun y => ?_, fun y => ⟨by omega, fun q => ?_, fun q => ?_⟩⟩
          · rw [b_of0 y, Bool.false_and] at nx; exact nx
          · rw [decide_eq_false (show ¬ v (10 + i) < 0 by omega), Bool.and_false] at nx; exact nx
          · rw [b_ofn y, decide_eq_true (show v (10 + i) < 0 by omega)] at nx; exact nx
        have fin : ∀ (w : Int32), w = bI (allB (fun u => !S.testBit u || decide (0 < v (10 + u))) i && decide (0 < v (10 + i))) → ((bI (allB (fun u => !S.testBit u || decide (v (10 + u) < 0)) i) = 0 → L_X7_keepIfAbove_8 t (nI S) (nI (20 * k + 10)) X K (d + 1) w 0 (nI (i + 1)) M) ∧ (¬ bI (allB (fun u => !S.testBit u || decide (v (10 + u) < 0)) i) = 0 → 20 * k + 10 + i < 220 ∧ ((oL 0 ≤ gL M (t + 1) (nI (20 * k + 10 + i)) → L_X7_keepIfAbove_8 t (nI S) (nI (20 * k + 10)) X K (d + 1) w 0 (nI (i + 1)) M) ∧ (¬ oL 0 ≤ gL M (t + 1) (nI (20 * k + 10 + i)) → L_X7_keepIfAbove_8 t (nI S) (nI (20 * k + 10)) X K (d + 1) w 1 (nI (i + 1)) M)))) := by
          intro w ew
          rw [gL, nI_CL (by omega), rr, oL_LE rg_0 (rv (10 + i) (by omega))]
          exact two w ew
        refine ⟨fun y => ?_, fun y => ⟨by omega, fun q => ?_, fun q => ?_⟩⟩
        · have e0 : (0 : Int32) = bI (allB (fun u => !S.testBit u || decide (0 < v (10 + u))) i && decide (0 < v (10 + i))) := by rw [b_of0 y]; rfl
          first | exact two 0 e0 | exact fin 0 e0
        · have e0 : (0 : Int32) = bI (allB (fun u => !S.testBit u || decide (0 < v (10 + u))) i && decide (0 < v (10 + i))) := by rw [decide_eq_false (show ¬ 0 < v (10 + i) by omega), Bool.and_false]; rfl
          first | exact two 0 e0 | exact fin 0 e0
        · have e0 : (1 : Int32) = bI (allB (fun u => !S.testBit u || decide (0 < v (10 + u))) i && decide (0 < v (10 + i))) := by rw [b_ofn y, decide_eq_true (show 0 < v (10 + i) by omega)]; rfl
          first | exact two 1 e0 | exact fin 1 e0
  exact ⟨_, key 10 0 (by omega)⟩
theorem X7_keepIfAbove_sp {t k u S U : Nat} {C : Nat → Nat → Int} {us : Nat → Nat} {x : Nat → Nat → Int} {c : Nat → Nat} {v : Nat → Int} {M : Mem} {K : Mem → Prop} (hC : ∀ u i, -3 ≤ C u i ∧ C u i ≤ 3) (hk : k ≤ 8) (hu : u < 10) (hE : ES C us x c k) (hv : RC C us x c k u v) (hz : ∀ i, i < 10 → v i = 0) (hr : rwL M (t + 1) 20 k v) (hS : stU1 S us k u) (hS2 : S < 1024) (hU : sub S U = true) (hL : lsW M t C U S)
    (h : ∀ M', lsW M' t C U (S + 1) → frK t M M' → K M') : f_X7_keepIfAbove t (nI S) (nI (20 * k + 10)) M K := by
  have bv : ∀ i, i < 20 → (v i).natAbs ≤ 655000000 := fun i hi => abs_sq (Int.le_trans (RC_b hC hE (Nat.le_refl k) hu hv i hi) (pw91' k (by omega)))
  have rv : ∀ i, i < 20 → rg (v i) := fun i hi => by have := bv i hi; unfold rg; omega
  have ct : ctB (gdB C U) S ≤ 252 := Nat.le_trans (ctB_mono _ (by omega)) (gd_ct C U)
  have row : ∀ (M1 : Mem), M1.2 = M.2 → ∀ i, i < 10 → M1.2 (t + 1) (20 * k + 10 + i) = oL (v (10 + i)) := fun M1 e i hi => by rw [e, Nat.add_assoc]; exact hr (10 + i) (by omega)
  unfold f_X7_keepIfAbove
  refine X7_ka8_sp hk hS2 rv (row M rfl) ?_
  rw [hL.1, l_256, nI_LE (by omega) (by omega)]
  refine ⟨fun z => absurd z (by omega), fun _ => ?_⟩
  have good : sgn v S → vp_in (M.1 t 5) 256 ∧ ∀ M_5 : Mem, M_5 = wI M (t + 3) (M.1 t 5).toNatClampNeg (nI S) → (∃ k114 : Nat, L_X7_keepIfAbove_114 t (nI S) (nI (20 * k + 10)) (fun  (M_7 : Mem) => ∀ M_8 : Mem, M_8 = wI M_7 t 6 ((M_7.1 t 6) ||| (nI S)) → ∀ M_9 : Mem, M_9 = wI M_8 t 5 ((M_8.1 t 5) + (1 : Int32)) → K M_9) K k114 (0 : Int32) M_5) := by
    intro hs
    have sp := dep_good hE hu hv hz hS hs
    have gS : gdB C U S = true := pB_t ⟨hU, _, sp⟩
    have yS := Sup_u (yv_sp ⟨_, sp⟩) sp
    rw [hL.1, nI_CL (by omega)]
    refine ⟨(vp_nI (by omega) (by omega)).mpr (by omega), fun M5 e5 => ?_⟩
    have key2 : ∀ d i, i + d = 10 → ∀ M6 : Mem, (∀ j, j < i → M6.1 (t + 4) (10 * ctB (gdB C U) S + j) = nI (yv C S j).toNat) → (∀ b, b ≠ t + 4 → M6.1 b = M5.1 b) → (∀ j, j < 10 * ctB (gdB C U) S → M6.1 (t + 4) j = M.1 (t + 4) j) → M6.2 = M.2 → L_X7_keepIfAbove_114 t (nI S) (nI (20 * k + 10)) (fun  (M_7 : Mem) => ∀ M_8 : Mem, M_8 = wI M_7 t 6 ((M_7.1 t 6) ||| (nI S)) → ∀ M_9 : Mem, M_9 = wI M_8 t 5 ((M_8.1 t 5) + (1 : Int32)) → K M_9) K (d + 1) (nI i) M6 := by
      intro d
      induction d with
      | zero =>
        intro i hi M6 c1 c2 c3 c4
        rw [L_X7_keepIfAbove_114, l_10, nI_LE (by omega) (by omega)]
        refine ⟨fun _ M8 e8 M9 e9 => ?_, by omega⟩
        have t6 : ∀ j, M6.1 t j = M.1 t j := fun j => by rw [c2 t (by omega), e5, w1_ne (by omega)]
        have n9 : ∀ b, b ≠ t → M9.1 b = M6.1 b := fun b hb => by rw [e9, w1_ne hb, e8, w1_ne hb]
        have t3 : M9.1 (t + 3) = upd (M.1 (t + 3)) (ctB (gdB C U) S) (nI S) := by rw [n9 _ (by omega), c2 _ (by omega), e5, w1_eq]
        refine h M9 ⟨?_, ?_, fun S' hS' hg' => ?_⟩ ⟨fun b h1 h2 h3 => by rw [n9 b h1, c2 b h3, e5, w1_ne h2], fun j h1 h2 => by rw [e9, w1_no h1, e8, w1_no h2, t6], by rw [e9, w1_2, e8, w1_2, c4]⟩
        · rw [e9, w1_at, e8, w1_no (by decide), t6, hL.1, nI_A1, ctB_t gS]
        · rw [e9, w1_no (by decide), e8, w1_at, t6, hL.2.1, nI_or, cvN, if_pos gS]
        · rw [t3, n9 _ (by omega)]
          rcases Nat.lt_succ_iff_lt_or_eq.mp hS' with y | y
          · have lt := ctB_lt y hg'
            obtain ⟨p1, p2⟩ := hL.2.2 S' y hg'
            refine ⟨by rw [upd_no (by omega)]; exact p1, fun i hi => by rw [c3 _ (by omega)]; exact p2 i hi⟩
          · rw [y]
            exact ⟨by rw [upd_at], fun i hi => c1 i (by omega)⟩
      | succ d ih =>
        intro i hi M6 c1 c2 c3 c4
        have t5 : M6.1 t 5 = nI (ctB (gdB C U) S) := by rw [c2 t (by omega), e5, w1_ne (by omega)]; exact hL.1
        have bb := bv (10 + i) (by omega)
        rw [L_X7_keepIfAbove_114, l_10, nI_LE (by omega) (by omega), nI_add, vp_nI (by omega) (by omega), t5, m_10, nI_add, vp_nI (by omega) (by omega), gL, nI_CL (by omega), nI_CL (by omega), row M6 c4 i (by omega), oL_ab (rv _ (by omega)), o2i (by omega), nI_A1]
        refine ⟨by omega, fun _ => ⟨by omega, by omega, fun M7 e7 => ih (i + 1) (by omega) M7 (fun j hj => ?_) (fun b hb => by rw [e7, w1_ne hb, c2 b hb]) (fun j hj => by rw [e7, w1_no (by omega), c3 j hj]) (by rw [e7, w1_2, c4])⟩⟩
        by_cases q : j = i
        · rw [e7, q, w1_at, yS i (by omega)]
          congr 1
        · rw [e7, w1_no (by omega)]; exact c1 j (by omega)
    exact ⟨_, key2 10 0 (by omega) M5 (fun j hj => absurd hj (Nat.not_lt_zero _)) (fun _ _ => rfl) (fun j _ => by rw [e5, w1_ne (by omega)]) (by rw [e5, w1_2])⟩
  unfold S_X7_keepIfAbove_92
  refine ⟨fun z => good (Or.inl (fun u hu q => ?_)), fun z => ⟨fun y => good (Or.inr (fun u hu q => ?_)), fun y => ?_⟩⟩
  · have := allB_iff.mp (b_ofn z) u hu
    rw [q, Bool.not_true, Bool.false_or] at this
    exact of_decide_eq_true this
  · have := allB_iff.mp (b_ofn y) u hu
    rw [q, Bool.not_true, Bool.false_or] at this
    exact of_decide_eq_true this
  · have ng : gdB C U S = false := pB_f (fun ⟨_, y0, hy0⟩ => by
      rcases dep_bad hE hu hv hz hS hy0 with s | s
      · have : allB (fun u => !S.testBit u || decide (0 < v (10 + u))) 10 = true := allB_iff.mpr (fun u hu => by
          cases q : S.testBit u
          · rfl
          · rw [decide_eq_true (s u hu q)]; rfl)
        rw [this] at z; exact absurd z (by decide)
      · have : allB (fun u => !S.testBit u || decide (v (10 + u) < 0)) 10 = true := allB_iff.mpr (fun u hu => by
          cases q : S.testBit u
          · rfl
          · rw [decide_eq_true (s u hu q)]; rfl)
        rw [this] at y; exact absurd y (by decide))
    exact h M (lsW_sk hL (by omega) (fun S' h1 h2 => by rw [show S' = S by omega]; exact ng)) ⟨fun _ _ _ _ => rfl, fun _ _ _ => rfl, rfl⟩
