/-! the class's reader: the whole text -/
theorem pClose_on {tp : Nat → Nat} {L : Nat} {z y : PT} (hp : z.1 ≤ L) (h : pClose tp L z = .ok y) : z.1 ≤ y.1 ∧ y.1 ≤ L := by
  have a := tst_le (tp := tp) hp
  have b := tsp_le (tp := tp) hp
  unfold pClose at h
  split at h
  · injection h with h
    rw [← h]
    show z.1 ≤ tsp tp L z.1 ∧ tsp tp L z.1 ≤ L
    omega
  · cases h
theorem pArcs_on {tp : Nat → Nat} {L nP : Nat} {pn : Nat → List Nat} {s : Nat} : ∀ {f : Nat} {z y : AT}, z.1 ≤ L → pArcs tp L nP pn s f z = .ok y → z.1 ≤ y.1 ∧ y.1 ≤ L
  | 0, z, y, hp, h => by
    rw [pArcs] at h
    injection h with h
    rw [← h]; exact ⟨Nat.le_refl _, hp⟩
  | f + 1, z, y, hp, h => by
    have one : ∀ g : Bool, tkd tp L z.1 = 2 → ∀ x, pArc tp L nP pn g s z = x → (∀ e, x ≠ .error e) → ∃ y', x = .ok y' ∧ z.1 < y'.1 ∧ y'.1 ≤ L := fun g k x e ne => by
      cases x with
      | error e' => exact absurd rfl (ne e')
      | ok y' => exact ⟨y', rfl, pArc_on hp (by omega) e⟩
    rw [pArcs] at h
    by_cases q : isW tp L z.1 kTa = true
    · rw [if_pos q] at h
      cases c : pArc tp L nP pn false s z with
      | error e => rw [c] at h; cases h
      | ok y' =>
        rw [c] at h
        have o := pArc_on hp (by have := (of_decide_eq_true q).1; omega) c
        have := pArcs_on o.2 h
        omega
    · rw [if_neg q] at h
      by_cases q2 : isW tp L z.1 kGi = true
      · rw [if_pos q2] at h
        cases c : pArc tp L nP pn true s z with
        | error e => rw [c] at h; cases h
        | ok y' =>
          rw [c] at h
          have o := pArc_on hp (by have := (of_decide_eq_true q2).1; omega) c
          have := pArcs_on o.2 h
          omega
      · rw [if_neg q2] at h
        injection h with h
        rw [← h]; exact ⟨Nat.le_refl _, hp⟩
theorem pPl2_on {tp : Nat → Nat} {L p v : Nat} {z y : PT} {w : List Nat} (hp : p ≤ L) (h : pPl2 tp L z w v p = .ok y) : p ≤ y.1 ∧ y.1 ≤ L := pClose_on (z := (p, _)) hp h
theorem pLine_on {tp : Nat → Nat} {L : Nat} {z y : PT} (hp : z.1 ≤ L) (k : tkd tp L z.1 ≠ 1) (h : pLine tp L z = .ok y) : z.1 < y.1 ∧ y.1 ≤ L := by
  have o := tsp_on (tp := tp) hp k
  have a := tsp_le (tp := tp) hp
  have b := tst_le (tp := tp) a.2
  have c := tsp_le (tp := tp) a.2
  have d := tst_le (tp := tp) c.2
  have e := tsp_le (tp := tp) c.2
  unfold pLine at h
  by_cases q : isW tp L z.1 kPl = true
  · rw [if_pos q] at h
    unfold pPlace at h
    by_cases q2 : z.2.1.1 < 10
    · rw [if_pos q2] at h
      cases n : pNew tp L z (tsp tp L z.1) with
      | some e => rw [n] at h; cases h
      | none =>
        rw [n] at h
        have h : (if tkd tp L (tsp tp L (tsp tp L z.1)) = 3 then (if tn tp L (tsp tp L (tsp tp L z.1)) ≤ 99 then pPl2 tp L z (twl tp L (tsp tp L z.1)) (tn tp L (tsp tp L (tsp tp L z.1))) (tsp tp L (tsp tp L (tsp tp L z.1))) else .error (flt tp L (tsp tp L (tsp tp L z.1)) 4)) else pPl2 tp L z (twl tp L (tsp tp L z.1)) 0 (tsp tp L (tsp tp L z.1))) = Except.ok y := h
        split at h
        · split at h
          · have := pPl2_on e.2 h; omega
          · cases h
        · have := pPl2_on c.2 h; omega
    · rw [if_neg q2] at h; cases h
  · rw [if_neg q] at h
    by_cases q1 : isW tp L z.1 kSt = true
    · rw [if_pos q1] at h
      unfold pStep at h
      by_cases q2 : z.2.2.1.1 < 8
      · rw [if_pos q2] at h
        cases n : pNew tp L z (tsp tp L z.1) with
        | some e => rw [n] at h; cases h
        | none =>
          rw [n] at h
          cases m : pArcs tp L z.2.1.1 z.2.1.2 z.2.2.1.1 L (tsp tp L (tsp tp L z.1), z.2.2.2.1, z.2.2.2.2.1) with
          | error e => rw [m] at h; cases h
          | ok x =>
            rw [m] at h
            have o1 := pArcs_on (z := (tsp tp L (tsp tp L z.1), z.2.2.2.1, z.2.2.2.2.1)) c.2 m
            have o2 : tsp tp L (tsp tp L z.1) ≤ x.1 := o1.1
            have o3 := pClose_on (z := (x.1, z.2.1, (z.2.2.1.1 + 1, pu z.2.2.1.2 z.2.2.1.1 (twl tp L (tsp tp L z.1))), x.2.1, x.2.2, z.2.2.2.2.2)) o1.2 h
            have o4 : x.1 ≤ y.1 := o3.1
            omega
      · rw [if_neg q2] at h; cases h
    · rw [if_neg q1] at h; cases h
theorem intoLp {tp : Nat → Nat} {L : Nat} {K : Int32 → Mem → Prop} : ∀ (f : Nat) (z : PT) (v : Nat) (M : Mem), tpC M tp L → TS4 M tp L z.1 → z.1 ≤ L → L - z.1 ≤ f → v ≤ z.1 → PCn M z → (∀ r M', RdC tp L M' r (pNet tp L f z) → frP M M' → K r M') → L_X4_readInto_27 46 (fun (v2_2 : Int32) (M_14 : Mem) => (v2_2 &&& 1 = v2_2) ∧ K v2_2 M_14) K (f + 2) (1 : Int32) (nI v) M := by
  intro f
  induction f with
  | zero =>
    intro z v M hL hT hp hf hv hP h
    have t := tst_le (tp := tp) hp
    have k1 : tkd tp L z.1 = 1 := by unfold tkd; rw [if_pos (by omega)]
    have e : (1 : Int32) &&& 1 = 1 ∧ K 1 M := ⟨by decide, h 1 M ⟨rfl, hP, hT, hp⟩ (frP_rf M)⟩
    show L_X4_readInto_27 46 _ K (1 + 1) (1 : Int32) (nI v) M
    rw [L_X4_readInto_27, hT.2.1, k1]
    exact ⟨fun _ => e, fun _ => ⟨fun q => absurd q (by decide), fun _ => ⟨fun _ => e, fun q => absurd rfl q⟩⟩⟩
  | succ f ih =>
    intro z v M hL hT hp hf hv hP h
    have L9 := hL.1
    have k4 := tkd_le (tp := tp) (L := L) (p := z.1)
    have zk : (nI (tkd tp L z.1) = (2 : Int32)) = (tkd tp L z.1 = 2) := by rw [l_2, nI_EQ (by omega) (by omega)]
    have zo : (nI (tkd tp L z.1) = (1 : Int32)) = (tkd tp L z.1 = 1) := by rw [l_1, nI_EQ (by omega) (by omega)]
    show L_X4_readInto_27 46 _ K ((f + 2) + 1) (1 : Int32) (nI v) M
    rw [L_X4_readInto_27, hT.2.1, zk, zo, nI_A1]
    by_cases k : tkd tp L z.1 = 1
    · have e : (1 : Int32) &&& 1 = 1 ∧ K 1 M := ⟨by decide, h 1 M (by rw [pNet, if_pos k]; exact ⟨rfl, hP, hT, hp⟩) (frP_rf M)⟩
      exact ⟨fun _ => e, fun _ => ⟨fun q => absurd q (by decide), fun _ => ⟨fun _ => e, fun q => absurd k q⟩⟩⟩
    · have on := tsp_on (tp := tp) hp k
      have le := (tsp_le (tp := tp) hp).2
      have z9 : ((900 : Int32) ≤ nI v) = (900 ≤ v) := by rw [l_900, nI_LE (by omega) (by omega)]
      rw [z9]
      have nxt : ∀ r M', RdC tp L M' r (pLine tp L z) → frP M M' → L_X4_readInto_27 46 (fun (v2_2 : Int32) (M_14 : Mem) => (v2_2 &&& 1 = v2_2) ∧ K v2_2 M_14) K (f + 2) r (nI (v + 1)) M' := fun r M' a b => by
        rw [pNet, if_neg k] at h
        cases c : pLine tp L z with
        | error e =>
          rw [c] at a h
          have a : r = 0 ∧ M'.1 42 4 = nI e.1 ∧ M'.1 42 5 = nI e.2 := a
          have fin : (0 : Int32) &&& 1 = 0 ∧ K 0 M' := ⟨by decide, h 0 M' ⟨rfl, a.2⟩ b⟩
          rw [a.1]
          show L_X4_readInto_27 46 _ K ((f + 1) + 1) (0 : Int32) (nI (v + 1)) M'
          rw [L_X4_readInto_27]
          exact ⟨fun _ => fin, fun _ => ⟨fun _ => fin, fun q => absurd rfl q⟩⟩
        | ok y =>
          rw [c] at a h
          have a : r = 1 ∧ PCn M' y ∧ TS4 M' tp L y.1 ∧ y.1 ≤ L := a
          have o := pLine_on hp k c
          rw [a.1]
          exact ih y (v + 1) M' (tpC_P hL b) a.2.2.1 a.2.2.2 (by omega) (by omega) a.2.1 (fun r2 M2 a2 b2 => h r2 M2 a2 (frP_tr b b2))
      have bad : pLine tp L z = .error (flt tp L z.1 2) → f_X4_refuse (2 : Int32) M (fun (r_3 : Int32) (M_7 : Mem) => L_X4_readInto_27 46 (fun (v2_2 : Int32) (M_14 : Mem) => (v2_2 &&& 1 = v2_2) ∧ K v2_2 M_14) K (f + 2) r_3 (nI (v + 1)) M_7) := fun e => X4_refuse_sp (k := 2) hT (fun M' b c d => nxt 0 M' (by rw [e]; exact ⟨rfl, b, c⟩) d)
      refine ⟨fun q => by omega, fun _ => ⟨fun q => absurd q (by decide), fun _ => ⟨fun q => absurd q k, fun _ => ⟨fun q => ⟨fun _ => bad ?_, fun q2 => absurd q2 q⟩, fun q => ?_⟩⟩⟩⟩
      · unfold pLine
        rw [if_neg (by rw [isW_f (fun x => q x.1)]; decide), if_neg (by rw [isW_f (fun x => q x.1)]; decide)]
      · have w := twl_ok q
        have e9 : M.1 42 9 = nI (wcd 27 (twl tp L z.1)) := by rw [hT.2.2.2.1 q, tw_wcd]
        have eP : (M.1 42 9 = (8740067 : Int32)) = (twl tp L z.1 = kPl) := by rw [e9, k27.1, e27 w kPl_ok]
        have eS : (M.1 42 9 = (388708 : Int32)) = (twl tp L z.1 = kSt) := by rw [e9, k27.2.1, e27 w kSt_ok]
        rw [eP, eS]
        refine ⟨fun q2 => ⟨fun q3 => absurd q q3, fun _ => ⟨fun q3 => bad ?_, fun q3 => ?_⟩⟩, fun q2 => ?_⟩
        · unfold pLine
          rw [if_neg (by rw [isW_f (fun x => q2 x.2)]; decide), if_neg (by rw [isW_f (fun x => q3 x.2)]; decide)]
        · refine X4_readStep_sp hL hT hp hP (fun r M' a b => nxt r M' ?_ b)
          unfold pLine
          rw [if_neg (by rw [isW_f (fun x => q2 x.2)]; decide), if_pos (isW_t q q3)]; exact a
        · refine X4_readPlace_sp hL hT hp hP (fun r M' a b => nxt r M' ?_ b)
          unfold pLine
          rw [if_pos (isW_t q q2)]; exact a
/-- nothing read yet -/
def pt0 : PT := (0, (0, fun _ => []), (0, fun _ => []), (fun _ => 0), (fun _ => 0), (fun _ => 0))
theorem X4_readInto_sp {tp : Nat → Nat} {L : Nat} {M : Mem} {K : Int32 → Mem → Prop} (hL : tpC M tp L) (h : ∀ r M', RdC tp L M' r (pNet tp L L pt0) → frP M M' → K r M') : f_X4_readInto 46 M K := by
  unfold f_X4_readInto
  intro M2 e2 M3 e3 M4 e4
  unfold f_X1_clear
  refine J7_fill_sp (N := 80) rfl (by omega) (fun M5 a1 _ a3 a4 => ?_)
  refine J7_fill_sp (N := 80) rfl (by omega) (fun M6 b1 _ b3 b4 => ?_)
  refine J7_fill_sp (N := 10) rfl (by omega) (fun M7 c1 _ c3 c4 => ?_)
  intro M8 e8 M9 e9 M10 e10 M11 e11
  have g4 : frP M M4 := frP_tr (M1 := M3) (frP_tr (M1 := M2) (by rw [e2]; exact frP_42w M (by decide)) (by rw [e3]; exact frP_42w M2 (by decide))) (by rw [e4]; exact frP_42w M3 (by decide))
  have g7 : frP M4 M7 := ⟨fun b _ _ _ _ d5 d6 d7 => by rw [c3 b d7, b3 b d6, a3 b d5], by rw [c3 42 (by decide), b3 42 (by decide), a3 42 (by decide)], fun j _ => by rw [c3 46 (by decide), b3 46 (by decide), a3 46 (by decide)], by rw [c4, b4, a4]⟩
  have g11 : frP M7 M11 := frP_tr (M1 := M10) (frP_tr (M1 := M9) (frP_tr (M1 := M8) (by rw [e8]; exact frP_46 M7 (by omega)) (by rw [e9]; exact frP_46 M8 (by omega))) (by rw [e10]; exact frP_46 M9 (by omega))) (by rw [e11]; exact frP_46 M10 (by omega))
  have g : frP M M11 := frP_tr g4 (frP_tr g7 g11)
  have o : ∀ b, b ≠ 46 → M11.1 b = M7.1 b := fun b q => by rw [e11, w1_ne q, e10, w1_ne q, e9, w1_ne q, e8, w1_ne q]
  have o2 : M11.1 42 = M4.1 42 := by rw [o 42 (by decide), c3 42 (by decide), b3 42 (by decide), a3 42 (by decide)]
  have P : PCn M11 pt0 := by
    unfold PCn nms
    rw [o2, o 47 (by decide), o 48 (by decide), o 49 (by decide)]
    refine ⟨⟨?_, by decide, ?_, by decide⟩, ⟨?_, ?_⟩, fun i hi => absurd hi (Nat.not_lt_zero _), fun i hi => absurd hi (Nat.not_lt_zero _), fun i hi => ⟨?_, by show 0 ≤ 3; omega⟩, fun i hi => ⟨?_, by show 0 ≤ 3; omega⟩, fun i hi => ⟨?_, by show 0 ≤ 99; omega⟩, ?_, ?_⟩
    · rw [e11, w1_no (by decide), e10, w1_no (by decide), e9, w1_no (by decide), e8, w1_at]; rfl
    · rw [e11, w1_no (by decide), e10, w1_no (by decide), e9, w1_at]; rfl
    · rw [e11, w1_no (by decide), e10, w1_at]; rfl
    · rw [e11, w1_at]; rfl
    · rw [c3 47 (by decide), b3 47 (by decide)]; exact a1 i hi
    · rw [c3 48 (by decide)]; exact b1 i hi
    · exact c1 i hi
    · rw [e4, w1_no (by decide), e3, w1_no (by decide), e2, w1_at]; rfl
    · rw [e4, w1_no (by decide), e3, w1_at]
  refine X4_advance_sp (p := 0) (tpC_P hL g) (by omega) (by rw [o2, e4, w1_at]; rfl) (fun M12 T f => ⟨L + 2, ?_⟩)
  exact intoLp L pt0 0 M12 (tpC_f (tpC_P hL g) f) T (Nat.zero_le _) (Nat.sub_le _ _) (Nat.le_refl _) (PCn_f P f) (fun r M' a b => h r M' a (frP_tr g (frP_tr (frP_42 f) b)))
