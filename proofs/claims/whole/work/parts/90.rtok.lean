/-! the reference's tokens -/
def tpR (M : Mem) (tp : Nat → Nat) (L : Nat) : Prop := L ≤ 900 ∧ M.1 0 11 = nI L ∧ ∀ i, i < L → M.1 9 i = nI (tp i) ∧ tp i ≤ 255
def bA (tp : Nat → Nat) (L p : Nat) : Int32 := if p < L then nI (tp p) else (-1 : Int32)
theorem X9_byteAt_sp {tp : Nat → Nat} {L p : Nat} {M : Mem} {K : Int32 → Mem → Prop} (hT : tpR M tp L) (hp : p ≤ L) (h : K (bA tp L p) M) : f_X9_byteAt (nI p) M K := by
  obtain ⟨h9, h1, hb⟩ := hT
  unfold f_X9_byteAt
  unfold bA at h
  rw [h1, nI_LE (by omega) (by omega), vp_nI (by omega) (by omega)]
  refine ⟨fun q => ?_, fun q => ⟨by omega, ?_⟩⟩
  · rw [if_neg (by omega)] at h; exact h
  · rw [if_pos (by omega)] at h
    rw [gI, nI_CL (by omega), (hb p (by omega)).1]; exact h
/-- of a sort, and not behind the end -/
def inC (c : Nat → Bool) (tp : Nat → Nat) (L p : Nat) : Bool := decide (p < L) && c (tp p)
theorem bA_m {tp : Nat → Nat} {L p : Nat} (hb : ∀ i, i < L → tp i ≤ 255) : (bA tp L p = (-1 : Int32)) = ¬ p < L := by
  unfold bA
  by_cases q : p < L
  · rw [if_pos q]
    refine propext ⟨fun z => ?_, fun z => absurd q z⟩
    have e : (nI (tp p) : Int32) < 0 := by rw [z]; decide
    rw [l_0, nI_LT (by have := hb p q; omega) (by omega)] at e
    omega
  · rw [if_neg q]; exact propext ⟨fun _ => q, fun _ => rfl⟩
theorem X9_isSmall_sp {tp : Nat → Nat} {L p : Nat} {M : Mem} {K : Int32 → Mem → Prop} (hb : ∀ i, i < L → tp i ≤ 255) (h : K (bI (inC isLt tp L p)) M) : f_X9_isSmall (bA tp L p) M K := by
  unfold f_X9_isSmall bA
  unfold inC isLt at h
  by_cases q : p < L
  · have b2 := hb p q
    rw [if_pos q, l_97, l_122, nI_LT (by omega) (by omega), nI_LT (by omega) (by omega)]
    rw [decide_eq_true q, Bool.true_and] at h
    refine ⟨fun r => ?_, fun r => ⟨fun s => ?_, fun s => ?_⟩⟩
    · rw [decide_eq_false (by omega)] at h; exact h
    · rw [decide_eq_false (by omega)] at h; exact h
    · rw [decide_eq_true (by omega)] at h; exact h
  · rw [if_neg q]
    rw [decide_eq_false q, Bool.false_and] at h
    exact ⟨fun _ => h, fun z => absurd (by decide) z⟩
theorem X9_isDigit_sp {tp : Nat → Nat} {L p : Nat} {M : Mem} {K : Int32 → Mem → Prop} (hb : ∀ i, i < L → tp i ≤ 255) (h : K (bI (inC isDg tp L p)) M) : f_X9_isDigit (bA tp L p) M K := by
  unfold f_X9_isDigit bA
  unfold inC isDg at h
  by_cases q : p < L
  · have b2 := hb p q
    rw [if_pos q, l_48, l_57, nI_LT (by omega) (by omega), nI_LT (by omega) (by omega)]
    rw [decide_eq_true q, Bool.true_and] at h
    refine ⟨fun r => ?_, fun r => ⟨fun s => ?_, fun s => ?_⟩⟩
    · rw [decide_eq_false (by omega)] at h; exact h
    · rw [decide_eq_false (by omega)] at h; exact h
    · rw [decide_eq_true (by omega)] at h; exact h
  · rw [if_neg q]
    rw [decide_eq_false q, Bool.false_and] at h
    exact ⟨fun _ => h, fun z => absurd (by decide) z⟩
def fr0 (M M' : Mem) : Prop := (∀ b, b ≠ 0 → M'.1 b = M.1 b) ∧ (∀ j, j ≠ 12 → j ≠ 13 → j ≠ 14 → j ≠ 15 → M'.1 0 j = M.1 0 j) ∧ M'.2 = M.2
theorem fr0_rf (M : Mem) : fr0 M M := ⟨fun _ _ => rfl, fun _ _ _ _ _ => rfl, rfl⟩
theorem fr0_tr {M M1 M2 : Mem} (h : fr0 M M1) (h' : fr0 M1 M2) : fr0 M M2 := ⟨fun b hb => by rw [h'.1 b hb, h.1 b hb], fun j a b c d => by rw [h'.2.1 j a b c d, h.2.1 j a b c d], by rw [h'.2.2, h.2.2]⟩
theorem fr0_w {j : Nat} {v : Int32} (M : Mem) (hj : j = 12 ∨ j = 13 ∨ j = 14 ∨ j = 15) : fr0 M (wI M 0 j v) := ⟨fun b hb => w1_ne hb, fun k a b c d => w1_no (by omega), rfl⟩
theorem tpR_f {M M' : Mem} {tp : Nat → Nat} {L : Nat} (h : tpR M tp L) (f : fr0 M M') : tpR M' tp L := ⟨h.1, by rw [f.2.1 11 (by decide) (by decide) (by decide) (by decide)]; exact h.2.1, fun i hi => by rw [f.1 9 (by decide)]; exact h.2.2 i hi⟩
/-- a number, as the reference caps it -/
def cpn (tp : Nat → Nat) (s : Nat) : Nat → Nat
  | 0 => 0
  | k + 1 => if cpn tp s k * 10 + (tp (s + k) - 48) ≤ 10000 then cpn tp s k * 10 + (tp (s + k) - 48) else 10000
theorem cpn_le {tp : Nat → Nat} {s : Nat} : ∀ {k : Nat}, cpn tp s k ≤ 10000
  | 0 => by rw [cpn]; omega
  | k + 1 => by rw [cpn]; split <;> omega
theorem cpn_s {tp : Nat → Nat} {s k : Nat} (e : cpn tp s k = num tp s k) (hn : num tp s k ≤ 99) (hd : isDg (tp (s + k)) = true) : cpn tp s (k + 1) = num tp s (k + 1) ∧ num tp s (k + 1) ≤ num tp s k * 10 + 9 := by
  have := of_decide_eq_true hd
  rw [cpn, num, e, if_pos (by omega)]
  exact ⟨rfl, by omega⟩
theorem cpn_n {tp : Nat → Nat} {s k : Nat} (hk : k ≤ 3) (h : ∀ i, i < k → isDg (tp (s + i)) = true) : cpn tp s k = num tp s k ∧ num tp s k ≤ 999 := by
  have z : num tp s 0 = 0 := rfl
  by_cases k0 : k = 0
  · rw [k0]; exact ⟨rfl, by omega⟩
  have s1 := cpn_s (tp := tp) (s := s) (k := 0) rfl (by omega) (h 0 (by omega))
  by_cases k1 : k = 1
  · rw [k1]; exact ⟨s1.1, Nat.le_trans s1.2 (by omega)⟩
  have s2 := cpn_s s1.1 (by omega) (h 1 (by omega))
  by_cases k2 : k = 2
  · rw [k2]; exact ⟨s2.1, Nat.le_trans s2.2 (by omega)⟩
  have s3 := cpn_s s2.1 (by omega) (h 2 (by omega))
  rw [show k = 3 by omega]; exact ⟨s3.1, Nat.le_trans s3.2 (by omega)⟩
/-- what a token is, as the reference counts -/
def kR (k : Nat) : Nat := if k = 0 then 4 else k - 1
def TS9 (M : Mem) (tp : Nat → Nat) (L p : Nat) : Prop := M.1 0 13 = nI (tsp tp L p) ∧ M.1 0 14 = nI (kR (tkd tp L p)) ∧ M.1 0 12 = nI (tst tp L p) ∧ (tkd tp L p = 2 → M.1 0 15 = nI (tw 32 tp L p)) ∧ (tkd tp L p = 3 → M.1 0 15 = nI (tn tp L p))
theorem X9_next_sp {tp : Nat → Nat} {L p : Nat} {M : Mem} {K : Mem → Prop} (hT : tpR M tp L) (hp : p ≤ L) (ha : M.1 0 13 = nI p) (h : ∀ M', TS9 M' tp L p → fr0 M M' → K M') : f_X9_next M K := by
  have L9 := hT.1
  have hb : ∀ i, i < L → tp i ≤ 255 := fun i hi => (hT.2.2 i hi).2
  unfold f_X9_next
  refine rn_lp (c := isBl) (tp := tp) (L := L) (fun f q M1 => L_X9_next_0 _ K f M1) (fun q M1 => M1.1 0 13 = nI q ∧ fr0 M M1) p (fun q M1 f h0 hq hc hI nx => ?_) (fun q M1 f h0 hq hc hr hI => ?_) M hp ⟨ha, fr0_rf M⟩
  · have T1 := tpR_f hT hI.2
    show L_X9_next_0 _ K (f + 1) M1
    rw [L_X9_next_0, hI.1]
    refine X9_byteAt_sp T1 (by omega) ?_
    have n : ∀ M3 : Mem, M3 = wI M1 0 13 ((M1.1 0 13) + (1 : Int32)) → L_X9_next_0 _ K f M3 := fun M3 e3 => nx M3 ⟨by rw [e3, w1_at, hI.1, nI_A1], fr0_tr hI.2 (by rw [e3]; exact fr0_w M1 (by omega))⟩
    refine ⟨fun _ => n, fun z => ?_⟩
    rw [hI.1]
    refine X9_byteAt_sp T1 (by omega) ⟨fun y => ?_, fun _ => n⟩
    have b2 := hb q hq
    unfold bA at z y
    rw [if_pos hq, l_32, nI_EQ (by omega) (by omega)] at z
    rw [if_pos hq, l_10, nI_EQ (by omega) (by omega)] at y
    have := of_decide_eq_true hc
    omega
  · have T1 := tpR_f hT hI.2
    have eq : q = tst tp L p := hr
    have nb : bA tp L q ≠ (32 : Int32) ∧ bA tp L q ≠ (10 : Int32) := by
      unfold bA
      by_cases ql : q < L
      · have b2 := hb q ql
        have := of_decide_eq_false (hc ql)
        rw [if_pos ql, l_32, l_10]
        refine ⟨fun z => ?_, fun z => ?_⟩
        · rw [nI_EQ (by omega) (by omega)] at z; omega
        · rw [nI_EQ (by omega) (by omega)] at z; omega
      · rw [if_neg ql]; decide
    show L_X9_next_0 _ K (f + 1) M1
    rw [L_X9_next_0, hI.1]
    refine X9_byteAt_sp T1 hq ⟨fun z => absurd z nb.1, fun _ => ?_⟩
    rw [hI.1]
    refine X9_byteAt_sp T1 hq ⟨fun _ => ?_, fun z => absurd z nb.2⟩
    intro M7 e7
    have s7 : M7.1 0 12 = nI q := by rw [e7, w1_at]; exact hI.1
    have f7 : fr0 M M7 := fr0_tr hI.2 (by rw [e7]; exact fr0_w M1 (by omega))
    rw [s7]
    refine X9_byteAt_sp (tpR_f hT f7) hq (fun M9 e9 => ?_)
    have f9 : fr0 M M9 := fr0_tr f7 (by rw [e9]; exact fr0_w M7 (by omega))
    have T9 := tpR_f hT f9
    have a2 : M9.1 0 12 = nI q := by rw [e9, w1_no (by decide)]; exact s7
    have a3 : M9.1 0 13 = nI q := by rw [e9, w1_no (by decide), e7, w1_no (by decide)]; exact hI.1
    have a5 : M9.1 0 15 = nI 0 := by rw [e9, w1_at]; rfl
    rw [bA_m hb]
    refine ⟨fun ql => X9_isSmall_sp hb ⟨fun r2 => ?_, fun r2 => ?_⟩, fun ql M12 e12 => ?_⟩
    · have ql := Decidable.not_not.mp ql
      have r2 := b_of0 r2
      unfold inC at r2
      rw [decide_eq_true ql, Bool.true_and] at r2
      refine X9_isDigit_sp hb ⟨fun r3 => ?_, fun r3 => ?_⟩
      · have r3 := b_of0 r3
        unfold inC at r3
        rw [decide_eq_true ql, Bool.true_and] at r3
        intro M12 e12 M13 e13
        have sp : tsp tp L p = q + 1 := by
          unfold tsp
          rw [← eq, if_neg (by omega), if_neg (by rw [r2]; decide), if_neg (by rw [r3]; decide)]
        have kd : tkd tp L p = if tp q = 59 then 4 else 0 := by
          unfold tkd
          rw [← eq, if_neg (by omega), if_neg (by rw [r2]; decide), if_neg (by rw [r3]; decide)]
        have b2 := hb q ql
        have e13' : M13 = wI M12 0 14 (nI (kR (tkd tp L p))) := by
          rw [e13, kd]
          unfold bA
          rw [if_pos ql]
          by_cases z : tp q = 59
          · rw [if_neg (fun w => w (by rw [z]; rfl)), if_pos z]; rfl
          · rw [if_pos (by rw [l_59, nI_EQ (by omega) (by omega)]; exact z), if_neg z]; rfl
        have k23 : tkd tp L p ≠ 2 ∧ tkd tp L p ≠ 3 := by rw [kd]; split <;> decide
        refine h M13 ⟨?_, ?_, ?_, fun z => absurd z k23.1, fun z => absurd z k23.2⟩ (fr0_tr f9 (fr0_tr (M1 := M12) (by rw [e12]; exact fr0_w M9 (by omega)) (by rw [e13]; exact fr0_w M12 (by omega))))
        · rw [e13', w1_no (by decide), e12, w1_at, a3, nI_A1, sp]
        · rw [e13', w1_at]
        · rw [e13', w1_no (by decide), e12, w1_no (by decide), a2, eq]
      · have r3 := b_ofn r3
        unfold inC at r3
        rw [decide_eq_true ql, Bool.true_and] at r3
        have sp : tsp tp L p = rn isDg tp L (L - q) q := by
          unfold tsp
          rw [← eq, if_neg (by omega), if_neg (by rw [r2]; decide), if_pos r3]
        have kd : tkd tp L p = if tsp tp L p - q ≤ 3 ∧ ¬ (tsp tp L p < L ∧ isLt (tp (tsp tp L p)) = true) then 3 else 0 := by
          unfold tkd
          rw [← eq, if_neg (by omega), if_neg (by rw [r2]; decide), if_pos r3]
        refine rn_lp (c := isDg) (tp := tp) (L := L) (fun f q' M3 => L_X9_next_182 _ K f M3) (fun q' M3 => M3.1 0 13 = nI q' ∧ M3.1 0 15 = nI (cpn tp q (q' - q)) ∧ M3.1 0 12 = nI q ∧ fr0 M M3) q (fun q' M3 f h0 hq' hc' hI' nx => ?_) (fun q' M3 f h0 hq' hc' hr' hI' => ?_) M9 (by omega) ⟨a3, by rw [a5, Nat.sub_self]; rfl, a2, f9⟩
        · have T3 := tpR_f hT hI'.2.2.2
          show L_X9_next_182 _ K (f + 1) M3
          rw [L_X9_next_182, hI'.1]
          refine X9_byteAt_sp T3 (by omega) (X9_isDigit_sp hb ?_)
          unfold inC
          rw [decide_eq_true hq', Bool.true_and, hc']
          refine ⟨fun z => absurd z (by decide), fun _ => ?_⟩
          rw [hI'.1]
          refine X9_byteAt_sp T3 (by omega) ?_
          have d := of_decide_eq_true hc'
          have cl := cpn_le (tp := tp) (s := q) (k := q' - q)
          have e : ((M3.1 0 15) * (10 : Int32) + bA tp L q') - (48 : Int32) = nI (cpn tp q (q' - q) * 10 + (tp q' - 48)) := by
            unfold bA
            rw [if_pos hq', hI'.2.1, l_10, l_48, pk_mul, nI_add, pk_sub (by omega)]
            congr 1; omega
          rw [e]
          unfold f_X9_lesser
          rw [l_10000, nI_LE (by omega) (by omega)]
          have fin : ∀ (r : Int32), r = nI (cpn tp q (q' + 1 - q)) → ∀ M18 : Mem, M18 = wI M3 0 15 r → ∀ M19 : Mem, M19 = wI M18 0 13 ((M18.1 0 13) + (1 : Int32)) → L_X9_next_182 _ K f M19 := fun r er M18 e18 M19 e19 =>
            nx M19 ⟨by rw [e19, w1_at, e18, w1_no (by decide), hI'.1, nI_A1], by rw [e19, w1_no (by decide), e18, w1_at, er], by rw [e19, w1_no (by decide), e18, w1_no (by decide)]; exact hI'.2.2.1, fr0_tr hI'.2.2.2 (fr0_tr (M1 := M18) (by rw [e18]; exact fr0_w M3 (by omega)) (by rw [e19]; exact fr0_w M18 (by omega)))⟩
          refine ⟨fun z => fin _ ?_, fun z => fin _ ?_⟩
          · rw [show q' + 1 - q = (q' - q) + 1 by omega, cpn, show q + (q' - q) = q' by omega, if_pos z]
          · rw [show q' + 1 - q = (q' - q) + 1 by omega, cpn, show q + (q' - q) = q' by omega, if_neg z]
        · have T3 := tpR_f hT hI'.2.2.2
          rw [← sp] at hr'
          have fin : ∀ (M6 : Mem), M6 = M3 → S_X9_next_249 (3 : Int32) ((M6.1 0 13) - (M6.1 0 12)) (fun (w : Int32) (M_23 : Mem) => ∀ M_24 : Mem, M_24 = wI M_23 0 14 w → K M_24) K M6 := by
            intro M6 e6
            subst e6
            have last : ∀ (w : Int32), w = nI (kR (tkd tp L p)) → ∀ M_9 : Mem, M_9 = wI M6 0 14 w → K M_9 := fun w hw M9 e9 => by
              rw [hw] at e9
              refine h M9 ⟨by rw [e9, w1_no (by decide), hI'.1, hr'], by rw [e9, w1_at], by rw [e9, w1_no (by decide), hI'.2.2.1, eq], fun z => ?_, fun z => ?_⟩ (fr0_tr hI'.2.2.2 (by rw [e9]; exact fr0_w M6 (by omega)))
              · rw [kd] at z; split at z <;> cases z
              · rw [kd] at z
                split at z
                · rename_i y
                  rw [e9, w1_no (by decide), hI'.2.1, (cpn_n (by omega) (fun i hi => rn_all (c := isDg) (tp := tp) (L := L) (f := L - q) (p := q) (by omega) (by rw [← sp, ← hr']; omega))).1]
                  unfold tn
                  rw [← eq, ← hr']
                · cases z
            unfold S_X9_next_249
            rw [hI'.1, hI'.2.2.1, pk_sub (by omega), l_3, nI_LT (by omega) (by omega)]
            refine ⟨fun z => last _ ?_, fun z => X9_byteAt_sp T3 (by omega) (X9_isSmall_sp hb ⟨fun y => last _ ?_, fun y => last _ ?_⟩)⟩
            · rw [kd, if_neg (fun v => by omega)]; rfl
            · have y := b_of0 y
              unfold inC at y
              have u : ¬ (tsp tp L p < L ∧ isLt (tp (tsp tp L p)) = true) := fun v => by
                rw [← hr'] at v
                rw [decide_eq_true v.1, v.2] at y; cases y
              rw [kd, if_pos ⟨by omega, u⟩]; rfl
            · have y := b_ofn y
              unfold inC at y
              rw [Bool.and_eq_true] at y
              have u : tsp tp L p < L ∧ isLt (tp (tsp tp L p)) = true := by
                rw [← hr']
                exact ⟨of_decide_eq_true y.1, y.2⟩
              rw [kd, if_neg (fun v => v.2 u)]; rfl
          show L_X9_next_182 _ K (f + 1) M3
          rw [L_X9_next_182, hI'.1]
          refine X9_byteAt_sp T3 (by omega) (X9_isDigit_sp hb ⟨fun _ => fin M3 rfl, fun z => ?_⟩)
          have z := b_ofn z
          unfold inC at z
          rw [Bool.and_eq_true] at z
          rw [hc' (of_decide_eq_true z.1)] at z
          cases z.2
    · have ql := Decidable.not_not.mp ql
      have r2 := b_ofn r2
      unfold inC at r2
      rw [decide_eq_true ql, Bool.true_and] at r2
      have sp : tsp tp L p = rn isLt tp L (L - q) q := by
        unfold tsp
        rw [← eq, if_neg (by omega), if_pos r2]
      have kd : tkd tp L p = if tsp tp L p - q ≤ 6 then 2 else 0 := by
        unfold tkd
        rw [← eq, if_neg (by omega), if_pos r2]
      refine rn_lp (c := isLt) (tp := tp) (L := L) (fun f q' M3 => L_X9_next_81 _ K f M3) (fun q' M3 => M3.1 0 13 = nI q' ∧ (q' - q ≤ 6 → M3.1 0 15 = nI (cod 32 tp q (q' - q))) ∧ M3.1 0 12 = nI q ∧ fr0 M M3) q (fun q' M3 f h0 hq' hc' hI' nx => ?_) (fun q' M3 f h0 hq' hc' hr' hI' => ?_) M9 (by omega) ⟨a3, fun _ => by rw [a5, Nat.sub_self]; rfl, a2, f9⟩
      · have T3 := tpR_f hT hI'.2.2.2
        show L_X9_next_81 _ K (f + 1) M3
        rw [L_X9_next_81, hI'.1]
        refine X9_byteAt_sp T3 (by omega) (X9_isSmall_sp hb ?_)
        unfold inC
        rw [decide_eq_true hq', Bool.true_and, hc']
        refine ⟨fun z => absurd z (by decide), fun _ => ?_⟩
        have d := of_decide_eq_true hc'
        have fin : ∀ (r : Int32), (q' + 1 - q ≤ 6 → r = nI (cod 32 tp q (q' + 1 - q))) → ∀ M18 : Mem, M18 = wI M3 0 15 r → ∀ M19 : Mem, M19 = wI M18 0 13 ((M18.1 0 13) + (1 : Int32)) → L_X9_next_81 _ K f M19 := fun r er M18 e18 M19 e19 =>
          nx M19 ⟨by rw [e19, w1_at, e18, w1_no (by decide), hI'.1, nI_A1], fun v => by rw [e19, w1_no (by decide), e18, w1_at, er v], by rw [e19, w1_no (by decide), e18, w1_no (by decide)]; exact hI'.2.2.1, fr0_tr hI'.2.2.2 (fr0_tr (M1 := M18) (by rw [e18]; exact fr0_w M3 (by omega)) (by rw [e19]; exact fr0_w M18 (by omega)))⟩
        unfold S_X9_next_107
        rw [hI'.1, hI'.2.2.1, pk_sub (by omega), l_6, nI_LE (by omega) (by omega)]
        refine ⟨fun z => fin _ (fun v => by omega), fun z => X9_byteAt_sp T3 (by omega) (fin _ (fun v => ?_))⟩
        unfold bA
        rw [if_pos hq', hI'.2.1 (by omega), l_32, l_96, pk_mul, nI_add, pk_sub (by omega), show q' + 1 - q = (q' - q) + 1 by omega, cod, show q + (q' - q) = q' by omega]
        congr 1; omega
      · have T3 := tpR_f hT hI'.2.2.2
        rw [← sp] at hr'
        have last : ∀ (M6 : Mem), M6 = M3 → ∀ M_7 : Mem, M_7 = wI M6 0 14 (if ((M6.1 0 13) - (M6.1 0 12)) ≤ (6 : Int32) then (1 : Int32) else (4 : Int32)) → K M_7 := fun M6 e6 M7 e7 => by
          subst e6
          have e7' : M7 = wI M6 0 14 (nI (kR (tkd tp L p))) := by
            rw [e7, hI'.1, hI'.2.2.1, pk_sub (by omega), kd, ← hr']
            by_cases z : q' - q ≤ 6
            · rw [if_pos (by rw [l_6, nI_LE (by omega) (by omega)]; omega), if_pos z]; rfl
            · rw [if_neg (by rw [l_6, nI_LE (by omega) (by omega)]; omega), if_neg z]; rfl
          refine h M7 ⟨by rw [e7', w1_no (by decide), hI'.1, hr'], by rw [e7', w1_at], by rw [e7', w1_no (by decide), hI'.2.2.1, eq], fun z => ?_, fun z => ?_⟩ (fr0_tr hI'.2.2.2 (by rw [e7']; exact fr0_w M6 (by omega)))
          · rw [kd, ← hr'] at z
            split at z
            · rename_i y
              rw [e7', w1_no (by decide), hI'.2.1 y]
              unfold tw
              rw [← eq, ← hr']
            · cases z
          · rw [kd] at z; split at z <;> cases z
        show L_X9_next_81 _ K (f + 1) M3
        rw [L_X9_next_81, hI'.1]
        refine X9_byteAt_sp T3 (by omega) (X9_isSmall_sp hb ⟨fun _ => last M3 rfl, fun z => ?_⟩)
        have z := b_ofn z
        unfold inC at z
        rw [Bool.and_eq_true] at z
        rw [hc' (of_decide_eq_true z.1)] at z
        cases z.2
    · have kd : tkd tp L p = 1 := by unfold tkd; rw [← eq, if_pos (by omega)]
      have sp : tsp tp L p = q := by unfold tsp; rw [← eq, if_pos (by omega)]
      refine h M12 ⟨by rw [e12, w1_no (by decide), a3, sp], by rw [e12, w1_at, kd]; rfl, by rw [e12, w1_no (by decide), a2, eq], fun z => by rw [kd] at z; omega, fun z => by rw [kd] at z; omega⟩ (fr0_tr f9 (by rw [e12]; exact fr0_w M9 (by omega)))
