/-! the text: tokens -/
def isLt (b : Nat) : Bool := decide (97 ≤ b ∧ b ≤ 122)
def isDg (b : Nat) : Bool := decide (48 ≤ b ∧ b ≤ 57)
def isBl (b : Nat) : Bool := decide (b = 32 ∨ b = 10)
/-- how far bytes of a sort go -/
def rn (c : Nat → Bool) (tp : Nat → Nat) (L : Nat) : Nat → Nat → Nat
  | 0, p => p
  | f + 1, p => if p < L ∧ c (tp p) = true then rn c tp L f (p + 1) else p
theorem rn_le {c : Nat → Bool} {tp : Nat → Nat} {L : Nat} : ∀ {f p : Nat}, p ≤ L → p ≤ rn c tp L f p ∧ rn c tp L f p ≤ L
  | 0, p, h => ⟨Nat.le_refl _, h⟩
  | f + 1, p, h => by
    rw [rn]
    split
    · rename_i q
      have := rn_le (c := c) (tp := tp) (L := L) (f := f) (p := p + 1) (by omega)
      omega
    · omega
def tst (tp : Nat → Nat) (L p : Nat) : Nat := rn isBl tp L (L - p) p
def tsp (tp : Nat → Nat) (L p : Nat) : Nat := if L ≤ tst tp L p then tst tp L p else if isLt (tp (tst tp L p)) = true then rn isLt tp L (L - tst tp L p) (tst tp L p) else if isDg (tp (tst tp L p)) = true then rn isDg tp L (L - tst tp L p) (tst tp L p) else tst tp L p + 1
/-- what a token is: 0 none such, 1 the end, 2 a word, 3 a number, 4 the sign -/
def tkd (tp : Nat → Nat) (L p : Nat) : Nat := if L ≤ tst tp L p then 1 else if isLt (tp (tst tp L p)) = true then (if tsp tp L p - tst tp L p ≤ 6 then 2 else 0) else if isDg (tp (tst tp L p)) = true then (if tsp tp L p - tst tp L p ≤ 3 ∧ ¬ (tsp tp L p < L ∧ isLt (tp (tsp tp L p)) = true) then 3 else 0) else if tp (tst tp L p) = 59 then 4 else 0
def cod (b : Nat) (tp : Nat → Nat) (s : Nat) : Nat → Nat
  | 0 => 0
  | k + 1 => cod b tp s k * b + (tp (s + k) - 96)
def num (tp : Nat → Nat) (s : Nat) : Nat → Nat
  | 0 => 0
  | k + 1 => num tp s k * 10 + (tp (s + k) - 48)
def tw (b : Nat) (tp : Nat → Nat) (L p : Nat) : Nat := cod b tp (tst tp L p) (tsp tp L p - tst tp L p)
def tn (tp : Nat → Nat) (L p : Nat) : Nat := num tp (tst tp L p) (tsp tp L p - tst tp L p)
/-- the tape, as both have it -/
def tpC (M : Mem) (tp : Nat → Nat) (L : Nat) : Prop := L ≤ 900 ∧ M.1 42 3 = nI L ∧ ∀ i, i < L → M.1 43 i = nI (tp i) ∧ tp i ≤ 255
theorem X4_isBlank_sp {tp : Nat → Nat} {L p : Nat} {M : Mem} {K : Int32 → Mem → Prop} (hT : tpC M tp L) (hp : p < L) (h : K (bI (isBl (tp p))) M) : f_X4_isBlank (nI p) M K := by
  obtain ⟨h9, _, hb⟩ := hT
  obtain ⟨b1, b2⟩ := hb p hp
  unfold f_X4_isBlank
  rw [vp_nI (by omega) (by omega), gI, nI_CL (by omega), b1, l_32, l_10, nI_EQ (by omega) (by omega), nI_EQ (by omega) (by omega)]
  unfold isBl at h
  refine ⟨by omega, fun q => ?_, fun q => ⟨fun r => ?_, fun r => ?_⟩⟩
  · rw [decide_eq_true (Or.inl q)] at h; exact h
  · rw [decide_eq_false (by omega)] at h; exact h
  · rw [decide_eq_true (Or.inr r)] at h; exact h
theorem X4_isLetter_sp {tp : Nat → Nat} {L p : Nat} {M : Mem} {K : Int32 → Mem → Prop} (hT : tpC M tp L) (hp : p < L) (h : K (bI (isLt (tp p))) M) : f_X4_isLetter (nI p) M K := by
  obtain ⟨h9, _, hb⟩ := hT
  obtain ⟨b1, b2⟩ := hb p hp
  unfold f_X4_isLetter
  rw [vp_nI (by omega) (by omega), gI, nI_CL (by omega), b1, l_97, l_122, nI_LT (by omega) (by omega), nI_LT (by omega) (by omega)]
  unfold isLt at h
  refine ⟨by omega, fun q => ?_, fun q => ⟨fun r => ?_, fun r => ?_⟩⟩
  · rw [decide_eq_false (by omega)] at h; exact h
  · rw [decide_eq_false (by omega)] at h; exact h
  · rw [decide_eq_true (by omega)] at h; exact h
theorem X4_isDigit_sp {tp : Nat → Nat} {L p : Nat} {M : Mem} {K : Int32 → Mem → Prop} (hT : tpC M tp L) (hp : p < L) (h : K (bI (isDg (tp p))) M) : f_X4_isDigit (nI p) M K := by
  obtain ⟨h9, _, hb⟩ := hT
  obtain ⟨b1, b2⟩ := hb p hp
  unfold f_X4_isDigit
  rw [vp_nI (by omega) (by omega), gI, nI_CL (by omega), b1, l_48, l_57, nI_LT (by omega) (by omega), nI_LT (by omega) (by omega)]
  unfold isDg at h
  refine ⟨by omega, fun q => ?_, fun q => ⟨fun r => ?_, fun r => ?_⟩⟩
  · rw [decide_eq_false (by omega)] at h; exact h
  · rw [decide_eq_false (by omega)] at h; exact h
  · rw [decide_eq_true (by omega)] at h; exact h
/-- only the reader's own numbers are changed -/
def fr42 (M M' : Mem) : Prop := (∀ b, b ≠ 42 → M'.1 b = M.1 b) ∧ (∀ j, j ≠ 6 → j ≠ 7 → j ≠ 8 → j ≠ 9 → j ≠ 10 → M'.1 42 j = M.1 42 j) ∧ M'.2 = M.2
theorem fr42_rf (M : Mem) : fr42 M M := ⟨fun _ _ => rfl, fun _ _ _ _ _ _ => rfl, rfl⟩
theorem fr42_tr {M M1 M2 : Mem} (h : fr42 M M1) (h' : fr42 M1 M2) : fr42 M M2 := ⟨fun b hb => by rw [h'.1 b hb, h.1 b hb], fun j a b c d e => by rw [h'.2.1 j a b c d e, h.2.1 j a b c d e], by rw [h'.2.2, h.2.2]⟩
theorem fr42_w {j : Nat} {v : Int32} (M : Mem) (hj : j = 6 ∨ j = 7 ∨ j = 8 ∨ j = 9 ∨ j = 10) : fr42 M (wI M 42 j v) := ⟨fun b hb => w1_ne hb, fun k a b c d e => w1_no (by omega), rfl⟩
theorem tpC_f {M M' : Mem} {tp : Nat → Nat} {L : Nat} (h : tpC M tp L) (f : fr42 M M') : tpC M' tp L := ⟨h.1, by rw [f.2.1 3 (by decide) (by decide) (by decide) (by decide) (by decide)]; exact h.2.1, fun i hi => by rw [f.1 43 (by decide)]; exact h.2.2 i hi⟩
/-- a loop over bytes of a sort -/
theorem rn_lp {c : Nat → Bool} {tp : Nat → Nat} {L : Nat} (W : Nat → Nat → Mem → Prop) (I : Nat → Mem → Prop) (p0 : Nat) (hs : ∀ p M f, p0 ≤ p → p < L → c (tp p) = true → I p M → (∀ M', I (p + 1) M' → W f (p + 1) M') → W (f + 1) p M) (he : ∀ p M f, p0 ≤ p → p ≤ L → (p < L → c (tp p) = false) → p = rn c tp L (L - p0) p0 → I p M → W (f + 1) p M) : ∀ M, p0 ≤ L → I p0 M → ∃ f, W f p0 M := by
  have key : ∀ d p M, p + d = L → p0 ≤ p → rn c tp L d p = rn c tp L (L - p0) p0 → I p M → W (d + 1) p M := by
    intro d
    induction d with
    | zero =>
      intro p M hp h0 hr hI
      rw [rn] at hr
      exact he p M 0 h0 (by omega) (fun q => by omega) hr hI
    | succ d ih =>
      intro p M hp h0 hr hI
      rw [rn] at hr
      cases q : c (tp p)
      · rw [if_neg (fun z => by rw [q] at z; cases z.2)] at hr
        exact he p M _ h0 (by omega) (fun _ => q) hr hI
      · rw [if_pos ⟨by omega, q⟩] at hr
        exact hs p M _ h0 (by omega) q hI (fun M' hI' => ih (p + 1) M' (by omega) (by omega) hr hI')
  intro M h0 hI
  exact ⟨_, key (L - p0) p0 M (by omega) (Nat.le_refl _) rfl hI⟩
/-- a word, a number, as the class's ints are -/
def wcI (tp : Nat → Nat) (s : Nat) : Nat → Int32
  | 0 => 0
  | k + 1 => wcI tp s k * 27 + (nI (tp (s + k)) - 97 + 1)
def ncI (tp : Nat → Nat) (s : Nat) : Nat → Int32
  | 0 => 0
  | k + 1 => ncI tp s k * 10 + (nI (tp (s + k)) - 48)
theorem wcI_n {tp : Nat → Nat} {s : Nat} : ∀ {k : Nat}, (∀ i, i < k → isLt (tp (s + i)) = true) → wcI tp s k = nI (cod 27 tp s k)
  | 0, _ => rfl
  | k + 1, h => by
    have q := of_decide_eq_true (h k (by omega))
    rw [wcI, cod, wcI_n (fun i hi => h i (by omega)), l_27, l_97, pk_sub (by omega), nI_A1, pk_mul, nI_add]
    congr 1; omega
theorem ncI_n {tp : Nat → Nat} {s : Nat} : ∀ {k : Nat}, (∀ i, i < k → isDg (tp (s + i)) = true) → ncI tp s k = nI (num tp s k)
  | 0, _ => rfl
  | k + 1, h => by
    have q := of_decide_eq_true (h k (by omega))
    rw [ncI, num, ncI_n (fun i hi => h i (by omega)), l_10, l_48, pk_sub (by omega), pk_mul, nI_add]
theorem rn_all {c : Nat → Bool} {tp : Nat → Nat} {L : Nat} : ∀ {f p i : Nat}, p ≤ i → i < rn c tp L f p → c (tp i) = true
  | 0, p, i, h, h' => by rw [rn] at h'; omega
  | f + 1, p, i, h, h' => by
    rw [rn] at h'
    by_cases q : p < L ∧ c (tp p) = true
    · rw [if_pos q] at h'
      by_cases z : i = p
      · rw [z]; exact q.2
      · exact rn_all (by omega) h'
    · rw [if_neg q] at h'; omega
/-- a token, as the class has it -/
def TS4 (M : Mem) (tp : Nat → Nat) (L p : Nat) : Prop := M.1 42 6 = nI (tsp tp L p) ∧ M.1 42 7 = nI (tkd tp L p) ∧ M.1 42 8 = nI (tst tp L p) ∧ (tkd tp L p = 2 → M.1 42 9 = nI (tw 27 tp L p)) ∧ (tkd tp L p = 3 → M.1 42 10 = nI (tn tp L p))
theorem X4_advance_sp {tp : Nat → Nat} {L p : Nat} {M : Mem} {K : Mem → Prop} (hT : tpC M tp L) (hp : p ≤ L) (ha : M.1 42 6 = nI p) (h : ∀ M', TS4 M' tp L p → fr42 M M' → K M') : f_X4_advance M K := by
  have L9 := hT.1
  unfold f_X4_advance
  intro x1 e1
  rw [ha] at e1
  subst e1
  refine rn_lp (c := isBl) (tp := tp) (L := L) (fun f q M1 => L_X4_advance_5 _ K f (nI q) M1) (fun q M1 => M1.1 42 6 = nI q ∧ fr42 M M1) p (fun q M1 f h0 hq hc hI nx => ?_) (fun q M1 f h0 hq hc hr hI => ?_) M hp ⟨ha, fr42_rf M⟩
  · have T1 := tpC_f hT hI.2
    show L_X4_advance_5 _ K (f + 1) (nI q) M1
    rw [L_X4_advance_5, T1.2.1, nI_LE (by omega) (by omega), nI_A1]
    refine ⟨by omega, fun _ => X4_isBlank_sp T1 hq ?_⟩
    rw [hc]
    exact ⟨fun z => absurd z (by decide), fun _ M3 e3 => nx M3 ⟨by rw [e3, w1_at], fr42_tr hI.2 (by rw [e3]; exact fr42_w M1 (by omega))⟩⟩
  · have T1 := tpC_f hT hI.2
    -- behind the blanks
    have beh : ∀ M4 : Mem, M4 = M1 → ∀ M_5 : Mem, M_5 = wI M4 42 8 (M4.1 42 6) → (((M_5.1 42 6) < (M_5.1 42 3) → f_X4_isLetter (M_5.1 42 6) M_5 (fun (r_2 : Int32) (M_6 : Mem) => ((r_2 = 0 → f_X4_isDigit (M_6.1 42 6) M_6 (fun (r_3 : Int32) (M_7 : Mem) => ((r_3 = 0 → vp_in (M_7.1 42 6) 900 ∧ ∀ M_8 : Mem, M_8 = wI M_7 42 7 (if ¬ (gI M_7 43 (M_7.1 42 6)) = (59 : Int32) then (0 : Int32) else (4 : Int32)) → ∀ M_9 : Mem, M_9 = wI M_8 42 6 ((M_8.1 42 6) + (1 : Int32)) → K M_9) ∧ (¬ r_3 = 0 → f_X4_readNumber  M_7 (fun (M_10 : Mem) => K M_10))))) ∧ (¬ r_2 = 0 → f_X4_readWord  M_6 (fun (M_11 : Mem) => K M_11))))) ∧ (¬ (M_5.1 42 6) < (M_5.1 42 3) → ∀ M_12 : Mem, M_12 = wI M_5 42 7 (1 : Int32) → K M_12)) := by
      intro M4 e4 M5 e5
      subst e4
      have eq : q = tst tp L p := hr
      have f5 : fr42 M M5 := fr42_tr hI.2 (by rw [e5]; exact fr42_w M4 (by omega))
      have T5 := tpC_f hT f5
      have a6 : M5.1 42 6 = nI q := by rw [e5, w1_no (by decide)]; exact hI.1
      have a8 : M5.1 42 8 = nI q := by rw [e5, w1_at]; exact hI.1
      rw [a6, T5.2.1, nI_LT (by omega) (by omega)]
      refine ⟨fun ql => X4_isLetter_sp T5 ql ⟨fun r2 => ?_, fun r2 => ?_⟩, fun ql M12 e12 => ?_⟩
      · have r2 := b_of0 r2
        rw [a6]
        refine X4_isDigit_sp T5 ql ⟨fun r3 => ?_, fun r3 => ?_⟩
        · have r3 := b_of0 r3
          rw [a6]
          refine ⟨(vp_nI (by omega) (by omega)).mpr (by omega), fun M8 e8 M9 e9 => ?_⟩
          have sp : tsp tp L p = q + 1 := by
            unfold tsp
            rw [← eq, if_neg (by omega), if_neg (by rw [r2]; decide), if_neg (by rw [r3]; decide)]
          have kd : tkd tp L p = if tp q = 59 then 4 else 0 := by
            unfold tkd
            rw [← eq, if_neg (by omega), if_neg (by rw [r2]; decide), if_neg (by rw [r3]; decide)]
          have b2 := (T5.2.2 q ql).2
          have e8' : M8 = wI M5 42 7 (nI (tkd tp L p)) := by
            rw [e8, gI, nI_CL (by omega), (T5.2.2 q ql).1, kd]
            by_cases z : tp q = 59
            · rw [if_neg (fun w => w (by rw [z]; rfl)), if_pos z]; rfl
            · rw [if_pos (by rw [l_59, nI_EQ (by omega) (by omega)]; exact z), if_neg z]; rfl
          have k23 : tkd tp L p ≠ 2 ∧ tkd tp L p ≠ 3 := by rw [kd]; split <;> decide
          refine h M9 ⟨?_, ?_, ?_, fun z => absurd z k23.1, fun z => absurd z k23.2⟩ (fr42_tr f5 (fr42_tr (M1 := M8) (by rw [e8']; exact fr42_w M5 (by omega)) (by rw [e9]; exact fr42_w M8 (by omega))))
          · rw [e9, w1_at, e8', w1_no (by decide), a6, nI_A1, sp]
          · rw [e9, w1_no (by decide), e8', w1_at]
          · rw [e9, w1_no (by decide), e8', w1_no (by decide), a8, eq]
        · have r3 := b_ofn r3
          have sp : tsp tp L p = rn isDg tp L (L - q) q := by
            unfold tsp
            rw [← eq, if_neg (by omega), if_neg (by rw [r2]; decide), if_pos r3]
          have kd : tkd tp L p = if tsp tp L p - q ≤ 3 ∧ ¬ (tsp tp L p < L ∧ isLt (tp (tsp tp L p)) = true) then 3 else 0 := by
            unfold tkd
            rw [← eq, if_neg (by omega), if_neg (by rw [r2]; decide), if_pos r3]
          unfold f_X4_readNumber
          intro M2 e2 x1 e1
          have f2 : fr42 M M2 := fr42_tr f5 (by rw [e2]; exact fr42_w M5 (by omega))
          have s8 : M2.1 42 8 = nI q := by rw [e2, w1_no (by decide)]; exact a8
          rw [s8] at e1
          subst e1
          refine rn_lp (c := isDg) (tp := tp) (L := L) (fun f q' M3 => L_X4_readNumber_10 _ K f (nI q') M3) (fun q' M3 => M3.1 42 6 = nI q' ∧ M3.1 42 10 = ncI tp q (q' - q) ∧ M3.1 42 8 = nI q ∧ fr42 M M3) q (fun q' M3 f h0 hq' hc' hI' nx => ?_) (fun q' M3 f h0 hq' hc' hr' hI' => ?_) M2 (by omega) ⟨by rw [e2, w1_no (by decide)]; exact a6, by rw [e2, w1_at, Nat.sub_self]; rfl, s8, f2⟩
          · have T3 := tpC_f hT hI'.2.2.2
            show L_X4_readNumber_10 _ K (f + 1) (nI q') M3
            rw [L_X4_readNumber_10, T3.2.1, nI_LE (by omega) (by omega), nI_A1, vp_nI (by omega) (by omega)]
            refine ⟨by omega, fun _ => X4_isDigit_sp T3 hq' ?_⟩
            rw [hc']
            refine ⟨fun z => absurd z (by decide), fun _ => ⟨by omega, fun M4 e4 M5 e5 => nx M5 ⟨by rw [e5, w1_at], ?_, by rw [e5, w1_no (by decide), e4, w1_no (by decide)]; exact hI'.2.2.1, fr42_tr hI'.2.2.2 (fr42_tr (M1 := M4) (by rw [e4]; exact fr42_w M3 (by omega)) (by rw [e5]; exact fr42_w M4 (by omega)))⟩⟩⟩
            rw [e5, w1_no (by decide), e4, w1_at, hI'.2.1, gI, nI_CL (by omega), (T3.2.2 q' hq').1, show q' + 1 - q = (q' - q) + 1 by omega, ncI, show q + (q' - q) = q' by omega]
          · have T3 := tpC_f hT hI'.2.2.2
            rw [← sp] at hr'
            have fin : ∀ (M6 : Mem), M6 = M3 → S_X4_readNumber_68 (nI L) (M6.1 42 6) (fun (w : Int32) (M_8 : Mem) => ∀ M_9 : Mem, M_9 = wI M_8 42 7 (if (3 : Int32) < ((M_8.1 42 6) - (M_8.1 42 8)) then (0 : Int32) else (if ¬ w = 0 then (0 : Int32) else (3 : Int32))) → K M_9) K M6 := by
              intro M6 e6
              subst e6
              have last : ∀ (w : Int32), (w = 0 ↔ ¬ (tsp tp L p < L ∧ isLt (tp (tsp tp L p)) = true)) → ∀ M_9 : Mem, M_9 = wI M6 42 7 (if (3 : Int32) < ((M6.1 42 6) - (M6.1 42 8)) then (0 : Int32) else (if ¬ w = 0 then (0 : Int32) else (3 : Int32))) → K M_9 := fun w hw M9 e9 => by
                have e9' : M9 = wI M6 42 7 (nI (tkd tp L p)) := by
                  rw [e9, hI'.1, hI'.2.2.1, pk_sub (by omega), kd, ← hr']
                  by_cases z : q' - q ≤ 3
                  · rw [if_neg (by rw [l_3, nI_LT (by omega) (by omega)]; omega)]
                    by_cases y : w = 0
                    · rw [if_neg (fun v => v y), if_pos ⟨z, by rw [hr']; exact hw.mp y⟩]; rfl
                    · rw [if_pos y, if_neg (fun v => y (hw.mpr (by rw [← hr']; exact v.2)))]; rfl
                  · rw [if_pos (by rw [l_3, nI_LT (by omega) (by omega)]; omega), if_neg (fun v => z v.1)]; rfl
                refine h M9 ⟨by rw [e9', w1_no (by decide), hI'.1, hr'], by rw [e9', w1_at], by rw [e9', w1_no (by decide), hI'.2.2.1, eq], fun z => ?_, fun z => ?_⟩ (fr42_tr hI'.2.2.2 (by rw [e9']; exact fr42_w M6 (by omega)))
                · rw [kd] at z; split at z <;> cases z
                · rw [e9', w1_no (by decide), hI'.2.1, ncI_n (fun i hi => rn_all (c := isDg) (tp := tp) (L := L) (f := L - q) (p := q) (by omega) (by rw [← sp, ← hr']; omega))]
                  unfold tn
                  rw [← eq, ← hr']
              unfold S_X4_readNumber_68
              rw [hI'.1, nI_LE (by omega) (by omega)]
              refine ⟨fun z => last 0 ⟨fun _ v => by omega, fun _ => rfl⟩, fun z => X4_isLetter_sp T3 (by omega) ⟨fun y => last 0 ⟨fun _ v => ?_, fun _ => rfl⟩, fun y => last 1 ⟨fun v => absurd v (by decide), fun v => absurd ⟨by omega, ?_⟩ v⟩⟩⟩
              · have y := b_of0 y
                rw [← hr', y] at v; cases v.2
              · rw [← hr']; exact b_ofn y
            show L_X4_readNumber_10 _ K (f + 1) (nI q') M3
            rw [L_X4_readNumber_10, T3.2.1, nI_LE (by omega) (by omega)]
            refine ⟨fun _ => fin M3 rfl, fun z => X4_isDigit_sp T3 (by omega) ?_⟩
            rw [hc' (by omega)]
            exact ⟨fun _ => by rw [T3.2.1]; exact fin M3 rfl, fun z => absurd rfl z⟩
      · have r2 := b_ofn r2
        have sp : tsp tp L p = rn isLt tp L (L - q) q := by
          unfold tsp
          rw [← eq, if_neg (by omega), if_pos r2]
        have kd : tkd tp L p = if tsp tp L p - q ≤ 6 then 2 else 0 := by
          unfold tkd
          rw [← eq, if_neg (by omega), if_pos r2]
        unfold f_X4_readWord
        intro M2 e2 x1 e1
        have f2 : fr42 M M2 := fr42_tr f5 (by rw [e2]; exact fr42_w M5 (by omega))
        have s8 : M2.1 42 8 = nI q := by rw [e2, w1_no (by decide)]; exact a8
        rw [s8] at e1
        subst e1
        refine rn_lp (c := isLt) (tp := tp) (L := L) (fun f q' M3 => L_X4_readWord_10 _ K f (nI q') M3) (fun q' M3 => M3.1 42 6 = nI q' ∧ M3.1 42 9 = wcI tp q (q' - q) ∧ M3.1 42 8 = nI q ∧ fr42 M M3) q (fun q' M3 f h0 hq' hc' hI' nx => ?_) (fun q' M3 f h0 hq' hc' hr' hI' => ?_) M2 (by omega) ⟨by rw [e2, w1_no (by decide)]; exact a6, by rw [e2, w1_at, Nat.sub_self]; rfl, s8, f2⟩
        · have T3 := tpC_f hT hI'.2.2.2
          show L_X4_readWord_10 _ K (f + 1) (nI q') M3
          rw [L_X4_readWord_10, T3.2.1, nI_LE (by omega) (by omega), nI_A1, vp_nI (by omega) (by omega)]
          refine ⟨by omega, fun _ => X4_isLetter_sp T3 hq' ?_⟩
          rw [hc']
          refine ⟨fun z => absurd z (by decide), fun _ => ⟨by omega, fun M4 e4 M5 e5 => nx M5 ⟨by rw [e5, w1_at], ?_, by rw [e5, w1_no (by decide), e4, w1_no (by decide)]; exact hI'.2.2.1, fr42_tr hI'.2.2.2 (fr42_tr (M1 := M4) (by rw [e4]; exact fr42_w M3 (by omega)) (by rw [e5]; exact fr42_w M4 (by omega)))⟩⟩⟩
          rw [e5, w1_no (by decide), e4, w1_at, hI'.2.1, gI, nI_CL (by omega), (T3.2.2 q' hq').1, show q' + 1 - q = (q' - q) + 1 by omega, wcI, show q + (q' - q) = q' by omega]
        · have T3 := tpC_f hT hI'.2.2.2
          rw [← sp] at hr'
          have last : ∀ (M6 : Mem), M6 = M3 → ∀ M_7 : Mem, M_7 = wI M6 42 7 (if (6 : Int32) < ((M6.1 42 6) - (M6.1 42 8)) then (0 : Int32) else (2 : Int32)) → K M_7 := fun M6 e6 M7 e7 => by
            subst e6
            have e7' : M7 = wI M6 42 7 (nI (tkd tp L p)) := by
              rw [e7, hI'.1, hI'.2.2.1, pk_sub (by omega), kd, ← hr']
              by_cases z : q' - q ≤ 6
              · rw [if_neg (by rw [l_6, nI_LT (by omega) (by omega)]; omega), if_pos z]; rfl
              · rw [if_pos (by rw [l_6, nI_LT (by omega) (by omega)]; omega), if_neg z]; rfl
            refine h M7 ⟨by rw [e7', w1_no (by decide), hI'.1, hr'], by rw [e7', w1_at], by rw [e7', w1_no (by decide), hI'.2.2.1, eq], fun z => ?_, fun z => ?_⟩ (fr42_tr hI'.2.2.2 (by rw [e7']; exact fr42_w M6 (by omega)))
            · rw [e7', w1_no (by decide), hI'.2.1, wcI_n (fun i hi => rn_all (c := isLt) (tp := tp) (L := L) (f := L - q) (p := q) (by omega) (by rw [← sp, ← hr']; omega))]
              unfold tw
              rw [← eq, ← hr']
            · rw [kd] at z; split at z <;> cases z
          show L_X4_readWord_10 _ K (f + 1) (nI q') M3
          rw [L_X4_readWord_10, T3.2.1, nI_LE (by omega) (by omega)]
          refine ⟨fun _ => last M3 rfl, fun z => X4_isLetter_sp T3 (by omega) ?_⟩
          rw [hc' (by omega)]
          exact ⟨fun _ => last M3 rfl, fun z => absurd rfl z⟩
      · have kd : tkd tp L p = 1 := by unfold tkd; rw [← eq, if_pos (by omega)]
        have sp : tsp tp L p = q := by unfold tsp; rw [← eq, if_pos (by omega)]
        refine h M12 ⟨by rw [e12, w1_no (by decide), a6, sp], by rw [e12, w1_at, kd]; rfl, by rw [e12, w1_no (by decide), a8, eq], fun z => by rw [kd] at z; omega, fun z => by rw [kd] at z; omega⟩ (fr42_tr f5 (by rw [e12]; exact fr42_w M5 (by omega)))
    show L_X4_advance_5 _ K (f + 1) (nI q) M1
    rw [L_X4_advance_5, T1.2.1, nI_LE (by omega) (by omega)]
    refine ⟨fun _ => beh M1 rfl, fun z => X4_isBlank_sp T1 (by omega) ?_⟩
    rw [hc (by omega)]
    exact ⟨fun _ => beh M1 rfl, fun z => absurd rfl z⟩
