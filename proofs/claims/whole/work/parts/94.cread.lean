/-! the class's reader: lines -/
theorem RdC_b {tp : Nat → Nat} {L : Nat} {M : Mem} {r : Int32} {x : Except (Nat × Nat) PT} (h : RdC tp L M r x) : r &&& 1 = r := by
  cases x with
  | error e => rw [h.1]; decide
  | ok z => rw [h.1]; decide
def aC (tp : Nat → Nat) (L : Nat) (z : PT) (x : Except (Nat × Nat) AT) : Except (Nat × Nat) PT := match x with
  | .error e => .error e
  | .ok y => pClose tp L (lfA z y)
theorem pArc2_on {tp : Nat → Nat} {L nP : Nat} {pn : Nat → List Nat} {g : Bool} {s a v p : Nat} {T G : Nat → Nat} {y : AT} (hp : p ≤ L) (h : pArc2 tp L nP pn g s a v p T G = .ok y) : p ≤ y.1 ∧ y.1 ≤ L := by
  have a1 := tst_le (tp := tp) hp
  have a2 := tsp_le (tp := tp) hp
  unfold pArc2 at h
  by_cases b : isNm tp L p = true
  · rw [if_pos b] at h
    by_cases c : nx pn (twl tp L p) nP 0 < nP
    · rw [if_pos c] at h
      by_cases d : (if g = true then G else T) (s * 10 + nx pn (twl tp L p) nP 0) + v ≤ 3
      · rw [if_pos d] at h
        injection h with h
        rw [← h]
        show p ≤ tsp tp L p ∧ tsp tp L p ≤ L
        omega
      · rw [if_neg d] at h; cases h
    · rw [if_neg c] at h; cases h
  · rw [if_neg b] at h; cases h
theorem pArc_on {tp : Nat → Nat} {L nP : Nat} {pn : Nat → List Nat} {g : Bool} {s : Nat} {z y : AT} (hp : z.1 ≤ L) (k : tkd tp L z.1 ≠ 1) (h : pArc tp L nP pn g s z = .ok y) : z.1 < y.1 ∧ y.1 ≤ L := by
  have o := tsp_on (tp := tp) hp k
  have a := tsp_le (tp := tp) hp
  have b := tst_le (tp := tp) a.2
  have c := tsp_le (tp := tp) a.2
  unfold pArc at h
  by_cases q : tkd tp L (tsp tp L z.1) = 3
  · rw [if_pos q] at h
    split at h
    · have := pArc2_on c.2 h; omega
    · cases h
  · rw [if_neg q] at h
    have := pArc2_on a.2 h; omega
theorem isW_t {tp : Nat → Nat} {L p : Nat} {w : List Nat} (k : tkd tp L p = 2) (e : twl tp L p = w) : isW tp L p w = true := decide_eq_true ⟨k, e⟩
theorem isW_f {tp : Nat → Nat} {L p : Nat} {w : List Nat} (e : ¬ (tkd tp L p = 2 ∧ twl tp L p = w)) : isW tp L p w = false := decide_eq_false e
theorem stepLp {tp : Nat → Nat} {L s : Nat} {z : PT} {K : Int32 → Mem → Prop} (hs : s < 8) : ∀ (f : Nat) (y : AT) (v : Nat) (M : Mem), tpC M tp L → TS4 M tp L y.1 → y.1 ≤ L → L - y.1 ≤ f → v ≤ y.1 → PCn M (lfA z y) → (∀ r M', RdC tp L M' r (aC tp L z (pArcs tp L z.2.1.1 z.2.1.2 s f y)) → frP M M' → K r M') → L_X4_readStep_57 46 (nI s) (fun (M_10 : Mem) => f_X4_readClose M_10 (fun (r_7 : Int32) (M_11 : Mem) => (r_7 &&& 1 = r_7) ∧ K r_7 M_11)) K (f + 1) (nI v) M := by
  intro f
  induction f with
  | zero =>
    intro y v M hL hT hp hf hv hP h
    have L9 := hL.1
    have cls : f_X4_readClose M (fun (r_7 : Int32) (M_11 : Mem) => (r_7 &&& 1 = r_7) ∧ K r_7 M_11) := X4_readClose_sp (z := lfA z y) hL hT hp hP (fun r M' a b => ⟨RdC_b a, h r M' a b⟩)
    have t := tst_le (tp := tp) hp
    have k1 : tkd tp L y.1 = 1 := by unfold tkd; rw [if_pos (by omega)]
    rw [L_X4_readStep_57, hT.2.1, k1]
    exact ⟨fun _ => cls, fun _ => ⟨fun _ => cls, fun q => absurd q (by decide)⟩⟩
  | succ f ih =>
    intro y v M hL hT hp hf hv hP h
    have L9 := hL.1
    have k4 := tkd_le (tp := tp) (L := L) (p := y.1)
    have cls : pArcs tp L z.2.1.1 z.2.1.2 s (f + 1) y = .ok y → f_X4_readClose M (fun (r_7 : Int32) (M_11 : Mem) => (r_7 &&& 1 = r_7) ∧ K r_7 M_11) := fun e => X4_readClose_sp (z := lfA z y) hL hT hp hP (fun r M' a b => ⟨RdC_b a, h r M' (by rw [e]; exact a) b⟩)
    have zk : (nI (tkd tp L y.1) = (2 : Int32)) = (tkd tp L y.1 = 2) := by rw [l_2, nI_EQ (by omega) (by omega)]
    rw [L_X4_readStep_57, hT.2.1, zk]
    by_cases k : tkd tp L y.1 = 2
    · have on := tsp_on (tp := tp) hp (by omega)
      have le := (tsp_le (tp := tp) hp).2
      have w := twl_ok k
      have e9 : M.1 42 9 = nI (wcd 27 (twl tp L y.1)) := by rw [hT.2.2.2.1 k, tw_wcd]
      have z9 : ((900 : Int32) ≤ nI v) = (900 ≤ v) := by rw [l_900, nI_LE (by omega) (by omega)]
      rw [z9, nI_A1]
      refine ⟨fun q => by omega, fun _ => ⟨fun q => absurd k q, fun _ => ?_⟩⟩
      have eT : (M.1 42 9 = (10656676 : Int32)) = (twl tp L y.1 = kTa) := by rw [e9, k27.2.2.1, e27 w kTa_ok]
      have eG : (M.1 42 9 = (3913426 : Int32)) = (twl tp L y.1 = kGi) := by rw [e9, k27.2.2.2, e27 w kGi_ok]
      have arc : ∀ g : Bool, pArcs tp L z.2.1.1 z.2.1.2 s (f + 1) y = (match pArc tp L z.2.1.1 z.2.1.2 g s y with | .error e => .error e | .ok y' => pArcs tp L z.2.1.1 z.2.1.2 s f y') → f_X4_readArc 46 (nI s) (if g = true then 48 else 47) M (fun (r_6 : Int32) (M_9 : Mem) => ((¬ r_6 = 0 → L_X4_readStep_57 46 (nI s) (fun (M_10 : Mem) => f_X4_readClose M_10 (fun (r_7 : Int32) (M_11 : Mem) => (r_7 &&& 1 = r_7) ∧ K r_7 M_11)) K (f + 1) (nI (v + 1)) M_9) ∧ (r_6 = 0 → K (0 : Int32) M_9))) := fun g e => by
        refine X4_readArc_sp (z := lfA z y) hL hT hp hP hs (fun r M' a b => ?_)
        have a : RdC tp L M' r (lfX (lfA z y) (pArc tp L z.2.1.1 z.2.1.2 g s y)) := a
        rw [e] at h
        cases c : pArc tp L z.2.1.1 z.2.1.2 g s y with
        | error e' =>
          rw [c] at a h
          have a : r = 0 ∧ M'.1 42 4 = nI e'.1 ∧ M'.1 42 5 = nI e'.2 := a
          exact ⟨fun q => absurd a.1 q, fun _ => h 0 M' ⟨rfl, a.2⟩ b⟩
        | ok y' =>
          rw [c] at a h
          have a : r = 1 ∧ PCn M' (lfA z y') ∧ TS4 M' tp L y'.1 ∧ y'.1 ≤ L := a
          have o := pArc_on hp (by omega) c
          refine ⟨fun _ => ih y' (v + 1) M' (tpC_P hL b) a.2.2.1 a.2.2.2 (by omega) (by omega) a.2.1 (fun r2 M2 a2 b2 => h r2 M2 a2 (frP_tr b b2)), fun q => ?_⟩
          rw [a.1] at q
          exact absurd q (by decide)
      unfold S_X4_readStep_78
      refine ⟨fun q => ?_, fun q => ⟨fun q2 => ?_, fun q2 => ?_⟩⟩
      · rw [eT] at q
        have := arc false (by rw [pArcs, if_pos (isW_t k q)]; rfl)
        rw [if_neg (fun x => x (by rw [eT]; exact q))]
        exact this
      · rw [eT] at q
        rw [eG] at q2
        have := arc true (by rw [pArcs, if_neg (by rw [isW_f (fun x => q x.2)]; decide), if_pos (isW_t k q2)]; rfl)
        rw [if_pos (by rw [eT]; exact q)]
        exact this
      · rw [eT] at q
        rw [eG] at q2
        have e : pArcs tp L z.2.1.1 z.2.1.2 s (f + 1) y = .ok y := by rw [pArcs, if_neg (by rw [isW_f (fun x => q x.2)]; decide), if_neg (by rw [isW_f (fun x => q2 x.2)]; decide)]
        rw [e] at h
        have e2 : aC tp L z (.ok y) = .error (flt tp L y.1 2) := by
          show pClose tp L (lfA z y) = _
          unfold pClose
          exact if_neg (show ¬ tkd tp L y.1 = 4 by omega)
        rw [e2] at h
        exact X4_refuse_sp (k := 2) hT (fun M' b c d => ⟨by decide, h 0 M' ⟨rfl, b, c⟩ d⟩)
    · have e : pArcs tp L z.2.1.1 z.2.1.2 s (f + 1) y = .ok y := by rw [pArcs, if_neg (by rw [isW_f (fun x => k x.1)]; decide), if_neg (by rw [isW_f (fun x => k x.1)]; decide)]
      exact ⟨fun _ => cls e, fun _ => ⟨fun _ => cls e, fun q => absurd q k⟩⟩
