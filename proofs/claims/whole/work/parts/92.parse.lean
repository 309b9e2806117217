/-! the text, read: what both have to do -/
def flt (tp : Nat → Nat) (L p k : Nat) : Nat × Nat := (if tkd tp L p = 0 then 1 else k, tst tp L p)
def pu {α : Type} (f : Nat → α) (i : Nat) (v : α) : Nat → α := fun j => if j = i then v else f j
/-- what is read of arcs: the place in the text, takes, gives -/
abbrev AT : Type := Nat × (Nat → Nat) × (Nat → Nat)
/-- what is read: the place in the text, places, steps, takes, gives, tokens -/
abbrev PT : Type := Nat × (Nat × (Nat → List Nat)) × (Nat × (Nat → List Nat)) × (Nat → Nat) × (Nat → Nat) × (Nat → Nat)
def pArc2 (tp : Nat → Nat) (L nP : Nat) (pn : Nat → List Nat) (g : Bool) (s a v p : Nat) (T G : Nat → Nat) : Except (Nat × Nat) AT :=
  if isNm tp L p = true then
    (if nx pn (twl tp L p) nP 0 < nP then
      (if (if g = true then G else T) (s * 10 + nx pn (twl tp L p) nP 0) + v ≤ 3 then
        .ok (tsp tp L p, (if g = true then T else pu T (s * 10 + nx pn (twl tp L p) nP 0) (T (s * 10 + nx pn (twl tp L p) nP 0) + v)), (if g = true then pu G (s * 10 + nx pn (twl tp L p) nP 0) (G (s * 10 + nx pn (twl tp L p) nP 0) + v) else G))
      else .error (4, a))
    else .error (flt tp L p 3))
  else .error (flt tp L p 2)
def pArc (tp : Nat → Nat) (L nP : Nat) (pn : Nat → List Nat) (g : Bool) (s : Nat) (z : AT) : Except (Nat × Nat) AT :=
  if tkd tp L (tsp tp L z.1) = 3 then
    (if 1 ≤ tn tp L (tsp tp L z.1) ∧ tn tp L (tsp tp L z.1) ≤ 3 then pArc2 tp L nP pn g s (tst tp L z.1) (tn tp L (tsp tp L z.1)) (tsp tp L (tsp tp L z.1)) z.2.1 z.2.2 else .error (flt tp L (tsp tp L z.1) 4))
  else pArc2 tp L nP pn g s (tst tp L z.1) 1 (tsp tp L z.1) z.2.1 z.2.2
def pArcs (tp : Nat → Nat) (L nP : Nat) (pn : Nat → List Nat) (s : Nat) : Nat → AT → Except (Nat × Nat) AT
  | 0, z => .ok z
  | f + 1, z => if isW tp L z.1 kTa = true then (match pArc tp L nP pn false s z with
      | .error e => .error e
      | .ok y => pArcs tp L nP pn s f y)
    else if isW tp L z.1 kGi = true then (match pArc tp L nP pn true s z with
      | .error e => .error e
      | .ok y => pArcs tp L nP pn s f y)
    else .ok z
def pClose (tp : Nat → Nat) (L : Nat) (z : PT) : Except (Nat × Nat) PT := if tkd tp L z.1 = 4 then .ok (tsp tp L z.1, z.2) else .error (flt tp L z.1 2)
/-- what is wrong with a new name, if anything -/
def pNew (tp : Nat → Nat) (L : Nat) (z : PT) (p : Nat) : Option (Nat × Nat) :=
  if isNm tp L p = true then (if nx z.2.1.2 (twl tp L p) z.2.1.1 0 < z.2.1.1 ∨ nx z.2.2.1.2 (twl tp L p) z.2.2.1.1 0 < z.2.2.1.1 then some (flt tp L p 3) else none) else some (flt tp L p 2)
def pPl2 (tp : Nat → Nat) (L : Nat) (z : PT) (w : List Nat) (v p : Nat) : Except (Nat × Nat) PT :=
  pClose tp L (p, (z.2.1.1 + 1, pu z.2.1.2 z.2.1.1 w), z.2.2.1, z.2.2.2.1, z.2.2.2.2.1, pu z.2.2.2.2.2 z.2.1.1 v)
def pPlace (tp : Nat → Nat) (L : Nat) (z : PT) : Except (Nat × Nat) PT :=
  if z.2.1.1 < 10 then
    (match pNew tp L z (tsp tp L z.1) with
    | some e => .error e
    | none => if tkd tp L (tsp tp L (tsp tp L z.1)) = 3 then (if tn tp L (tsp tp L (tsp tp L z.1)) ≤ 99 then pPl2 tp L z (twl tp L (tsp tp L z.1)) (tn tp L (tsp tp L (tsp tp L z.1))) (tsp tp L (tsp tp L (tsp tp L z.1))) else .error (flt tp L (tsp tp L (tsp tp L z.1)) 4))
      else pPl2 tp L z (twl tp L (tsp tp L z.1)) 0 (tsp tp L (tsp tp L z.1)))
  else .error (flt tp L z.1 5)
def pStep (tp : Nat → Nat) (L : Nat) (z : PT) : Except (Nat × Nat) PT :=
  if z.2.2.1.1 < 8 then
    (match pNew tp L z (tsp tp L z.1) with
    | some e => .error e
    | none => (match pArcs tp L z.2.1.1 z.2.1.2 z.2.2.1.1 L (tsp tp L (tsp tp L z.1), z.2.2.2.1, z.2.2.2.2.1) with
      | .error e => .error e
      | .ok y => pClose tp L (y.1, z.2.1, (z.2.2.1.1 + 1, pu z.2.2.1.2 z.2.2.1.1 (twl tp L (tsp tp L z.1))), y.2.1, y.2.2, z.2.2.2.2.2)))
  else .error (flt tp L z.1 5)
def pLine (tp : Nat → Nat) (L : Nat) (z : PT) : Except (Nat × Nat) PT := if isW tp L z.1 kPl = true then pPlace tp L z else if isW tp L z.1 kSt = true then pStep tp L z else .error (flt tp L z.1 2)
def pNet (tp : Nat → Nat) (L : Nat) : Nat → PT → Except (Nat × Nat) PT
  | 0, z => .ok z
  | f + 1, z => if tkd tp L z.1 = 1 then .ok z else (match pLine tp L z with
    | .error e => .error e
    | .ok y => pNet tp L f y)
/-! what the class has of it -/
def PCn (M : Mem) (z : PT) : Prop := (M.1 46 3 = nI z.2.1.1 ∧ z.2.1.1 ≤ 10 ∧ M.1 46 4 = nI z.2.2.1.1 ∧ z.2.2.1.1 ≤ 8) ∧ (M.1 46 5 = nI (2 ^ z.2.1.1 - 1) ∧ M.1 46 6 = nI (2 ^ z.2.2.1.1 - 1)) ∧ nms 27 44 M z.2.1.1 z.2.1.2 ∧ nms 27 45 M z.2.2.1.1 z.2.2.1.2 ∧ (∀ i, i < 80 → M.1 47 i = nI (z.2.2.2.1 i) ∧ z.2.2.2.1 i ≤ 3) ∧ (∀ i, i < 80 → M.1 48 i = nI (z.2.2.2.2.1 i) ∧ z.2.2.2.2.1 i ≤ 3) ∧ (∀ i, i < 10 → M.1 49 i = nI (z.2.2.2.2.2 i) ∧ z.2.2.2.2.2 i ≤ 99) ∧ (M.1 42 4 = nI 0 ∧ M.1 42 5 = (-1 : Int32))
theorem PCn_f {M M' : Mem} {z : PT} (h : PCn M z) (f : fr42 M M') : PCn M' z := by
  unfold PCn nms at *
  rw [f.1 46 (by decide), f.1 44 (by decide), f.1 45 (by decide), f.1 47 (by decide), f.1 48 (by decide), f.1 49 (by decide), f.2.1 4 (by decide) (by decide) (by decide) (by decide) (by decide), f.2.1 5 (by decide) (by decide) (by decide) (by decide) (by decide)]
  exact h
/-- only what the reader reads into is changed -/
def frP (M M' : Mem) : Prop := (∀ b, b ≠ 42 → b ≠ 44 → b ≠ 45 → b ≠ 46 → b ≠ 47 → b ≠ 48 → b ≠ 49 → M'.1 b = M.1 b) ∧ M'.1 42 3 = M.1 42 3 ∧ (∀ j, 7 ≤ j → M'.1 46 j = M.1 46 j) ∧ M'.2 = M.2
theorem frP_rf (M : Mem) : frP M M := ⟨fun _ _ _ _ _ _ _ _ => rfl, rfl, fun _ _ => rfl, rfl⟩
theorem frP_tr {M M1 M2 : Mem} (h : frP M M1) (h' : frP M1 M2) : frP M M2 := ⟨fun b a1 a2 a3 a4 a5 a6 a7 => by rw [h'.1 b a1 a2 a3 a4 a5 a6 a7, h.1 b a1 a2 a3 a4 a5 a6 a7], by rw [h'.2.1, h.2.1], fun j hj => by rw [h'.2.2.1 j hj, h.2.2.1 j hj], by rw [h'.2.2.2, h.2.2.2]⟩
theorem frP_42 {M M' : Mem} (f : fr42 M M') : frP M M' := ⟨fun b hb _ _ _ _ _ _ => f.1 b hb, f.2.1 3 (by decide) (by decide) (by decide) (by decide) (by decide), fun j _ => by rw [f.1 46 (by decide)], f.2.2⟩
theorem tpC_P {M M' : Mem} {tp : Nat → Nat} {L : Nat} (h : tpC M tp L) (f : frP M M') : tpC M' tp L := ⟨h.1, by rw [f.2.1]; exact h.2.1, fun i hi => by rw [f.1 43 (by decide) (by decide) (by decide) (by decide) (by decide) (by decide) (by decide)]; exact h.2.2 i hi⟩
theorem frP_w {c j : Nat} {v : Int32} (M : Mem) (hc : c = 44 ∨ c = 45 ∨ c = 47 ∨ c = 48 ∨ c = 49) : frP M (wI M c j v) := ⟨fun b a1 a2 a3 a4 a5 a6 a7 => w1_ne (by omega), by rw [w1_ne (by omega)], fun k _ => by rw [w1_ne (by omega)], rfl⟩
theorem frP_46 {j : Nat} {v : Int32} (M : Mem) (hj : j < 7) : frP M (wI M 46 j v) := ⟨fun b a1 a2 a3 a4 a5 a6 a7 => w1_ne (by omega), by rw [w1_ne (by omega)], fun k hk => w1_no (by omega), rfl⟩
theorem frP_42w {j : Nat} {v : Int32} (M : Mem) (hj : j ≠ 3) : frP M (wI M 42 j v) := ⟨fun b a1 a2 a3 a4 a5 a6 a7 => w1_ne (by omega), w1_no (by omega), fun k hk => by rw [w1_ne (by omega)], rfl⟩
/-- what a reader answers -/
def RdC (tp : Nat → Nat) (L : Nat) (M' : Mem) (r : Int32) (x : Except (Nat × Nat) PT) : Prop :=
  match x with
  | .error e => r = 0 ∧ M'.1 42 4 = nI e.1 ∧ M'.1 42 5 = nI e.2
  | .ok z => r = 1 ∧ PCn M' z ∧ TS4 M' tp L z.1 ∧ z.1 ≤ L
theorem tst_le {tp : Nat → Nat} {L p : Nat} (h : p ≤ L) : p ≤ tst tp L p ∧ tst tp L p ≤ L := rn_le h
theorem tsp_le {tp : Nat → Nat} {L p : Nat} (h : p ≤ L) : tst tp L p ≤ tsp tp L p ∧ tsp tp L p ≤ L := by
  have a := tst_le (tp := tp) h
  have b := fun c => rn_le (c := c) (tp := tp) (f := L - tst tp L p) a.2
  unfold tsp
  split
  · omega
  · split
    · exact b isLt
    · split
      · exact b isDg
      · omega
theorem rn_st {c : Nat → Bool} {tp : Nat → Nat} {L p : Nat} (hp : p < L) (h : c (tp p) = true) : p < rn c tp L (L - p) p := by
  rw [show L - p = (L - (p + 1)) + 1 by omega, rn, if_pos ⟨hp, h⟩]
  have := rn_le (c := c) (tp := tp) (L := L) (f := L - (p + 1)) (p := p + 1) (by omega)
  omega
theorem tsp_on {tp : Nat → Nat} {L p : Nat} (h : p ≤ L) (k : tkd tp L p ≠ 1) : p < tsp tp L p := by
  have a := tst_le (tp := tp) h
  have q : ¬ L ≤ tst tp L p := fun z => k (by unfold tkd; rw [if_pos z])
  unfold tsp
  rw [if_neg q]
  split
  · rename_i c
    have := rn_st (c := isLt) (tp := tp) (L := L) (p := tst tp L p) (by omega) c
    omega
  · split
    · rename_i c
      have := rn_st (c := isDg) (tp := tp) (L := L) (p := tst tp L p) (by omega) c
      omega
    · omega
theorem X4_refuse_sp {tp : Nat → Nat} {L p k : Nat} {M : Mem} {K : Int32 → Mem → Prop} (hT : TS4 M tp L p) (h : ∀ M', M'.1 42 4 = nI (flt tp L p k).1 → M'.1 42 5 = nI (flt tp L p k).2 → frP M M' → K 0 M') : f_X4_refuse (nI k) M K := by
  have k4 := tkd_le (tp := tp) (L := L) (p := p)
  unfold f_X4_refuse f_X4_refuseAt
  intro M2 e2 M3 e3
  refine ⟨by decide, h M3 ?_ ?_ (frP_tr (M1 := M2) (by rw [e2]; exact frP_42w M (by decide)) (by rw [e3]; exact frP_42w M2 (by decide)))⟩
  · rw [e3, w1_no (by decide), e2, w1_at, hT.2.1]
    unfold flt
    by_cases q : tkd tp L p = 0
    · rw [if_pos q, if_neg (fun z => z (by rw [q]; rfl))]; rfl
    · rw [if_neg q, if_pos (by rw [l_0, nI_EQ (by omega) (by omega)]; exact q)]
  · rw [e3, w1_at, hT.2.2.1]; rfl
theorem X4_readClose_sp {tp : Nat → Nat} {L : Nat} {z : PT} {M : Mem} {K : Int32 → Mem → Prop} (hL : tpC M tp L) (hT : TS4 M tp L z.1) (hz : z.1 ≤ L) (hP : PCn M z) (h : ∀ r M', RdC tp L M' r (pClose tp L z) → frP M M' → K r M') : f_X4_readClose M K := by
  have k4 := tkd_le (tp := tp) (L := L) (p := z.1)
  unfold f_X4_readClose
  rw [hT.2.1, l_4, nI_EQ (by omega) (by omega)]
  unfold pClose at h
  refine ⟨fun q => ?_, fun q => ?_⟩
  · rw [if_pos q] at h
    have y := tsp_le (tp := tp) hz
    exact X4_advance_sp hL (by omega) hT.1 (fun M' a b => h 1 M' ⟨rfl, PCn_f hP b, a, by omega⟩ (frP_42 b))
  · rw [if_neg q] at h
    exact X4_refuse_sp (k := 2) hT (fun M' a b c => ⟨by decide, h 0 M' ⟨rfl, a, b⟩ c⟩)
