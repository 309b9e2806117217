/-! the reference's reader: a place -/
def pPlc (tp : Nat → Nat) (L : Nat) (z : PT) : Except (Nat × Nat) PT :=
  match pNew tp L z (tsp tp L z.1) with
  | some e => .error e
  | none => if tkd tp L (tsp tp L (tsp tp L z.1)) = 3 then (if tn tp L (tsp tp L (tsp tp L z.1)) ≤ 99 then .ok (tsp tp L (tsp tp L (tsp tp L z.1)), (z.2.1.1 + 1, pu z.2.1.2 z.2.1.1 (twl tp L (tsp tp L z.1))), z.2.2.1, z.2.2.2.1, z.2.2.2.2.1, pu z.2.2.2.2.2 z.2.1.1 (tn tp L (tsp tp L (tsp tp L z.1)))) else .error (flt tp L (tsp tp L (tsp tp L z.1)) 4))
    else .ok (tsp tp L (tsp tp L z.1), (z.2.1.1 + 1, pu z.2.1.2 z.2.1.1 (twl tp L (tsp tp L z.1))), z.2.2.1, z.2.2.2.1, z.2.2.2.2.1, pu z.2.2.2.2.2 z.2.1.1 0)
/-- as frRd, and the counts too -/
def frRe (M M' : Mem) : Prop := (∀ b, b ≠ 0 → b ≠ 1 → b ≠ 2 → b ≠ 3 → b ≠ 6 → b ≠ 7 → M'.1 b = M.1 b) ∧ (∀ j, ¬ (12 ≤ j ∧ j ≤ 15) → ¬ (18 ≤ j ∧ j ≤ 21) → M'.1 0 j = M.1 0 j) ∧ (∀ j, j < 160 → M'.1 1 j = M.1 1 j ∧ M'.1 2 j = M.1 2 j) ∧ (∀ j, j < 20 → M'.1 3 j = M.1 3 j) ∧ M'.2 = M.2
theorem frRe_of {M M' : Mem} (h : frRd M M') : frRe M M' := ⟨h.1, fun j a b => h.2.1 j a (by omega), h.2.2⟩
theorem frRe_rf (M : Mem) : frRe M M := frRe_of (frRd_rf M)
theorem frRe_0 {M M' : Mem} (f : fr0 M M') : frRe M M' := frRe_of (frRd_0 f)
theorem frRe_tr {M M1 M2 : Mem} (h : frRe M M1) (h' : frRe M1 M2) : frRe M M2 := ⟨fun b a1 a2 a3 a4 a5 a6 => by rw [h'.1 b a1 a2 a3 a4 a5 a6, h.1 b a1 a2 a3 a4 a5 a6], fun j a b => by rw [h'.2.1 j a b, h.2.1 j a b], fun j hj => ⟨by rw [(h'.2.2.1 j hj).1, (h.2.2.1 j hj).1], by rw [(h'.2.2.1 j hj).2, (h.2.2.1 j hj).2]⟩, fun j hj => by rw [h'.2.2.2.1 j hj, h.2.2.2.1 j hj], by rw [h'.2.2.2.2, h.2.2.2.2]⟩
theorem frRe_w {j : Nat} {v : Int32} (M : Mem) (hj : 18 ≤ j ∧ j ≤ 21) : frRe M (wI M 0 j v) := ⟨fun b hb _ _ _ _ _ => w1_ne hb, fun k _ b => w1_no (by omega), fun k _ => ⟨by rw [w1_ne (by decide)], by rw [w1_ne (by decide)]⟩, fun k _ => by rw [w1_ne (by decide)], rfl⟩
theorem tpR_Re {M M' : Mem} {tp : Nat → Nat} {L : Nat} (h : tpR M tp L) (f : frRe M M') : tpR M' tp L := ⟨h.1, by rw [f.2.1 11 (by decide) (by decide)]; exact h.2.1, fun i hi => by rw [f.1 9 (by decide) (by decide) (by decide) (by decide) (by decide) (by decide)]; exact h.2.2 i hi⟩
theorem frRe_3 {c j : Nat} {v : Int32} (M : Mem) (hc : (c = 3 ∧ 20 ≤ j) ∨ c = 6 ∨ c = 7) : frRe M (wI M c j v) := ⟨fun b _ _ _ b3 b6 b7 => w1_ne (by omega), fun k _ _ => by rw [w1_ne (by omega)], fun k hk => ⟨by rw [w1_ne (by omega)], by rw [w1_ne (by omega)]⟩, fun k hk => by
    by_cases q : c = 3
    · rw [q, w1_no (by omega)]
    · rw [w1_ne (fun x => q x.symm)], rfl⟩
theorem plc2b {n : Nat} {e : Nat × Nat} {v : Int32} {M : Mem} {K : Mem → Prop} (hn : n < 10) (h2 : M.1 0 20 = nI n) (B : BR M e) (h : ∀ M', BR M' e → frRe M M' → K M') : vp_in ((20 : Int32) + (M.1 0 20)) 30 ∧ ∀ M_10 : Mem, M_10 = wI M 3 ((20 : Int32) + (M.1 0 20)).toNatClampNeg v → ∀ M_11 : Mem, M_11 = wI M_10 0 20 ((M_10.1 0 20) + (1 : Int32)) → K M_11 := by
  rw [h2, l_20, nI_add, vp_nI (by omega) (by omega), nI_CL (by omega)]
  refine ⟨by omega, fun M10 e10 M11 e11 => h M11 ?_ (frRe_tr (M1 := M10) (by rw [e10]; exact frRe_3 M (by omega)) (by rw [e11]; exact frRe_w M10 (by omega)))⟩
  have B10 : BR M10 e := by rw [e10]; exact BR_w B (by decide)
  unfold BR at *
  rw [e11, w1_no (by decide), w1_no (by decide)]
  exact B10
theorem plc2 {tp : Nat → Nat} {L p v : Nat} {z : PT} {w : List Nat} {M : Mem} {K : Mem → Prop} (hT : TS9 M tp L p) (hP : PRn M z) (hz : z.2.1.1 < 10) (hw : wok w) (h6 : M.1 6 z.2.1.1 = nI (wcd 32 w)) (hv : v ≤ 99) (h : ∀ M', PRn M' (p, (z.2.1.1 + 1, pu z.2.1.2 z.2.1.1 w), z.2.2.1, z.2.2.2.1, z.2.2.2.2.1, pu z.2.2.2.2.2 z.2.1.1 v) → TS9 M' tp L p → frRe M M' → K M') : vp_in ((20 : Int32) + (M.1 0 20)) 30 ∧ ∀ M_10 : Mem, M_10 = wI M 3 ((20 : Int32) + (M.1 0 20)).toNatClampNeg (nI v) → ∀ M_11 : Mem, M_11 = wI M_10 0 20 ((M_10.1 0 20) + (1 : Int32)) → K M_11 := by
  rw [hP.1.1, l_20, nI_add, vp_nI (by omega) (by omega), nI_CL (by omega)]
  refine ⟨by omega, fun M10 e10 M11 e11 => h M11 ?_ ?_ (frRe_tr (M1 := M10) (by rw [e10]; exact frRe_3 M (by omega)) (by rw [e11]; exact frRe_w M10 (by omega)))⟩
  · have o : ∀ b, b ≠ 0 → b ≠ 3 → M11.1 b = M.1 b := fun b b1 b2 => by rw [e11, w1_ne b1, e10, w1_ne b2]
    have o0 : M10.1 0 = M.1 0 := by rw [e10]; exact w1_ne (by decide)
    unfold PRn nms
    rw [o 6 (by decide) (by decide), o 7 (by decide) (by decide), o 1 (by decide) (by decide), o 2 (by decide) (by decide)]
    refine ⟨⟨?_, by show z.2.1.1 + 1 ≤ 10; omega, ?_, hP.1.2.2.2⟩, fun i hi => ?_, hP.2.2.1, hP.2.2.2.1, hP.2.2.2.2.1, fun i hi => ?_, ?_⟩
    · rw [e11, w1_at, o0, hP.1.1, nI_A1]
    · rw [e11, w1_no (by decide), o0, hP.1.2.2.1]
    · show M.1 6 i = nI (wcd 32 (pu z.2.1.2 z.2.1.1 w i)) ∧ wok (pu z.2.1.2 z.2.1.1 w i)
      have hi : i < z.2.1.1 + 1 := hi
      by_cases q : i = z.2.1.1
      · rw [q, pu_at]; exact ⟨h6, hw⟩
      · rw [pu_no q]; exact hP.2.1 i (by omega)
    · show M11.1 3 (20 + i) = nI (pu z.2.2.2.2.2 z.2.1.1 v i) ∧ pu z.2.2.2.2.2 z.2.1.1 v i ≤ 99
      rw [e11, w1_ne (by decide), e10]
      by_cases q : i = z.2.1.1
      · rw [q, pu_at, w1_at]; exact ⟨rfl, hv⟩
      · rw [pu_no q, w1_no (by omega)]; exact hP.2.2.2.2.2.1 i hi
    · rw [e11, w1_no (by decide), o0]; exact hP.2.2.2.2.2.2
  · unfold TS9
    rw [e11, w1_no (by decide), w1_no (by decide), w1_no (by decide), w1_no (by decide), e10, w1_ne (by decide)]
    exact hT
