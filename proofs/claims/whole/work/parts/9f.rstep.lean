/-! the reference's reader: a step -/
def pStc (tp : Nat → Nat) (L : Nat) (z : PT) : Except (Nat × Nat) PT :=
  match pNew tp L z (tsp tp L z.1) with
  | some e => .error e
  | none => match pArcs tp L z.2.1.1 z.2.1.2 z.2.2.1.1 L (tsp tp L (tsp tp L z.1), z.2.2.2.1, z.2.2.2.2.1) with
    | .error e => .error e
    | .ok y => .ok (y.1, z.2.1, (z.2.2.1.1 + 1, pu z.2.2.1.2 z.2.2.1.1 (twl tp L (tsp tp L z.1))), y.2.1, y.2.2, z.2.2.2.2.2)
theorem pStep_c {tp : Nat → Nat} {L : Nat} {z : PT} (hz : z.2.2.1.1 < 8) : pStep tp L z = thC tp L (pStc tp L z) := by
  unfold pStep pStc
  rw [if_pos hz]
  cases pNew tp L z (tsp tp L z.1) with
  | some e => rfl
  | none =>
    dsimp only
    cases pArcs tp L z.2.1.1 z.2.1.2 z.2.2.1.1 L (tsp tp L (tsp tp L z.1), z.2.2.2.1, z.2.2.2.2.1) with
    | error e => rfl
    | ok y => rfl
theorem stp2b {n : Nat} {e : Nat × Nat} {v : Int32} {M : Mem} {X : Mem → Prop} (hn : n < 8) (h2 : M.1 0 21 = nI n) (B : BR M e) (h : ∀ M', BR M' e → frRe M M' → X M') : vp_in (M.1 0 21) 8 ∧ ∀ M_21 : Mem, M_21 = wI M 7 (M.1 0 21).toNatClampNeg v → ∀ M_22 : Mem, M_22 = wI M_21 0 21 ((M_21.1 0 21) + (1 : Int32)) → X M_22 := by
  rw [h2, vp_nI (by omega) (by omega), nI_CL (by omega)]
  refine ⟨hn, fun M10 e10 M11 e11 => h M11 ?_ (frRe_tr (M1 := M10) (by rw [e10]; exact frRe_3 M (by omega)) (by rw [e11]; exact frRe_w M10 (by omega)))⟩
  have B10 : BR M10 e := by rw [e10]; exact BR_w B (by decide)
  unfold BR at *
  rw [e11, w1_no (by decide), w1_no (by decide)]
  exact B10
theorem stp2 {tp : Nat → Nat} {L : Nat} {z : PT} {w : List Nat} {M : Mem} {X : Mem → Prop} (hT : TS9 M tp L z.1) (hP : PRn M z) (hz : z.2.2.1.1 < 8) (hw : wok w) (h : ∀ M', PRn M' (z.1, z.2.1, (z.2.2.1.1 + 1, pu z.2.2.1.2 z.2.2.1.1 w), z.2.2.2.1, z.2.2.2.2.1, z.2.2.2.2.2) → TS9 M' tp L z.1 → frRe M M' → X M') : vp_in (M.1 0 21) 8 ∧ ∀ M_21 : Mem, M_21 = wI M 7 (M.1 0 21).toNatClampNeg (nI (wcd 32 w)) → ∀ M_22 : Mem, M_22 = wI M_21 0 21 ((M_21.1 0 21) + (1 : Int32)) → X M_22 := by
  rw [hP.1.2.2.1, vp_nI (by omega) (by omega), nI_CL (by omega)]
  refine ⟨hz, fun M10 e10 M11 e11 => h M11 ?_ ?_ (frRe_tr (M1 := M10) (by rw [e10]; exact frRe_3 M (by omega)) (by rw [e11]; exact frRe_w M10 (by omega)))⟩
  · have o : ∀ b, b ≠ 0 → b ≠ 7 → M11.1 b = M.1 b := fun b b1 b2 => by rw [e11, w1_ne b1, e10, w1_ne b2]
    have o0 : M10.1 0 = M.1 0 := by rw [e10]; exact w1_ne (by decide)
    unfold PRn nms
    rw [o 6 (by decide) (by decide), o 1 (by decide) (by decide), o 2 (by decide) (by decide), o 3 (by decide) (by decide)]
    refine ⟨⟨?_, hP.1.2.1, ?_, by show z.2.2.1.1 + 1 ≤ 8; omega⟩, hP.2.1, fun i hi => ?_, hP.2.2.2.1, hP.2.2.2.2.1, hP.2.2.2.2.2.1, ?_⟩
    · rw [e11, w1_no (by decide), o0, hP.1.1]
    · rw [e11, w1_at, o0, hP.1.2.2.1, nI_A1]
    · show M11.1 7 i = nI (wcd 32 (pu z.2.2.1.2 z.2.2.1.1 w i)) ∧ wok (pu z.2.2.1.2 z.2.2.1.1 w i)
      have hi : i < z.2.2.1.1 + 1 := hi
      rw [e11, w1_ne (by decide), e10]
      by_cases q : i = z.2.2.1.1
      · rw [q, pu_at, w1_at]; exact ⟨rfl, hw⟩
      · rw [pu_no q, w1_no q]; exact hP.2.2.1 i (by omega)
    · rw [e11, w1_no (by decide), o0]; exact hP.2.2.2.2.2.2
  · unfold TS9
    rw [e11, w1_no (by decide), w1_no (by decide), w1_no (by decide), w1_no (by decide), e10, w1_ne (by decide)]
    exact hT
theorem stepR {tp : Nat → Nat} {L : Nat} {z : PT} {M : Mem} {X : Mem → Prop} {K : Mem → Prop} (hL : tpR M tp L) (hT : TS9 M tp L z.1) (hp : z.1 ≤ L) (hP : PRn M z) (hz : z.2.2.1.1 < 8) (h : ∀ M', RdR tp L M' (pStc tp L z) → frRe M M' → X M') : f_X9_next  M (fun (M_11 : Mem) => f_X9_freshName  M_11 (fun (r_10 : Int32) (M_12 : Mem) => (∃ k86 : Nat, L_X9_readLine_86 r_10 (fun  (M_20 : Mem) => vp_in (M_20.1 0 21) 8 ∧ ∀ M_21 : Mem, M_21 = wI M_20 7 (M_20.1 0 21).toNatClampNeg r_10 → ∀ M_22 : Mem, M_22 = wI M_21 0 21 ((M_21.1 0 21) + (1 : Int32)) → X M_22) K k86 M_12))) := by
  have y1 := tsp_le (tp := tp) hp
  have y2 := tsp_le (tp := tp) y1.2
  unfold pStc at h
  refine X9_next_sp hL y1.2 hT.1 (fun M2 T2 f2 => ?_)
  have L2 := tpR_f hL f2
  have P2 := PRn_f hP f2
  refine X9_freshName_sp L2 T2 y1.2 P2 (fun e M3 T3 f3 => ⟨L + 2, ?_⟩) (fun e x M3 e1 B c1 c2 c3 c4 => ⟨1, ?_⟩)
  · rw [e] at h
    have w := twl_ok (pNew_2 e)
    have P3 := PRn_f P2 f3
    refine lineLp (z := z) hz L (tsp tp L (tsp tp L z.1), z.2.2.2.1, z.2.2.2.2.1) M3 (tpR_f L2 f3) T3 y2.2 (Nat.sub_le _ _) P3 (fun M4 a g4 => ?_)
    have g : frRe M M4 := frRe_tr (frRe_0 (fr0_tr f2 f3)) (frRe_of g4)
    have s21 : M4.1 0 21 = nI z.2.2.1.1 := by rw [g4.2.1 21 (by decide) (by decide)]; exact P3.1.2.2.1
    cases c : pArcs tp L z.2.1.1 z.2.1.2 z.2.2.1.1 L (tsp tp L (tsp tp L z.1), z.2.2.2.1, z.2.2.2.2.1) with
    | error e' =>
      rw [c] at a h
      exact stp2b hz s21 a (fun M' B' d => h M' B' (frRe_tr g d))
    | ok y =>
      rw [c] at a h
      have a : PRn M4 (lfA z y) ∧ TS9 M4 tp L y.1 ∧ y.1 ≤ L := a
      exact stp2 (z := lfA z y) a.2.1 a.1 hz w (fun M' b d e => h M' ⟨b, d, a.2.2⟩ (frRe_tr g e))
  · rw [e1] at h
    show L_X9_readLine_86 _ _ K (0 + 1) M3
    rw [L_X9_readLine_86]
    exact X9_good_0 B ⟨fun _ => stp2b hz (by rw [c2 21 (by decide) (by decide)]; exact P2.1.2.2.1) B (fun M' B' d => h M' B' (frRe_tr (frRe_0 f2) (frRe_tr (frRe_of c4) d))), fun y => absurd rfl y⟩
