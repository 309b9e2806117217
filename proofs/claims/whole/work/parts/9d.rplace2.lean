theorem PRn_nm {M : Mem} {z : PT} {v : Int32} {c i : Nat} (h : PRn M z) (hc : (c = 6 ∧ z.2.1.1 ≤ i) ∨ (c = 7 ∧ z.2.2.1.1 ≤ i)) : PRn (wI M c i v) z := by
  unfold PRn nms at *
  rw [w1_ne (show (0 : Nat) ≠ c by omega), w1_ne (show (1 : Nat) ≠ c by omega), w1_ne (show (2 : Nat) ≠ c by omega), w1_ne (show (3 : Nat) ≠ c by omega)]
  refine ⟨h.1, fun j hj => ?_, fun j hj => ?_, h.2.2.2⟩
  · rcases hc with q | q
    · rw [q.1, w1_no (by omega)]; exact h.2.1 j hj
    · rw [q.1, w1_ne (by decide)]; exact h.2.1 j hj
  · rcases hc with q | q
    · rw [q.1, w1_ne (by decide)]; exact h.2.2.1 j hj
    · rw [q.1, w1_no (by omega)]; exact h.2.2.1 j hj
theorem X9_readPlace_sp {tp : Nat → Nat} {L : Nat} {z : PT} {M : Mem} {K : Mem → Prop} (hL : tpR M tp L) (hT : TS9 M tp L z.1) (hp : z.1 ≤ L) (hP : PRn M z) (hz : z.2.1.1 < 10) (h : ∀ M', RdR tp L M' (pPlc tp L z) → frRe M M' → K M') : f_X9_readPlace M K := by
  unfold f_X9_readPlace
  have y1 := tsp_le (tp := tp) hp
  have y2 := tsp_le (tp := tp) y1.2
  have y3 := tsp_le (tp := tp) y2.2
  unfold pPlc at h
  refine X9_next_sp hL y1.2 hT.1 (fun M2 T2 f2 => ?_)
  have L2 := tpR_f hL f2
  have P2 := PRn_f hP f2
  have vin : vp_in (M2.1 0 20) 10 := by rw [P2.1.1, vp_nI (by omega) (by omega)]; exact hz
  have cl2 : (M2.1 0 20).toNatClampNeg = z.2.1.1 := by rw [P2.1.1, nI_CL (by omega)]
  refine X9_freshName_sp L2 T2 y1.2 P2 (fun e M3 T3 f3 => ⟨vin, fun M4 e4 => ?_⟩) (fun e x M3 e1 B c1 c2 c3 c4 => ⟨vin, fun M4 e4 => ?_⟩)
  · rw [e] at h
    rw [cl2] at e4
    have k2 := pNew_2 e
    have w := twl_ok k2
    have L3 := tpR_f L2 f3
    have g4 : frRe M3 M4 := by rw [e4]; exact frRe_3 M3 (by omega)
    have L4 := tpR_Re L3 g4
    have P4 : PRn M4 z := by rw [e4]; exact PRn_nm (PRn_f P2 f3) (by omega)
    have T4 : TS9 M4 tp L (tsp tp L (tsp tp L z.1)) := by unfold TS9; rw [e4, w1_ne (by decide)]; exact T3
    have n4 : M4.1 6 z.2.1.1 = nI (wcd 32 (twl tp L (tsp tp L z.1))) := by rw [e4, w1_at]
    have g : frRe M M4 := frRe_tr (frRe_0 (fr0_tr f2 f3)) g4
    have k4 := tkd_le (tp := tp) (L := L) (p := tsp tp L (tsp tp L z.1))
    have kr := kR_4 k4
    have zk : (M4.1 0 14 = (2 : Int32)) = (tkd tp L (tsp tp L (tsp tp L z.1)) = 3) := by rw [T4.2.1, l_2, nI_EQ (by omega) (by omega)]; exact propext kr.2.2.2.1
    refine X9_good_1 P4 ?_
    unfold S_X9_readPlace_23
    refine ⟨fun y => absurd y (by decide), fun _ => ⟨fun a => ?_, fun a x1 e1 => ?_⟩⟩
    · rw [zk] at a
      have h : ∀ M', RdR tp L M' (if tkd tp L (tsp tp L (tsp tp L z.1)) = 3 then _ else .ok (tsp tp L (tsp tp L z.1), (z.2.1.1 + 1, pu z.2.1.2 z.2.1.1 (twl tp L (tsp tp L z.1))), z.2.2.1, z.2.2.2.1, z.2.2.2.2.1, pu z.2.2.2.2.2 z.2.1.1 0)) → frRe M M' → K M' := h
      rw [if_neg a] at h
      exact plc2 (v := 0) T4 P4 hz w n4 (by omega) (fun M' b c d => h M' ⟨b, c, y2.2⟩ (frRe_tr g d))
    · rw [zk] at a
      have t9 := tn_le a
      have h : ∀ M', RdR tp L M' (if tkd tp L (tsp tp L (tsp tp L z.1)) = 3 then (if tn tp L (tsp tp L (tsp tp L z.1)) ≤ 99 then .ok (tsp tp L (tsp tp L (tsp tp L z.1)), (z.2.1.1 + 1, pu z.2.1.2 z.2.1.1 (twl tp L (tsp tp L z.1))), z.2.2.1, z.2.2.2.1, z.2.2.2.2.1, pu z.2.2.2.2.2 z.2.1.1 (tn tp L (tsp tp L (tsp tp L z.1)))) else .error (flt tp L (tsp tp L (tsp tp L z.1)) 4)) else _) → frRe M M' → K M' := h
      rw [if_pos a] at h
      rw [T4.2.2.2.2 a] at e1
      subst e1
      have zl : (nI (tn tp L (tsp tp L (tsp tp L z.1))) ≤ (99 : Int32)) = (tn tp L (tsp tp L (tsp tp L z.1)) ≤ 99) := by rw [l_99, nI_LE (by omega) (by omega)]
      unfold S_X9_readPlace_42
      refine ⟨fun b => ?_, fun b => ?_⟩
      · rw [zl] at b
        rw [if_pos b] at h
        exact X9_goesOn_sp L4 T4 y2.2 P4 (fun M5 T5 f5 => plc2 T5 (PRn_f P4 f5) hz w (by rw [f5.1 6 (by decide)]; exact n4) b (fun M' c d e => h M' ⟨c, d, y3.2⟩ (frRe_tr g (frRe_tr (frRe_0 f5) e))))
      · rw [zl] at b
        rw [if_neg b] at h
        exact X9_fails_sp (k := 4) P4 T4 (by omega) (fun M5 B _ c2 _ g5 => X9_goesOn_b B (plc2b hz (by rw [c2 20 (by decide) (by decide)]; exact P4.1.1) B (fun M' B' d => h M' B' (frRe_tr g (frRe_tr (frRe_of g5) d)))))
  · rw [e1] at h
    rw [cl2] at e4
    have g4 : frRe M3 M4 := by rw [e4]; exact frRe_3 M3 (by omega)
    have B4 : BR M4 e := by rw [e4]; exact BR_w B (by decide)
    refine X9_good_0 B4 ?_
    unfold S_X9_readPlace_23
    refine ⟨fun _ => plc2b hz (by rw [e4, w1_ne (by decide), c2 20 (by decide) (by decide)]; exact P2.1.1) B4 (fun M' B' d => h M' B' (frRe_tr (frRe_0 f2) (frRe_tr (frRe_of c4) (frRe_tr g4 d)))), fun y => absurd rfl y⟩
