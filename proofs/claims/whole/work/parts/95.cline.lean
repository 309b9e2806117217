/-! the class's reader: a place, a step, the text -/
theorem mskP : ∀ n, n < 10 → nI (2 ^ n - 1) ||| ((1 : Int32) <<< (nI n &&& 31)) = nI (2 ^ (n + 1) - 1) := by decide +kernel
theorem pu_at {α : Type} {f : Nat → α} {i : Nat} {v : α} : pu f i v i = v := if_pos rfl
theorem pu_no {α : Type} {f : Nat → α} {i j : Nat} {v : α} (h : j ≠ i) : pu f i v j = f j := if_neg h
theorem place2C {tp : Nat → Nat} {L p v : Nat} {z : PT} {w : List Nat} {M : Mem} {K : Int32 → Mem → Prop} (hL : tpC M tp L) (hT : TS4 M tp L p) (hp : p ≤ L) (hP : PCn M z) (hz : z.2.1.1 < 10) (hw : wok w) (h44 : M.1 44 z.2.1.1 = nI (wcd 27 w)) (hv : v ≤ 99) (h : ∀ r M', RdC tp L M' r (pPl2 tp L z w v p) → frP M M' → K r M') :
    f_X1_addPlace 46 (nI v) M (fun (M_9 : Mem) => f_X4_readClose  M_9 (fun (r_7 : Int32) (M_10 : Mem) => (r_7 &&& 1 = r_7) ∧ K r_7 M_10)) := by
  unfold f_X1_addPlace
  rw [hP.1.1]
  have z9 : ((10 : Int32) ≤ nI z.2.1.1) = (10 ≤ z.2.1.1) := by rw [l_10, nI_LE (by omega) (by omega)]
  rw [z9, nI_CL (by omega), vp_nI (by omega) (by omega)]
  refine ⟨fun q => by omega, fun _ => ⟨hz, fun M2 e2 M3 e3 M4 e4 => ?_⟩⟩
  have e2 : M2 = wI M 49 z.2.1.1 (nI v) := e2
  have f4 : frP M M4 := frP_tr (M1 := M3) (frP_tr (M1 := M2) (by rw [e2]; exact frP_w M (by omega)) (by rw [e3]; exact frP_46 M2 (by omega))) (by rw [e4]; exact frP_46 M3 (by omega))
  have a3 : M2.1 46 = M.1 46 := by rw [e2]; exact w1_ne (by decide)
  have o : ∀ b, b ≠ 46 → b ≠ 49 → M4.1 b = M.1 b := fun b b1 b2 => by rw [e4, w1_ne b1, e3, w1_ne b1, e2, w1_ne b2]
  have t4 : TS4 M4 tp L p := by
    unfold TS4
    rw [o 42 (by decide) (by decide)]; exact hT
  have p4 : PCn M4 (p, (z.2.1.1 + 1, pu z.2.1.2 z.2.1.1 w), z.2.2.1, z.2.2.2.1, z.2.2.2.2.1, pu z.2.2.2.2.2 z.2.1.1 v) := by
    unfold PCn nms
    rw [o 42 (by decide) (by decide), o 44 (by decide) (by decide), o 45 (by decide) (by decide), o 47 (by decide) (by decide), o 48 (by decide) (by decide)]
    refine ⟨⟨?_, by show z.2.1.1 + 1 ≤ 10; omega, ?_, hP.1.2.2.2⟩, ⟨?_, ?_⟩, fun i hi => ?_, hP.2.2.2.1, hP.2.2.2.2.1, hP.2.2.2.2.2.1, fun i hi => ?_, hP.2.2.2.2.2.2.2⟩
    · rw [e4, w1_at, e3, w1_no (by decide), a3, hP.1.1, nI_A1]
    · rw [e4, w1_no (by decide), e3, w1_no (by decide), a3, hP.1.2.2.1]
    · rw [e4, w1_no (by decide), e3, w1_at, a3, hP.1.1, hP.2.1.1, mskP _ hz]
    · rw [e4, w1_no (by decide), e3, w1_no (by decide), a3, hP.2.1.2]
    · show M.1 44 i = nI (wcd 27 (pu z.2.1.2 z.2.1.1 w i)) ∧ wok (pu z.2.1.2 z.2.1.1 w i)
      have hi : i < z.2.1.1 + 1 := hi
      by_cases q : i = z.2.1.1
      · rw [q, pu_at]; exact ⟨h44, hw⟩
      · rw [pu_no q]; exact hP.2.2.1 i (by omega)
    · show M4.1 49 i = nI (pu z.2.2.2.2.2 z.2.1.1 v i) ∧ pu z.2.2.2.2.2 z.2.1.1 v i ≤ 99
      rw [e4, w1_ne (by decide), e3, w1_ne (by decide), e2]
      by_cases q : i = z.2.1.1
      · rw [q, pu_at, w1_at]; exact ⟨rfl, hv⟩
      · rw [pu_no q, w1_no q]; exact hP.2.2.2.2.2.2.1 i hi
  exact X4_readClose_sp (z := (p, (z.2.1.1 + 1, pu z.2.1.2 z.2.1.1 w), z.2.2.1, z.2.2.2.1, z.2.2.2.2.1, pu z.2.2.2.2.2 z.2.1.1 v)) (tpC_P hL f4) t4 hp p4 (fun r M' a b => ⟨RdC_b a, h r M' a (frP_tr f4 b)⟩)
theorem PCn_nm {M : Mem} {z : PT} {v : Int32} {c i : Nat} (h : PCn M z) (hc : (c = 44 ∧ z.2.1.1 ≤ i) ∨ (c = 45 ∧ z.2.2.1.1 ≤ i)) : PCn (wI M c i v) z := by
  unfold PCn nms at *
  rw [w1_ne (show (46 : Nat) ≠ c by omega), w1_ne (show (47 : Nat) ≠ c by omega), w1_ne (show (48 : Nat) ≠ c by omega), w1_ne (show (49 : Nat) ≠ c by omega), w1_ne (show (42 : Nat) ≠ c by omega)]
  refine ⟨h.1, h.2.1, fun j hj => ?_, fun j hj => ?_, h.2.2.2.2⟩
  · rcases hc with q | q
    · rw [q.1, w1_no (by omega)]; exact h.2.2.1 j hj
    · rw [q.1, w1_ne (by decide)]; exact h.2.2.1 j hj
  · rcases hc with q | q
    · rw [q.1, w1_ne (by decide)]; exact h.2.2.2.1 j hj
    · rw [q.1, w1_no (by omega)]; exact h.2.2.2.1 j hj
theorem pNew_2 {tp : Nat → Nat} {L p : Nat} {z : PT} (h : pNew tp L z p = none) : tkd tp L p = 2 := by
  unfold pNew at h
  by_cases q : isNm tp L p = true
  · exact isNm_2 q
  · rw [if_neg q] at h; cases h
theorem X4_readPlace_sp {tp : Nat → Nat} {L : Nat} {z : PT} {M : Mem} {K : Int32 → Mem → Prop} (hL : tpC M tp L) (hT : TS4 M tp L z.1) (hp : z.1 ≤ L) (hP : PCn M z) (h : ∀ r M', RdC tp L M' r (pPlace tp L z) → frP M M' → K r M') : f_X4_readPlace 46 M K := by
  unfold f_X4_readPlace
  have P10 := hP.1.2.1
  have z9 : (M.1 46 3 < (10 : Int32)) = (z.2.1.1 < 10) := by rw [hP.1.1, l_10, nI_LT (by omega) (by omega)]
  rw [z9]
  have y1 := tsp_le (tp := tp) hp
  unfold pPlace at h
  refine ⟨fun q => ?_, fun q => ?_⟩
  · rw [if_pos q] at h
    refine X4_advance_sp hL y1.2 hT.1 (fun M2 T2 f2 => ?_)
    have L2 := tpC_f hL f2
    have P2 := PCn_f hP f2
    have y2 := tsp_le (tp := tp) y1.2
    refine X4_readNewName_sp T2 P2 (fun e => ⟨fun _ => ?_, fun c => absurd c (by decide)⟩) (fun e M' e1 e2 e3 e4 => ⟨fun c => absurd rfl c, fun _ => ?_⟩)
    · rw [e] at h
      have k2 := pNew_2 e
      have w := twl_ok k2
      rw [P2.1.1, nI_CL (by omega), vp_nI (by omega) (by omega)]
      refine ⟨q, fun M4 e4 => ?_⟩
      have e4 : M4 = wI M2 44 z.2.1.1 (M2.1 42 9) := e4
      have f4 : frP M2 M4 := by rw [e4]; exact frP_w M2 (by omega)
      refine X4_advance_sp (p := tsp tp L (tsp tp L z.1)) (tpC_P L2 f4) y2.2 (by rw [e4, w1_ne (by decide)]; exact T2.1) (fun M5 T5 f5 => ?_)
      have P4 : PCn M4 z := by rw [e4]; exact PCn_nm P2 (by omega)
      have n4 : M4.1 44 z.2.1.1 = nI (wcd 27 (twl tp L (tsp tp L z.1))) := by rw [e4, w1_at, T2.2.2.2.1 k2, tw_wcd]
      have L5 := tpC_f (tpC_P L2 f4) f5
      have P5 := PCn_f P4 f5
      have n5 : M5.1 44 z.2.1.1 = nI (wcd 27 (twl tp L (tsp tp L z.1))) := by rw [f5.1 44 (by decide)]; exact n4
      have g5 : frP M M5 := frP_tr (frP_42 f2) (frP_tr f4 (frP_42 f5))
      have k4 := tkd_le (tp := tp) (L := L) (p := tsp tp L (tsp tp L z.1))
      unfold S_X4_readPlace_53
      have zk : (M5.1 42 7 = (3 : Int32)) = (tkd tp L (tsp tp L (tsp tp L z.1)) = 3) := by rw [T5.2.1, l_3, nI_EQ (by omega) (by omega)]
      rw [zk]
      refine ⟨fun a => ?_, fun a => ?_⟩
      · have h : ∀ r M', RdC tp L M' r (if tkd tp L (tsp tp L (tsp tp L z.1)) = 3 then _ else pPl2 tp L z (twl tp L (tsp tp L z.1)) 0 (tsp tp L (tsp tp L z.1))) → frP M M' → K r M' := h
        rw [if_neg a] at h
        exact place2C (v := 0) L5 T5 y2.2 P5 q w n5 (by omega) (fun r M' b c => h r M' b (frP_tr g5 c))
      · have t9 := tn_le a
        have h : ∀ r M', RdC tp L M' r (if tkd tp L (tsp tp L (tsp tp L z.1)) = 3 then (if tn tp L (tsp tp L (tsp tp L z.1)) ≤ 99 then pPl2 tp L z (twl tp L (tsp tp L z.1)) (tn tp L (tsp tp L (tsp tp L z.1))) (tsp tp L (tsp tp L (tsp tp L z.1))) else .error (flt tp L (tsp tp L (tsp tp L z.1)) 4)) else _) → frP M M' → K r M' := h
        rw [if_pos a] at h
        have zl : (M5.1 42 10 ≤ (99 : Int32)) = (tn tp L (tsp tp L (tsp tp L z.1)) ≤ 99) := by rw [T5.2.2.2.2 a, l_99, nI_LE (by omega) (by omega)]
        rw [zl]
        refine ⟨fun b x2 e2 => ?_, fun b => ?_⟩
        · rw [if_pos b] at h
          rw [T5.2.2.2.2 a] at e2
          subst e2
          have y3 := tsp_le (tp := tp) y2.2
          refine X4_advance_sp L5 y3.2 T5.1 (fun M6 T6 f6 => ?_)
          exact place2C (tpC_f L5 f6) T6 y3.2 (PCn_f P5 f6) q w (by rw [f6.1 44 (by decide)]; exact n5) b (fun r M' c d => h r M' c (frP_tr g5 (frP_tr (frP_42 f6) d)))
        · rw [if_neg b] at h
          exact X4_refuse_sp (k := 4) T5 (fun M' b c d => ⟨by decide, h 0 M' ⟨rfl, b, c⟩ (frP_tr g5 d)⟩)
    · rw [e1] at h
      exact h 0 M' ⟨rfl, e2, e3⟩ (frP_tr (frP_42 f2) e4)
  · rw [if_neg q] at h
    exact X4_refuse_sp (k := 5) hT (fun M' b c d => ⟨by decide, h 0 M' ⟨rfl, b, c⟩ d⟩)
theorem X4_readStep_sp {tp : Nat → Nat} {L : Nat} {z : PT} {M : Mem} {K : Int32 → Mem → Prop} (hL : tpC M tp L) (hT : TS4 M tp L z.1) (hp : z.1 ≤ L) (hP : PCn M z) (h : ∀ r M', RdC tp L M' r (pStep tp L z) → frP M M' → K r M') : f_X4_readStep 46 M K := by
  unfold f_X4_readStep
  have S8 := hP.1.2.2.2
  have z9 : (M.1 46 4 < (8 : Int32)) = (z.2.2.1.1 < 8) := by rw [hP.1.2.2.1, l_8, nI_LT (by omega) (by omega)]
  rw [z9]
  have y1 := tsp_le (tp := tp) hp
  unfold pStep at h
  refine ⟨fun q => ?_, fun q => ?_⟩
  · rw [if_pos q] at h
    refine X4_advance_sp hL y1.2 hT.1 (fun M2 T2 f2 => ?_)
    have L2 := tpC_f hL f2
    have P2 := PCn_f hP f2
    have y2 := tsp_le (tp := tp) y1.2
    refine X4_readNewName_sp T2 P2 (fun e => ⟨fun _ => ?_, fun c => absurd c (by decide)⟩) (fun e M' e1 e2 e3 e4 => ⟨fun c => absurd rfl c, fun _ => ?_⟩)
    · rw [e] at h
      have k2 := pNew_2 e
      have w := twl_ok k2
      rw [P2.1.2.2.1, nI_CL (by omega), vp_nI (by omega) (by omega)]
      refine ⟨q, fun M4 e4 x2 ex => ?_⟩
      have e4 : M4 = wI M2 45 z.2.2.1.1 (M2.1 42 9) := e4
      have f4 : frP M2 M4 := by rw [e4]; exact frP_w M2 (by omega)
      have P4 : PCn M4 z := by rw [e4]; exact PCn_nm P2 (by omega)
      have n4 : M4.1 45 z.2.2.1.1 = nI (wcd 27 (twl tp L (tsp tp L z.1))) := by rw [e4, w1_at, T2.2.2.2.1 k2, tw_wcd]
      rw [P4.1.2.2.1] at ex
      subst ex
      unfold f_X1_addStep
      have z8 : ((8 : Int32) ≤ M4.1 46 4) = (8 ≤ z.2.2.1.1) := by rw [P4.1.2.2.1, l_8, nI_LE (by omega) (by omega)]
      rw [z8]
      refine ⟨fun c => by omega, fun _ M5 e5 M6 e6 => ?_⟩
      have f6 : frP M4 M6 := frP_tr (M1 := M5) (by rw [e5]; exact frP_46 M4 (by omega)) (by rw [e6]; exact frP_46 M5 (by omega))
      have o : ∀ b, b ≠ 46 → M6.1 b = M4.1 b := fun b b1 => by rw [e6, w1_ne b1, e5, w1_ne b1]
      have P6 : PCn M6 (z.1, z.2.1, (z.2.2.1.1 + 1, pu z.2.2.1.2 z.2.2.1.1 (twl tp L (tsp tp L z.1))), z.2.2.2.1, z.2.2.2.2.1, z.2.2.2.2.2) := by
        unfold PCn nms
        rw [o 42 (by decide), o 44 (by decide), o 45 (by decide), o 47 (by decide), o 48 (by decide), o 49 (by decide)]
        refine ⟨⟨?_, P4.1.2.1, ?_, by show z.2.2.1.1 + 1 ≤ 8; omega⟩, ⟨?_, ?_⟩, P4.2.2.1, fun i hi => ?_, P4.2.2.2.2⟩
        · rw [e6, w1_no (by decide), e5, w1_no (by decide)]; exact P4.1.1
        · rw [e6, w1_at, e5, w1_no (by decide), P4.1.2.2.1, nI_A1]
        · rw [e6, w1_no (by decide), e5, w1_no (by decide)]; exact P4.2.1.1
        · rw [e6, w1_no (by decide), e5, w1_at, P4.1.2.2.1, P4.2.1.2, mskP _ (by omega)]
        · show M4.1 45 i = nI (wcd 27 (pu z.2.2.1.2 z.2.2.1.1 (twl tp L (tsp tp L z.1)) i)) ∧ wok (pu z.2.2.1.2 z.2.2.1.1 (twl tp L (tsp tp L z.1)) i)
          have hi : i < z.2.2.1.1 + 1 := hi
          by_cases c : i = z.2.2.1.1
          · rw [c, pu_at]; exact ⟨n4, w⟩
          · rw [pu_no c]; exact P4.2.2.2.1 i (by omega)
      have L6 := tpC_P (tpC_P L2 f4) f6
      refine X4_advance_sp (p := tsp tp L (tsp tp L z.1)) L6 y2.2 (by rw [o 42 (by decide), e4, w1_ne (by decide)]; exact T2.1) (fun M7 T7 f7 => ⟨L + 1, ?_⟩)
      have g7 : frP M M7 := frP_tr (frP_42 f2) (frP_tr f4 (frP_tr f6 (frP_42 f7)))
      exact stepLp (z := (z.1, z.2.1, (z.2.2.1.1 + 1, pu z.2.2.1.2 z.2.2.1.1 (twl tp L (tsp tp L z.1))), z.2.2.2.1, z.2.2.2.2.1, z.2.2.2.2.2)) q L (tsp tp L (tsp tp L z.1), z.2.2.2.1, z.2.2.2.2.1) 0 M7 (tpC_f L6 f7) T7 y2.2 (by omega) (by omega) (PCn_f P6 f7) (fun r M' a b => h r M' (by
        cases c : pArcs tp L z.2.1.1 z.2.1.2 z.2.2.1.1 L (tsp tp L (tsp tp L z.1), z.2.2.2.1, z.2.2.2.2.1) with
        | error e => rw [c] at a; exact a
        | ok y => rw [c] at a; exact a) (frP_tr g7 b))
    · rw [e1] at h
      exact h 0 M' ⟨rfl, e2, e3⟩ (frP_tr (frP_42 f2) e4)
  · rw [if_neg q] at h
    exact X4_refuse_sp (k := 5) hT (fun M' b c d => ⟨by decide, h 0 M' ⟨rfl, b, c⟩ d⟩)
