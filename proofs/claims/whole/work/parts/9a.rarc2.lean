/-! the reference's reader: an arc, from its beginning -/
theorem X9_readArc_sp {tp : Nat → Nat} {L : Nat} {t : Bool} {z : PT} {M : Mem} {K : Mem → Prop} (hL : tpR M tp L) (hT : TS9 M tp L z.1) (hp : z.1 ≤ L) (hP : PRn M z) (hs : z.2.2.1.1 < 8) (h : ∀ M', RdR tp L M' (lfX z (pArc tp L z.2.1.1 z.2.1.2 (!t) z.2.2.1.1 (z.1, z.2.2.2.1, z.2.2.2.2.1))) → frRd M M' → K M') : f_X9_readArc (bI t) M K := by
  unfold f_X9_readArc
  intro x2 e2
  rw [hT.2.2.1] at e2
  subst e2
  have y1 := tsp_le (tp := tp) hp
  unfold pArc at h
  refine X9_next_sp hL y1.2 hT.1 (fun M2 T2 f2 => ?_)
  have k4 := tkd_le (tp := tp) (L := L) (p := tsp tp L z.1)
  have kr := kR_4 k4
  have L2 := tpR_f hL f2
  have P2 := PRn_f hP f2
  unfold S_X9_readArc_16
  have zk : (M2.1 0 14 = (2 : Int32)) = (tkd tp L (tsp tp L z.1) = 3) := by rw [T2.2.1, l_2, nI_EQ (by omega) (by omega)]; exact propext kr.2.2.2.1
  rw [zk]
  refine ⟨fun q => ?_, fun q => ?_⟩
  · rw [if_neg q] at h
    exact arc2R (v := 1) L2 T2 y1.2 P2 hs (by omega) (fun M' a b => h M' a (frRd_tr (frRd_0 f2) b))
  · rw [if_pos q] at h
    have t9 := tn_le q
    intro x3 e3
    rw [T2.2.2.2.2 q] at e3
    subst e3
    have z1 : (nI (tn tp L (tsp tp L z.1)) < (1 : Int32)) = (tn tp L (tsp tp L z.1) < 1) := by rw [l_1, nI_LT (by omega) (by omega)]
    have z3 : ((3 : Int32) < nI (tn tp L (tsp tp L z.1))) = (3 < tn tp L (tsp tp L z.1)) := by rw [l_3, nI_LT (by omega) (by omega)]
    unfold f_X9_in
    rw [z1, z3]
    have bad : ¬ (1 ≤ tn tp L (tsp tp L z.1) ∧ tn tp L (tsp tp L z.1) ≤ 3) → ∀ M', BR M' (flt tp L (tsp tp L z.1) 4) → frRd M2 M' → K M' := fun b M' B g => by
      rw [if_neg b] at h
      exact h M' B (frRd_tr (frRd_0 f2) g)
    unfold S_X9_readArc_30
    refine ⟨fun b => ⟨fun y => absurd rfl y, fun _ => X9_fails_sp (k := 4) P2 T2 (by omega) (fun M' B _ _ _ g => X9_goesOn_b B (X9_good_0 B ⟨fun y => absurd rfl y, fun _ => bad (by omega) M' B g⟩))⟩, fun b => ⟨fun c => ⟨fun y => absurd rfl y, fun _ => X9_fails_sp (k := 4) P2 T2 (by omega) (fun M' B _ _ _ g => X9_goesOn_b B (X9_good_0 B ⟨fun y => absurd rfl y, fun _ => bad (by omega) M' B g⟩))⟩, fun c => ⟨fun _ => ?_, fun y => absurd y (by decide)⟩⟩⟩
    rw [if_pos (show 1 ≤ tn tp L (tsp tp L z.1) ∧ tn tp L (tsp tp L z.1) ≤ 3 by omega)] at h
    have y2 := tsp_le (tp := tp) y1.2
    refine X9_goesOn_sp L2 T2 y1.2 P2 (fun M3 T3 f3 => ?_)
    exact arc2R (tpR_f L2 f3) T3 y2.2 (PRn_f P2 f3) hs (by omega) (fun M' a b => h M' a (frRd_tr (frRd_0 (fr0_tr f2 f3)) b))
