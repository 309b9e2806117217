/-! the reference's reader: a line, whole -/
theorem X9_readLine_sp {tp : Nat → Nat} {L : Nat} {z : PT} {M : Mem} {K : Mem → Prop} (hL : tpR M tp L) (hT : TS9 M tp L z.1) (hp : z.1 ≤ L) (hP : PRn M z) (h : ∀ M', RdR tp L M' (pLine tp L z) → frRe M M' → K M') : f_X9_readLine M K := by
  have P10 := hP.1.2.1
  have S8 := hP.1.2.2.2
  unfold f_X9_readLine
  unfold pLine at h
  have bad : ∀ {x e : Nat × Nat} {M' : Mem} {r : Int32}, BR M' e → (∀ M', BR M' e → frRe M M' → K M') → frRe M M' → f_X9_isGood M' (fun (r_8 : Int32) (M_10 : Mem) => ((¬ r_8 = 0 → (S_X9_readLine_67 r (fun  (M_24 : Mem) => f_X9_isGood  M_24 (fun (r_19 : Int32) (M_25 : Mem) => (S_X9_readLine_148 r_19 (fun  (M_27 : Mem) => f_X9_goesOn  M_27 (fun (M_28 : Mem) => K M_28)) K M_25))) K M_10)) ∧ (r_8 = 0 → K M_10))) := fun B k g => X9_good_0 B ⟨fun y => absurd rfl y, fun _ => k _ B g⟩
  refine X9_isWord_sp hT kPl_ok k32.1 ?_
  unfold S_X9_readLine_8
  cases q : isW tp L z.1 kPl
  · rw [if_neg (by rw [q]; decide)] at h
    refine ⟨fun y => absurd rfl y, fun _ => X9_isWord_sp hT kSt_ok k32.2.1 ⟨fun q2 => ⟨fun _ => ⟨fun n8 => ?_, fun n8 => ?_⟩, fun y => absurd rfl y⟩, fun q2 => ?_⟩⟩
    · have q2 := b_ofn q2
      rw [if_pos q2] at h
      have hz : z.2.2.1.1 < 8 := by
        rw [hP.1.2.2.1, l_8, nI_EQ (by omega) (by omega)] at n8
        omega
      rw [pStep_c hz] at h
      refine X9_good_1 hP ⟨fun _ => ?_, fun y => absurd y (by decide)⟩
      unfold S_X9_readLine_67
      exact ⟨fun _ => stepR hL hT hp hP hz (fun M' a g => clsR (tpR_Re hL g) a (fun M2 b g2 => h M2 b (frRe_tr g g2))), fun y => absurd rfl y⟩
    · have q2 := b_ofn q2
      rw [if_pos q2] at h
      have hz : ¬ z.2.2.1.1 < 8 := by
        rw [hP.1.2.2.1, l_8, nI_EQ (by omega) (by omega)] at n8
        omega
      unfold pStep at h
      rw [if_neg hz] at h
      exact X9_fails_sp (k := 5) hP hT (by omega) (fun M' B _ _ _ g => bad (x := (0, 0)) B (fun M2 B2 g2 => h M2 B2 g2) (frRe_of g))
    · have q2 := b_of0 q2
      rw [if_neg (by rw [q2]; decide)] at h
      exact X9_fails_sp (k := 2) hP hT (by omega) (fun M' B _ _ _ g => bad (x := (0, 0)) B (fun M2 B2 g2 => h M2 B2 g2) (frRe_of g))
  · rw [if_pos q] at h
    refine ⟨fun _ => ⟨fun y => absurd y (by decide), fun _ => ⟨fun n10 => ?_, fun n10 => ?_⟩⟩, fun y => absurd y (by decide)⟩
    · have hz : z.2.1.1 < 10 := by
        rw [hP.1.1, l_10, nI_EQ (by omega) (by omega)] at n10
        omega
      rw [pPlace_c hz] at h
      refine X9_good_1 hP ⟨fun _ => ?_, fun y => absurd y (by decide)⟩
      unfold S_X9_readLine_67
      exact ⟨fun y => absurd y (by decide), fun _ => X9_readPlace_sp hL hT hp hP hz (fun M' a g => clsR (tpR_Re hL g) a (fun M2 b g2 => h M2 b (frRe_tr g g2)))⟩
    · have hz : ¬ z.2.1.1 < 10 := by
        rw [hP.1.1, l_10, nI_EQ (by omega) (by omega)] at n10
        omega
      unfold pPlace at h
      rw [if_neg hz] at h
      exact X9_fails_sp (k := 5) hP hT (by omega) (fun M' B _ _ _ g => bad (x := (0, 0)) B (fun M2 B2 g2 => h M2 B2 g2) (frRe_of g))
