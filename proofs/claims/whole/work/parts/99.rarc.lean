/-! the reference's reader: an arc -/
def RdR (tp : Nat → Nat) (L : Nat) (M' : Mem) (x : Except (Nat × Nat) PT) : Prop :=
  match x with
  | .error e => BR M' e
  | .ok z => PRn M' z ∧ TS9 M' tp L z.1 ∧ z.1 ≤ L
theorem frRd_1 {c j : Nat} {v : Int32} (M : Mem) (hc : c = 1 ∨ c = 2) (hj : 160 ≤ j) : frRd M (wI M c j v) := ⟨fun b _ b1 b2 _ _ _ => w1_ne (by omega), fun k _ _ => by rw [w1_ne (by omega)], fun k hk => by
    rcases hc with q | q
    · rw [q, w1_no (by omega), w1_ne (by decide)]; exact ⟨rfl, rfl⟩
    · rw [q, w1_no (by omega), w1_ne (by decide)]; exact ⟨rfl, rfl⟩, fun k _ => by rw [w1_ne (by omega)], rfl⟩
theorem PRn_T {M : Mem} {z : PT} {j v p : Nat} (h : PRn M z) (hv : v ≤ 3) : PRn (wI M 1 (160 + j) (nI v)) (p, z.2.1, z.2.2.1, pu z.2.2.2.1 j v, z.2.2.2.2.1, z.2.2.2.2.2) := by
  unfold PRn nms at *
  rw [w1_ne (show (0 : Nat) ≠ 1 by decide), w1_ne (show (6 : Nat) ≠ 1 by decide), w1_ne (show (7 : Nat) ≠ 1 by decide), w1_ne (show (2 : Nat) ≠ 1 by decide), w1_ne (show (3 : Nat) ≠ 1 by decide)]
  refine ⟨h.1, h.2.1, h.2.2.1, fun i hi => ?_, h.2.2.2.2⟩
  show _ = nI (pu z.2.2.2.1 j v i) ∧ pu z.2.2.2.1 j v i ≤ 3
  by_cases q : i = j
  · rw [q, pu_at, w1_at]; exact ⟨rfl, hv⟩
  · rw [pu_no q, w1_no (by omega)]; exact h.2.2.2.1 i hi
theorem PRn_G {M : Mem} {z : PT} {j v p : Nat} (h : PRn M z) (hv : v ≤ 3) : PRn (wI M 2 (160 + j) (nI v)) (p, z.2.1, z.2.2.1, z.2.2.2.1, pu z.2.2.2.2.1 j v, z.2.2.2.2.2) := by
  unfold PRn nms at *
  rw [w1_ne (show (0 : Nat) ≠ 2 by decide), w1_ne (show (6 : Nat) ≠ 2 by decide), w1_ne (show (7 : Nat) ≠ 2 by decide), w1_ne (show (1 : Nat) ≠ 2 by decide), w1_ne (show (3 : Nat) ≠ 2 by decide)]
  refine ⟨h.1, h.2.1, h.2.2.1, h.2.2.2.1, fun i hi => ?_, h.2.2.2.2.2⟩
  show _ = nI (pu z.2.2.2.2.1 j v i) ∧ pu z.2.2.2.2.1 j v i ≤ 3
  by_cases q : i = j
  · rw [q, pu_at, w1_at]; exact ⟨rfl, hv⟩
  · rw [pu_no q, w1_no (by omega)]; exact h.2.2.2.2.1 i hi
theorem BR_w {M : Mem} {e : Nat × Nat} {c j : Nat} {v : Int32} (h : BR M e) (hc : c ≠ 0) : BR (wI M c j v) e := by
  unfold BR at *
  rw [w1_ne (fun q => hc q.symm)]; exact h
theorem arc2R {tp : Nat → Nat} {L p a v : Nat} {t : Bool} {z : PT} {M : Mem} {K : Mem → Prop} (hL : tpR M tp L) (hT : TS9 M tp L p) (hp : p ≤ L) (hP : PRn M z) (hs : z.2.2.1.1 < 8) (hv : v ≤ 3) (h : ∀ M', RdR tp L M' (lfX z (pArc2 tp L z.2.1.1 z.2.1.2 (!t) z.2.2.1.1 a v p z.2.2.2.1 z.2.2.2.2.1)) → frRd M M' → K M') :
    f_X9_isGood  M (fun (r_5 : Int32) (M_8 : Mem) => ((¬ r_5 = 0 → f_X9_mustBeName  M_8 (fun (M_9 : Mem) => f_X9_isGood  M_9 (fun (r_7 : Int32) (M_10 : Mem) => (S_X9_readArc_58 (bI t) (nI a) (nI v) r_7 (fun (w : Int32) (M_12 : Mem) => (S_X9_readArc_73 (bI t) (nI a) (nI v) w w (fun  (M_14 : Mem) => f_X9_isGood  M_14 (fun (r_10 : Int32) (M_15 : Mem) => ((¬ r_10 = 0 → f_X9_arcAt (2 : Int32) (M_15.1 0 21) w M_15 (fun (r_11 : Int32) (M_16 : Mem) => (S_X9_readArc_104 (bI t) (nI a) r_11 (bI t) (nI v) (fun (w_2 : Int32) (M_17 : Mem) => ∀ x6 : Int32, x6 = nI v + w_2 → (S_X9_readArc_130 (bI t) (nI a) r_11 x6 (3 : Int32) x6 (fun  (M_19 : Mem) => (S_X9_readArc_140 r_11 x6 (bI t) (fun  (M_22 : Mem) => f_X9_goesOn  M_22 (fun (M_23 : Mem) => K M_23)) K M_19)) K M_17)) K M_16))) ∧ (r_10 = 0 → K M_15)))) K M_12)) K M_10)))) ∧ (r_5 = 0 → K M_8))) := by
  have P10 := hP.1.2.1
  refine X9_good_1 hP ⟨fun _ => ?_, fun q => absurd q (by decide)⟩
  unfold pArc2 at h
  refine X9_mustBeName_sp hT hP (fun q => ?_) (fun q M' B c1 c2 c3 c4 => ?_)
  · have k2 := isNm_2 q
    have w := twl_ok k2
    have e9 : M.1 0 15 = nI (wcd 32 (twl tp L p)) := by rw [hT.2.2.2.1 k2, tw_wcd]
    rw [if_pos q] at h
    refine X9_good_1 hP ?_
    unfold S_X9_readArc_58
    refine ⟨fun y => absurd y (by decide), fun _ => X9_placeCalled_sp P10 hP.1.1 hP.2.1 w e9 ?_⟩
    unfold S_X9_readArc_73
    have z0 : ((0 : Int32) ≤ ixI z.2.1.2 (twl tp L p) z.2.1.1) = (nx z.2.1.2 (twl tp L p) z.2.1.1 0 < z.2.1.1) := by
      unfold ixI
      by_cases y : nx z.2.1.2 (twl tp L p) z.2.1.1 0 < z.2.1.1
      · rw [if_pos y, l_0, nI_LE (by omega) (by omega)]; exact propext ⟨fun _ => y, fun _ => Nat.zero_le _⟩
      · rw [if_neg y]; exact propext ⟨fun x => absurd x (by decide), fun x => absurd x y⟩
    refine ⟨fun i => ?_, fun i => ?_⟩
    · rw [z0] at i
      rw [if_pos i] at h
      refine X9_good_1 hP ⟨fun _ => ?_, fun y => absurd y (by decide)⟩
      unfold f_X9_arcAt
      have e7 : ((80 : Int32) * 2 + (10 : Int32) * (M.1 0 21)) + ixI z.2.1.2 (twl tp L p) z.2.1.1 = nI (160 + (z.2.2.1.1 * 10 + nx z.2.1.2 (twl tp L p) z.2.1.1 0)) := by
        unfold ixI
        rw [if_pos i, hP.1.2.2.1, l_80, l_2, l_10, pk_mul, pk_mul, nI_add, nI_add]
        congr 1; omega
      rw [e7]
      generalize hd : z.2.2.1.1 * 10 + nx z.2.1.2 (twl tp L p) z.2.1.1 0 = d at h
      have d80 : d < 80 := by omega
      have tl := tsp_le (tp := tp) hp
      unfold S_X9_readArc_104
      cases t
      · have o := hP.2.2.2.2.1 d d80
        have h : ∀ M', RdR tp L M' (lfX z (if z.2.2.2.2.1 d + v ≤ 3 then .ok (tsp tp L p, z.2.2.2.1, pu z.2.2.2.2.1 d (z.2.2.2.2.1 d + v)) else .error (4, a))) → frRd M M' → K M' := h
        have gv : gI M 2 (nI (160 + d)) = nI (z.2.2.2.2.1 d) := by rw [gI, nI_CL (by omega), o.1]
        refine ⟨fun _ => ⟨by rw [vp_nI (by omega) (by omega)]; omega, fun x6 e6 => ?_⟩, fun y => absurd rfl y⟩
        rw [gv, nI_add] at e6
        subst e6
        unfold S_X9_readArc_130
        have zx : (nI (v + z.2.2.2.2.1 d) ≤ (3 : Int32)) = (z.2.2.2.2.1 d + v ≤ 3) := by rw [l_3, nI_LE (by omega) (by omega), Nat.add_comm]
        rw [zx]
        refine ⟨fun b => ?_, fun b => ?_⟩
        · rw [if_pos b] at h
          unfold S_X9_readArc_140
          refine ⟨fun _ => ⟨by rw [vp_nI (by omega) (by omega)]; omega, fun M20 e20 => ?_⟩, fun y => absurd rfl y⟩
          rw [nI_CL (by omega), Nat.add_comm v] at e20
          have P20 := PRn_G (j := d) (p := p) hP b
          rw [← e20] at P20
          have g : frRd M M20 := by rw [e20]; exact frRd_1 M (by omega) (by omega)
          have T20 : TS9 M20 tp L p := by unfold TS9; rw [e20, w1_ne (by decide)]; exact hT
          exact X9_goesOn_sp (tpR_Rd hL g) T20 hp P20 (fun M' c e => h M' ⟨PRn_f P20 e, c, tl.2⟩ (frRd_tr g (frRd_0 e)))
        · rw [if_neg b] at h
          refine X9_failsAt_sp (k := 4) hP (by omega) (fun M' B c1 c2 c3 c4 => ?_)
          unfold S_X9_readArc_140
          refine ⟨fun _ => ⟨by rw [vp_nI (by omega) (by omega)]; omega, fun M20 e20 => ?_⟩, fun y => absurd rfl y⟩
          rw [nI_CL (by omega)] at e20
          have B20 : BR M20 (4, a) := by rw [e20]; exact BR_w B (by decide)
          exact X9_goesOn_b B20 (h M20 B20 (frRd_tr c4 (by rw [e20]; exact frRd_1 M' (by omega) (by omega))))
      · have o := hP.2.2.2.1 d d80
        have h : ∀ M', RdR tp L M' (lfX z (if z.2.2.2.1 d + v ≤ 3 then .ok (tsp tp L p, pu z.2.2.2.1 d (z.2.2.2.1 d + v), z.2.2.2.2.1) else .error (4, a))) → frRd M M' → K M' := h
        have gv : gI M 1 (nI (160 + d)) = nI (z.2.2.2.1 d) := by rw [gI, nI_CL (by omega), o.1]
        refine ⟨fun y => absurd y (by decide), fun _ => ⟨by rw [vp_nI (by omega) (by omega)]; omega, fun x6 e6 => ?_⟩⟩
        rw [gv, nI_add] at e6
        subst e6
        unfold S_X9_readArc_130
        have zx : (nI (v + z.2.2.2.1 d) ≤ (3 : Int32)) = (z.2.2.2.1 d + v ≤ 3) := by rw [l_3, nI_LE (by omega) (by omega), Nat.add_comm]
        rw [zx]
        refine ⟨fun b => ?_, fun b => ?_⟩
        · rw [if_pos b] at h
          unfold S_X9_readArc_140
          refine ⟨fun y => absurd y (by decide), fun _ => ⟨by rw [vp_nI (by omega) (by omega)]; omega, fun M20 e20 => ?_⟩⟩
          rw [nI_CL (by omega), Nat.add_comm v] at e20
          have P20 := PRn_T (j := d) (p := p) hP b
          rw [← e20] at P20
          have g : frRd M M20 := by rw [e20]; exact frRd_1 M (by omega) (by omega)
          have T20 : TS9 M20 tp L p := by unfold TS9; rw [e20, w1_ne (by decide)]; exact hT
          exact X9_goesOn_sp (tpR_Rd hL g) T20 hp P20 (fun M' c e => h M' ⟨PRn_f P20 e, c, tl.2⟩ (frRd_tr g (frRd_0 e)))
        · rw [if_neg b] at h
          refine X9_failsAt_sp (k := 4) hP (by omega) (fun M' B c1 c2 c3 c4 => ?_)
          unfold S_X9_readArc_140
          refine ⟨fun y => absurd y (by decide), fun _ => ⟨by rw [vp_nI (by omega) (by omega)]; omega, fun M20 e20 => ?_⟩⟩
          rw [nI_CL (by omega)] at e20
          have B20 : BR M20 (4, a) := by rw [e20]; exact BR_w B (by decide)
          exact X9_goesOn_b B20 (h M20 B20 (frRd_tr c4 (by rw [e20]; exact frRd_1 M' (by omega) (by omega))))
    · rw [z0] at i
      rw [if_neg i] at h
      exact X9_fails_sp (k := 3) hP hT (by omega) (fun M' B c1 c2 c3 c4 => X9_good_0 B ⟨fun y => absurd rfl y, fun _ => h M' B c4⟩)
  · rw [if_neg (by rw [q]; decide)] at h
    refine X9_good_0 B ?_
    unfold S_X9_readArc_58
    refine ⟨fun _ => ?_, fun y => absurd rfl y⟩
    unfold S_X9_readArc_73
    exact ⟨fun _ => X9_good_0 B ⟨fun y => absurd rfl y, fun _ => h M' B c4⟩, fun y => absurd (by decide) y⟩
