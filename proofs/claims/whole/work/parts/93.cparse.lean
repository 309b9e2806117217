/-! the class's reader -/
theorem ixI_m {pn : Nat → List Nat} {w : List Nat} {n : Nat} (hn : n ≤ 10) : (ixI pn w n = (-1 : Int32)) = ¬ nx pn w n 0 < n := by
  unfold ixI
  by_cases q : nx pn w n 0 < n
  · rw [if_pos q]
    refine propext ⟨fun z => ?_, fun z => absurd q z⟩
    have e : (nI (nx pn w n 0) : Int32) < 0 := by rw [z]; decide
    rw [l_0, nI_LT (by omega) (by omega)] at e
    omega
  · rw [if_neg q]; exact propext ⟨fun _ => q, fun _ => rfl⟩
theorem al_44 : alen 44 = 10 ∧ alen 45 = 8 ∧ alen 47 = 80 ∧ alen 48 = 80 := ⟨rfl, rfl, rfl, rfl⟩
theorem isNm_2 {tp : Nat → Nat} {L p : Nat} (h : isNm tp L p = true) : tkd tp L p = 2 := (of_decide_eq_true h).1
theorem X4_readNewName_sp {tp : Nat → Nat} {L p : Nat} {z : PT} {M : Mem} {K : Int32 → Mem → Prop} (hT : TS4 M tp L p) (hP : PCn M z) (h1 : pNew tp L z p = none → K 1 M) (h2 : ∀ e M', pNew tp L z p = some e → M'.1 42 4 = nI e.1 → M'.1 42 5 = nI e.2 → frP M M' → K 0 M') : f_X4_readNewName 46 M K := by
  unfold f_X4_readNewName
  refine X4_isName_sp hT ⟨fun q => ?_, fun q => ?_⟩
  · have q := b_ofn q
    have k2 := isNm_2 q
    have w := twl_ok k2
    have e9 : M.1 42 9 = nI (wcd 27 (twl tp L p)) := by rw [hT.2.2.2.1 k2, tw_wcd]
    rw [hP.1.1]
    have bad : (nx z.2.1.2 (twl tp L p) z.2.1.1 0 < z.2.1.1 ∨ nx z.2.2.1.2 (twl tp L p) z.2.2.1.1 0 < z.2.2.1.1) → f_X4_refuse (3 : Int32) M (fun (r_4 : Int32) (M_6 : Mem) => (r_4 &&& 1 = r_4) ∧ K r_4 M_6) := fun a =>
      X4_refuse_sp (k := 3) hT (fun M' b c d => ⟨by decide, h2 _ M' (by unfold pNew; rw [if_pos q, if_pos a]) b c d⟩)
    refine X4_indexOf_sp (by rw [al_44.1]; exact ⟨hP.1.2.1, by omega⟩) hP.2.2.1 w e9 ?_
    unfold S_X4_readNewName_26
    rw [ixI_m hP.1.2.1]
    refine ⟨fun a => ⟨fun b => absurd b (by decide), fun _ => bad (Or.inl (Decidable.not_not.mp a))⟩, fun a => ?_⟩
    rw [hP.1.2.2.1]
    refine X4_indexOf_sp (by rw [al_44.2.1]; exact ⟨hP.1.2.2.2, by omega⟩) hP.2.2.2.1 w e9 ?_
    have := hP.1.2.2.2
    rw [ixI_m (by omega)]
    refine ⟨fun b => ⟨fun _ => h1 ?_, fun c => absurd rfl c⟩, fun b => ⟨fun c => absurd c (by decide), fun _ => bad (Or.inr (Decidable.not_not.mp b))⟩⟩
    unfold pNew
    rw [if_pos q, if_neg (fun c => c.elim a b)]
  · have q := b_of0 q
    exact X4_refuse_sp (k := 2) hT (fun M' b c d => ⟨by decide, h2 _ M' (by unfold pNew; rw [if_neg (by rw [q]; decide)]) b c d⟩)
def lfA (z : PT) (y : AT) : PT := (y.1, z.2.1, z.2.2.1, y.2.1, y.2.2, z.2.2.2.2.2)
def lfX (z : PT) (x : Except (Nat × Nat) AT) : Except (Nat × Nat) PT := match x with
  | .error e => .error e
  | .ok y => .ok (lfA z y)
theorem tn_le {tp : Nat → Nat} {L p : Nat} (h : tkd tp L p = 3) : tn tp L p ≤ 999 := by
  unfold tkd at h
  by_cases a : L ≤ tst tp L p
  · rw [if_pos a] at h; cases h
  rw [if_neg a] at h
  by_cases b : isLt (tp (tst tp L p)) = true
  · rw [if_pos b] at h
    split at h <;> cases h
  rw [if_neg b] at h
  by_cases c : isDg (tp (tst tp L p)) = true
  · rw [if_pos c] at h
    by_cases d : tsp tp L p - tst tp L p ≤ 3 ∧ ¬ (tsp tp L p < L ∧ isLt (tp (tsp tp L p)) = true)
    · have sp : tsp tp L p = rn isDg tp L (L - tst tp L p) (tst tp L p) := by unfold tsp; rw [if_neg a, if_neg b, if_pos c]
      exact (cpn_n d.1 (fun i hi => rn_all (c := isDg) (tp := tp) (L := L) (f := L - tst tp L p) (p := tst tp L p) (by omega) (by rw [← sp]; omega))).2
    · rw [if_neg d] at h; cases h
  · rw [if_neg c] at h
    split at h <;> cases h
theorem PCn_T {M : Mem} {z : PT} {j v p : Nat} (h : PCn M z) (hv : v ≤ 3) : PCn (wI M 47 j (nI v)) (p, z.2.1, z.2.2.1, pu z.2.2.2.1 j v, z.2.2.2.2.1, z.2.2.2.2.2) := by
  unfold PCn nms at *
  rw [w1_ne (show (46 : Nat) ≠ 47 by decide), w1_ne (show (44 : Nat) ≠ 47 by decide), w1_ne (show (45 : Nat) ≠ 47 by decide), w1_ne (show (48 : Nat) ≠ 47 by decide), w1_ne (show (49 : Nat) ≠ 47 by decide), w1_ne (show (42 : Nat) ≠ 47 by decide)]
  refine ⟨h.1, h.2.1, h.2.2.1, h.2.2.2.1, fun i hi => ?_, h.2.2.2.2.2⟩
  show _ = nI (if i = j then v else _) ∧ (if i = j then v else _) ≤ 3
  by_cases q : i = j
  · rw [if_pos q, q, w1_at]; exact ⟨rfl, hv⟩
  · rw [if_neg q, w1_no q]; exact h.2.2.2.2.1 i hi
theorem PCn_G {M : Mem} {z : PT} {j v p : Nat} (h : PCn M z) (hv : v ≤ 3) : PCn (wI M 48 j (nI v)) (p, z.2.1, z.2.2.1, z.2.2.2.1, pu z.2.2.2.2.1 j v, z.2.2.2.2.2) := by
  unfold PCn nms at *
  rw [w1_ne (show (46 : Nat) ≠ 48 by decide), w1_ne (show (44 : Nat) ≠ 48 by decide), w1_ne (show (45 : Nat) ≠ 48 by decide), w1_ne (show (47 : Nat) ≠ 48 by decide), w1_ne (show (49 : Nat) ≠ 48 by decide), w1_ne (show (42 : Nat) ≠ 48 by decide)]
  refine ⟨h.1, h.2.1, h.2.2.1, h.2.2.2.1, h.2.2.2.2.1, fun i hi => ?_, h.2.2.2.2.2.2⟩
  show _ = nI (if i = j then v else _) ∧ (if i = j then v else _) ≤ 3
  by_cases q : i = j
  · rw [if_pos q, q, w1_at]; exact ⟨rfl, hv⟩
  · rw [if_neg q, w1_no q]; exact h.2.2.2.2.2.1 i hi
theorem arc2C {tp : Nat → Nat} {L p s a v : Nat} {g : Bool} {z : PT} {M : Mem} {K : Int32 → Mem → Prop} (hL : tpC M tp L) (hT : TS4 M tp L p) (hp : p ≤ L) (hP : PCn M z) (hs : s < 8) (hv : v ≤ 3) (h : ∀ r M', RdC tp L M' r (lfX z (pArc2 tp L z.2.1.1 z.2.1.2 g s a v p z.2.2.2.1 z.2.2.2.2.1)) → frP M M' → K r M') :
    f_X4_isName M (fun (r_4 : Int32) (M_7 : Mem) => ((¬ r_4 = 0 → f_X4_indexOf 44 (M_7.1 46 3) M_7 (fun (r_5 : Int32) (M_8 : Mem) => ((¬ r_5 = (-1 : Int32) → ∀ x7 : Int32, x7 = (nI s * (10 : Int32)) + r_5 → vp_in x7 (alen (if g = true then 48 else 47)) ∧ ((((gI M_8 (if g = true then 48 else 47) x7) + nI v) ≤ (3 : Int32) → ∀ M_9 : Mem, M_9 = wI M_8 (if g = true then 48 else 47) x7.toNatClampNeg ((gI M_8 (if g = true then 48 else 47) x7) + nI v) → f_X4_advance  M_9 (fun (M_10 : Mem) => K (1 : Int32) M_10)) ∧ (¬ ((gI M_8 (if g = true then 48 else 47) x7) + nI v) ≤ (3 : Int32) → f_X4_refuseAt (4 : Int32) (nI a) M_8 (fun (r_7 : Int32) (M_11 : Mem) => (r_7 &&& 1 = r_7) ∧ K r_7 M_11)))) ∧ (r_5 = (-1 : Int32) → f_X4_refuse (3 : Int32) M_8 (fun (r_8 : Int32) (M_12 : Mem) => (r_8 &&& 1 = r_8) ∧ K r_8 M_12))))) ∧ (r_4 = 0 → f_X4_refuse (2 : Int32) M_7 (fun (r_9 : Int32) (M_13 : Mem) => (r_9 &&& 1 = r_9) ∧ K r_9 M_13)))) := by
  have P10 := hP.1.2.1
  unfold pArc2 at h
  refine X4_isName_sp hT ⟨fun q => ?_, fun q => ?_⟩
  · have q := b_ofn q
    have k2 := isNm_2 q
    have w := twl_ok k2
    have e9 : M.1 42 9 = nI (wcd 27 (twl tp L p)) := by rw [hT.2.2.2.1 k2, tw_wcd]
    rw [if_pos q] at h
    rw [hP.1.1]
    refine X4_indexOf_sp (by rw [al_44.1]; exact ⟨P10, by omega⟩) hP.2.2.1 w e9 ?_
    rw [ixI_m P10]
    refine ⟨fun i x7 e7 => ?_, fun i => ?_⟩
    · have i := Decidable.not_not.mp i
      rw [if_pos i] at h
      unfold ixI at e7
      rw [if_pos i, l_10, pk_mul, nI_add] at e7
      generalize hd : s * 10 + nx z.2.1.2 (twl tp L p) z.2.1.1 0 = d at e7 h
      have d80 : d < 80 := by omega
      subst e7
      have y := tsp_le (tp := tp) hp
      have ac := al_44
      have tl := tsp_le (tp := tp) hp
      have t3 : (M.1 42 6) = nI (tsp tp L p) := hT.1
      cases g
      · have o := hP.2.2.2.2.1 d d80
        have h : ∀ r M', RdC tp L M' r (lfX z (if z.2.2.2.1 d + v ≤ 3 then .ok (tsp tp L p, pu z.2.2.2.1 d (z.2.2.2.1 d + v), z.2.2.2.2.1) else .error (4, a))) → frP M M' → K r M' := h
        show vp_in (nI d) (alen 47) ∧ ((gI M 47 (nI d) + nI v ≤ (3 : Int32) → ∀ M_9 : Mem, M_9 = wI M 47 (nI d).toNatClampNeg (gI M 47 (nI d) + nI v) → f_X4_advance  M_9 (fun (M_10 : Mem) => K (1 : Int32) M_10)) ∧ (¬ gI M 47 (nI d) + nI v ≤ (3 : Int32) → f_X4_refuseAt (4 : Int32) (nI a) M (fun (r_7 : Int32) (M_11 : Mem) => (r_7 &&& 1 = r_7) ∧ K r_7 M_11)))
        rw [ac.2.2.1, vp_nI (by omega) (by omega), gI, nI_CL (by omega), o.1, nI_add, l_3, nI_LE (by omega) (by omega)]
        refine ⟨by omega, fun b M9 e9 => ?_, fun b => ?_⟩
        · rw [if_pos b] at h
          have f9 : frP M M9 := by rw [e9]; exact frP_w M (by omega)
          exact X4_advance_sp (p := tsp tp L p) (tpC_P hL f9) tl.2 (by rw [e9, w1_ne (by decide)]; exact t3) (fun M' c d => h 1 M' ⟨rfl, PCn_f (by rw [e9]; exact PCn_T hP b) d, c, tl.2⟩ (frP_tr f9 (frP_42 d)))
        · rw [if_neg b] at h
          unfold f_X4_refuseAt
          intro M2 e2 M3 e3
          exact ⟨by decide, h 0 M3 ⟨rfl, by rw [e3, w1_no (by decide), e2, w1_at]; rfl, by rw [e3, w1_at]⟩ (frP_tr (M1 := M2) (by rw [e2]; exact frP_42w M (by decide)) (by rw [e3]; exact frP_42w M2 (by decide)))⟩
      · have o := hP.2.2.2.2.2.1 d d80
        have h : ∀ r M', RdC tp L M' r (lfX z (if z.2.2.2.2.1 d + v ≤ 3 then .ok (tsp tp L p, z.2.2.2.1, pu z.2.2.2.2.1 d (z.2.2.2.2.1 d + v)) else .error (4, a))) → frP M M' → K r M' := h
        show vp_in (nI d) (alen 48) ∧ ((gI M 48 (nI d) + nI v ≤ (3 : Int32) → ∀ M_9 : Mem, M_9 = wI M 48 (nI d).toNatClampNeg (gI M 48 (nI d) + nI v) → f_X4_advance  M_9 (fun (M_10 : Mem) => K (1 : Int32) M_10)) ∧ (¬ gI M 48 (nI d) + nI v ≤ (3 : Int32) → f_X4_refuseAt (4 : Int32) (nI a) M (fun (r_7 : Int32) (M_11 : Mem) => (r_7 &&& 1 = r_7) ∧ K r_7 M_11)))
        rw [ac.2.2.2, vp_nI (by omega) (by omega), gI, nI_CL (by omega), o.1, nI_add, l_3, nI_LE (by omega) (by omega)]
        refine ⟨by omega, fun b M9 e9 => ?_, fun b => ?_⟩
        · rw [if_pos b] at h
          have f9 : frP M M9 := by rw [e9]; exact frP_w M (by omega)
          exact X4_advance_sp (p := tsp tp L p) (tpC_P hL f9) tl.2 (by rw [e9, w1_ne (by decide)]; exact t3) (fun M' c d => h 1 M' ⟨rfl, PCn_f (by rw [e9]; exact PCn_G hP b) d, c, tl.2⟩ (frP_tr f9 (frP_42 d)))
        · rw [if_neg b] at h
          unfold f_X4_refuseAt
          intro M2 e2 M3 e3
          exact ⟨by decide, h 0 M3 ⟨rfl, by rw [e3, w1_no (by decide), e2, w1_at]; rfl, by rw [e3, w1_at]⟩ (frP_tr (M1 := M2) (by rw [e2]; exact frP_42w M (by decide)) (by rw [e3]; exact frP_42w M2 (by decide)))⟩
    · rw [if_neg i] at h
      exact X4_refuse_sp (k := 3) hT (fun M' b c d => ⟨by decide, h 0 M' ⟨rfl, b, c⟩ d⟩)
  · have q := b_of0 q
    rw [if_neg (by rw [q]; decide)] at h
    exact X4_refuse_sp (k := 2) hT (fun M' b c d => ⟨by decide, h 0 M' ⟨rfl, b, c⟩ d⟩)
theorem X4_readArc_sp {tp : Nat → Nat} {L s : Nat} {g : Bool} {z : PT} {M : Mem} {K : Int32 → Mem → Prop} (hL : tpC M tp L) (hT : TS4 M tp L z.1) (hp : z.1 ≤ L) (hP : PCn M z) (hs : s < 8) (h : ∀ r M', RdC tp L M' r (lfX z (pArc tp L z.2.1.1 z.2.1.2 g s (z.1, z.2.2.2.1, z.2.2.2.2.1))) → frP M M' → K r M') : f_X4_readArc 46 (nI s) (if g = true then 48 else 47) M K := by
  unfold f_X4_readArc
  intro x4 e4
  rw [hT.2.2.1] at e4
  subst e4
  have y1 := tsp_le (tp := tp) hp
  unfold pArc at h
  refine X4_advance_sp hL y1.2 hT.1 (fun M2 T2 f2 => ?_)
  have k4 := tkd_le (tp := tp) (L := L) (p := tsp tp L z.1)
  have L2 := tpC_f hL f2
  have P2 := PCn_f hP f2
  unfold S_X4_readArc_18
  rw [T2.2.1]
  have zk : (nI (tkd tp L (tsp tp L z.1)) = (3 : Int32)) = (tkd tp L (tsp tp L z.1) = 3) := by rw [l_3, nI_EQ (by omega) (by omega)]
  rw [zk]
  refine ⟨fun q => ?_, fun q => ?_⟩
  · rw [if_neg q] at h
    exact arc2C (v := 1) L2 T2 y1.2 P2 hs (by omega) (fun r M' a b => h r M' a (frP_tr (frP_42 f2) b))
  · rw [if_pos q] at h
    have t9 := tn_le q
    have bad : ¬ (1 ≤ tn tp L (tsp tp L z.1) ∧ tn tp L (tsp tp L z.1) ≤ 3) → f_X4_refuse (4 : Int32) M2 (fun (r_3 : Int32) (M_5 : Mem) => (r_3 &&& 1 = r_3) ∧ K r_3 M_5) := fun b => by
      rw [if_neg b] at h
      exact X4_refuse_sp (k := 4) T2 (fun M' b c d => ⟨by decide, h 0 M' ⟨rfl, b, c⟩ (frP_tr (frP_42 f2) d)⟩)
    unfold S_X4_readArc_26
    rw [T2.2.2.2.2 q]
    have z1 : (nI (tn tp L (tsp tp L z.1)) < (1 : Int32)) = (tn tp L (tsp tp L z.1) < 1) := by rw [l_1, nI_LT (by omega) (by omega)]
    have z3 : (nI (tn tp L (tsp tp L z.1)) ≤ (3 : Int32)) = (tn tp L (tsp tp L z.1) ≤ 3) := by rw [l_3, nI_LE (by omega) (by omega)]
    refine ⟨fun b => bad (by rw [z1] at b; omega), fun b => ⟨fun c x5 e5 => ?_, fun c => bad (fun y => c (by rw [z3]; exact y.2))⟩⟩
    rw [z1] at b
    rw [z3] at c
    rw [if_pos (show 1 ≤ tn tp L (tsp tp L z.1) ∧ tn tp L (tsp tp L z.1) ≤ 3 by omega)] at h
    have y2 := tsp_le (tp := tp) y1.2
    subst e5
    refine X4_advance_sp L2 y2.2 T2.1 (fun M3 T3 f3 => ?_)
    exact arc2C (tpC_f L2 f3) T3 y2.2 (PCn_f P2 f3) hs c (fun r M' a b => h r M' a (frP_tr (frP_42 (fr42_tr f2 f3)) b))
