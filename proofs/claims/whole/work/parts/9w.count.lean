/-! calls: aim, counts, order -/
theorem isTk_n {v : Int32} (h : isTk v = true) : ∃ n : Nat, n ≤ 999 ∧ v = nI n := by
  unfold isTk at h
  have h := of_decide_eq_true h
  rw [i_le, i_le, t_0, t_999] at h
  exact ⟨v.toInt.toNat, by omega, cl_of (by omega)⟩
def zAim (z : ZS) (p n : Nat) : ZS := (z.1, z.2.1, z.2.2.1, z.2.2.2.1, pu (zsA z) p n)
theorem C_aim {c : Nat} {v1 v2 : Int32} {M : Mem} {z : ZS} {K : Int32 → Mem → Prop} (h : IvC c M z) (k0 : (isPl (nI (nP (zsN z))) v1 && isTk v2) = false → K (-1) M) (k1 : (isPl (nI (nP (zsN z))) v1 && isTk v2) = true → ∀ p n M', p < 10 → n ≤ 999 → v1 = nI p → v2 = nI n → IvC c M' (zAim z p n) → loC M M' → K (nI (zsA z p)) M') : f_X8_aim v1 v2 M K := by
  have hn := IvC_w h
  unfold f_X8_aim
  refine X1_hasPlace_sp ?_
  rw [ac_P hn]
  refine ⟨fun q => k0 (by rw [b_of0 q, Bool.false_and]), fun q => X8_isTokens_sp ⟨fun q2 => ?_, fun q2 => k0 (by rw [b_of0 q2, Bool.and_false])⟩⟩
  obtain ⟨p, p1, p2⟩ := isPl_n (b_ofn q)
  obtain ⟨n, n1, n2⟩ := isTk_n (b_ofn q2)
  have tt : (isPl (nI (nP (zsN z))) v1 && isTk v2) = true := by rw [b_ofn q, b_ofn q2]; rfl
  obtain ⟨S, st, a1, a2, a3, a4, a5, a6⟩ := h
  unfold f_X6_putAim
  rw [p2]
  refine ⟨(vp_nI (by omega) (by omega)).mpr p1, fun x3 e3 M2 e2 M3 e3' => ?_⟩
  rw [gI, nI_CL (by omega), a5.1 p p1] at e3
  rw [nI_CL (by omega)] at e2
  have o : ∀ b, b ≠ 124 → b ≠ 125 → M3.1 b = M.1 b := fun b h1 h2 => by rw [e3', w1_ne h1, e2, w1_ne h2]
  rw [e3]
  refine k1 tt p n M3 p1 n1 p2 n2 ⟨S, st, ⟨a1.1, by rw [o 41 (by decide) (by decide)]; exact a1.2⟩, iTp_f a2 (fun b h1 h2 => o b (by omega) (by omega)), iNt_f a3 (fun b h1 h2 => o b (by omega) (by omega)), iPa_f a4 (fun b h1 h2 => o b (by omega) (by omega)), ⟨fun q hq => ?_, fun q => ?_, Or.inl ?_⟩, iCa_f a6 (fun b hb => o b (by omega) (by omega))⟩ (fun b hb => o b (by omega) (by omega))
  · show M3.1 125 q = nI (pu (zsA z) p n q)
    unfold pu
    by_cases e : q = p
    · rw [if_pos e, e, e3', w1_ne (by decide), e2, w1_at]; exact n2
    · rw [if_neg e, e3', w1_ne (by decide), e2, w1_no e]; exact a5.1 q hq
  · show pu (zsA z) p n q ≤ 999
    unfold pu
    split
    · exact n1
    · exact a5.2.1 q
  · rw [e3', w1_at]
theorem R_aim {v1 v2 : Int32} {M : Mem} {z : ZS} {K : Int32 → Mem → Prop} (h : IvR M z) (k0 : (isPl (nI (nP (zsN z))) v1 && isTk v2) = false → ∀ M', IvR M' z → hiC M M' → K (-1) M') (k1 : (isPl (nI (nP (zsN z))) v1 && isTk v2) = true → ∀ p n M', p < 10 → n ≤ 999 → v1 = nI p → v2 = nI n → IvR M' (zAim z p n) → hiC M M' → K (nI (zsA z p)) M') : f_X9_aim v1 v2 M K := by
  unfold f_X9_aim
  intro M2 e2
  have h2 : IvR M2 z := by rw [e2]; exact IvR_0 h
  have g2 : hiC M M2 := by rw [e2]; exact hiC_w (by decide)
  obtain ⟨b1, b2, ⟨hn, w⟩, b4, b5, b6, b7, b8⟩ := id h2
  refine X9_isPlace_sp ?_
  rw [rt_P hn]
  refine ⟨fun q => k0 (by rw [b_of0 q, Bool.false_and]) M2 h2 g2, fun q => X9_in_sp ⟨fun q2 => ?_, fun q2 => k0 (by have q2 : isTk v2 = false := b_of0 q2; rw [q2, Bool.and_false]) M2 h2 g2⟩⟩
  have q2 : isTk v2 = true := b_ofn q2
  obtain ⟨p, p1, p2⟩ := isPl_n (b_ofn q)
  obtain ⟨n, n1, n2⟩ := isTk_n q2
  have tt : (isPl (nI (nP (zsN z))) v1 && isTk v2) = true := by rw [b_ofn q, q2]; rfl
  rw [p2] at tt ⊢
  refine ⟨(vp_nI (by omega) (by omega)).mpr p1, fun x3 e3 M5 e5 M6 e6 => ?_⟩
  rw [gI, nI_CL (by omega), (b5 p p1).1] at e3
  rw [nI_CL (by omega)] at e5
  have o : ∀ b, b ≠ 0 → b ≠ 8 → M6.1 b = M2.1 b := fun b h1 h2 => by rw [e6, w1_ne h1, e5, w1_ne h2]
  have o0 : ∀ j, j ≠ 24 → M6.1 0 j = M2.1 0 j := fun j hj => by rw [e6, w1_no hj, e5, w1_ne (by decide)]
  rw [e3]
  refine k1 (by rw [p2]; exact tt) p n M6 p1 n1 p2 n2 ⟨?_, ?_, ⟨?_, w⟩, ?_, fun q hq => ?_, ?_, ?_, ?_⟩ (hiC_tr g2 (fun b hb => ⟨o b (by omega) (by omega), by rw [e6, e5]; rfl⟩))
  · rw [o0 10 (by decide), o 9 (by decide) (by decide)]; exact b1
  · rw [o0 16 (by decide), o0 17 (by decide)]; exact b2
  · rw [rt0_f (o 1 (by decide) (by decide)) (o 2 (by decide) (by decide)) (o 3 (by decide) (by decide)) (o 4 (by decide) (by decide)) (o 5 (by decide) (by decide))]; exact hn
  · rw [o0 26 (by decide)]
    exact ⟨b4.1, b4.2.1, fun i x hx => by rw [kb_f (o 10 (by decide) (by decide))]; exact b4.2.2 i x hx⟩
  · show M6.1 8 q = nI (pu (zsA z) p n q) ∧ pu (zsA z) p n q ≤ 999
    unfold pu
    by_cases e : q = p
    · rw [if_pos e, e, e6, w1_ne (by decide), e5, w1_at]; exact ⟨n2, n1⟩
    · rw [if_neg e, e6, w1_ne (by decide), e5, w1_no e]; exact b5 q hq
  · rw [o0 22 (by decide)]
    exact fun q => rSmP_f (b6 q) (fun b h1 h2 => o b (by omega) (by omega))
  · rw [o0 23 (by decide)]
    exact fun q => rGr_f (b7 q) (fun b h1 h2 _ _ _ _ => o b (by omega) (by omega))
  · intro q
    exact absurd (by rw [e6, w1_at]) q
/- counts: there is one best row of them -/
theorem BX_un {n : NN} {am x x' : Nat → Nat} (h : BX n am x) (h' : BX n am x') : ∀ s, s < 8 → x s = x' s := by
  rcases h.2.2.2 x' h'.1 h'.2.1 with a | ⟨a, a2⟩
  · rcases h'.2.2.2 x h.1 h.2.1 with b | ⟨b, _⟩ <;> omega
  · rcases h'.2.2.2 x h.1 h.2.1 with b | ⟨_, b2⟩
    · omega
    · rcases a2 with e | ⟨j, j1, j2, j3⟩
      · exact e
      · rcases b2 with e | ⟨i, i1, i2, i3⟩
        · exact fun s hs => (e s hs).symm
        · exfalso
          rcases Nat.lt_trichotomy i j with q | q | q
          · have := j2 i q; omega
          · subst q; omega
          · have := i2 j q; omega
theorem BN_BX {n : NN} {am x : Nat → Nat} (h : BN n am) (h' : BX n am x) : False := by
  have := h x h'.1 h'.2.1
  have := h'.2.2.1
  omega
noncomputable def xBst (n : NN) (am : Nat → Nat) : Nat → Nat := @Classical.epsilon _ ⟨fun _ => 0⟩ (BX n am)
theorem xB_sp {n : NN} {am x : Nat → Nat} (h : BX n am x) : BX n am (xBst n am) := Classical.epsilon_spec (p := BX n am) ⟨x, h⟩
theorem xB_of {n : NN} {am x : Nat → Nat} (h : BX n am x) : ∀ s, s < 8 → x s = xBst n am s := BX_un h (xB_sp h)
theorem okU_x {n : NN} {x x' : Nat → Nat} (h : ∀ s, s < 8 → x s = x' s) : ∀ {d : Nat} {u : Nat → Nat}, okU n x d u ↔ okU n x' d u
  | 0, _ => Iff.rfl
  | d + 1, u => by
    rw [okU, okU]
    exact ⟨fun ⟨s, a, b, c, e⟩ => ⟨s, a, by rw [← h s a]; exact b, c, (okU_x h).mp e⟩, fun ⟨s, a, b, c, e⟩ => ⟨s, a, by rw [h s a]; exact b, c, (okU_x h).mpr e⟩⟩
theorem fsU_x {n : NN} {x x' : Nat → Nat} (h : ∀ s, s < 8 → x s = x' s) {d : Nat} {u : Nat → Nat} : fsU n x d u = fsU n x' d u := by
  unfold fsU
  refine ff_cg (fun s hs => ?_)
  have e : (u s < x s ∧ canI n u s ∧ okU n x d (upT1 u s (u s + 1))) ↔ (u s < x' s ∧ canI n u s ∧ okU n x' d (upT1 u s (u s + 1))) := by rw [h s hs, okU_x h]
  by_cases q : u s < x s ∧ canI n u s ∧ okU n x d (upT1 u s (u s + 1))
  · rw [ifP_t q, ifP_t (e.mp q)]
  · rw [ifP_f q, ifP_f (fun z => q (e.mpr z))]
theorem glU_x {n : NN} {x x' : Nat → Nat} (h : ∀ s, s < 8 → x s = x' s) : ∀ {d : Nat} {u : Nat → Nat} {i : Nat}, glU n x d u i = glU n x' d u i
  | 0, _, _ => rfl
  | d + 1, u, i => by
    rw [glU, glU, fsU_x h]
    cases e : fsU n x' d u with
    | none => rfl
    | some s =>
      dsimp only
      rw [glU_x h]
noncomputable def exB (n : NN) (am : Nat → Nat) : Bool := pB (∃ x, BX n am x)
noncomputable def aCnt (z : ZS) (v : Int32) : Int32 := if exB (zsN z) (zsA z) = true then (if v = -1 then nI (sm (xBst (zsN z) (zsA z)) 8) else if isSt (nI (nS (zsN z))) v = true then nI (xBst (zsN z) (zsA z) v.toNatClampNeg) else -1) else -1
theorem sm_x {x x' : Nat → Nat} (h : ∀ s, s < 8 → x s = x' s) : sm x 8 = sm x' 8 := sm_cong' h
theorem C_counts {c : Nat} {v : Int32} {M : Mem} {z : ZS} {K : Int32 → Mem → Prop} (hc : c < 100000) (h : IvC c M z) (k : ∀ M', IvC c M' z → loC M M' → K (aCnt z v) M') : f_X8_counts v M K := by
  unfold f_X8_counts
  refine fC_c hc h (fun M' a b lo => ?_)
  have k := k M' a (fun b hb => lo b (by omega))
  have hn := IvC_w a
  unfold aCnt at k
  rcases b.1 with ⟨t, bn⟩ | ⟨x, t, tx, bx, _⟩
  · have ne : exB (zsN z) (zsA z) = false := pB_f (fun ⟨x, hx⟩ => BN_BX bn hx)
    rw [ne, if_neg (by decide)] at k
    rw [t]
    exact ⟨fun _ => ⟨fun _ => k, fun y => absurd rfl y⟩, fun _ => k⟩
  · have ex : exB (zsN z) (zsA z) = true := pB_t ⟨x, bx⟩
    have xe := xB_of bx
    have s12 := bx.2.2.1
    rw [ex, if_pos rfl, ← sm_x xe] at k
    rw [t]
    refine ⟨fun q => ⟨fun y => absurd y (nI_M (by omega)), fun _ => X1_hasStep_sp ?_⟩, fun q => ?_⟩
    · rw [if_neg q] at k
      rw [ac_S hn]
      refine ⟨fun y => ?_, fun y => ?_⟩
      · rw [if_neg (by rw [b_of0 y]; decide)] at k; exact k
      · rw [if_pos (b_ofn y)] at k
        obtain ⟨s, s1, s2⟩ := isSt_n (b_ofn y)
        rw [s2, nI_CL (by omega), ← xe s s1] at k
        rw [s2, gI, nI_CL (by omega), tx s s1]
        exact ⟨(vp_nI (by omega) (by omega)).mpr s1, k⟩
    · rw [if_pos q] at k; exact k
theorem R_counts {v : Int32} {M : Mem} {z : ZS} {K : Int32 → Mem → Prop} (h : IvR M z) (k : ∀ M', IvR M' z → hiC M M' → K (aCnt z v) M') : f_X9_counts v M K := by
  unfold f_X9_counts
  intro M2 e2
  have h2 : IvR M2 z := by rw [e2]; exact IvR_0 h
  have g2 : hiC M M2 := by rw [e2]; exact hiC_w (by decide)
  refine lC_r h2 (fun M' a b lo => ?_)
  have k := k M' a (hiC_tr g2 lo)
  obtain ⟨hn, w⟩ := a.2.2.1
  unfold aCnt at k
  unfold S_X9_counts_20
  rcases b with ⟨t, bn⟩ | ⟨x, t, tx, bx, _⟩
  · have ne : exB (zsN z) (zsA z) = false := pB_f (fun ⟨x, hx⟩ => BN_BX bn hx)
    rw [ne, if_neg (by decide)] at k
    rw [t]
    exact ⟨fun _ => k, fun y => absurd (by decide) y⟩
  · have ex : exB (zsN z) (zsA z) = true := pB_t ⟨x, bx⟩
    have xe := xB_of bx
    have s12 := bx.2.2.1
    rw [ex, if_pos rfl, ← sm_x xe] at k
    rw [t, l_12, nI_LT (by omega) (by omega)]
    refine ⟨by omega, fun _ => ⟨fun q => ⟨fun y => absurd q y, fun _ => ?_⟩, fun q => X9_isStep_sp ?_⟩⟩
    · rw [if_pos q, ← t] at k; exact k
    · rw [if_neg q] at k
      rw [rt_S hn]
      refine ⟨fun y => ⟨fun _ => ?_, fun y2 => absurd y2 q⟩, fun y => ?_⟩
      · rw [if_pos (b_ofn y)] at k
        obtain ⟨s, s1, s2⟩ := isSt_n (b_ofn y)
        rw [s2, nI_CL (by omega), ← xe s s1] at k
        rw [s2, gI, nI_CL (by omega), tx s s1]
        exact ⟨(vp_nI (by omega) (by omega)).mpr s1, k⟩
      · rw [if_neg (by rw [b_of0 y]; decide)] at k; exact k
/- order -/
noncomputable def aOrd (z : ZS) (v : Int32) : Int32 := if exB (zsN z) (zsA z) = true then (if pB (okU (zsN z) (xBst (zsN z) (zsA z)) (sm (xBst (zsN z) (zsA z)) 8) (fun _ => 0)) = true then (if 0 ≤ v ∧ v < nI (sm (xBst (zsN z) (zsA z)) 8) then nI (glU (zsN z) (xBst (zsN z) (zsA z)) (sm (xBst (zsN z) (zsA z)) 8) (fun _ => 0) v.toNatClampNeg) else -1) else -2) else -1
theorem pB_cg {P Q : Prop} (h : P ↔ Q) : pB P = pB Q := by rw [propext h]
theorem C_order {c : Nat} {v : Int32} {M : Mem} {z : ZS} {K : Int32 → Mem → Prop} (hc : c < 100000) (h : IvC c M z) (k : ∀ M', IvC c M' z → loC M M' → K (aOrd z v) M') : f_X8_order v M K := by
  unfold f_X8_order
  refine fC_c hc h (fun M' a b lo => ?_)
  unfold aOrd at k
  rcases b.1 with ⟨t, bn⟩ | ⟨x, t, tx, bx, ln⟩
  · have k := k M' a (fun b hb => lo b (by omega))
    have ne : exB (zsN z) (zsA z) = false := pB_f (fun ⟨x, hx⟩ => BN_BX bn hx)
    rw [ne, if_neg (by decide)] at k
    rw [t]
    exact ⟨fun y => absurd rfl y, fun _ => k⟩
  · have ex : exB (zsN z) (zsA z) = true := pB_t ⟨x, bx⟩
    have xe := xB_of bx
    have s12 := bx.2.2.1
    refine ⟨fun _ => fO_c hc a b.2 ⟨t, tx, bx, ln⟩ (fun M3 a3 l3 t3 lo3 => ?_), fun y => absurd y (by rw [t]; exact nI_M (by omega))⟩
    have k := k M3 a3 (fun b hb => by rw [lo3 b (by omega), lo b (by omega)])
    rw [ex, if_pos rfl, ← sm_x xe, pB_cg (okU_x (fun s hs => (xe s hs).symm))] at k
    refine ⟨fun y => ⟨fun q => ?_, fun q => ⟨fun q2 => ?_, fun q2 => ?_⟩⟩, fun y => ?_⟩
    · rw [if_pos (b_ofn y), if_neg (fun t => i_nlt.mpr t.1 q)] at k; exact k
    · rw [t3] at q2
      rw [if_pos (b_ofn y), if_neg (fun t => i_nle.mpr t.2 q2)] at k; exact k
    · rw [t3] at q2
      rw [if_pos (b_ofn y), if_pos ⟨i_nlt.mp q, i_nle.mp q2⟩] at k
      obtain ⟨j, j1, j2⟩ := nn_of q
      have q2 := i_nle.mp q2
      rw [j2, nI_LT (by omega) (by omega)] at q2
      rw [j2, nI_CL (by omega), glU_x (fun s hs => (xe s hs).symm)] at k
      rw [j2, gI, nI_CL (by omega), l3.2 (pB_iff.mp (b_ofn y)) j q2]
      exact ⟨(vp_nI (by omega) (by omega)).mpr (by omega), k⟩
    · rw [b_of0 y, if_neg (by decide)] at k; exact k
theorem IvR_1 {a : Nat} {M M' : Mem} {z : ZS} (ha : a = 21 ∨ a = 34) (h : IvR M z) (f : fr1 a M M') : IvR M' z := by
  have o : ∀ b, b ≠ a → M'.1 b = M.1 b := f.1
  refine IvR_k h (fun j hj => by rw [o 0 (by omega)]) (rt0_f (o 1 (by omega)) (o 2 (by omega)) (o 3 (by omega)) (o 4 (by omega)) (o 5 (by omega)) 0) (o 8 (by omega)) (o 9 (by omega)) (o 10 (by omega)) (fun q => ?_) (fun q => ?_) (fun q => ?_)
  · rw [o 0 (by omega)] at q
    exact rSmP_f (h.2.2.2.2.2.1 q) (fun b h1 h2 => o b (by omega))
  · rw [o 0 (by omega)] at q
    exact rGr_f (h.2.2.2.2.2.2.1 q) (fun b h1 h2 _ _ _ _ => o b (by omega))
  · rw [o 0 (by omega)] at q
    exact RCt_f (h.2.2.2.2.2.2.2 q) (by rw [o 0 (by omega)]) (o 20 (by omega)) (o 22 (by omega)) (o 23 (by omega))
theorem hiC_1 {a : Nat} {M M' : Mem} (ha : a < 40) (f : fr1 a M M') : hiC M M' := fun b hb => ⟨f.1 b (by omega), by rw [f.2]⟩
theorem dg_0 (x : Nat → Nat) (s : Nat) : dg x 0 s = 0 := by unfold dg; rw [Nat.zero_div, Nat.zero_mod]
theorem R_order {v : Int32} {M : Mem} {z : ZS} {K : Int32 → Mem → Prop} (h : IvR M z) (k : ∀ M', IvR M' z → hiC M M' → K (aOrd z v) M') : f_X9_order v M K := by
  unfold f_X9_order
  intro M2 e2
  have h2 : IvR M2 z := by rw [e2]; exact IvR_0 h
  have g2 : hiC M M2 := by rw [e2]; exact hiC_w (by decide)
  refine lC_r h2 (fun M' a b lo => ?_)
  obtain ⟨hn, w⟩ := a.2.2.1
  unfold aOrd at k
  rcases b with ⟨t, bn⟩ | ⟨x, t, tx, bx, sh⟩
  · have k := k M' a (hiC_tr g2 lo)
    have ne : exB (zsN z) (zsA z) = false := pB_f (fun ⟨x, hx⟩ => BN_BX bn hx)
    rw [ne, if_neg (by decide)] at k
    rw [t]
    exact ⟨fun y => absurd y (by decide), fun _ => k⟩
  · have ex : exB (zsN z) (zsA z) = true := pB_t ⟨x, bx⟩
    have xe := xB_of bx
    have s12 := bx.2.2.1
    have z0 : sm (dg x 0) 8 = 0 := sm_of0 (fun i _ => dg_0 x i)
    have g23 : gI M' 23 (0 : Int32) = bI (pB (okU (zsN z) x (sm x 8) (fun _ => 0))) := by
      rw [gI, show (0 : Int32).toNatClampNeg = 0 from rfl, sh.2 0 (pr_0 x 8)]
      unfold ceB
      rw [z0, Nat.sub_zero, pB_cg (okU_cong (fun s hs => dg_0 x s))]
    rw [ex, if_pos rfl, ← sm_x xe, pB_cg (okU_x (fun s hs => (xe s hs).symm))] at k
    rw [t, g23, l_12, nI_LE (by omega) (by omega)]
    refine ⟨fun _ => ⟨fun y => X9_in_sp ?_, fun y => ?_⟩, by omega⟩
    · rw [b_ofn y, if_pos rfl] at k
      rw [show decide (0 ≤ v ∧ v ≤ nI (sm x 8) - 1) = decide (0 ≤ v ∧ v < nI (sm x 8)) from decide_eq_decide.mpr (by rw [le_m1 (by omega)])]
      refine ⟨fun q => ?_, fun q => ?_⟩
      · have q := of_decide_eq_true (b_ofn q)
        rw [if_pos q] at k
        obtain ⟨j, j1, j2⟩ := nn_of (i_nlt.mpr q.1)
        have q2 := q.2
        rw [j2, nI_LT (by omega) (by omega)] at q2
        rw [j2, nI_CL (by omega), glU_x (fun s hs => (xe s hs).symm)] at k
        rw [j2]
        refine ⟨_, X9_or55_sp (M0 := M') (x := x) (r := glU (zsN z) x (sm x 8) (fun _ => 0) j) hn w s12 q2 sh (fun M3 f3 => k M3 (IvR_1 (Or.inl rfl) a f3) (hiC_tr g2 (hiC_tr lo (hiC_1 (by decide) f3)))) (j + 1) 0 (by omega) 0 (-1) M' (pr_0 x 8) (fr1_rf 21 M') (fun _ => ⟨z0, ?_, ?_⟩) (fun y => by omega)⟩
        · rw [Nat.sub_zero]
          exact (okU_cong (fun s hs => dg_0 x s)).mpr (pB_iff.mp (b_ofn y))
        · rw [Nat.sub_zero, Nat.sub_zero]
          exact glU_cong (fun s hs => dg_0 x s) j
      · have q := of_decide_eq_false (b_of0 q)
        rw [if_neg q] at k
        exact k M' a (hiC_tr g2 lo)
    · rw [b_of0 y, if_neg (by decide)] at k
      exact k M' a (hiC_tr g2 lo)
