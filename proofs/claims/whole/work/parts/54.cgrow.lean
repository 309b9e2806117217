/-! the class grows the graph -/
theorem ac_okT {M : Mem} {t tp ts : Nat} {n : NN} (h : atC M t n tp ts) : arcOK (M.1 (t + 1)) := fun i hi => by
  have := wf_T3 h.2.2.2 i
  rw [ac_T h hi, i_nI (by omega)]; omega
theorem ac_okG {M : Mem} {t tp ts : Nat} {n : NN} (h : atC M t n tp ts) : arcOK (M.1 (t + 2)) := fun i hi => by
  have := wf_G3 h.2.2.2 i
  rw [ac_G h hi, i_nI (by omega)]; omega
theorem X1_allows_nn {c a s o tp ts : Nat} {n : NN} {x : Nat → Nat} {M : Mem} {K : Int32 → Mem → Prop} (hn : atC M c n tp ts) (hs : s < 8) (ha : o + 10 ≤ alen a) (ha2 : alen a < 100000) (hx : ∀ p, p < 10 → M.1 a (o + p) = nI (x p) ∧ x p ≤ 999) (h : K (bI (can n x s)) M) : f_X1_allows c (nI s) a (nI o) M K := by
  refine X1_allows_sp hn.2.1 hn.2.2.2.1 (ac_okT hn) (ac_okG hn) (ac_oT hn) (ac_oG hn) (fun p hp => ?_) ha ha2 ?_
  · have := (hx p hp).2
    rw [(hx p hp).1, i_nI (by omega)]; omega
  · rw [isSt_bt hs, nI_CL (by omega)]
    have := canN_can (T := M.1 (c + 1)) (G := M.1 (c + 2)) (row := M.1 a) (S := M.1 c 6) (o := o) hn.2.2.2 hs (fun i hi => ac_T hn hi) (fun i hi => ac_G hn hi) (ac_S hn) hx
    unfold canN at this
    rw [this]
    exact h
def cL (M : Mem) (t : Nat) (n : NN) (g : GS) (i s : Nat) : Prop := cG M t g ∧ (∀ e, e < 8 * i + s → M.1 (t + 5) e = gx g e) ∧ (∀ j, j < i → M.1 (t + 4) j = nI (mN (can n (gm g j)) 8)) ∧ (0 < s → M.1 (t + 4) i = nI (mN (can n (gm g i)) s))
theorem cG_of {M M' : Mem} {t : Nat} {g : GS} (h : cG M t g) (h0 : M'.1 t 12 = M.1 t 12) (h0' : M'.1 t 13 = M.1 t 13) (h1 : ∀ i, i < gk g → ∀ p, p < 10 → M'.1 (t + 1) (10 * i + p) = M.1 (t + 1) (10 * i + p)) (h2 : M'.1 (t + 2) = M.1 (t + 2)) (h3 : M'.1 (t + 3) = M.1 (t + 3)) (h6 : M'.1 (t + 6) = M.1 (t + 6)) : cG M' t g := by
  refine ⟨by rw [h0]; exact h.1, by rw [h0']; exact h.2.1, fun i hi p hp => by rw [h1 i hi p hp]; exact h.2.2.1 i hi p hp, ?_, ?_⟩
  · rw [h2, h3]; exact h.2.2.2.1
  · rw [h6]; exact h.2.2.2.2
theorem atC_fr {M M' : Mem} {c tp ts : Nat} {n : NN} (h : atC M c n tp ts) (h0 : M'.1 c = M.1 c) (h1 : M'.1 (c + 1) = M.1 (c + 1)) (h2 : M'.1 (c + 2) = M.1 (c + 2)) (h3 : M'.1 (c + 3) = M.1 (c + 3)) : atC M' c n tp ts := by
  unfold atC nt
  rw [h0, h1, h2, h3]
  exact h
theorem atC_frC {M M' : Mem} {t c tp ts : Nat} {n : NN} (h : atC M c n tp ts) (hf : frC t M M') (hc : c + 3 < t ∨ t + 11 < c) : atC M' c n tp ts :=
  atC_fr h (hf.1 _ (by omega)) (hf.1 _ (by omega)) (hf.1 _ (by omega)) (hf.1 _ (by omega))
theorem frC_w {t a k : Nat} {u : Int32} {M : Mem} (h1 : t ≤ a) (h2 : a ≤ t + 11) : frC t M (wI M a k u) := ⟨fun b hb => w1_ne (by omega), rfl⟩
theorem frC_s {t a : Nat} {u : Nat → Int32} {M : Mem} (h1 : t ≤ a) (h2 : a ≤ t + 11) : frC t M (sA M a u) := ⟨fun b hb => sA_ne (by omega), rfl⟩
theorem X0_goFrom_sp {t c i tp ts : Nat} {n : NN} {g : GS} {M0 : Mem} {K : Mem → Prop} (ht : alen (t + 1) = 3010) (hc : c + 3 < t ∨ t + 11 < c) (hn : atC M0 c n tp ts) (v : GV g) (hi : i < gk g) (hxo : xok g (8 * i)) (hL : cL M0 t n g i 0)
    (h : ∀ M', cL M' t n (stU n i g 8) (i + 1) 0 → frC t M0 M' → (∀ k, k ≠ 12 → k ≠ 13 → M'.1 t k = M0.1 t k) → K M') : f_X0_goFrom t c (nI i) M0 K := by
  have k3 := v.1
  have w := hn.2.2.2
  unfold f_X0_goFrom
  refine ⟨(vp_nI (by omega) (by omega)).mpr (by omega), fun M2 e2 => ?_⟩
  rw [nI_CL (by omega)] at e2
  have key : ∀ d s, s + d = 8 → ∀ M : Mem, cL M t n (stU n i g s) i s → M.1 (t + 4) i = nI (mN (can n (gm g i)) s) → frC t M0 M → (∀ k, k ≠ 12 → k ≠ 13 → M.1 t k = M0.1 t k) → L_X0_goFrom_9 t c (nI i) (fun M_9 => K M_9) K (d + 1) (nI s) M := by
    intro d
    induction d with
    | zero =>
      intro s hs M hM h8 hf hk
      have : s = 8 := by omega
      subst this
      rw [L_X0_goFrom_9]; simp (disch := omega) only [forall_eq, gI, ix_z, m_10, m10_, m_80, m80_, m300_, m8_, m_8, nI_add, nI_A1, nI_E1, nI_L1, nI_1L, nI_1l, vp_nI, nI_LE, nI_LT, nI_EQ, nI_CL, nI_Z, l_2, l_3, l_4, l_5, l_6, l_7, l_8, l_9, l_10, l_11, l_12, l_13, l_14, l_15, l_16, l_17, l_18, l_19, l_20, l_21, l_22, l_23, l_24, l_25, l_26, l_27, l_28, l_29, l_30, l_32, l_48, l_57, l_59, l_63, l_80, l_96, l_97, l_99, l_122, l_128, l_160, l_170, l_171, l_172, l_200, l_240, l_255, l_256, l_260, l_300, l_900, l_999, l_1023, l_1024, l_1296, l_2064, l_2400, l_3010, l_4800, l_6000, l_600, l_10000]
      refine ⟨fun _ => h M ⟨hM.1, fun e he => hM.2.1 e (by omega), fun j hj => ?_, fun z => absurd z (by omega)⟩ hf hk, by omega⟩
      by_cases q : j = i
      · subst q; exact hM.2.2.2 (by omega)
      · exact hM.2.2.1 j (by omega)
    | succ d ih =>
      intro s hs M hM h8 hf hk
      obtain ⟨v', le', x', _⟩ := stU_v (n := n) v hi hxo s
      have mi : gm (stU n i g s) i = gm g i := (le'.2 i hi).1
      have hi' : i < gk (stU n i g s) := Nat.lt_of_lt_of_le hi le'.1
      have k3' := v'.1
      have hnM : atC M c n tp ts := atC_frC hn hf hc
      have eS : stU n i g (s + 1) = stS n i s (stU n i g s) := rfl
      rw [L_X0_goFrom_9]; simp (disch := omega) only [l_8, l_10, m_10, m_8, nI_add, nI_LE, nI_A1, vp_nI, nI_CL, forall_eq]
      refine ⟨by omega, fun _ => X1_allows_nn (x := gm g i) hnM (by omega) (by rw [ht]; omega) (by rw [ht]; omega) (fun p hp => ⟨by rw [hM.1.2.2.1 i hi' p hp, mi], v.2.2.2.1 i hi p hp⟩) ?_⟩
      unfold S_X0_goFrom_31
      refine ⟨fun hcn => ?_, fun hcn => ⟨(vp_nI (by omega) (by omega)).mpr (by omega), fun M4 e4 => ?_⟩⟩
      · have hcn := b_of0 hcn
        have hS : stU n i g (s + 1) = sx (stU n i g s) (8 * i + s) (-1) := by rw [eS]; unfold stS; rw [mi, hcn]; rfl
        have hmm : mN (can n (gm g i)) (s + 1) = mN (can n (gm g i)) s := by rw [mN_s, hcn]; rfl
        refine ⟨by omega, ih (s + 1) (by omega) _ ⟨?_, fun e he => ?_, fun j hj => ?_, fun _ => ?_⟩ ?_ (frC_tr hf (frC_w (by omega) (by omega))) (fun k h1 h2 => by rw [w1_ne (by omega)]; exact hk k h1 h2)⟩
        · rw [hS]; exact cG_of hM.1 (by rw [w1_ne (by omega)]) (by rw [w1_ne (by omega)]) (fun _ _ _ _ => by rw [w1_ne (by omega)]) (w1_ne (by omega)) (w1_ne (by omega)) (w1_ne (by omega))
        · rw [hS]
          show _ = upd (gx (stU n i g s)) (8 * i + s) _ e
          by_cases q : e = 8 * i + s
          · subst q; rw [upd_at, w1_at]
          · rw [upd_no q, w1_no q]; exact hM.2.1 e (by omega)
        · rw [hS, w1_ne (by omega)]; exact hM.2.2.1 j hj
        · rw [hS, w1_ne (by omega), h8]
          show _ = nI (mN (can n (gm (stU n i g s) i)) (s + 1))
          rw [mi, hmm]
        · rw [w1_ne (by omega), h8, hmm]
      · have hcn := b_ofn hcn
        have cc := (can_iff.mp hcn).2
        have hS : stU n i g (s + 1) = sx (come (stU n i g s) (mv n (gm g i) s) (nI i) (nI s)).1 (8 * i + s) (come (stU n i g s) (mv n (gm g i) s) (nI i) (nI s)).2 := by rw [eS]; unfold stS; rw [mi, if_pos hcn]
        have hmm : mN (can n (gm g i)) (s + 1) = mN (can n (gm g i)) s ||| 2 ^ s := by rw [mN_s, if_pos hcn]
        rw [nI_CL (by omega), gI, nI_CL (by omega), h8, shl_nI (by omega), nI_or, ← hmm] at e4
        have n4 : ∀ b, b ≠ t + 4 → M4.1 b = M.1 b := fun b hb => by rw [e4, w1_ne hb]
        have c4 : M4.1 t 12 = nI (gk (stU n i g s)) := by rw [n4 t (by omega)]; exact hM.1.1
        have at4 : atC M4 c n tp ts := atC_fr hnM (n4 _ (by omega)) (n4 _ (by omega)) (n4 _ (by omega)) (n4 _ (by omega))
        rw [c4, l_10, m_10, m_10]
        refine X1_move_sp (by rw [ac_S at4, isSt_bt (by omega), bt_nI (Nat.lt_trans (wf_S w) (by omega)) (by omega)]; exact (can_iff.mp hcn).1) (by omega) (by omega) (by omega) (by rw [ht]; omega) (by rw [ht]; omega) (by rw [ht]; omega) (by omega) ?_
        have mv9 := mv_999 hcn
        have q1 : ∀ p, p < 10 → mvF (M4.1 (c + 1)) (M4.1 (c + 2)) (M4.1 (t + 1)) s (10 * i) (10 * gk (stU n i g s)) 10 (10 * gk (stU n i g s) + p) = nI (mv n (gm g i) s p) := fun p hp => by
          unfold mvF
          rw [if_pos (by omega), show 10 * gk (stU n i g s) + p - 10 * gk (stU n i g s) = p by omega, ac_T at4 (by omega), ac_G at4 (by omega), n4 _ (by omega), hM.1.2.2.1 i hi' p hp, mi, nI_chg (cc p hp).1]
          rfl
        have g5 : cG (sA M4 (t + 1) (mvF (M4.1 (c + 1)) (M4.1 (c + 2)) (M4.1 (t + 1)) s (10 * i) (10 * gk (stU n i g s)) 10)) t (stU n i g s) := by
          refine cG_of hM.1 (by rw [sA_ne (by omega), n4 _ (by omega)]) (by rw [sA_ne (by omega), n4 _ (by omega)]) (fun j hj p hp => ?_) (by rw [sA_ne (by omega), n4 _ (by omega)]) (by rw [sA_ne (by omega), n4 _ (by omega)]) (by rw [sA_ne (by omega), n4 _ (by omega)])
          rw [sA_eq]; unfold mvF; rw [if_neg (by omega), n4 _ (by omega)]
        refine X0_findOrAdd_sp v' g5 (fun p hp => ⟨by rw [sA_eq]; exact q1 p hp, mv9 p hp⟩) (fun M6 b1 b2 b3 b4 b5 b6 => ⟨by omega, ?_⟩)
        obtain ⟨c1, c2, c3, c4', c5⟩ := come_v (f := nI i) (y := nI s) v' mv9 (Or.inr ⟨i, hi', rfl⟩)
        have a4 : M6.1 (t + 4) = upd (M.1 (t + 4)) i (nI (mN (can n (gm g i)) (s + 1))) := by rw [b4, sA_ne (by omega), e4, w1_eq]
        have a5 : M6.1 (t + 5) = M.1 (t + 5) := by rw [b5, sA_ne (by omega), n4 _ (by omega)]
        have f6 : frC t M M6 := frC_tr (by rw [e4]; exact frC_w (by omega) (by omega)) (frC_tr (frC_s (by omega) (by omega)) b2)
        have mgi : gm (come (stU n i g s) (mv n (gm g i) s) (nI i) (nI s)).1 i = gm g i := by rw [(c3 i hi').1, mi]
        refine ih (s + 1) (by omega) _ ⟨?_, fun e he => ?_, fun j hj => ?_, fun _ => ?_⟩ ?_ (frC_tr hf (frC_tr f6 (frC_w (by omega) (by omega)))) (fun k h1 h2 => by rw [w1_ne (by omega), b6 k h1 h2, sA_ne (by omega), n4 _ (by omega)]; exact hk k h1 h2)
        · rw [hS]; exact cG_of (g := (come (stU n i g s) (mv n (gm g i) s) (nI i) (nI s)).1) b1 (by rw [w1_ne (by omega)]) (by rw [w1_ne (by omega)]) (fun _ _ _ _ => by rw [w1_ne (by omega)]) (w1_ne (by omega)) (w1_ne (by omega)) (w1_ne (by omega))
        · rw [hS]
          show _ = upd (gx (come (stU n i g s) (mv n (gm g i) s) (nI i) (nI s)).1) (8 * i + s) _ e
          by_cases q : e = 8 * i + s
          · subst q; rw [upd_at, w1_at]
          · rw [upd_no q, c4', w1_no q, a5]; exact hM.2.1 e (by omega)
        · rw [hS, w1_ne (by omega), a4, upd_no (by omega), hM.2.2.1 j hj]
          show _ = nI (mN (can n (gm (come (stU n i g s) (mv n (gm g i) s) (nI i) (nI s)).1 j)) 8)
          rw [(c3 j (by omega)).1]
        · rw [hS, w1_ne (by omega), a4, upd_at]
          show _ = nI (mN (can n (gm (come (stU n i g s) (mv n (gm g i) s) (nI i) (nI s)).1 i)) (s + 1))
          rw [mgi]
        · rw [w1_ne (by omega), a4, upd_at]
  refine ⟨_, key 8 0 (by omega) M2 ⟨cG_of hL.1 (by rw [e2, w1_ne (by omega)]) (by rw [e2, w1_ne (by omega)]) (fun _ _ _ _ => by rw [e2, w1_ne (by omega)]) (by rw [e2, w1_ne (by omega)]) (by rw [e2, w1_ne (by omega)]) (by rw [e2, w1_ne (by omega)]), fun e he => by rw [e2, w1_ne (by omega)]; exact hL.2.1 e he, fun j hj => by rw [e2, w1_no (by omega)]; exact hL.2.2.1 j hj, fun z => absurd z (by omega)⟩ (by rw [e2, w1_at]; rfl) (by rw [e2]; exact frC_w (by omega) (by omega)) (fun k _ _ => by rw [e2, w1_ne (by omega)])⟩
