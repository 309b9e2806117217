/-! the reference lays the graph -/
theorem nI_chg {x G T : Nat} (h : T ≤ x) : nI x + (nI G - nI T) = nI (x + G - T) := by
  have : x + G - T + T = x + G := by omega
  have e : nI (x + G - T) + nI T = nI x + nI G := by rw [nI_add, nI_add, this]
  rw [Int32.sub_eq_add_neg, ← Int32.add_assoc, ← e, ← Int32.sub_eq_add_neg, Int32.add_sub_cancel]
theorem canN_can {T G row : Nat → Int32} {S : Int32} {n : NN} {x : Nat → Nat} {s o tp ts : Nat} (w : WF n tp ts) (hs : s < 8) (hT : ∀ i, i < 80 → T i = nI (nT n i)) (hG : ∀ i, i < 80 → G i = nI (nG n i)) (hS : S = nI (nS n)) (hr : ∀ p, p < 10 → row (o + p) = nI (x p) ∧ x p ≤ 999) : canN T G row S s o = can n x s := by
  have hS8 := wf_S w
  unfold canN can
  rw [hS, bt_nI (by omega) (by omega)]
  congr 1
  refine allB_cong (fun p hp => ?_)
  have a1 := wf_T3 w (10 * s + p)
  have a2 := wf_G3 w (10 * s + p)
  have a3 := (hr p hp).2
  unfold can1
  rw [hT _ (by omega), hG _ (by omega), (hr p hp).1, Bool.eq_iff_iff, Bool.and_eq_true, decide_eq_true_iff, decide_eq_true_iff, decide_eq_true_iff, nI_LE (by omega) (by omega)]
  by_cases q : nT n (10 * s + p) ≤ x p
  · have e : nI (x p) - nI (nT n (10 * s + p)) + nI (nG n (10 * s + p)) = nI (x p + nG n (10 * s + p) - nT n (10 * s + p)) := by
      rw [← nI_chg q, Int32.sub_eq_add_neg, Int32.sub_eq_add_neg, Int32.add_assoc, Int32.add_comm (-nI _)]
    rw [e, l_999, nI_LE (by omega) (by omega)]
    exact ⟨fun h => ⟨q, by omega⟩, fun h => ⟨q, by omega⟩⟩
  · exact ⟨fun h => absurd h.1 q, fun h => absurd h.1 q⟩
theorem X9_l140_sp {o i s : Nat} {n : NN} {x : Nat → Nat} {v2 : Int32} {M : Mem} {X K : Mem → Prop} (ho : o < 2) (hi : 300 * o + i < 600) (hs : s < 8) (hn : rt M o = enc n) (hm : ∀ p, p < 10 → M.1 24 (10 * (300 * o + i) + p) = nI (x p)) (hc : can n x s = true)
    (h : ∀ M', (∀ p, p < 10 → M'.1 31 p = nI (mv n x s p)) → (∀ b, b ≠ 31 → M'.1 b = M.1 b) → M'.2 = M.2 → X M') : ∃ k, L_X9_layGraph_140 (nI o) v2 (nI (300 * o + i)) (nI s) X K k 0 M := by
  have cc := (can_iff.mp hc).2
  have key : ∀ d j, j + d = 10 → ∀ M1 : Mem, (∀ p, p < j → M1.1 31 p = nI (mv n x s p)) → (∀ b, b ≠ 31 → M1.1 b = M.1 b) → M1.2 = M.2 → L_X9_layGraph_140 (nI o) v2 (nI (300 * o + i)) (nI s) X K (d + 1) (nI j) M1 := by
    intro d
    induction d with
    | zero =>
      intro j hj M1 h1 h2 h3
      rw [L_X9_layGraph_140]; simp (disch := omega) only [forall_eq, gI, ix_z, m_10, m10_, m_80, m80_, m300_, m8_, m_8, nI_add, nI_A1, nI_E1, nI_L1, nI_1L, nI_1l, vp_nI, nI_LE, nI_LT, nI_EQ, nI_CL, nI_Z, l_2, l_3, l_4, l_5, l_6, l_7, l_8, l_9, l_10, l_11, l_12, l_13, l_14, l_15, l_16, l_17, l_18, l_19, l_20, l_21, l_22, l_23, l_24, l_25, l_26, l_27, l_28, l_29, l_30, l_32, l_48, l_57, l_59, l_63, l_80, l_96, l_97, l_99, l_122, l_128, l_160, l_170, l_171, l_172, l_200, l_240, l_255, l_256, l_260, l_300, l_900, l_999, l_1023, l_1024, l_1296, l_2064, l_2400, l_3010, l_4800, l_6000, l_600, l_10000]
      exact ⟨fun _ => h M1 (fun p hp => h1 p (by omega)) h2 h3, by omega⟩
    | succ d ih =>
      intro j hj M1 h1 h2 h3
      rw [L_X9_layGraph_140]; simp (disch := omega) only [forall_eq, gI, ix_z, m_10, m10_, m_80, m80_, m300_, m8_, m_8, nI_add, nI_A1, nI_E1, nI_L1, nI_1L, nI_1l, vp_nI, nI_LE, nI_LT, nI_EQ, nI_CL, nI_Z, l_2, l_3, l_4, l_5, l_6, l_7, l_8, l_9, l_10, l_11, l_12, l_13, l_14, l_15, l_16, l_17, l_18, l_19, l_20, l_21, l_22, l_23, l_24, l_25, l_26, l_27, l_28, l_29, l_30, l_32, l_48, l_57, l_59, l_63, l_80, l_96, l_97, l_99, l_122, l_128, l_160, l_170, l_171, l_172, l_200, l_240, l_255, l_256, l_260, l_300, l_900, l_999, l_1023, l_1024, l_1296, l_2064, l_2400, l_3010, l_4800, l_6000, l_600, l_10000]
      refine ⟨by omega, fun _ => ⟨by omega, X9_change_sp (by omega) hs (by omega) ⟨by omega, ?_⟩⟩⟩
      have e24 : M1.1 24 (10 * (300 * o + i) + j) = nI (x j) := by rw [h2 24 (by decide)]; exact hm j (by omega)
      have eG : M1.1 2 (80 * o + 10 * s + j) = nI (nG n (10 * s + j)) := by rw [h2 2 (by decide), Nat.add_assoc]; exact rt_G hn (by omega)
      have eT : M1.1 1 (80 * o + 10 * s + j) = nI (nT n (10 * s + j)) := by rw [h2 1 (by decide), Nat.add_assoc]; exact rt_T hn (by omega)
      rw [e24, eG, eT, nI_chg (cc j (by omega)).1]
      refine ih (j + 1) (by omega) _ (fun p hp => ?_) (fun b hb => by rw [w1_ne hb, h2 b hb]) (by rw [w1_2, h3])
      by_cases q : p = j
      · subst q; rw [w1_at]; rfl
      · rw [w1_no q]; exact h1 p (by omega)
  exact ⟨_, key 10 0 (by omega) M (fun p hp => absurd hp (Nat.not_lt_zero p)) (fun _ _ => rfl) rfl⟩
theorem mN_s (c : Nat → Bool) (n : Nat) : mN c (n + 1) = if c n = true then mN c n ||| 2 ^ n else mN c n := by
  rw [mN]
  cases c n
  · exact Nat.or_zero _
  · rfl
theorem mN_cong {c d : Nat → Bool} : ∀ {n : Nat}, (∀ j, j < n → c j = d j) → mN c n = mN d n
  | 0, _ => rfl
  | n + 1, h => by rw [mN, mN, mN_cong (fun j hj => h j (by omega)), h n (by omega)]
/-- the graph on the way, as the reference has it -/
def rL (M : Mem) (o : Nat) (n : NN) (g : GS) (i s : Nat) : Prop := rG M o g ∧ (∀ e, e < 8 * i + s → M.1 29 (8 * (300 * o) + e) = gx g e) ∧ (∀ j, j < i → M.1 28 (300 * o + j) = nI (mN (can n (gm g j)) 8)) ∧ (0 < s → M.1 28 (300 * o + i) = nI (mN (can n (gm g i)) s))
theorem rt_fr {o : Nat} {M M' : Mem} (h : frG o M M') (o' : Nat) : rt M' o' = rt M o' := by
  have f := h.1
  unfold rt
  rw [f 1 (by decide) (by decide) (by decide) (by decide) (by decide) (by decide) (by decide) (by decide) (by decide), f 2 (by decide) (by decide) (by decide) (by decide) (by decide) (by decide) (by decide) (by decide) (by decide), f 3 (by decide) (by decide) (by decide) (by decide) (by decide) (by decide) (by decide) (by decide) (by decide), f 4 (by decide) (by decide) (by decide) (by decide) (by decide) (by decide) (by decide) (by decide) (by decide), f 5 (by decide) (by decide) (by decide) (by decide) (by decide) (by decide) (by decide) (by decide) (by decide)]
theorem rG_of {M M' : Mem} {o : Nat} {g : GS} (h : rG M o g) (h24 : M'.1 24 = M.1 24) (h25 : M'.1 25 = M.1 25) (h26 : M'.1 26 = M.1 26) (h27 : M'.1 27 = M.1 27) (h30 : M'.1 30 = M.1 30) (h33 : M'.1 33 = M.1 33) : rG M' o g := by
  unfold rG
  rw [h24, h25, h26, h27, h30, h33]
  exact h
theorem frG_28 {M : Mem} {o a : Nat} {v : Int32} (h1 : 300 * o ≤ a) (h2 : a < 300 * o + 300) : frG o M (wI M 28 a v) := by
  refine ⟨fun b _ _ _ _ h5 _ _ _ _ => w1_ne h5, rfl, fun i _ => by rw [w1_ne (by decide)], fun i hi => ⟨by rw [w1_ne (by decide)], by rw [w1_ne (by decide)], by rw [w1_ne (by decide)], w1_no (by omega)⟩, fun i _ => by rw [w1_ne (by decide)], fun i _ => ⟨by rw [w1_ne (by decide)], by rw [w1_ne (by decide)]⟩⟩
theorem frG_29 {M : Mem} {o a : Nat} {v : Int32} (h1 : 2400 * o ≤ a) (h2 : a < 2400 * o + 2400) : frG o M (wI M 29 a v) := by
  refine ⟨fun b _ _ _ _ _ h6 _ _ _ => w1_ne h6, rfl, fun i _ => by rw [w1_ne (by decide)], fun i hi => ⟨by rw [w1_ne (by decide)], by rw [w1_ne (by decide)], by rw [w1_ne (by decide)], by rw [w1_ne (by decide)]⟩, fun i hi => w1_no (by omega), fun i _ => ⟨by rw [w1_ne (by decide)], by rw [w1_ne (by decide)]⟩⟩
theorem frG_31 {M M' : Mem} {o : Nat} (h : ∀ b, b ≠ 31 → M'.1 b = M.1 b) (h2 : M'.2 = M.2) : frG o M M' := by
  refine ⟨fun b _ _ _ _ _ _ _ h8 _ => h b h8, h2, fun i _ => by rw [h 24 (by decide)], fun i _ => by rw [h 25 (by decide), h 26 (by decide), h 27 (by decide), h 28 (by decide)]; exact ⟨rfl, rfl, rfl, rfl⟩, fun i _ => by rw [h 29 (by decide)], fun i _ => by rw [h 30 (by decide), h 33 (by decide)]; exact ⟨rfl, rfl⟩⟩
theorem X9_l83_sp {o i tp ts : Nat} {n : NN} {g : GS} {M0 : Mem} {X K : Mem → Prop} (ho : o < 2) (w : WF n tp ts) (v : GV g) (hi : i < gk g) (hxo : xok g (8 * i)) (hn : rt M0 o = enc n) (hL : rL M0 o n g i 0) (h28 : M0.1 28 (300 * o + i) = 0)
    (h : ∀ M', rL M' o n (stU n i g 8) (i + 1) 0 → frG o M0 M' → X M') : ∃ k, L_X9_layGraph_83 (nI o) (nI i) (nI (300 * o + i)) X K k 0 M0 := by
  have k3 := v.1
  have key : ∀ d s, s + d = 8 → ∀ M : Mem, rL M o n (stU n i g s) i s → M.1 28 (300 * o + i) = nI (mN (can n (gm g i)) s) → frG o M0 M → L_X9_layGraph_83 (nI o) (nI i) (nI (300 * o + i)) X K (d + 1) (nI s) M := by
    intro d
    induction d with
    | zero =>
      intro s hs M hM h8 hf
      have : s = 8 := by omega
      subst this
      rw [L_X9_layGraph_83]; simp (disch := omega) only [forall_eq, gI, ix_z, m_10, m10_, m_80, m80_, m300_, m8_, m_8, nI_add, nI_A1, nI_E1, nI_L1, nI_1L, nI_1l, vp_nI, nI_LE, nI_LT, nI_EQ, nI_CL, nI_Z, l_2, l_3, l_4, l_5, l_6, l_7, l_8, l_9, l_10, l_11, l_12, l_13, l_14, l_15, l_16, l_17, l_18, l_19, l_20, l_21, l_22, l_23, l_24, l_25, l_26, l_27, l_28, l_29, l_30, l_32, l_48, l_57, l_59, l_63, l_80, l_96, l_97, l_99, l_122, l_128, l_160, l_170, l_171, l_172, l_200, l_240, l_255, l_256, l_260, l_300, l_900, l_999, l_1023, l_1024, l_1296, l_2064, l_2400, l_3010, l_4800, l_6000, l_600, l_10000]
      refine ⟨fun _ => h M ⟨hM.1, fun e he => hM.2.1 e (by omega), fun j hj => ?_, fun z => absurd z (by omega)⟩ hf, by omega⟩
      by_cases q : j = i
      · subst q; exact hM.2.2.2 (by omega)
      · exact hM.2.2.1 j (by omega)
    | succ d ih =>
      intro s hs M hM h8 hf
      obtain ⟨v', le', x', _⟩ := stU_v (n := n) v hi hxo s
      have mi : gm (stU n i g s) i = gm g i := (le'.2 i hi).1
      have hi' : i < gk (stU n i g s) := Nat.lt_of_lt_of_le hi le'.1
      have k3' := v'.1
      rw [L_X9_layGraph_83]; simp (disch := omega) only [forall_eq, gI, ix_z, m_10, m10_, m_80, m80_, m300_, m8_, m_8, nI_add, nI_A1, nI_E1, nI_L1, nI_1L, nI_1l, vp_nI, nI_LE, nI_LT, nI_EQ, nI_CL, nI_Z, l_2, l_3, l_4, l_5, l_6, l_7, l_8, l_9, l_10, l_11, l_12, l_13, l_14, l_15, l_16, l_17, l_18, l_19, l_20, l_21, l_22, l_23, l_24, l_25, l_26, l_27, l_28, l_29, l_30, l_32, l_48, l_57, l_59, l_63, l_80, l_96, l_97, l_99, l_122, l_128, l_160, l_170, l_171, l_172, l_200, l_240, l_255, l_256, l_260, l_300, l_900, l_999, l_1023, l_1024, l_1296, l_2064, l_2400, l_3010, l_4800, l_6000, l_600, l_10000]
      refine ⟨by omega, fun _ => ⟨by omega, ?_⟩⟩
      refine X9_canBe_sp (by omega) (by omega) (by rw [show alen 24 = 6000 from rfl]; omega) (by rw [show alen 24 = 6000 from rfl]; omega) ?_
      have hn8 : rt M o = enc n := by rw [rt_fr hf]; exact hn
      rw [canN_can (n := n) (x := gm g i) w (by omega) (fun j hj => by rw [w1_ne (by decide)]; exact rt_T hn8 hj) (fun j hj => by rw [w1_ne (by decide)]; exact rt_G hn8 hj) (by rw [w1_ne (by decide)]; exact rt_S hn8) (fun p hp => ⟨by rw [w1_ne (by decide), hM.1.2.2.1 i hi' p hp, mi], v.2.2.2.1 i hi p hp⟩)]
      have eS : stU n i g (s + 1) = stS n i s (stU n i g s) := rfl
      refine ⟨fun hc => ?_, fun hc => ?_⟩
      · have hc := b_ofn hc
        refine ⟨by omega, ?_⟩
        rw [w1_ne (show (28 : Nat) ≠ 29 by decide), h8, shl_nI (by omega), nI_or]
        have hS : stU n i g (s + 1) = sx (come (stU n i g s) (mv n (gm g i) s) (nI i) (nI s)).1 (8 * i + s) (come (stU n i g s) (mv n (gm g i) s) (nI i) (nI s)).2 := by rw [eS]; unfold stS; rw [mi, if_pos hc]
        have hmm : mN (can n (gm g i)) (s + 1) = mN (can n (gm g i)) s ||| 2 ^ s := by rw [mN_s, if_pos hc]
        refine X9_l140_sp (n := n) (x := gm g i) ho (by omega) (by omega) (by rw [show rt (wI (wI M 29 (8 * (300 * o + i) + s) (-1)) 28 (300 * o + i) (nI (mN (can n (gm g i)) s ||| 2 ^ s))) o = rt M o from rfl]; exact hn8) (fun p hp => by rw [w1_ne (by decide), w1_ne (by decide), hM.1.2.2.1 i hi' p hp, mi]) hc (fun M13 a1 a2 a3 => ?_)
        have f13 : frG o M M13 := frG_tr (frG_29 (a := 8 * (300 * o + i) + s) (v := -1) (by omega) (by omega)) (frG_tr (frG_28 (a := 300 * o + i) (v := nI (mN (can n (gm g i)) s ||| 2 ^ s)) (by omega) (by omega)) (frG_31 a2 a3))
        have g13 : rG M13 o (stU n i g s) := rG_of hM.1 (by rw [a2 24 (by decide), w1_ne (by decide), w1_ne (by decide)]) (by rw [a2 25 (by decide), w1_ne (by decide), w1_ne (by decide)]) (by rw [a2 26 (by decide), w1_ne (by decide), w1_ne (by decide)]) (by rw [a2 27 (by decide), w1_ne (by decide), w1_ne (by decide)]) (by rw [a2 30 (by decide), w1_ne (by decide), w1_ne (by decide)]) (by rw [a2 33 (by decide), w1_ne (by decide), w1_ne (by decide)])
        have mv9 := mv_999 hc
        refine X9_comes_sp ho v' g13 (fun p hp => ⟨a1 p hp, mv9 p hp⟩) (Or.inr ⟨i, hi', rfl⟩) (fun M14 b1 b2 b3 b4 => ⟨by omega, ?_⟩)
        obtain ⟨c1, c2, c3, c4, c5⟩ := come_v (f := nI i) (y := nI s) v' mv9 (Or.inr ⟨i, hi', rfl⟩)
        have q28 : ∀ j, j ≠ 300 * o + i → M14.1 28 j = M.1 28 j := fun j hj => by rw [b3, a2 28 (by decide), w1_no hj, w1_ne (by decide)]
        have q28' : M14.1 28 (300 * o + i) = nI (mN (can n (gm g i)) s ||| 2 ^ s) := by rw [b3, a2 28 (by decide), w1_at]
        have q29 : ∀ j, j ≠ 8 * (300 * o + i) + s → M14.1 29 j = M.1 29 j := fun j hj => by rw [b4, a2 29 (by decide), w1_ne (by decide), w1_no hj]
        have mgi : gm (come (stU n i g s) (mv n (gm g i) s) (nI i) (nI s)).1 i = gm g i := by rw [(c3 i hi').1, mi]
        refine ih (s + 1) (by omega) _ ⟨?_, fun e he => ?_, fun j hj => ?_, fun _ => ?_⟩ ?_ (frG_tr hf (frG_tr f13 (frG_tr b2 (frG_29 (by omega) (by omega)))))
        · rw [hS]; exact rG_of b1 (w1_ne (by decide)) (w1_ne (by decide)) (w1_ne (by decide)) (w1_ne (by decide)) (w1_ne (by decide)) (w1_ne (by decide))
        · rw [hS]
          show _ = upd (gx (come (stU n i g s) (mv n (gm g i) s) (nI i) (nI s)).1) (8 * i + s) _ e
          by_cases q : e = 8 * i + s
          · subst q; rw [upd_at, show 8 * (300 * o) + (8 * i + s) = 8 * (300 * o + i) + s by omega, w1_at]
          · rw [upd_no q, c4, w1_no (by omega), q29 _ (by omega)]; exact hM.2.1 e (by omega)
        · rw [hS, w1_ne (by decide), q28 _ (by omega), hM.2.2.1 j hj]
          show _ = nI (mN (can n (gm (come (stU n i g s) (mv n (gm g i) s) (nI i) (nI s)).1 j)) 8)
          rw [(c3 j (by omega)).1]
        · rw [hS, w1_ne (by decide), q28']
          show _ = nI (mN (can n (gm (come (stU n i g s) (mv n (gm g i) s) (nI i) (nI s)).1 i)) (s + 1))
          rw [mgi, hmm]
        · rw [w1_ne (by decide), q28', hmm]
      · have hc := b_of0 hc
        have hS : stU n i g (s + 1) = sx (stU n i g s) (8 * i + s) (-1) := by rw [eS]; unfold stS; rw [mi, hc]; rfl
        have hmm : mN (can n (gm g i)) (s + 1) = mN (can n (gm g i)) s := by rw [mN_s, hc]; rfl
        refine ih (s + 1) (by omega) _ ⟨?_, fun e he => ?_, fun j hj => ?_, fun _ => ?_⟩ ?_ (frG_tr hf (frG_29 (by omega) (by omega)))
        · rw [hS]; exact rG_of hM.1 (w1_ne (by decide)) (w1_ne (by decide)) (w1_ne (by decide)) (w1_ne (by decide)) (w1_ne (by decide)) (w1_ne (by decide))
        · rw [hS]
          show _ = upd (gx (stU n i g s)) (8 * i + s) _ e
          by_cases q : e = 8 * i + s
          · subst q; rw [upd_at, show 8 * (300 * o) + (8 * i + s) = 8 * (300 * o + i) + s by omega, w1_at]
          · rw [upd_no q, w1_no (by omega)]; exact hM.2.1 e (by omega)
        · rw [hS, w1_ne (by decide)]; exact hM.2.2.1 j hj
        · rw [hS, w1_ne (by decide), h8]
          show _ = nI (mN (can n (gm (stU n i g s) i)) (s + 1))
          rw [mi, hmm]
        · rw [w1_ne (by decide), h8, hmm]
  exact ⟨_, key 8 0 (by omega) M0 hL (by rw [h28]; rfl) (frG_rf o M0)⟩
