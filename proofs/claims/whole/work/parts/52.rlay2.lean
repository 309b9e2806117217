theorem lpG_v {n : NN} : ∀ {k i : Nat} {g : GS}, GV g → i ≤ gk g → xok g (8 * i) → GV (lpG n k i g) ∧ gle g (lpG n k i g) ∧ (301 ≤ k + i → xok (lpG n k i g) (8 * gk (lpG n k i g)))
  | 0, i, g, v, hi, hx => ⟨v, gle_rf g, fun h => by have := v.1; omega⟩
  | k + 1, i, g, v, hi, hx => by
    rw [lpG]
    by_cases q : i < gk g
    · rw [if_pos q]
      obtain ⟨a, b, c, _⟩ := stU_v (n := n) v q hx 8
      obtain ⟨a', b', c'⟩ := lpG_v (n := n) (k := k) (i := i + 1) a (by have := b.1; omega) c
      exact ⟨a', gle_tr b b', fun h => c' (by omega)⟩
    · rw [if_neg q]
      have : i = gk g := by omega
      subst this
      exact ⟨v, gle_rf g, fun _ => hx⟩
theorem bfs_v {n : NN} {tp ts : Nat} (w : WF n tp ts) : GV (bfs n) ∧ gle (gst n) (bfs n) ∧ xok (bfs n) (8 * gk (bfs n)) := by
  obtain ⟨v, k⟩ := gv_0 n w
  obtain ⟨a, b, c⟩ := lpG_v (n := n) (k := 301) (i := 0) v (Nat.zero_le _) (fun e he => absurd he (by omega))
  exact ⟨a, b, c (by omega)⟩
theorem X9_l55_sp {o tp ts : Nat} {n : NN} {M0 : Mem} {X K : Mem → Prop} (ho : o < 2) (w : WF n tp ts) (hn : rt M0 o = enc n) : ∀ {f i : Nat} {g : GS} {M : Mem}, 301 ≤ f + i → GV g → i ≤ gk g → xok g (8 * i) → rL M o n g i 0 → frG o M0 M → (∀ M', rL M' o n (lpG n f i g) (gk (lpG n f i g)) 0 → frG o M0 M' → X M') → L_X9_layGraph_55 (nI o) X K f (nI i) M := by
  intro f
  induction f with
  | zero => intro i g M h1 v h2; have := v.1; omega
  | succ f ih =>
    intro i g M h1 v h2 hx hL hf h
    have k3 := v.1
    rw [L_X9_layGraph_55]; simp (disch := omega) only [forall_eq, gI, ix_z, m_10, m10_, m_80, m80_, m300_, m8_, m_8, nI_add, nI_A1, nI_E1, nI_L1, nI_1L, nI_1l, vp_nI, nI_LE, nI_LT, nI_EQ, nI_CL, nI_Z, l_2, l_3, l_4, l_5, l_6, l_7, l_8, l_9, l_10, l_11, l_12, l_13, l_14, l_15, l_16, l_17, l_18, l_19, l_20, l_21, l_22, l_23, l_24, l_25, l_26, l_27, l_28, l_29, l_30, l_32, l_48, l_57, l_59, l_63, l_80, l_96, l_97, l_99, l_122, l_128, l_160, l_170, l_171, l_172, l_200, l_240, l_255, l_256, l_260, l_300, l_900, l_999, l_1023, l_1024, l_1296, l_2064, l_2400, l_3010, l_4800, l_6000, l_600, l_10000, hL.1.1]
    rw [lpG] at h
    refine ⟨by omega, fun q => ?_, fun q => ⟨by omega, ?_⟩⟩
    · rw [if_neg (by omega)] at h
      have : i = gk g := by omega
      subst this
      exact h M hL hf
    · rw [if_pos (by omega)] at h
      have hi : i < gk g := by omega
      obtain ⟨a, b, c, _⟩ := stU_v (n := n) v hi hx 8
      have f7 : frG o M (wI M 28 (300 * o + i) 0) := frG_28 (by omega) (by omega)
      refine X9_l83_sp ho w v hi hx (by rw [rt_fr f7, rt_fr hf]; exact hn) ⟨rG_of hL.1 (w1_ne (by decide)) (w1_ne (by decide)) (w1_ne (by decide)) (w1_ne (by decide)) (w1_ne (by decide)) (w1_ne (by decide)), fun e he => by rw [w1_ne (by decide)]; exact hL.2.1 e he, fun j hj => by rw [w1_no (by omega)]; exact hL.2.2.1 j hj, fun z => absurd z (by omega)⟩ w1_at (fun M' m1 m2 => ih (by omega) a (by have := b.1; omega) c m1 (frG_tr hf (frG_tr f7 m2)) h)
theorem X9_l16_sp {o : Nat} {M : Mem} {X K : Mem → Prop} (ho : o < 3) (h : ∀ M', (∀ p, p < 10 → M'.1 31 p = M.1 3 (10 * o + p)) → (∀ b, b ≠ 31 → M'.1 b = M.1 b) → M'.2 = M.2 → X M') : ∃ k, L_X9_layGraph_16 (nI o) X K k 0 M := by
  have key : ∀ d j, j + d = 10 → ∀ M1 : Mem, (∀ p, p < j → M1.1 31 p = M.1 3 (10 * o + p)) → (∀ b, b ≠ 31 → M1.1 b = M.1 b) → M1.2 = M.2 → L_X9_layGraph_16 (nI o) X K (d + 1) (nI j) M1 := by
    intro d
    induction d with
    | zero =>
      intro j hj M1 h1 h2 h3
      rw [L_X9_layGraph_16]; simp (disch := omega) only [forall_eq, gI, ix_z, m_10, m10_, m_80, m80_, m300_, m8_, m_8, nI_add, nI_A1, nI_E1, nI_L1, nI_1L, nI_1l, vp_nI, nI_LE, nI_LT, nI_EQ, nI_CL, nI_Z, l_2, l_3, l_4, l_5, l_6, l_7, l_8, l_9, l_10, l_11, l_12, l_13, l_14, l_15, l_16, l_17, l_18, l_19, l_20, l_21, l_22, l_23, l_24, l_25, l_26, l_27, l_28, l_29, l_30, l_32, l_48, l_57, l_59, l_63, l_80, l_96, l_97, l_99, l_122, l_128, l_160, l_170, l_171, l_172, l_200, l_240, l_255, l_256, l_260, l_300, l_900, l_999, l_1023, l_1024, l_1296, l_2064, l_2400, l_3010, l_4800, l_6000, l_600, l_10000]
      exact ⟨fun _ => h M1 (fun p hp => h1 p (by omega)) h2 h3, by omega⟩
    | succ d ih =>
      intro j hj M1 h1 h2 h3
      rw [L_X9_layGraph_16]; simp (disch := omega) only [forall_eq, gI, ix_z, m_10, m10_, m_80, m80_, m300_, m8_, m_8, nI_add, nI_A1, nI_E1, nI_L1, nI_1L, nI_1l, vp_nI, nI_LE, nI_LT, nI_EQ, nI_CL, nI_Z, l_2, l_3, l_4, l_5, l_6, l_7, l_8, l_9, l_10, l_11, l_12, l_13, l_14, l_15, l_16, l_17, l_18, l_19, l_20, l_21, l_22, l_23, l_24, l_25, l_26, l_27, l_28, l_29, l_30, l_32, l_48, l_57, l_59, l_63, l_80, l_96, l_97, l_99, l_122, l_128, l_160, l_170, l_171, l_172, l_200, l_240, l_255, l_256, l_260, l_300, l_900, l_999, l_1023, l_1024, l_1296, l_2064, l_2400, l_3010, l_4800, l_6000, l_600, l_10000]
      refine ⟨by omega, fun _ => ⟨by omega, by omega, ?_⟩⟩
      refine ih (j + 1) (by omega) _ (fun p hp => ?_) (fun b hb => by rw [w1_ne hb, h2 b hb]) (by rw [w1_2, h3])
      by_cases q : p = j
      · subst q; rw [w1_at, h2 3 (by decide)]
      · rw [w1_no q]; exact h1 p (by omega)
  exact ⟨_, key 10 0 (by omega) M (fun p hp => absurd hp (Nat.not_lt_zero p)) (fun _ _ => rfl) rfl⟩
/-- the graph, laid -/
def rB (M : Mem) (o : Nat) (n : NN) : Prop := rL M o n (bfs n) (gk (bfs n)) 0
theorem X9_layGraph_sp {o tp ts : Nat} {n : NN} {M : Mem} {K : Mem → Prop} (ho : o < 2) (w : WF n tp ts) (hn : rt M o = enc n) (h : ∀ M', rB M' o n → frG o M M' → K M') : f_X9_layGraph (nI o) M K := by
  unfold f_X9_layGraph
  refine ⟨(vp_nI (by omega) (by omega)).mpr ho, fun M2 e2 M3 e3 => ?_⟩
  rw [nI_CL (by omega)] at e2 e3
  rw [show (0 : Int32) &&& 1 = 0 by decide] at e3
  have f3 : frG o M M3 := by
    refine ⟨fun b _ _ _ _ _ _ h7 _ h9 => by rw [e3, w1_ne h9, e2, w1_ne h7], by rw [e3, w1_2, e2, w1_2], fun i _ => by rw [e3, w1_ne (by decide), e2, w1_ne (by decide)], fun i _ => ⟨by rw [e3, w1_ne (by decide), e2, w1_ne (by decide)], by rw [e3, w1_ne (by decide), e2, w1_ne (by decide)], by rw [e3, w1_ne (by decide), e2, w1_ne (by decide)], by rw [e3, w1_ne (by decide), e2, w1_ne (by decide)]⟩, fun i _ => by rw [e3, w1_ne (by decide), e2, w1_ne (by decide)], fun i hi => ⟨by rw [e3, w1_ne (by decide), e2, w1_no hi], by rw [e3, w1_no hi, e2, w1_ne (by decide)]⟩⟩
  refine X9_l16_sp (by omega) (fun M5 a1 a2 a3 => ?_)
  have f5 : frG o M M5 := frG_tr f3 (frG_31 a2 a3)
  have hn3 : rt M3 o = enc n := by rw [rt_fr f3]; exact hn
  have g5 : rG M5 o g00 := by
    refine ⟨?_, ?_, fun i hi => absurd hi (Nat.not_lt_zero i), fun i hi => absurd hi (Nat.not_lt_zero i), fun i => i, fun i hi => absurd hi (Nat.not_lt_zero i)⟩
    · rw [a2 30 (by decide), e3, w1_ne (by decide), e2, w1_at]; rfl
    · rw [a2 33 (by decide), e3, w1_at]; rfl
  have v0 : GV g00 := ⟨by decide, fun e => (by cases e), fun i j hi => absurd hi (Nat.not_lt_zero i), fun i hi => absurd hi (Nat.not_lt_zero i), fun i hi => absurd hi (Nat.not_lt_zero i)⟩
  refine X9_comes_sp (x := nH n) ho v0 g5 (fun p hp => ⟨by rw [a1 p hp]; exact rt_H hn3 hp, wf_H w p⟩) (Or.inl ⟨rfl, rfl⟩) (fun M6 b1 b2 b3 b4 => ⟨301, ?_⟩)
  obtain ⟨v, k1⟩ := gv_0 n w
  refine X9_l55_sp (M0 := M) (i := 0) (g := gst n) ho w hn (by omega) v (Nat.zero_le _) (fun e he => absurd he (by omega)) ⟨b1, fun e he => absurd he (by omega), fun j hj => absurd hj (by omega), fun z => absurd z (by omega)⟩ (frG_tr f5 b2) (fun M' c1 c2 => h M' c1 c2)
