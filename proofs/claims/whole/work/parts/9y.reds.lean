/-! calls: reduce, rule, reduced -/
noncomputable abbrev rdL (z : ZS) : List (Nat × Option Nat × Option Nat) := redL 18 (zsN z)
noncomputable abbrev rdN (z : ZS) : NN := redN 18 (zsN z)
theorem rdL_le (z : ZS) : (rdL z).length ≤ 18 := redL_le _ 18
theorem rd_wf {n : NN} {tp ts : Nat} (w : WF n tp ts) : WF (redN 18 n) tp ts := (red_en w (mu_18 n w)).2
theorem C_reduce {c : Nat} {M : Mem} {z : ZS} {K : Int32 → Mem → Prop} (hc : c < 100000) (h : IvC c M z) (k : ∀ M', IvC c M' z → loC M M' → K (nI (rdL z).length) M') : f_X8_reduce M K := by
  unfold f_X8_reduce
  refine mkS_c hc h (fun M' a b lo => ?_)
  have k := k M' a (fun b hb => lo b (by omega))
  rw [b.2.1]; exact k
theorem R_reduce {M : Mem} {z : ZS} {K : Int32 → Mem → Prop} (h : IvR M z) (k : ∀ M', IvR M' z → hiC M M' → K (nI (rdL z).length) M') : f_X9_reduce M K := by
  unfold f_X9_reduce
  intro M2 e2
  have h2 : IvR M2 z := by rw [e2]; exact IvR_0 h
  have g2 : hiC M M2 := by rw [e2]; exact hiC_w (by decide)
  refine lR_r h2 (fun M' a b lo => ?_)
  have k := k M' a (hiC_tr g2 lo)
  rw [b.2.1]; exact k
noncomputable def ruN (z : ZS) (j : Nat) : Nat × Option Nat × Option Nat := (rdL z).getD j (0, none, none)
theorem ruN_g {z : ZS} {j : Nat} (h : j < (rdL z).length) : (rdL z)[j]? = some (ruN z j) := by
  unfold ruN
  rw [List.getD_eq_getElem?_getD, List.getElem?_eq_getElem h]
  rfl
noncomputable def aRul (z : ZS) (v1 v2 : Int32) : Int32 := if 0 ≤ v1 ∧ v1 < nI (rdL z).length then (if v2 = 0 then nI (ruN z v1.toNatClampNeg).1 else if v2 = 1 then oI (ruN z v1.toNatClampNeg).2.1 else if v2 = 2 then oI (ruN z v1.toNatClampNeg).2.2 else -1) else -1
theorem C_rule {c : Nat} {v1 v2 : Int32} {M : Mem} {z : ZS} {K : Int32 → Mem → Prop} (hc : c < 100000) (h : IvC c M z) (k : ∀ M', IvC c M' z → loC M M' → K (aRul z v1 v2) M') : f_X8_rule v1 v2 M K := by
  unfold f_X8_rule
  refine mkS_c hc h (fun M' a b lo => ?_)
  have k := k M' a (fun b hb => lo b (by omega))
  have l18 := rdL_le z
  have b2 : M'.1 146 4 = nI (rdL z).length := b.2.1
  unfold aRul at k
  rw [b2]
  refine ⟨fun q => ?_, fun q => ⟨fun q2 => ?_, fun q2 => ?_⟩⟩
  · rw [if_neg (fun t => i_nlt.mpr t.1 q)] at k; exact k
  · rw [if_pos ⟨i_nlt.mp q, q2⟩] at k
    obtain ⟨j, j1, j2⟩ := nn_of q
    rw [j2, nI_LT (by omega) (by omega)] at q2
    rw [j2, nI_CL (by omega)] at k
    rw [j2]
    have vp : vp_in (nI j) 18 := (vp_nI (by omega) (by omega)).mpr (by omega)
    have rr := b.2.2 j q2 _ (ruN_g q2)
    rw [Nat.zero_add] at rr
    refine ⟨fun e => ⟨vp, ?_⟩, fun e => ⟨vp, ?_⟩, fun e => ⟨vp, ?_⟩, fun e0 e1 e2 => ?_⟩
    · rw [if_pos e] at k
      rw [gI, nI_CL (by omega), rr.1]; exact k
    · rw [if_neg (by rw [e]; decide), if_pos e] at k
      rw [gI, nI_CL (by omega), rr.2.1]; exact k
    · rw [if_neg (by rw [e]; decide), if_neg (by rw [e]; decide), if_pos e] at k
      rw [gI, nI_CL (by omega), rr.2.2]; exact k
    · rw [if_neg e0, if_neg e1, if_neg e2] at k; exact k
  · rw [if_neg (fun t => q2 t.2)] at k; exact k
theorem R_rule {v1 v2 : Int32} {M : Mem} {z : ZS} {K : Int32 → Mem → Prop} (h : IvR M z) (k : ∀ M', IvR M' z → hiC M M' → K (aRul z v1 v2) M') : f_X9_rule v1 v2 M K := by
  unfold f_X9_rule
  intro M2 e2
  have h2 : IvR M2 z := by rw [e2]; exact IvR_0 h
  have g2 : hiC M M2 := by rw [e2]; exact hiC_w (by decide)
  refine lR_r h2 (fun M' a b lo => ?_)
  have k := k M' a (hiC_tr g2 lo)
  have l18 := rdL_le z
  have b2 : M'.1 0 58 = nI (rdL z).length := b.2.1
  unfold aRul at k
  rw [b2]
  refine X9_in_sp ?_
  rw [show decide (0 ≤ v1 ∧ v1 ≤ nI (rdL z).length - 1) = decide (0 ≤ v1 ∧ v1 < nI (rdL z).length) from decide_eq_decide.mpr (by rw [le_m1 (by omega)])]
  refine ⟨fun q => ?_, fun q => X9_in_sp ?_⟩
  · rw [if_neg (of_decide_eq_false (b_of0 q))] at k; exact k
  · have q := of_decide_eq_true (b_ofn q)
    rw [if_pos q] at k
    obtain ⟨j, j1, j2⟩ := nn_of (i_nlt.mpr q.1)
    have q2 := q.2
    rw [j2, nI_LT (by omega) (by omega)] at q2
    rw [j2, nI_CL (by omega)] at k
    rw [j2]
    have vp : vp_in (nI j) 20 := (vp_nI (by omega) (by omega)).mpr (by omega)
    have rr := b.2.2 j q2 _ (ruN_g q2)
    rw [Nat.zero_add] at rr
    refine ⟨fun t => ⟨fun e => ⟨fun e1 => ⟨vp, ?_⟩, fun e1 => ⟨vp, ?_⟩⟩, fun e => ⟨vp, ?_⟩⟩, fun t => ?_⟩
    · have e2 := ((in02.mp (of_decide_eq_true (b_ofn t))).resolve_left e).resolve_left e1
      rw [if_neg e, if_neg e1, if_pos e2] at k
      rw [gI, nI_CL (by omega), rr.2.2]; exact k
    · rw [if_neg e, if_pos e1] at k
      rw [gI, nI_CL (by omega), rr.2.1]; exact k
    · rw [if_pos e] at k
      rw [gI, nI_CL (by omega), rr.1]; exact k
    · have t := of_decide_eq_false (b_of0 t)
      rw [in02] at t
      rw [if_neg (fun y => t (Or.inl y)), if_neg (fun y => t (Or.inr (Or.inl y))), if_neg (fun y => t (Or.inr (Or.inr y)))] at k
      exact k
/- reduced -/
noncomputable def aRed (z : ZS) (v : Int32) : Int32 := if v = 0 then nI (nP (rdN z)) else if v = 1 then nI (nS (rdN z)) else if v = 2 then nI (gk (bfs (rdN z))) else if v = 3 then bI (gl (bfs (rdN z))) else if v = 4 then nI (lvB (rdN z) (bfs (rdN z))) else if v = 5 then nI (ctB (ddB (rdN z) (bfs (rdN z))) (gk (bfs (rdN z)))) else -1
theorem C_reduced {c : Nat} {v : Int32} {M : Mem} {z : ZS} {K : Int32 → Mem → Prop} (hc : c < 100000) (h : IvC c M z) (k : ∀ M', IvC c M' z → loC M M' → K (aRed z v) M') : f_X8_reduced v M K := by
  unfold f_X8_reduced
  refine mkS_c hc h (fun M' a b lo => ?_)
  have lo' : loC M M' := fun b hb => lo b (by omega)
  have hr : atC M' 147 (rdN z) (zs3 z).2.1 (zs3 z).2.2 := b.1
  have bv := bfs_v hr.2.2.2
  unfold aRed at k
  refine ⟨fun q => ?_, fun q => ?_, fun q => ?_, fun q => ?_, fun q => ?_, fun q => ?_, fun q0 q1 q2 q3 q4 q5 => ?_⟩
  · have k := k M' a lo'
    rw [if_pos q] at k; rw [ac_P hr]; exact k
  · have k := k M' a lo'
    rw [if_neg (by rw [q]; decide), if_pos q] at k; rw [ac_S hr]; exact k
  · refine X8_smallerGraph_sp hc a b (fun M3 a3 g3 r3 lo3 => ⟨isX0_154, ?_⟩)
    have k := k M3 a3 (loC_tr lo' (fun b hb => lo3 b (by omega)))
    rw [if_neg (by rw [q]; decide), if_neg (by rw [q]; decide), if_pos q] at k
    have G : cG M3 154 (bfs (rdN z)) := g3.1.1.1
    rw [G.1]; exact k
  · refine X8_smallerGraph_sp hc a b (fun M3 a3 g3 r3 lo3 => ⟨isX0_154, ?_⟩)
    have k := k M3 a3 (loC_tr lo' (fun b hb => lo3 b (by omega)))
    rw [if_neg (by rw [q]; decide), if_neg (by rw [q]; decide), if_neg (by rw [q]; decide), if_pos q] at k
    have G : cG M3 154 (bfs (rdN z)) := g3.1.1.1
    rw [G.2.1]; exact X8_oneIf_sp k
  · refine X8_smallerGraph_sp hc a b (fun M3 a3 g3 r3 lo3 => ⟨isX0_154, ?_⟩)
    refine lv_c (r := true) (cc := 147) (Or.inr ⟨rfl, rfl⟩) a3 g3 r3.1 (fun M4 a4 lo4 => ?_)
    have k := k M4 a4 (loC_tr lo' (fun b hb => by rw [lo4 b (Or.inl (by show b < 154; omega)), lo3 b (by omega)]))
    rw [if_neg (by rw [q]; decide), if_neg (by rw [q]; decide), if_neg (by rw [q]; decide), if_neg (by rw [q]; decide), if_pos q] at k
    exact k
  · refine X8_smallerGraph_sp hc a b (fun M3 a3 g3 r3 lo3 => ⟨isX0_154, ?_⟩)
    have k := k M3 a3 (loC_tr lo' (fun b hb => lo3 b (by omega)))
    rw [if_neg (by rw [q]; decide), if_neg (by rw [q]; decide), if_neg (by rw [q]; decide), if_neg (by rw [q]; decide), if_neg (by rw [q]; decide), if_pos q] at k
    have C : cB M3 154 (rdN z) := g3.1.1
    exact X0_deadOnes_sp bv.1 C.1.1 (fun j hj => C.2.2.1 j hj) k
  · have k := k M' a lo'
    rw [if_neg q0, if_neg q1, if_neg q2, if_neg q3, if_neg q4, if_neg q5] at k; exact k
theorem rGr_G1 {M M' : Mem} {n : NN} {tp ts : Nat} (w : WF n tp ts) (h : rGr M n) (f : frG 1 M M') : rGr M' n := by
  have k3 : gk (bfs n) ≤ 300 := (bfs_v w).1.1
  obtain ⟨⟨⟨a1, a2, a3, a4, d, a5⟩, b2, b3, b4⟩, c⟩ := h
  obtain ⟨f1, f2, f3, f4, f5, f6⟩ := f
  refine ⟨⟨⟨?_, ?_, fun i hi p hp => ?_, fun i hi => ?_, d, fun i hi => ?_⟩, fun e he => ?_, fun j hj => ?_, fun y => absurd y (Nat.lt_irrefl 0)⟩, fun i hi => ?_⟩
  · rw [(f6 0 (by decide)).1]; exact a1
  · rw [(f6 0 (by decide)).2]; exact a2
  · rw [f3 _ (Or.inl (by omega))]; exact a3 i hi p hp
  · rw [(f4 _ (Or.inl (by omega))).1, (f4 _ (Or.inl (by omega))).2.1]; exact a4 i hi
  · rw [(f4 _ (Or.inl (by omega))).2.2.1]; exact a5 i hi
  · rw [f5 _ (Or.inl (by omega))]; exact b2 e he
  · rw [(f4 _ (Or.inl (by omega))).2.2.2]; exact b3 j hj
  · rw [f1 36 (by decide) (by decide) (by decide) (by decide) (by decide) (by decide) (by decide) (by decide) (by decide)]; exact c i hi
theorem lG1_r {M : Mem} {z : ZS} {K : Mem → Prop} (h : IvR M z) (hr : rt M 1 = enc (rdN z)) (k : ∀ M', IvR M' z → rB M' 1 (rdN z) → rt M' 1 = enc (rdN z) → hiC M M' → K M') : f_X9_layGraph (nI 1) M K := by
  obtain ⟨hn, w⟩ := h.2.2.1
  refine X9_layGraph_sp (o := 1) (by decide) (rd_wf w) hr (fun M' a f => ?_)
  have o : ∀ b, b < 24 ∨ 33 < b → M'.1 b = M.1 b := fun b hb => f.1 b (by omega) (by omega) (by omega) (by omega) (by omega) (by omega) (by omega) (by omega) (by omega)
  refine k M' (IvR_k h (fun j hj => by rw [o 0 (by decide)]) (rt0_f (o 1 (by decide)) (o 2 (by decide)) (o 3 (by decide)) (o 4 (by decide)) (o 5 (by decide)) 0) (o 8 (by decide)) (o 9 (by decide)) (o 10 (by decide)) (fun q => ?_) (fun q => ?_) (fun q => ?_)) a (by rw [rt0_f (o 1 (by decide)) (o 2 (by decide)) (o 3 (by decide)) (o 4 (by decide)) (o 5 (by decide))]; exact hr) (fun b hb => ⟨o b (by omega), by rw [f.2.1]⟩)
  · rw [o 0 (by decide)] at q
    exact rSmP_f (h.2.2.2.2.2.1 q) (fun b h1 h2 => o b (by omega))
  · rw [o 0 (by decide)] at q
    exact rGr_G1 w (h.2.2.2.2.2.2.1 q) f
  · rw [o 0 (by decide)] at q
    exact RCt_f (h.2.2.2.2.2.2.2 q) (by rw [o 0 (by decide)]) (o 20 (by decide)) (o 22 (by decide)) (o 23 (by decide))
theorem rB1_f {M M' : Mem} {n : NN} (h : rB M 1 n) (f : fr1 34 M M') : rB M' 1 n := by
  unfold rB rL rG at *
  rw [f.1 24 (by decide), f.1 25 (by decide), f.1 26 (by decide), f.1 27 (by decide), f.1 28 (by decide), f.1 29 (by decide), f.1 30 (by decide), f.1 33 (by decide)]
  exact h
theorem in05 {v : Int32} : (0 ≤ v ∧ v ≤ 5) ↔ (v = 0 ∨ v = 1 ∨ v = 2 ∨ v = 3 ∨ v = 4 ∨ v = 5) := by
  rw [i_le, i_le, i_eq, i_eq, i_eq, i_eq, i_eq, i_eq, t_0, t_1, t_2, t_3, t_4, t_5]; omega
theorem R_reduced {v : Int32} {M : Mem} {z : ZS} {K : Int32 → Mem → Prop} (h : IvR M z) (k : ∀ M', IvR M' z → hiC M M' → K (aRed z v) M') : f_X9_reduced v M K := by
  unfold f_X9_reduced
  intro M2 e2
  have h2 : IvR M2 z := by rw [e2]; exact IvR_0 h
  have g2 : hiC M M2 := by rw [e2]; exact hiC_w (by decide)
  obtain ⟨_, w0⟩ := h2.2.2.1
  have wr := rd_wf w0
  have bv := bfs_v wr
  have k3 : gk (bfs (rdN z)) ≤ 300 := bv.1.1
  unfold aRed at k
  refine X9_in_sp ⟨fun t => ?_, fun t => ?_⟩
  · have t := in05.mp (of_decide_eq_true (b_ofn t))
    refine lR_r h2 (fun M' a b lo => ⟨fun q => ?_, fun q => ⟨fun q0 => ?_, fun q0 => ?_⟩⟩)
    · refine lG1_r a b.1 (fun M5 a5 b5 r5 lo5 => ?_)
      have l5 : hiC M M5 := hiC_tr g2 (hiC_tr lo lo5)
      have n0 : ¬ v = 0 := fun y => by rw [y] at q; exact absurd q (by decide)
      have n1 : ¬ v = 1 := fun y => by rw [y] at q; exact absurd q (by decide)
      rw [if_neg n0, if_neg n1] at k
      have fin : ∀ (M8 : Mem) (x : Int32), IvR M8 z → rB M8 1 (rdN z) → hiC M M8 → (v = 4 → x = nI (lvB (rdN z) (bfs (rdN z)))) → ((¬ v = (2 : Int32) → ((¬ v = (3 : Int32) → ((¬ v = (4 : Int32) → f_X9_dead (1 : Int32) M8 (fun (r_6 : Int32) (M_9 : Mem) => K r_6 M_9)) ∧ (v = (4 : Int32) → K x M8))) ∧ (v = (3 : Int32) → (((gI M8 33 (1 : Int32)) = 0 → K (0 : Int32) M8) ∧ (¬ (gI M8 33 (1 : Int32)) = 0 → K (1 : Int32) M8))))) ∧ (v = (2 : Int32) → K (gI M8 30 (1 : Int32)) M8)) := by
        intro M8 x a8 b8 l8 hx
        have k := k M8 a8 l8
        have g30 : gI M8 30 (1 : Int32) = nI (gk (bfs (rdN z))) := b8.1.1
        have g33 : gI M8 33 (1 : Int32) = bI (gl (bfs (rdN z))) := b8.1.2.1
        rw [g30, g33]
        refine ⟨fun n2 => ⟨fun n3 => ⟨fun n4 => ?_, fun e4 => ?_⟩, fun e3 => ?_⟩, fun e2 => ?_⟩
        · have e5 : v = 5 := ((((t.resolve_left n0).resolve_left n1).resolve_left n2).resolve_left n3).resolve_left n4
          rw [if_neg n2, if_neg n3, if_neg n4, if_pos e5] at k
          exact X9_dead_sp (o := 1) (by decide) bv.1 b8.1.1 (fun j hj => b8.2.2.1 j hj) k
        · rw [if_neg n2, if_neg n3, if_pos e4] at k
          rw [hx e4]; exact k
        · rw [if_neg n2, if_pos e3] at k
          refine ⟨fun y => ?_, fun y => ?_⟩
          · rw [b_of0 y] at k; exact k
          · rw [b_ofn y] at k; exact k
        · rw [if_pos e2] at k; exact k
      have key : ∀ d s, s + d = 8 → ∀ M6 : Mem, IvR M6 z → rB M6 1 (rdN z) → rt M6 1 = enc (rdN z) → hiC M M6 → L_X9_reduced_54 v (fun (v2_2 : Int32) (M_8 : Mem) => ((¬ v = (2 : Int32) → ((¬ v = (3 : Int32) → ((¬ v = (4 : Int32) → f_X9_dead (1 : Int32) M_8 (fun (r_6 : Int32) (M_9 : Mem) => K r_6 M_9)) ∧ (v = (4 : Int32) → K v2_2 M_8))) ∧ (v = (3 : Int32) → (((gI M_8 33 (1 : Int32)) = 0 → K (0 : Int32) M_8) ∧ (¬ (gI M_8 33 (1 : Int32)) = 0 → K (1 : Int32) M_8))))) ∧ (v = (2 : Int32) → K (gI M_8 30 (1 : Int32)) M_8))) K (d + 1) (nI (mN (fun s => (nS (rdN z)).testBit s && pB (lvP (rdN z) (bfs (rdN z)) s)) s)) (nI s) M6 := by
        intro d
        induction d with
        | zero =>
          intro s hs M6 a6 b6 r6 l6
          rw [L_X9_reduced_54, l_8, nI_LE (by omega) (by omega)]
          refine ⟨fun _ => fin M6 _ a6 b6 l6 (fun _ => ?_), by omega⟩
          rw [show s = 8 by omega]; rfl
        | succ d ih =>
          intro s hs M6 a6 b6 r6 l6
          have sS := wf_S wr
          rw [L_X9_reduced_54, l_8, nI_LE (by omega) (by omega), nI_A1, shl_nI (by omega), nI_or, or0]
          refine ⟨by omega, fun _ => ⟨fun n4 => fin M6 _ a6 b6 l6 (fun y => absurd y n4), fun e4 => X9_isLeft_sp r6 (by omega) (by omega) ⟨fun y x e => ?_, fun y => ?_⟩⟩⟩
          · have := ih (s + 1) (by omega) M6 a6 b6 r6 l6
            rw [mN_s, if_neg (by rw [b_of0 y, Bool.false_and]; decide)] at this
            rw [e]; exact this
          · refine X9_isLive_sp (o := 1) (n := rdN z) (by decide) (by omega) bv.1 bv.2.2 ⟨b6.1.1, fun e he => b6.2.1 e (by omega)⟩ (fun j hj => b6.2.2.1 j hj) (fun M7 f7 => ?_)
            have := ih (s + 1) (by omega) M7 (IvR_1 (Or.inr rfl) a6 f7) (rB1_f b6 f7) (by rw [rt0_f (f7.1 1 (by decide)) (f7.1 2 (by decide)) (f7.1 3 (by decide)) (f7.1 4 (by decide)) (f7.1 5 (by decide))]; exact r6) (hiC_tr l6 (hiC_1 (by decide) f7))
            refine ⟨fun y2 x e => ?_, fun y2 x e => ?_⟩
            · rw [mN_s, if_neg (by rw [b_of0 y2, Bool.and_false]; decide)] at this
              rw [e]; exact this
            · rw [mN_s, if_pos (by rw [b_ofn y, b_ofn y2]; rfl)] at this
              rw [e]; exact this
      exact ⟨_, key 8 0 (by omega) M5 a5 b5 r5 l5⟩
    · have k := k M' a (hiC_tr g2 lo)
      have e1 : v = 1 := by
        rcases t with y | y | y | y | y | y
        · exact absurd y q0
        · exact y
        · rw [y] at q; exact absurd (by decide) q
        · rw [y] at q; exact absurd (by decide) q
        · rw [y] at q; exact absurd (by decide) q
        · rw [y] at q; exact absurd (by decide) q
      rw [if_neg q0, if_pos e1] at k
      rw [show gI M' 5 (1 : Int32) = nI (nS (rdN z)) from rt_S b.1]; exact k
    · have k := k M' a (hiC_tr g2 lo)
      rw [if_pos q0] at k
      rw [show gI M' 4 (1 : Int32) = nI (nP (rdN z)) from rt_P b.1]; exact k
  · have k := k M2 h2 g2
    have t := of_decide_eq_false (b_of0 t)
    rw [in05] at t
    rw [if_neg (fun y => t (Or.inl y)), if_neg (fun y => t (Or.inr (Or.inl y))), if_neg (fun y => t (Or.inr (Or.inr (Or.inl y)))), if_neg (fun y => t (Or.inr (Or.inr (Or.inr (Or.inl y))))), if_neg (fun y => t (Or.inr (Or.inr (Or.inr (Or.inr (Or.inl y)))))), if_neg (fun y => t (Or.inr (Or.inr (Or.inr (Or.inr (Or.inr y))))))] at k
    exact k
