/-! calls: reaches, graph, marking, came, live, most -/
noncomputable abbrev gG (z : ZS) : GS := bfs (zsN z)
/-- how far a marking is from the first -/
def dpF (g : GS) : Nat → Nat → Nat
  | 0, _ => 0
  | f + 1, i => if gf g i = -1 then 0 else dpF g f (gf g i).toNatClampNeg + 1
theorem dpF_s {g : GS} (v : GV g) : ∀ f f' i, i < f → i < f' → i < gk g → dpF g f i = dpF g f' i
  | 0, _, _, h, _, _ => absurd h (Nat.not_lt_zero _)
  | _ + 1, 0, _, _, h, _ => absurd h (Nat.not_lt_zero _)
  | f + 1, f' + 1, i, h, h', hi => by
    rw [dpF, dpF]
    have k3 := v.1
    rcases v.2.2.2.2 i hi with ⟨_, e⟩ | ⟨j, j1, e⟩
    · rw [if_pos e, if_pos e]
    · rw [e, nI_CL (by omega), dpF_s v f f' j (by omega) (by omega) (by omega)]
def dpN (g : GS) (i : Nat) : Nat := dpF g (i + 1) i
theorem dpN_p {g : GS} (v : GV g) : dpP g (dpN g) := by
  have k3 := v.1
  have le : ∀ i, i < gk g → dpN g i ≤ i := fun i => Nat.strongRecOn i (fun i ih hi => by
    unfold dpN
    rw [dpF]
    rcases v.2.2.2.2 i hi with ⟨_, e⟩ | ⟨j, j1, e⟩
    · rw [if_pos e]; omega
    · rw [e, if_neg (nI_M (by omega)), nI_CL (by omega), dpF_s v i (j + 1) j j1 (by omega) (by omega)]
      have : dpF g (j + 1) j ≤ j := ih j j1 (by omega)
      omega)
  refine fun i hi => ⟨le i hi, fun e => ?_, fun j hj e => ?_⟩
  · unfold dpN
    rw [dpF, if_pos e]
  · unfold dpN
    rw [dpF, e, if_neg (nI_M (by omega)), nI_CL (by omega), dpF_s v i (j + 1) j hj (by omega) (by omega)]
theorem dpP_u {g : GS} (v : GV g) {d d' : Nat → Nat} (h : dpP g d) (h' : dpP g d') : ∀ i, i < gk g → d i = d' i := fun i => Nat.strongRecOn i (fun i ih hi => by
  rcases v.2.2.2.2 i hi with ⟨_, e⟩ | ⟨j, j1, e⟩
  · rw [(h i hi).2.1 e, (h' i hi).2.1 e]
  · rw [(h i hi).2.2 j j1 e, (h' i hi).2.2 j j1 e, ih j j1 (by omega)])
def aimP (n : NN) (am : Nat → Nat) (x : Nat → Nat) : Prop := ∀ p, p < 10 → (nP n).testBit p = true → x p = am p
/-- the first marking that is as asked for -/
noncomputable def fiA (n : NN) (am : Nat → Nat) (g : GS) : Option Nat := ff (fun i => ifP (aimP n am (gm g i)) (some i)) 0 (gk g)
noncomputable def aRch (z : ZS) : Int32 := match fiA (zsN z) (zsA z) (gG z) with
  | some i => nI (dpN (gG z) i)
  | none => if gl (gG z) = true then -2 else -1
theorem isAimed_sp {a o : Nat} {n : NN} {am x : Nat → Nat} {M : Mem} {K : Int32 → Mem → Prop} (hP : nP n < 1024) (ha : ∀ p, p < 10 → M.1 125 p = nI (am p) ∧ am p ≤ 999) (ho : o + 10 ≤ alen a) (hal : alen a < 100000) (hx : ∀ p, p < 10 → M.1 a (o + p) = nI (x p) ∧ x p ≤ 999) (h : K (bI (pB (aimP n am x))) M) : f_X6_isAimed (nI (nP n)) a (nI o) M K := by
  refine up (fun m j => L_X6_isAimed_3 (nI (nP n)) a (nI o) (fun M_2 => K (1 : Int32) M_2) K m (nI j) M) (fun j => ∀ p, p < j → (nP n).testBit p = true → x p = am p) 0 10 (Nat.zero_le _) (fun p hp => absurd hp (Nat.not_lt_zero _)) (fun hI m => ?_) (fun j _ hj hI m ih => ?_)
  · rw [L_X6_isAimed_3, l_10, nI_LE (by omega) (by omega)]
    exact ⟨fun _ => k_t h (pB_t hI), fun y => absurd (Nat.le_refl _) y⟩
  · have b := bt_nI (n := nP n) (k := j) (by omega) (by omega)
    unfold bt at b
    have zx := (hx j hj)
    have za := (ha j hj)
    rw [L_X6_isAimed_3, l_10, nI_LE (by omega) (by omega), nI_add, nI_A1, gI, gI, nI_CL (by omega), nI_CL (by omega), zx.1, za.1, nI_EQ (by omega) (by omega)]
    refine ⟨by omega, fun _ => ⟨fun q => ih ?_, fun q => ⟨(vp_nI (by omega) (by omega)).mpr (by omega), (vp_nI (by omega) (by omega)).mpr (by omega), fun e => ih ?_, fun e => ?_⟩⟩⟩
    · intro p hp t
      rcases Nat.lt_succ_iff_lt_or_eq.mp hp with y | y
      · exact hI p y t
      · rw [y] at t
        rw [t] at b
        exact absurd (of_decide_eq_true b) q
    · intro p hp t
      rcases Nat.lt_succ_iff_lt_or_eq.mp hp with y | y
      · exact hI p y t
      · rw [y]; exact e
    · refine k_f h (pB_f (fun t => e (t j hj ?_)))
      rw [← b]; exact decide_eq_true q
theorem fi_n {α : Type} {c : Nat → Option α} {x : α} : ∀ {k lo j : Nat}, lo ≤ j → j < lo + k → (∀ i, lo ≤ i → i < j → c i = none) → c j = some x → ff c lo k = some x
  | 0, _, _, h1, h2, _, _ => by omega
  | k + 1, lo, j, h1, h2, h3, h4 => by
    rw [ff]
    by_cases e : lo = j
    · rw [e, h4]
    · rw [h3 lo (Nat.le_refl _) (by omega)]
      exact fi_n (by omega) (by omega) (fun i a b => h3 i (by omega) b) h4
theorem C_reaches {c : Nat} {M : Mem} {z : ZS} {K : Int32 → Mem → Prop} (hc : c < 100000) (h : IvC c M z) (k : ∀ M', IvC c M' z → loC M M' → K (aRch z) M') : f_X8_reaches M K := by
  unfold f_X8_reaches
  refine X8_presentGraph_sp hc h (fun M' a g lo => ⟨isX0_134, ?_⟩)
  have k := k M' a (fun b hb => lo b (by omega))
  have hn := IvC_w a
  have w := hn.2.2.2
  have bv := bfs_v w
  have k3 : gk (gG z) ≤ 300 := bv.1.1
  have G : cG M' 134 (gG z) := g.1.1.1
  obtain ⟨S, st, _, _, _, _, sk, _⟩ := a
  have hm : ∀ i, i < gk (gG z) → ∀ p, p < 10 → M'.1 135 (10 * i + p) = nI (gm (gG z) i p) ∧ gm (gG z) i p ≤ 999 := fun i hi p hp => ⟨G.2.2.1 i hi p hp, bv.1.2.2.2.1 i hi p hp⟩
  unfold aRch at k
  refine up (fun m j => L_X8_reaches_7 134 (fun (M_5 : Mem) => (((M_5.1 134 13) = 0 → K (-1 : Int32) M_5) ∧ (¬ (M_5.1 134 13) = 0 → K (-2 : Int32) M_5))) K m (nI j) M') (fun j => ∀ i, i < j → ¬ aimP (zsN z) (zsA z) (gm (gG z) i)) 0 (gk (gG z)) (Nat.zero_le _) (fun p hp => absurd hp (Nat.not_lt_zero _)) (fun hI m => ?_) (fun j _ hj hI m ih => ?_)
  · rw [L_X8_reaches_7, G.1, nI_LE (by omega) (by omega)]
    refine ⟨fun _ => ?_, fun y => absurd (Nat.le_refl _) y⟩
    have e : fiA (zsN z) (zsA z) (gG z) = none := ff_none (fun j _ hj => ifP_f (hI j (by omega)))
    rw [e] at k
    dsimp only at k
    rw [G.2.1]
    refine ⟨fun y => ?_, fun y => ?_⟩
    · rw [if_neg (by rw [b_of0 y]; decide)] at k; exact k
    · rw [if_pos (b_ofn y)] at k; exact k
  · rw [L_X8_reaches_7, G.1, nI_LE (by omega) (by omega), ac_P hn, l_10, m_10, nI_A1]
    refine ⟨by omega, fun _ => isAimed_sp (a := 134 + 1) (x := gm (gG z) j) (wf_P w) (fun p hp => ⟨sk.1 p hp, sk.2.1 p⟩) (show 10 * j + 10 ≤ 3010 by omega) (show 3010 < 100000 by omega) (hm j hj) ⟨fun q => ih (fun i hi => ?_), fun q => ?_⟩⟩
    · rcases Nat.lt_succ_iff_lt_or_eq.mp hi with y | y
      · exact hI i y
      · rw [y]; intro t; rw [pB_t t] at q; exact absurd q (by decide)
    · have e : fiA (zsN z) (zsA z) (gG z) = some j := fi_n (Nat.zero_le _) (by omega) (fun i _ hi => ifP_f (hI i hi)) (ifP_t (pB_iff.mp (b_ofn q)))
      rw [e] at k
      exact X0_depthOf_sp bv.1 hj (dpN_p bv.1) (fun i hi => (G.2.2.2.1 i hi).1) k
theorem R_reaches {M : Mem} {z : ZS} {K : Int32 → Mem → Prop} (h : IvR M z) (k : ∀ M', IvR M' z → hiC M M' → K (aRch z) M') : f_X9_reaches M K := by
  unfold f_X9_reaches
  intro M2 e2
  have h2 : IvR M2 z := by rw [e2]; exact IvR_0 h
  have g2 : hiC M M2 := by rw [e2]; exact hiC_w (by decide)
  refine lN_r h2 (fun M' a g lo => ?_)
  have k := k M' a (hiC_tr g2 lo)
  obtain ⟨hn, w⟩ := a.2.2.1
  have am := a.2.2.2.2.1
  have bv := bfs_v w
  have k3 : gk (gG z) ≤ 300 := bv.1.1
  have G : rG M' 0 (gG z) := g.1.1
  have g30 : gI M' 30 (0 : Int32) = nI (gk (gG z)) := G.1
  have g33 : gI M' 33 (0 : Int32) = bI (gl (gG z)) := G.2.1
  obtain ⟨dd, hd⟩ := G.2.2.2.2
  have du := dpP_u bv.1 (d := dd) (d' := dpN (gG z)) (fun i hi => ⟨(hd i hi).1, (hd i hi).2.2.1, (hd i hi).2.2.2⟩) (dpN_p bv.1)
  have hm : ∀ i, i < gk (gG z) → ∀ p, p < 10 → M'.1 24 (10 * i + p) = cI ((gm (gG z) i p : Nat) : Int) ∧ -100000 ≤ ((gm (gG z) i p : Nat) : Int) ∧ ((gm (gG z) i p : Nat) : Int) ≤ 100000 := fun i hi p hp => by
    have b9 : gm (gG z) i p ≤ 999 := bv.1.2.2.2.1 i hi p hp
    have := G.2.2.1 i hi p hp
    rw [Nat.mul_zero, Nat.zero_add] at this
    exact ⟨by rw [this, nI_cI (by omega)], by omega, by omega⟩
  unfold aRch at k
  refine up (fun m j => L_X9_reaches_11 (fun (M_5 : Mem) => (((gI M_5 33 (0 : Int32)) = 0 → K (-1 : Int32) M_5) ∧ (¬ (gI M_5 33 (0 : Int32)) = 0 → K (-2 : Int32) M_5))) K m (nI j) M') (fun j => ∀ i, i < j → ¬ aimP (zsN z) (zsA z) (gm (gG z) i)) 0 (gk (gG z)) (Nat.zero_le _) (fun p hp => absurd hp (Nat.not_lt_zero _)) (fun hI m => ?_) (fun j _ hj hI m ih => ?_)
  · rw [L_X9_reaches_11, g30, nI_LE (by omega) (by omega)]
    refine ⟨fun _ => ?_, fun y => absurd (Nat.le_refl _) y⟩
    have e : fiA (zsN z) (zsA z) (gG z) = none := ff_none (fun j _ hj => ifP_f (hI j (by omega)))
    rw [e] at k
    dsimp only at k
    rw [g33]
    refine ⟨fun y => ?_, fun y => ?_⟩
    · rw [if_neg (by rw [b_of0 y]; decide)] at k; exact k
    · rw [if_pos (b_ofn y)] at k; exact k
  · rw [L_X9_reaches_11, g30, nI_LE (by omega) (by omega), l_10, m10_, nI_A1]
    refine ⟨by omega, fun _ => X9_isAim_sp (n := zsN z) (am := zsA z) (rt_P hn) (wf_P w) am (show 10 * j + 10 ≤ 6000 by omega) (show 6000 < 100000 by omega) (hm j hj) ?_⟩
    have pe : (∀ p, p < 10 → (nP (zsN z)).testBit p = true → ((gm (gG z) j p : Nat) : Int) = ((zsA z p : Nat) : Int)) ↔ aimP (zsN z) (zsA z) (gm (gG z) j) := ⟨fun t p hp hb => Int.ofNat.inj (t p hp hb), fun t p hp hb => congrArg Int.ofNat (t p hp hb)⟩
    rw [pB_cg pe]
    refine ⟨fun q => ih (fun i hi => ?_), fun q => ?_⟩
    · rcases Nat.lt_succ_iff_lt_or_eq.mp hi with y | y
      · exact hI i y
      · rw [y]; intro t; rw [pB_t t] at q; exact absurd q (by decide)
    · have e : fiA (zsN z) (zsA z) (gG z) = some j := fi_n (Nat.zero_le _) (by omega) (fun i _ hi => ifP_f (hI i hi)) (ifP_t (pB_iff.mp (b_ofn q)))
      rw [e] at k
      dsimp only at k
      have d := (hd j hj).2.1
      rw [Nat.mul_zero, Nat.zero_add, du j hj] at d
      rw [gI, nI_CL (by omega), d]
      exact ⟨(vp_nI (by omega) (by omega)).mpr (by omega), k⟩
/- graph -/
noncomputable def aGra (z : ZS) (v : Int32) : Int32 := if v = 0 then nI (gk (gG z)) else if v = 1 then bI (gl (gG z)) else if v = 2 then nI (ctB (ddB (zsN z) (gG z)) (gk (gG z))) else if v = 3 then oI (fdB (zsN z) (gG z)) else if v = 4 then nI (ctB (fun i => pB (hmP (gG z) i)) (gk (gG z))) else -1
theorem C_graph {c : Nat} {v : Int32} {M : Mem} {z : ZS} {K : Int32 → Mem → Prop} (hc : c < 100000) (h : IvC c M z) (k : ∀ M', IvC c M' z → loC M M' → K (aGra z v) M') : f_X8_graph v M K := by
  unfold f_X8_graph
  refine X8_presentGraph_sp hc h (fun M' a g lo => ⟨isX0_134, ?_⟩)
  have lo' : loC M M' := fun b hb => lo b (by omega)
  have hn := IvC_w a
  have w := hn.2.2.2
  have bv := bfs_v w
  have C : cB M' 134 (zsN z) := g.1.1
  have G : cG M' 134 (gG z) := g.1.1.1
  have hw : ∀ j, j < gk (gG z) → M'.1 (134 + 4) j = nI (mN (can (zsN z) (gm (gG z) j)) 8) := fun j hj => C.2.2.1 j hj
  unfold aGra at k
  refine ⟨fun q => ?_, fun q => ?_, fun q => ?_, fun q => ?_, fun q => ?_, fun q0 q1 q2 q3 q4 => ?_⟩
  · have k := k M' a lo'
    rw [if_pos q] at k; rw [G.1]; exact k
  · have k := k M' a lo'
    rw [if_neg (by rw [q]; decide), if_pos q] at k
    rw [G.2.1]; exact X8_oneIf_sp k
  · have k := k M' a lo'
    rw [if_neg (by rw [q]; decide), if_neg (by rw [q]; decide), if_pos q] at k
    exact X0_deadOnes_sp bv.1 G.1 hw k
  · have k := k M' a lo'
    rw [if_neg (by rw [q]; decide), if_neg (by rw [q]; decide), if_neg (by rw [q]; decide), if_pos q] at k
    exact X0_firstDead_sp bv.1 G.1 hw k
  · refine fH_c w a g (fun M3 a3 g3 o3 lo3 => ?_)
    have k := k M3 a3 (loC_tr lo' (fun b hb => lo3 b (by omega)))
    rw [if_neg (by rw [q]; decide), if_neg (by rw [q]; decide), if_neg (by rw [q]; decide), if_neg (by rw [q]; decide), if_pos q] at k
    rw [o3.1]; exact k
  · have k := k M' a lo'
    rw [if_neg q0, if_neg q1, if_neg q2, if_neg q3, if_neg q4] at k; exact k
theorem R_graph {v : Int32} {M : Mem} {z : ZS} {K : Int32 → Mem → Prop} (h : IvR M z) (k : ∀ M', IvR M' z → hiC M M' → K (aGra z v) M') : f_X9_graph v M K := by
  unfold f_X9_graph
  intro M2 e2
  have h2 : IvR M2 z := by rw [e2]; exact IvR_0 h
  have g2 : hiC M M2 := by rw [e2]; exact hiC_w (by decide)
  refine lN_r h2 (fun M' a g lo => ?_)
  have k := k M' a (hiC_tr g2 lo)
  obtain ⟨hn, w⟩ := a.2.2.1
  have bv := bfs_v w
  have k3 : gk (gG z) ≤ 300 := bv.1.1
  have G : rG M' 0 (gG z) := g.1.1
  have g30 : gI M' 30 (0 : Int32) = nI (gk (gG z)) := G.1
  have g33 : gI M' 33 (0 : Int32) = bI (gl (gG z)) := G.2.1
  have hw : ∀ j, j < gk (gG z) → M'.1 28 (300 * 0 + j) = nI (mN (can (zsN z) (gm (gG z) j)) 8) := fun j hj => g.1.2.2.1 j hj
  have hw' : ∀ j, j < gk (gG z) → M'.1 28 j = nI (mN (can (zsN z) (gm (gG z) j)) 8) := fun j hj => by have := hw j hj; rw [Nat.mul_zero, Nat.zero_add] at this; exact this
  unfold aGra at k
  refine ⟨fun q => ?_, fun q => ?_, fun q => ?_, fun q => ?_, fun q => ?_, fun q0 q1 q2 q3 q4 => ?_⟩
  · rw [if_pos q] at k; rw [g30]; exact k
  · rw [if_neg (by rw [q]; decide), if_pos q] at k
    rw [g33]
    refine ⟨fun y => ?_, fun y => ?_⟩
    · rw [b_of0 y] at k; exact k
    · rw [b_ofn y] at k; exact k
  · rw [if_neg (by rw [q]; decide), if_neg (by rw [q]; decide), if_pos q] at k
    exact X9_dead_sp (o := 0) (by decide) bv.1 G.1 hw k
  · rw [if_neg (by rw [q]; decide), if_neg (by rw [q]; decide), if_neg (by rw [q]; decide), if_pos q] at k
    refine up (fun m j => L_X9_graph_78 (fun (M_5 : Mem) => K (-1 : Int32) M_5) K m (nI j) M') (fun j => ∀ i, i < j → ¬ mN (can (zsN z) (gm (gG z) i)) 8 = 0) 0 (gk (gG z)) (Nat.zero_le _) (fun p hp => absurd hp (Nat.not_lt_zero _)) (fun hI m => ?_) (fun j _ hj hI m ih => ?_)
    · rw [L_X9_graph_78, g30, nI_LE (by omega) (by omega)]
      have e : fdB (zsN z) (gG z) = none := ff_none (fun j _ hj => ifP_f (hI j (by omega)))
      rw [e] at k
      exact ⟨fun _ => k, fun y => absurd (Nat.le_refl _) y⟩
    · have ml := mN_lt (can (zsN z) (gm (gG z) j)) 8
      rw [L_X9_graph_78, g30, nI_LE (by omega) (by omega), gI, nI_CL (by omega), hw' j hj, nI_Z (by omega), nI_A1]
      refine ⟨by omega, fun _ => ⟨(vp_nI (by omega) (by omega)).mpr (by omega), fun y => ih (fun i hi => ?_), fun y => ?_⟩⟩
      · rcases Nat.lt_succ_iff_lt_or_eq.mp hi with t | t
        · exact hI i t
        · rw [t]; exact y
      · have e : fdB (zsN z) (gG z) = some j := fi_n (Nat.zero_le _) (by omega) (fun i _ hi => ifP_f (hI i hi)) (ifP_t y)
        rw [e] at k; exact k
  · rw [if_neg (by rw [q]; decide), if_neg (by rw [q]; decide), if_neg (by rw [q]; decide), if_neg (by rw [q]; decide), if_pos q] at k
    refine upT (fun m j => L_X9_graph_109 (fun (v2_2 : Int32) (M_6 : Mem) => K v2_2 M_6) K m (nI (ctB (fun i => pB (hmP (gG z) i)) j)) (nI j) M') 0 (gk (gG z)) (Nat.zero_le _) (fun m => ?_) (fun j _ hj m ih => ?_)
    · rw [L_X9_graph_109, g30, nI_LE (by omega) (by omega)]
      exact ⟨fun _ => k, fun y => absurd (Nat.le_refl _) y⟩
    · rw [ctB] at ih
      have hb : M'.1 36 j = bI (pB (hmP (gG z) j)) := g.2 j hj
      rw [L_X9_graph_109, g30, nI_LE (by omega) (by omega), gI, nI_CL (by omega), hb, nI_A1, nI_A1]
      refine ⟨by omega, fun _ => ⟨(vp_nI (by omega) (by omega)).mpr (by omega), fun y x e => ?_, fun y x e => ?_⟩⟩
      · rw [b_of0 y] at ih
        rw [e, l_0, nI_add]; exact ih
      · rw [b_ofn y] at ih
        rw [e]; exact ih
  · rw [if_neg q0, if_neg q1, if_neg q2, if_neg q3, if_neg q4] at k; exact k
/- marking -/
noncomputable def aMrk (z : ZS) (v1 v2 : Int32) : Int32 := if isPl (nI (nP (zsN z))) v2 = true ∧ 0 ≤ v1 ∧ v1 < nI (gk (gG z)) then nI (gm (gG z) v1.toNatClampNeg v2.toNatClampNeg) else -1
theorem C_marking {c : Nat} {v1 v2 : Int32} {M : Mem} {z : ZS} {K : Int32 → Mem → Prop} (hc : c < 100000) (h : IvC c M z) (k : ∀ M', IvC c M' z → loC M M' → K (aMrk z v1 v2) M') : f_X8_marking v1 v2 M K := by
  unfold f_X8_marking
  refine X8_presentGraph_sp hc h (fun M' a g lo => ⟨isX0_134, ?_⟩)
  have k := k M' a (fun b hb => lo b (by omega))
  have hn := IvC_w a
  have bv := bfs_v hn.2.2.2
  have k3 : gk (gG z) ≤ 300 := bv.1.1
  have G : cG M' 134 (gG z) := g.1.1.1
  unfold aMrk at k
  refine X1_hasPlace_sp ?_
  rw [ac_P hn, G.1]
  intro x4 e4
  refine ⟨fun q => ?_, fun q => ?_⟩
  · rw [if_neg (fun t => ?_)] at k
    · exact k
    · rw [e4, t.1, if_neg (by decide), if_neg (i_nlt.mpr t.2.1), if_neg (i_nle.mpr t.2.2)] at q
      exact absurd q (by decide)
  · have t : isPl (nI (nP (zsN z))) v2 = true ∧ 0 ≤ v1 ∧ v1 < nI (gk (gG z)) := by
      cases e : isPl (nI (nP (zsN z))) v2
      · exact absurd (by rw [e4, e]; rfl) q
      · rw [e, if_neg (by decide)] at e4
        by_cases y : v1 < 0
        · exact absurd (by rw [e4, if_pos y]) q
        · rw [if_neg y] at e4
          by_cases y2 : nI (gk (gG z)) ≤ v1
          · exact absurd (by rw [e4, if_pos y2]) q
          · exact ⟨rfl, i_nlt.mp y, i_nle.mp y2⟩
    rw [if_pos t] at k
    obtain ⟨p, p1, p2⟩ := isPl_n t.1
    obtain ⟨j, j1, j2⟩ := nn_of (i_nlt.mpr t.2.1)
    have y3 := t.2.2
    rw [j2, nI_LT (by omega) (by omega)] at y3
    rw [j2, p2, nI_CL (by omega), nI_CL (by omega)] at k
    rw [j2, p2, l_10, m_10, nI_add, gI, nI_CL (by omega), G.2.2.1 j y3 p p1]
    exact ⟨(vp_nI (by omega) (by omega)).mpr (by omega), k⟩
theorem iM_r {v : Int32} {M : Mem} {z : ZS} {K : Int32 → Mem → Prop} (h : IvR M z) (k : ∀ M', IvR M' z → rGr M' (zsN z) → hiC M M' → K (bI (decide (0 ≤ v ∧ v < nI (gk (gG z))))) M') : f_X9_isMarking v M K := by
  unfold f_X9_isMarking
  refine lN_r h (fun M' a g lo => X9_in_sp ?_)
  have k := k M' a g lo
  have bv := bfs_v a.2.2.1.2
  have k3 : gk (gG z) ≤ 300 := bv.1.1
  have G : rG M' 0 (gG z) := g.1.1
  have g30 : gI M' 30 (0 : Int32) = nI (gk (gG z)) := G.1
  rw [g30, show decide (0 ≤ v ∧ v ≤ nI (gk (gG z)) - 1) = decide (0 ≤ v ∧ v < nI (gk (gG z))) from decide_eq_decide.mpr (by rw [le_m1 (by omega)])]
  exact ⟨bI_z _, k⟩
theorem R_marking {v1 v2 : Int32} {M : Mem} {z : ZS} {K : Int32 → Mem → Prop} (h : IvR M z) (k : ∀ M', IvR M' z → hiC M M' → K (aMrk z v1 v2) M') : f_X9_marking v1 v2 M K := by
  unfold f_X9_marking
  intro M2 e2
  have h2 : IvR M2 z := by rw [e2]; exact IvR_0 h
  have g2 : hiC M M2 := by rw [e2]; exact hiC_w (by decide)
  refine iM_r h2 (fun M' a g lo => ?_)
  have k := k M' a (hiC_tr g2 lo)
  obtain ⟨hn, w⟩ := a.2.2.1
  have bv := bfs_v w
  have k3 : gk (gG z) ≤ 300 := bv.1.1
  have G : rG M' 0 (gG z) := g.1.1
  unfold aMrk at k
  refine ⟨fun q => ?_, fun q => X9_isPlace_sp ?_⟩
  · rw [if_neg (fun t => (of_decide_eq_false (b_of0 q)) t.2)] at k; exact k
  · have q := of_decide_eq_true (b_ofn q)
    rw [rt_P hn]
    refine ⟨fun y => ?_, fun y => ?_⟩
    · rw [if_neg (fun t => by rw [t.1] at y; exact absurd y (by decide))] at k; exact k
    · rw [if_pos ⟨b_ofn y, q⟩] at k
      obtain ⟨p, p1, p2⟩ := isPl_n (b_ofn y)
      obtain ⟨j, j1, j2⟩ := nn_of (i_nlt.mpr q.1)
      have y3 := q.2
      rw [j2, nI_LT (by omega) (by omega)] at y3
      rw [j2, p2, nI_CL (by omega), nI_CL (by omega)] at k
      have := G.2.2.1 j y3 p p1
      rw [Nat.mul_zero, Nat.zero_add] at this
      rw [j2, p2, l_10, m10_, nI_add, gI, nI_CL (by omega), this]
      exact ⟨(vp_nI (by omega) (by omega)).mpr (by omega), k⟩
/- came -/
noncomputable def aCam (z : ZS) (v1 v2 : Int32) : Int32 := if 0 ≤ v1 ∧ v1 < nI (gk (gG z)) then (if v2 = 0 then gf (gG z) v1.toNatClampNeg else if v2 = 1 then gy (gG z) v1.toNatClampNeg else if v2 = 2 then nI (mN (can (zsN z) (gm (gG z) v1.toNatClampNeg)) 8) else if v2 = 3 then bI (pB (hmP (gG z) v1.toNatClampNeg)) else -1) else -1
theorem C_came {c : Nat} {v1 v2 : Int32} {M : Mem} {z : ZS} {K : Int32 → Mem → Prop} (hc : c < 100000) (h : IvC c M z) (k : ∀ M', IvC c M' z → loC M M' → K (aCam z v1 v2) M') : f_X8_came v1 v2 M K := by
  unfold f_X8_came
  refine X8_presentGraph_sp hc h (fun M' a g lo => ⟨isX0_134, ?_⟩)
  have lo' : loC M M' := fun b hb => lo b (by omega)
  have hn := IvC_w a
  have w := hn.2.2.2
  have bv := bfs_v w
  have k3 : gk (gG z) ≤ 300 := bv.1.1
  have C : cB M' 134 (zsN z) := g.1.1
  have G : cG M' 134 (gG z) := g.1.1.1
  unfold aCam at k
  rw [G.1]
  refine ⟨fun q => ?_, fun q => ⟨fun q2 => ?_, fun q2 => ?_⟩⟩
  · rw [if_neg (fun t => i_nlt.mpr t.1 q)] at k; exact k M' a lo'
  · rw [if_pos ⟨i_nlt.mp q, q2⟩] at k
    obtain ⟨j, j1, j2⟩ := nn_of q
    rw [j2, nI_LT (by omega) (by omega)] at q2
    rw [j2, nI_CL (by omega)] at k
    rw [j2]
    have vp : vp_in (nI j) 300 := (vp_nI (by omega) (by omega)).mpr (by omega)
    refine ⟨fun e => ⟨vp, ?_⟩, fun e => ⟨vp, ?_⟩, fun e => ⟨vp, ?_⟩, fun e => fH_c w a g (fun M3 a3 g3 o3 lo3 => ⟨vp, ?_⟩), fun e0 e1 e2 e3 => ?_⟩
    · have k := k M' a lo'
      rw [if_pos e] at k
      rw [gI, nI_CL (by omega), (G.2.2.2.1 j q2).1]; exact k
    · have k := k M' a lo'
      rw [if_neg (by rw [e]; decide), if_pos e] at k
      rw [gI, nI_CL (by omega), (G.2.2.2.1 j q2).2]; exact k
    · have k := k M' a lo'
      rw [if_neg (by rw [e]; decide), if_neg (by rw [e]; decide), if_pos e] at k
      rw [gI, nI_CL (by omega), C.2.2.1 j q2]; exact k
    · have k := k M3 a3 (loC_tr lo' (fun b hb => lo3 b (by omega)))
      rw [if_neg (by rw [e]; decide), if_neg (by rw [e]; decide), if_neg (by rw [e]; decide), if_pos e] at k
      rw [gI, nI_CL (by omega), o3.2 j q2]; exact k
    · have k := k M' a lo'
      rw [if_neg e0, if_neg e1, if_neg e2, if_neg e3] at k; exact k
  · rw [if_neg (fun t => q2 t.2)] at k; exact k M' a lo'
theorem in03 {v : Int32} : (0 ≤ v ∧ v ≤ 3) ↔ (v = 0 ∨ v = 1 ∨ v = 2 ∨ v = 3) := by
  rw [i_le, i_le, i_eq, i_eq, i_eq, i_eq, t_0, t_1, t_2, t_3]; omega
theorem R_came {v1 v2 : Int32} {M : Mem} {z : ZS} {K : Int32 → Mem → Prop} (h : IvR M z) (k : ∀ M', IvR M' z → hiC M M' → K (aCam z v1 v2) M') : f_X9_came v1 v2 M K := by
  unfold f_X9_came
  intro M2 e2
  have h2 : IvR M2 z := by rw [e2]; exact IvR_0 h
  have g2 : hiC M M2 := by rw [e2]; exact hiC_w (by decide)
  refine iM_r h2 (fun M' a g lo => ?_)
  have k := k M' a (hiC_tr g2 lo)
  obtain ⟨hn, w⟩ := a.2.2.1
  have bv := bfs_v w
  have k3 : gk (gG z) ≤ 300 := bv.1.1
  have G : rG M' 0 (gG z) := g.1.1
  unfold aCam at k
  refine ⟨fun q => ?_, fun q => X9_in_sp ?_⟩
  · rw [if_neg (of_decide_eq_false (b_of0 q))] at k; exact k
  · have q := of_decide_eq_true (b_ofn q)
    rw [if_pos q] at k
    obtain ⟨j, j1, j2⟩ := nn_of (i_nlt.mpr q.1)
    have y3 := q.2
    rw [j2, nI_LT (by omega) (by omega)] at y3
    rw [j2, nI_CL (by omega)] at k
    rw [j2]
    have vp3 : vp_in (nI j) 300 := (vp_nI (by omega) (by omega)).mpr (by omega)
    have vp6 : vp_in (nI j) 600 := (vp_nI (by omega) (by omega)).mpr (by omega)
    have G4 := G.2.2.2.1 j y3
    have hw := g.1.2.2.1 j y3
    have hb : M'.1 36 j = bI (pB (hmP (gG z) j)) := g.2 j y3
    rw [Nat.mul_zero, Nat.zero_add] at G4 hw
    refine ⟨fun t => ⟨fun e => ⟨fun e1 => ⟨fun e2 => ⟨vp3, ?_⟩, fun e2 => ⟨vp6, ?_⟩⟩, fun e1 => ⟨vp6, ?_⟩⟩, fun e => ⟨vp6, ?_⟩⟩, fun t => ?_⟩
    · have e3 := (((in03.mp (of_decide_eq_true (b_ofn t))).resolve_left e).resolve_left e1).resolve_left e2
      rw [if_neg e, if_neg e1, if_neg e2, if_pos e3] at k
      rw [gI, nI_CL (by omega), hb]
      refine ⟨fun y => ?_, fun y => ?_⟩
      · rw [b_of0 y] at k; exact k
      · rw [b_ofn y] at k; exact k
    · rw [if_neg e, if_neg e1, if_pos e2] at k
      rw [gI, nI_CL (by omega), hw]; exact k
    · rw [if_neg e, if_pos e1] at k
      rw [gI, nI_CL (by omega), G4.2]; exact k
    · rw [if_pos e] at k
      rw [gI, nI_CL (by omega), G4.1]; exact k
    · have t := of_decide_eq_false (b_of0 t)
      rw [in03] at t
      rw [if_neg (fun y => t (Or.inl y)), if_neg (fun y => t (Or.inr (Or.inl y))), if_neg (fun y => t (Or.inr (Or.inr (Or.inl y)))), if_neg (fun y => t (Or.inr (Or.inr (Or.inr y))))] at k
      exact k
/- live -/
noncomputable def aLiv (z : ZS) (v : Int32) : Int32 := if isSt (nI (nS (zsN z))) v = true then bI (pB (lvP (zsN z) (gG z) v.toNatClampNeg)) else -1
theorem shr_b {n k : Nat} (hn : n < 2147483648) (hk : k < 31) : (nI n >>> (nI k &&& 31)) &&& 1 = bI (n.testBit k) := by
  have es : ((nI k &&& 31).toBitVec.smod 32).toNat = k := by
    have : ∀ k : Fin 31, ((nI k &&& 31).toBitVec.smod 32).toNat = k := by decide
    exact this ⟨k, hk⟩
  rw [pk_shrN (by omega) _ k es, l_1, nI_and, Nat.and_one_is_mod, Nat.testBit_eq_decide_div_mod_eq]
  have hlt : n / 2 ^ k % 2 < 2 := Nat.mod_lt _ (by omega)
  by_cases q : n / 2 ^ k % 2 = 1
  · rw [decide_eq_true q, q]; rfl
  · rw [decide_eq_false q, show n / 2 ^ k % 2 = 0 by omega]; rfl
theorem lvB_b {n : NN} {g : GS} {s : Nat} (hs : s < 8) (h : (nS n).testBit s = true) : (lvB n g).testBit s = pB (lvP n g s) := by
  unfold lvB
  rw [mN_tb, decide_eq_true hs, Bool.true_and, h, Bool.true_and]
theorem C_live {c : Nat} {v : Int32} {M : Mem} {z : ZS} {K : Int32 → Mem → Prop} (hc : c < 100000) (h : IvC c M z) (k : ∀ M', IvC c M' z → loC M M' → K (aLiv z v) M') : f_X8_live v M K := by
  have hn := IvC_w h
  unfold f_X8_live
  unfold aLiv at k
  refine X1_hasStep_sp ?_
  rw [ac_S hn]
  refine ⟨fun q => ?_, fun q => ?_⟩
  · have q := b_ofn q
    rw [if_pos q] at k
    obtain ⟨s, s1, s2⟩ := isSt_n q
    have sb : (nS (zsN z)).testBit s = true := by
      rw [s2, isSt_bt s1, bt_nI (by have := wf_S hn.2.2.2; omega) (by omega)] at q; exact q
    refine X8_presentGraph_sp hc h (fun M' a g lo => ⟨isX0_134, ?_⟩)
    refine lv_c (r := false) (cc := 50) (Or.inl ⟨rfl, rfl⟩) a g (IvC_w a) (fun M3 a3 lo3 => ?_)
    have k := k M3 a3 (fun b hb => by rw [lo3 b (Or.inl (by show b < 134; omega)), lo b (by omega)])
    rw [s2, nI_CL (by omega)] at k
    have ll : lvB (zsN z) (gG z) < 256 := mN_lt _ 8
    rw [s2]
    show K (nI (lvB (zsN z) (gG z)) >>> (nI s &&& 31) &&& 1) M3
    rw [shr_b (by omega) (by omega), lvB_b s1 sb]
    exact k
  · rw [if_neg (by rw [b_of0 q]; decide)] at k; exact k M h (loC_rf M)
theorem R_live {v : Int32} {M : Mem} {z : ZS} {K : Int32 → Mem → Prop} (h : IvR M z) (k : ∀ M', IvR M' z → hiC M M' → K (aLiv z v) M') : f_X9_live v M K := by
  unfold f_X9_live
  intro M2 e2
  have h2 : IvR M2 z := by rw [e2]; exact IvR_0 h
  have g2 : hiC M M2 := by rw [e2]; exact hiC_w (by decide)
  obtain ⟨hn, w⟩ := h2.2.2.1
  have bv := bfs_v w
  unfold aLiv at k
  refine X9_isStep_sp ?_
  rw [rt_S hn]
  refine ⟨fun q => ?_, fun q => ?_⟩
  · have q := b_ofn q
    rw [if_pos q] at k
    obtain ⟨s, s1, s2⟩ := isSt_n q
    rw [s2, nI_CL (by omega)] at k
    rw [s2]
    refine lN_r h2 (fun M' a g lo => ?_)
    refine X9_isLive_sp (o := 0) (n := zsN z) (by decide) s1 bv.1 bv.2.2 ⟨g.1.1.1, fun e he => g.1.2.1 e (by omega)⟩ (fun j hj => g.1.2.2.1 j hj) (fun M3 f3 => ?_)
    have k := k M3 (IvR_1 (Or.inr rfl) a f3) (hiC_tr g2 (hiC_tr lo (hiC_1 (by decide) f3)))
    refine ⟨fun y => ?_, fun y => ?_⟩
    · rw [b_of0 y] at k; exact k
    · rw [b_ofn y] at k; exact k
  · rw [if_neg (by rw [b_of0 q]; decide)] at k; exact k M2 h2 g2
/- most -/
noncomputable def aMst (z : ZS) (v : Int32) : Int32 := if isPl (nI (nP (zsN z))) v = true then nI (msB (gG z) v.toNatClampNeg (gk (gG z))) else -1
theorem C_most {c : Nat} {v : Int32} {M : Mem} {z : ZS} {K : Int32 → Mem → Prop} (hc : c < 100000) (h : IvC c M z) (k : ∀ M', IvC c M' z → loC M M' → K (aMst z v) M') : f_X8_most v M K := by
  have hn := IvC_w h
  unfold f_X8_most
  unfold aMst at k
  refine X1_hasPlace_sp ?_
  rw [ac_P hn]
  refine ⟨fun q => ?_, fun q => ?_⟩
  · rw [if_neg (by rw [b_of0 q]; decide)] at k; exact k M h (loC_rf M)
  · have q := b_ofn q
    rw [if_pos q] at k
    obtain ⟨p, p1, p2⟩ := isPl_n q
    rw [p2, nI_CL (by omega)] at k
    rw [p2]
    refine X8_presentGraph_sp hc h (fun M' a g lo => ⟨isX0_134, ?_⟩)
    have G : cG M' 134 (gG z) := g.1.1.1
    exact X0_mostIn_sp (bfs_v hn.2.2.2).1 p1 G.1 G.2.2.1 (k M' a (fun b hb => lo b (by omega)))
theorem ms_999 {g : GS} (v : GV g) {p : Nat} (hp : p < 10) : ∀ i, i ≤ gk g → msB g p i ≤ 999
  | 0, _ => by rw [msB]; omega
  | i + 1, h => by
    have a := ms_999 v hp i (by omega)
    have b := v.2.2.2.1 i (by omega) p hp
    rw [msB]
    split <;> omega
theorem R_most {v : Int32} {M : Mem} {z : ZS} {K : Int32 → Mem → Prop} (h : IvR M z) (k : ∀ M', IvR M' z → hiC M M' → K (aMst z v) M') : f_X9_most v M K := by
  unfold f_X9_most
  intro M2 e2
  have h2 : IvR M2 z := by rw [e2]; exact IvR_0 h
  have g2 : hiC M M2 := by rw [e2]; exact hiC_w (by decide)
  obtain ⟨hn, w⟩ := h2.2.2.1
  have bv := bfs_v w
  have k3 : gk (gG z) ≤ 300 := bv.1.1
  unfold aMst at k
  refine X9_isPlace_sp ?_
  rw [rt_P hn]
  refine ⟨fun q => ?_, fun q => ?_⟩
  · have q := b_ofn q
    rw [if_pos q] at k
    obtain ⟨p, p1, p2⟩ := isPl_n q
    rw [p2, nI_CL (by omega)] at k
    rw [p2]
    refine lN_r h2 (fun M' a g lo => ?_)
    have k := k M' a (hiC_tr g2 lo)
    have G : rG M' 0 (gG z) := g.1.1
    have g30 : gI M' 30 (0 : Int32) = nI (gk (gG z)) := G.1
    refine upT (fun m j => L_X9_most_23 (nI p) (fun (v2_2 : Int32) (M_6 : Mem) => K v2_2 M_6) K m (nI (msB (gG z) p j)) (nI j) M') 0 (gk (gG z)) (Nat.zero_le _) (fun m => ?_) (fun j _ hj m ih => ?_)
    · rw [L_X9_most_23, g30, nI_LE (by omega) (by omega)]
      exact ⟨fun _ => k, fun y => absurd (Nat.le_refl _) y⟩
    · have gm' := G.2.2.1 j hj p p1
      rw [Nat.mul_zero, Nat.zero_add] at gm'
      have b9 : gm (gG z) j p ≤ 999 := bv.1.2.2.2.1 j hj p p1
      have m9 : msB (gG z) p j ≤ 999 := ms_999 (g := gG z) bv.1 p1 j (by omega)
      rw [msB] at ih
      rw [L_X9_most_23, g30, nI_LE (by omega) (by omega), l_10, m10_, nI_add, gI, nI_CL (by omega), gm', nI_A1]
      unfold f_X9_greater
      rw [nI_LE (by omega) (by omega)]
      refine ⟨by omega, fun _ => ⟨(vp_nI (by omega) (by omega)).mpr (by omega), fun y => ?_, fun y => ?_⟩⟩
      · by_cases t : msB (gG z) p j < gm (gG z) j p
        · rw [if_pos t] at ih; exact ih
        · rw [if_neg t] at ih
          rw [show gm (gG z) j p = msB (gG z) p j by omega]; exact ih
      · rw [if_neg (by omega)] at ih; exact ih
  · rw [if_neg (by rw [b_of0 q]; decide)] at k; exact k M2 h2 g2
