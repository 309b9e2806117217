theorem X9_lh17_sp {i0 : Nat} {v2 : Int32} {g : GS} {M : Mem} {X K : Mem → Prop} (v : GV g) (hi : i0 < gk g) (hk : M.1 30 0 = nI (gk g)) (h : ∀ M', bk M' 34 g (fun i => decide (i = i0)) → fr1 34 M M' → X M') : ∃ n, L_X9_layHome_17 (nI i0) v2 X K n 0 M := by
  have k3 := v.1
  have key : ∀ d i, i + d = gk g → ∀ M1 : Mem, (∀ j, j < i → M1.1 34 j = bI (decide (j = i0))) → fr1 34 M M1 → L_X9_layHome_17 (nI i0) v2 X K (d + 1) (nI i) M1 := by
    intro d
    induction d with
    | zero =>
      intro i hi' M1 c1 c2
      rw [L_X9_layHome_17, gI, show (0 : Int32).toNatClampNeg = 0 from rfl, c2.1 30 (by decide), hk, nI_LE (by omega) (by omega)]
      exact ⟨fun _ => h M1 (fun j hj => c1 j (by omega)) c2, by omega⟩
    | succ d ih =>
      intro i hi' M1 c1 c2
      rw [L_X9_layHome_17, gI, show (0 : Int32).toNatClampNeg = 0 from rfl, c2.1 30 (by decide), hk, nI_LE (by omega) (by omega), vp_nI (by omega) (by omega), nI_CL (by omega), nI_A1, if_eqI (by omega) (by omega)]
      refine ⟨by omega, fun _ => ⟨by omega, fun M2 e2 => ih (i + 1) (by omega) M2 (fun j hj => ?_) (by rw [e2]; exact fr1_tr c2 (fr1_w M1))⟩⟩
      by_cases q : j = i
      · rw [e2, q, w1_at]
      · rw [e2, w1_no q]; exact c1 j (by omega)
  exact ⟨_, key (gk g) 0 (by omega) M (fun j hj => absurd hj (Nat.not_lt_zero _)) (fr1_rf _ M)⟩
theorem X9_lh56_sp {a : Nat} {g : GS} {F B : Nat → Bool} {M : Mem} {X : Int32 → Int32 → Mem → Prop} {K : Mem → Prop} (v : GV g) (hk : M.1 30 0 = nI (gk g)) (hF : bk M 35 g F) (hB : bk M 34 g B)
    (h0 : (∀ i, i < gk g → F i = true → B i = true) → X (nI a) 0 M) (h1 : ∀ i, i < gk g → F i = true → B i = false → X (nI i) 1 M) : ∃ n, L_X9_layHome_56 X K n (nI a) 0 0 M := by
  have k3 := v.1
  have key : ∀ d i, i + d = gk g → (∀ j, j < i → F j = true → B j = true) → L_X9_layHome_56 X K (d + 1) (nI a) 0 (nI i) M := by
    intro d
    induction d with
    | zero =>
      intro i hi c
      rw [L_X9_layHome_56, gI, show (0 : Int32).toNatClampNeg = 0 from rfl, hk, nI_LE (by omega) (by omega)]
      exact ⟨fun _ => h0 (fun j hj => c j (by omega)), by omega⟩
    | succ d ih =>
      intro i hi c
      rw [L_X9_layHome_56, gI, show (0 : Int32).toNatClampNeg = 0 from rfl, hk, nI_LE (by omega) (by omega), vp_nI (by omega) (by omega), gI, gI, nI_CL (by omega), hF i (by omega), hB i (by omega), nI_A1]
      have nx : (F i = true → B i = true) → L_X9_layHome_56 X K (d + 1) (nI a) 0 (nI (i + 1)) M := fun z => ih (i + 1) (by omega) (fun j hj => by
        rcases Nat.lt_succ_iff_lt_or_eq.mp hj with y | y
        · exact c j y
        · rw [y]; exact z)
      refine ⟨by omega, fun _ => ⟨fun w => absurd rfl w, fun _ => ⟨by omega, fun w => nx (fun y => ?_), fun w => ⟨fun u => nx (fun _ => b_ofn u), fun u => ?_⟩⟩⟩⟩
      · rw [b_of0 w] at y; cases y
      · have fin := h1 i (by omega) (b_ofn w) (b_of0 u)
        rw [L_X9_layHome_56, gI, show (0 : Int32).toNatClampNeg = 0 from rfl, hk, nI_LE (by omega) (by omega)]
        exact ⟨fun _ => fin, fun _ => ⟨fun _ => fin, fun w => absurd w (by decide)⟩⟩
  exact ⟨_, key (gk g) 0 (by omega) (fun j hj => absurd hj (Nat.not_lt_zero _))⟩
theorem ctB_ss {c d : Nat → Bool} {i : Nat} : ∀ {n : Nat}, (∀ j, c j = true → d j = true) → i < n → c i = false → d i = true → ctB c n < ctB d n
  | 0, _, h, _, _ => absurd h (Nat.not_lt_zero _)
  | n + 1, hs, hi, hc, hd => by
    have le : ∀ m, ctB c m ≤ ctB d m := fun m => by
      induction m with
      | zero => exact Nat.le_refl _
      | succ m ih =>
        cases q : c m
        · rw [ctB_f q]
          cases q' : d m
          · rw [ctB_f q']; exact ih
          · rw [ctB_t q']; omega
        · rw [ctB_t q, ctB_t (hs m q)]; omega
    rcases Nat.lt_succ_iff_lt_or_eq.mp hi with y | y
    · have := ctB_ss hs y hc hd
      cases q : c n
      · rw [ctB_f q]
        cases q' : d n
        · rw [ctB_f q']; exact this
        · rw [ctB_t q']; omega
      · rw [ctB_t q, ctB_t (hs n q)]; omega
    · rw [y] at hc hd
      rw [ctB_f hc, ctB_t hd]
      have := le n
      omega
theorem th_2 {o : Nat} {g : GS} {M M' : Mem} (h : th M o g) (h29 : M'.1 29 = M.1 29) (h30 : M'.1 30 = M.1 30) : th M' o g := by
  unfold th
  rw [h29, h30]
  exact h
/-- what homes may change -/
def frM (M M' : Mem) : Prop := (∀ b, b ≠ 32 → b ≠ 34 → b ≠ 35 → b ≠ 36 → M'.1 b = M.1 b) ∧ M'.2 = M.2
theorem frM_tr {M M1 M2 : Mem} (h : frM M M1) (h' : frM M1 M2) : frM M M2 := ⟨fun b a c d e => by rw [h'.1 b a c d e, h.1 b a c d e], by rw [h'.2, h.2]⟩
theorem frM_rf (M : Mem) : frM M M := ⟨fun _ _ _ _ _ => rfl, rfl⟩
theorem X9_lh4_sp {g : GS} {M : Mem} {X K : Mem → Prop} (v : GV g) (hx : xok g (8 * gk g)) (ht : th M 0 g)
    (h : ∀ M' a B, a < gk g → bk M' 35 g (fun i => pB (R g a i)) → bk M' 34 g B → (∀ i, i < gk g → (B i = true ↔ R g i a)) → (∀ i, i < gk g → R g a i → R g i a) → frM M M' → X M') :
    ∀ d a (M1 : Mem), ctB (fun i => pB (R g a i)) (gk g) ≤ d → a < gk g → frM M M1 → L_X9_layHome_4 X K (d + 1) (nI a) 1 M1 := by
  have k3 := v.1
  intro d
  induction d with
  | zero =>
    intro a M1 hd ha
    have := ctB_lt (c := fun i => pB (R g a i)) (show a < gk g from ha) (pB_t (R_rf g a))
    omega
  | succ d ih =>
    intro a M1 hd ha hf
    have ht1 : th M1 0 g := th_2 ht (hf.1 29 (by decide) (by decide) (by decide) (by decide)) (hf.1 30 (by decide) (by decide) (by decide) (by decide))
    rw [L_X9_layHome_4]
    refine ⟨fun w => absurd w (by decide), fun _ => X9_goesForth_sp v hx ht1 ha (fun M2 b2 f2 => ?_)⟩
    have ht2 : th M2 0 g := th_2 ht1 (f2.1 29 (by decide) (by decide)) (f2.1 30 (by decide) (by decide))
    refine X9_lh17_sp v ha ht2.1 (fun M3 b3 f3 => ?_)
    have ht3 : th M3 0 g := th_f ht2 f3 (by decide) (by decide)
    refine X9_goesBack_sp (o := 0) (by decide) v hx b3 ht3 (fun M4 S4 b4 f4 s4 r4 c4 => ?_)
    have ht4 : th M4 0 g := th_f ht3 f4 (by decide) (by decide)
    have fr4 : frM M M4 := frM_tr hf ⟨fun b h1 h2 h3 h4 => by rw [f4.1 b h2, f3.1 b h2, f2.1 b h1 h3], by rw [f4.2, f3.2, f2.2]⟩
    have F4 : bk M4 35 g (fun i => pB (R g a i)) := fun i hi => by rw [f4.1 35 (by decide), f3.1 35 (by decide)]; exact b2 i hi
    have B4 : ∀ i, i < gk g → (S4 i = true ↔ R g i a) := fun i hi => by
      constructor
      · intro y
        obtain ⟨j, p1, p2⟩ := r4 i y
        rw [of_decide_eq_true p1] at p2
        exact p2
      · intro y
        exact c4 i a hi (s4 a (decide_eq_true rfl)) y
    refine X9_lh56_sp v ht4.1 F4 b4 (fun z => ?_) (fun i hi z1 z2 => ?_)
    · have fin := h M4 a S4 ha F4 b4 B4 (fun i hi y => (B4 i hi).mp (z i hi (pB_t y))) fr4
      rw [L_X9_layHome_4]
      exact ⟨fun _ => fin, fun w => absurd rfl w⟩
    · have ai : R g a i := pB_iff.mp z1
      have ni : ¬ R g i a := fun y => by rw [(B4 i hi).mpr y] at z2; cases z2
      refine ih i M4 ?_ hi fr4
      have := ctB_ss (c := fun j => pB (R g i j)) (d := fun j => pB (R g a j)) (i := a) (n := gk g) (fun j hj => pB_t (R_tr ai (pB_iff.mp hj))) ha (pB_f ni) (pB_t (R_rf g a))
      omega
theorem bI_and (a b : Bool) : bI a &&& bI b = bI (a && b) := by cases a <;> cases b <;> decide
theorem X9_lh106_sp {g : GS} {B : Nat → Bool} {M : Mem} {X : Int32 → Mem → Prop} {K : Mem → Prop} (v : GV g) (hk : M.1 30 0 = nI (gk g)) (hB : bk M 34 g B) (h : X (bI (allB B (gk g))) M) : ∃ n, L_X9_layHome_106 X K n 1 0 M := by
  have k3 := v.1
  have key : ∀ d i, i + d = gk g → L_X9_layHome_106 X K (d + 1) (bI (allB B i)) (nI i) M := by
    intro d
    induction d with
    | zero =>
      intro i hi
      have : i = gk g := by omega
      subst this
      rw [L_X9_layHome_106, gI, show (0 : Int32).toNatClampNeg = 0 from rfl, hk, nI_LE (by omega) (by omega)]
      exact ⟨fun _ => h, by omega⟩
    | succ d ih =>
      intro i hi
      rw [L_X9_layHome_106, gI, gI, show (0 : Int32).toNatClampNeg = 0 from rfl, hk, nI_LE (by omega) (by omega), vp_nI (by omega) (by omega), nI_CL (by omega), hB i (by omega), nI_A1, bI_and]
      exact ⟨by omega, fun _ => ⟨by omega, fun x3 e3 => by rw [e3]; exact ih (i + 1) (by omega)⟩⟩
  exact ⟨_, key (gk g) 0 (by omega)⟩
theorem X9_layHome_sp {g : GS} {M : Mem} {K : Mem → Prop} (v : GV g) (k1 : 1 ≤ gk g) (hx : xok g (8 * gk g)) (ht : th M 0 g) (h : ∀ M', bk M' 36 g (fun i => pB (hmP g i)) → frM M M' → K M') : f_X9_layHome M K := by
  have k3 := v.1
  unfold f_X9_layHome
  refine ⟨_, X9_lh4_sp v hx ht (fun M1 a B c1 c2 c3 c4 c5 c6 => ?_) (gk g) 0 M (ctB_le _ _) (by omega) (frM_rf M)⟩
  have hk : M1.1 30 0 = nI (gk g) := by rw [c6.1 30 (by decide) (by decide) (by decide) (by decide)]; exact ht.1
  refine X9_lh106_sp v hk c3 ?_
  have key : ∀ d i, i + d = gk g → ∀ M2 : Mem, (∀ j, j < i → M2.1 36 j = bI (pB (hmP g j))) → fr1 36 M1 M2 → L_X9_layHome_136 (bI (allB B (gk g))) (fun M_11 => K M_11) K (d + 1) (nI i) M2 := by
    intro d
    induction d with
    | zero =>
      intro i hi M2 e1 e2
      rw [L_X9_layHome_136, gI, show (0 : Int32).toNatClampNeg = 0 from rfl, e2.1 30 (by decide), hk, nI_LE (by omega) (by omega)]
      exact ⟨fun _ => h M2 (fun j hj => e1 j (by omega)) (frM_tr c6 ⟨fun b _ _ _ h4 => e2.1 b h4, e2.2⟩), by omega⟩
    | succ d ih =>
      intro i hi M2 e1 e2
      have ig : i < gk g := by omega
      have stp : ∀ (w : Int32), w = bI (pB (hmP g i)) → i < 300 ∧ ∀ M_10 : Mem, M_10 = wI M2 36 i (w &&& 1) → L_X9_layHome_136 (bI (allB B (gk g))) (fun M_11 => K M_11) K (d + 1) (nI i + 1) M_10 := by
        intro w ew
        rw [ew, bI_z, nI_A1]
        refine ⟨by omega, fun M3 e3 => ih (i + 1) (by omega) M3 (fun j hj => ?_) (by rw [e3]; exact fr1_tr e2 (fr1_w M2))⟩
        by_cases q : j = i
        · rw [e3, q, w1_at]
        · rw [e3, w1_no q]; exact e1 j (by omega)
      rw [L_X9_layHome_136, gI, show (0 : Int32).toNatClampNeg = 0 from rfl, e2.1 30 (by decide), hk, nI_LE (by omega) (by omega)]
      refine ⟨by omega, fun _ => ?_⟩
      unfold S_X9_layHome_154
      rw [vp_nI (by omega) (by omega), gI, nI_CL (by omega), e2.1 35 (by decide), c2 i ig]
      refine ⟨fun z => stp 0 ?_, fun z => ⟨by omega, fun y => stp 0 ?_, fun y => stp 1 ?_⟩⟩
      · have nh : ¬ hmP g i := fun hm => by
          have z := b_of0 z
          have : allB B (gk g) = true := allB_iff.mpr (fun j hj => (c4 j hj).mpr (R_tr (hm.2 j hj) (c5 i ig (hm.2 a c1))))
          rw [this] at z; cases z
        rw [pB_f nh]; rfl
      · have nh : ¬ hmP g i := fun hm => by
          have y := b_of0 y
          have y2 : pB (R g a i) = false := y
          rw [pB_t (hm.2 a c1)] at y2; cases y2
        rw [pB_f nh]; rfl
      · have y := b_ofn y
        have z := allB_iff.mp (b_ofn z)
        rw [pB_t (show hmP g i from ⟨ig, fun j hj => R_tr ((c4 j hj).mp (z j hj)) (pB_iff.mp y)⟩)]; rfl
  exact ⟨_, key (gk g) 0 (by omega) M1 (fun j hj => absurd hj (Nat.not_lt_zero _)) (fr1_rf _ M1)⟩
theorem X9_isLive_sp {o s : Nat} {n : NN} {g : GS} {M : Mem} {K : Int32 → Mem → Prop} (ho : o < 2) (hs : s < 8) (v : GV g) (hx : xok g (8 * gk g)) (ht : th M o g) (hw : ∀ j, j < gk g → M.1 28 (300 * o + j) = nI (mN (can n (gm g j)) 8))
    (h : ∀ M', fr1 34 M M' → K (bI (pB (lvP n g s))) M') : f_X9_isLive (nI o) (nI s) M K := by
  have k3 := v.1
  unfold f_X9_isLive
  have key : ∀ d i, i + d = gk g → ∀ M1 : Mem, (∀ j, j < i → M1.1 34 j = bI (can n (gm g j) s)) → fr1 34 M M1 → L_X9_isLive_5 (nI o) (nI s) 1 (fun M_4 => f_X9_goesBack (nI o) M_4 (fun (M_5 : Mem) => (∃ k54 : Nat, L_X9_isLive_54 (nI o) (fun (v3_2 : Int32) (M_6 : Mem) => (v3_2 &&& 1 = v3_2) ∧ K v3_2 M_6) K k54 (1 : Int32) (0 : Int32) M_5))) K (d + 1) (nI i) M1 := by
    intro d
    induction d with
    | zero =>
      intro i hi M1 c1 c2
      have ht1 := th_f ht c2 (by decide) (by decide)
      rw [L_X9_isLive_5, gI, nI_CL (by omega), ht1.1, vp_nI (by omega) (by omega), nI_LE (by omega) (by omega)]
      refine ⟨ho, fun _ => ?_, by omega⟩
      refine X9_goesBack_sp ho v hx (S := fun j => can n (gm g j) s) (fun j hj => c1 j (by omega)) ht1 (fun M2 S2 b2 f2 s2 r2 l2 => ?_)
      have ht2 := th_f ht1 f2 (by decide) (by decide)
      have all : allB S2 (gk g) = pB (lvP n g s) := by
        refine pB_eq ?_
        rw [allB_iff]
        constructor
        · intro a i hi
          obtain ⟨j, p1, p2⟩ := r2 i (a i hi)
          obtain ⟨kk, pp⟩ := p2
          exact ⟨j, R_lt pp hi, ⟨kk, pp⟩, p1⟩
        · intro a i hi
          obtain ⟨j, p1, p2, p3⟩ := a i hi
          exact l2 i j hi (s2 j p3) p2
      have key2 : ∀ d i, i + d = gk g → L_X9_isLive_54 (nI o) (fun (v3_2 : Int32) (M_6 : Mem) => (v3_2 &&& 1 = v3_2) ∧ K v3_2 M_6) K (d + 1) (bI (allB S2 i)) (nI i) M2 := by
        intro d
        induction d with
        | zero =>
          intro i hi
          have : i = gk g := by omega
          subst this
          rw [L_X9_isLive_54, gI, nI_CL (by omega), ht2.1, vp_nI (by omega) (by omega), nI_LE (by omega) (by omega)]
          refine ⟨ho, fun _ => ⟨bI_z _, ?_⟩, by omega⟩
          rw [all]
          exact h M2 (fr1_tr c2 f2)
        | succ d ih =>
          intro i hi
          rw [L_X9_isLive_54, gI, gI, nI_CL (by omega), ht2.1, vp_nI (by omega) (by omega), nI_LE (by omega) (by omega), vp_nI (by omega) (by omega), nI_CL (by omega), b2 i (by omega), nI_A1, bI_and]
          exact ⟨ho, by omega, fun _ => ⟨by omega, fun x3 e3 => by rw [e3]; exact ih (i + 1) (by omega)⟩⟩
      exact ⟨_, key2 (gk g) 0 (by omega)⟩
    | succ d ih =>
      intro i hi M1 c1 c2
      have ht1 := th_f ht c2 (by decide) (by decide)
      have e28 : M1.1 28 (300 * o + i) = nI (mN (can n (gm g i)) 8) := by rw [c2.1 28 (by decide)]; exact hw i (by omega)
      rw [L_X9_isLive_5, gI, gI, nI_CL (by omega), ht1.1, vp_nI (by omega) (by omega), nI_LE (by omega) (by omega), l_300, m300_, nI_add, vp_nI (by omega) (by omega), nI_CL (by omega), e28, nI_A1, nI_CL (by omega), vp_nI (by omega) (by omega)]
      refine ⟨ho, by omega, fun _ => ⟨by omega, X9_isOf_sp ⟨by omega, fun M3 e3 => ?_⟩⟩⟩
      rw [bI_z] at e3
      refine ih (i + 1) (by omega) M3 (fun j hj => ?_) (by rw [e3]; exact fr1_tr c2 (fr1_w M1))
      by_cases q : j = i
      · rw [e3, q, w1_at]
        exact congrArg bI (bt_mN (c := can n (gm g i)) hs)
      · rw [e3, w1_no q]; exact c1 j (by omega)
  exact ⟨_, key (gk g) 0 (by omega) M (fun j hj => absurd hj (Nat.not_lt_zero _)) (fr1_rf _ M)⟩
theorem X9_dead_sp {o : Nat} {n : NN} {g : GS} {M : Mem} {K : Int32 → Mem → Prop} (ho : o < 2) (v : GV g) (hk : M.1 30 o = nI (gk g)) (hw : ∀ j, j < gk g → M.1 28 (300 * o + j) = nI (mN (can n (gm g j)) 8)) (h : K (nI (ctB (ddB n g) (gk g))) M) : f_X9_dead (nI o) M K := by
  have k3 := v.1
  unfold f_X9_dead
  have key : ∀ d i, i + d = gk g → L_X9_dead_4 (nI o) (fun v2_2 M_2 => K v2_2 M_2) K (d + 1) (nI (ctB (ddB n g) i)) (nI i) M := by
    intro d
    induction d with
    | zero =>
      intro i hi
      have : i = gk g := by omega
      subst this
      rw [L_X9_dead_4, gI, nI_CL (by omega), hk, vp_nI (by omega) (by omega), nI_LE (by omega) (by omega)]
      exact ⟨ho, fun _ => h, by omega⟩
    | succ d ih =>
      intro i hi
      have m8 := mN8 (can n (gm g i))
      have ct := ctB_le (ddB n g) i
      rw [L_X9_dead_4, gI, gI, nI_CL (by omega), hk, vp_nI (by omega) (by omega), nI_LE (by omega) (by omega), l_300, m300_, nI_add, vp_nI (by omega) (by omega), nI_CL (by omega), hw i (by omega), nI_Z (by omega), nI_A1, nI_A1, Int32.add_zero]
      have := ih (i + 1) (by omega)
      refine ⟨ho, by omega, fun _ => ⟨by omega, fun z x e => ?_, fun z x e => ?_⟩⟩
      · rw [ctB_f (decide_eq_false z)] at this
        rw [e]; exact this
      · rw [ctB_t (decide_eq_true z)] at this
        rw [e]; exact this
  exact ⟨_, key (gk g) 0 (by omega)⟩
