/-! the class: a unit's row, cleared -/
theorem i2l (x : Int32) : x.toInt64 = oL x.toInt := by rw [← Int32.toInt_toInt64 x]; exact (Int64.ofInt_toInt _).symm
theorem nI_dL {a b : Nat} (ha : a ≤ 3) (hb : b ≤ 3) : (nI a - nI b).toInt64 = oL ((a : Int) - (b : Int)) := by
  rw [i2l, i_sub (by rw [i_nI (by omega), i_nI (by omega)]; omega) (by rw [i_nI (by omega), i_nI (by omega)]; omega), i_nI (by omega), i_nI (by omega)]
theorem X7_isUnit_sp {t nc u tp ts : Nat} {n : NN} {w : Bool} {M : Mem} {K : Int32 → Mem → Prop} (hn : atC M nc n tp ts) (hw : M.1 t 0 = bI w) (hu : u < 10) (h : K (bI (unB n w u)) M) : f_X7_isUnit t nc (nI u) M K := by
  have hP := wf_P hn.2.2.2
  have hS := wf_S hn.2.2.2
  unfold f_X7_isUnit
  rw [hw]
  refine ⟨fun z => X1_hasPlace_sp ⟨bI_z _, ?_⟩, fun z => X1_hasStep_sp ⟨bI_z _, ?_⟩⟩
  · have z := b_of0 z
    rw [isPl_bt hu, ac_P hn, bt_nI (by omega) (by omega)]
    unfold unB at h
    rw [z, if_neg (by decide)] at h
    exact h
  · have z := b_ofn z
    unfold unB at h
    rw [z, if_pos rfl] at h
    by_cases q : u < 8
    · rw [isSt_bt q, ac_S hn, bt_nI (by omega) (by omega)]
      rw [decide_eq_true q, Bool.true_and] at h
      exact h
    · have e : isSt (M.1 nc 6) (nI u) = false := by
        unfold isSt
        rw [decide_eq_false (by rw [l_8, nI_LT (by omega) (by omega)]; exact fun y => q y.2)]
        rfl
      rw [e]
      rw [decide_eq_false q, Bool.false_and] at h
      exact h
theorem X7_changeOf_sp {t nc u i tp ts : Nat} {n : NN} {w : Bool} {M : Mem} {K : Int32 → Mem → Prop} (hn : atC M nc n tp ts) (hw : M.1 t 0 = bI w) (hu : u < 10) (hi : i < 10) (hU : unB n w u = true) (h : ∀ r : Int32, r.toInt64 = oL (CH n w u i) → K r M) : f_X7_changeOf t nc (nI u) (nI i) M K := by
  unfold f_X7_changeOf
  rw [hw, l_8, nI_LE (by omega) (by omega)]
  refine ⟨fun z => ⟨fun y => h _ ?_, fun y => X1_change_sp (by omega) hu (h _ ?_)⟩, fun z => X1_change_sp ?_ hi (h _ ?_)⟩
  · rw [b_of0 z]; unfold CH; rw [if_neg (by decide), if_neg (by omega)]; rfl
  · rw [ac_G hn (by omega), ac_T hn (by omega), nI_dL (wf_G3 hn.2.2.2 _) (wf_T3 hn.2.2.2 _), b_of0 z]
    unfold CH; rw [if_neg (by decide), if_pos (by omega)]; rfl
  · unfold unB at hU
    rw [b_ofn z, if_pos rfl, Bool.and_eq_true] at hU
    exact of_decide_eq_true hU.1
  · have u8 : u < 8 := by
      unfold unB at hU
      rw [b_ofn z, if_pos rfl, Bool.and_eq_true] at hU
      exact of_decide_eq_true hU.1
    rw [ac_G hn (by omega), ac_T hn (by omega), nI_dL (wf_G3 hn.2.2.2 _) (wf_T3 hn.2.2.2 _), b_ofn z]
    unfold CH; rw [if_pos rfl]; rfl
theorem if_eqL {a b : Nat} (ha : a < 2147483648) (hb : b < 2147483648) : (if ¬ nI a = nI b then (0 : Int64) else 1) = oL (if a = b then 1 else 0) := by
  by_cases q : a = b
  · rw [if_neg (fun w => w (by rw [q])), if_pos q]; rfl
  · rw [if_pos (by rw [nI_EQ ha hb]; exact q), if_neg q]; rfl
theorem atC_1 {M M' : Mem} {c tp ts : Nat} {n : NN} (h : atC M c n tp ts) (e : M'.1 = M.1) : atC M' c n tp ts := atC_fr h (by rw [e]) (by rw [e]) (by rw [e]) (by rw [e])
theorem X7_in9_sp {t nc u k tp ts : Nat} {v3 : Int32} {n : NN} {w : Bool} {M : Mem} {X : Mem → Prop} {K : Int32 → Mem → Prop} (hk : k ≤ 10) (hn : atC M nc n tp ts) (hw : M.1 t 0 = bI w) (hu : u < 10) (hU : unB n w u = true)
    (h : ∀ M', rwL M' (t + 1) 20 k (ur (CH n w) u) → frL (t + 1) (20 * k) 20 M M' → X M') : ∃ f, L_X7_isIndependent_9 t nc (nI u) v3 (nI (20 * k)) X K f 0 M := by
  have key : ∀ d i, i + d = 10 → ∀ M1 : Mem, (∀ j, j < i → M1.2 (t + 1) (20 * k + j) = oL (CH n w u j) ∧ M1.2 (t + 1) (20 * k + 10 + j) = oL (if j = u then 1 else 0)) → frL (t + 1) (20 * k) 20 M M1 → L_X7_isIndependent_9 t nc (nI u) v3 (nI (20 * k)) X K (d + 1) (nI i) M1 := by
    intro d
    induction d with
    | zero =>
      intro i hi M1 c1 c2
      rw [L_X7_isIndependent_9, l_10, nI_LE (by omega) (by omega)]
      refine ⟨fun _ => h M1 (fun j hj => ?_) c2, by omega⟩
      unfold ur
      by_cases q : j < 10
      · rw [if_pos q]; exact (c1 j (by omega)).1
      · have e := (c1 (j - 10) (by omega)).2
        rw [if_neg q]
        rw [show 20 * k + 10 + (j - 10) = 20 * k + j by omega] at e
        rw [e]
        by_cases r : j = 10 + u
        · rw [if_pos (by omega), if_pos r]
        · rw [if_neg (by omega), if_neg r]
    | succ d ih =>
      intro i hi M1 c1 c2
      rw [L_X7_isIndependent_9, l_10, nI_LE (by omega) (by omega), nI_add, nI_add, nI_add, vp_nI (by omega) (by omega), vp_nI (by omega) (by omega), nI_CL (by omega), nI_CL (by omega), if_eqL (by omega) (by omega), nI_A1]
      refine ⟨by omega, fun _ => X7_changeOf_sp (n := n) (w := w) (atC_1 hn c2.1) (by rw [c2.1]; exact hw) hu (by omega) hU (fun r er => ⟨by omega, fun M3 e3 => ⟨by omega, fun M4 e4 => ?_⟩⟩)⟩
      rw [er] at e3
      refine ih (i + 1) (by omega) M4 (fun j hj => ?_) (frL_tr c2 (frL_tr (M1 := M3) (by rw [e3]; exact frL_w M1 (by omega) (by omega)) (by rw [e4]; exact frL_w M3 (by omega) (by omega))))
      by_cases q : j = i
      · rw [q, e4, wL_at, wL_no (by omega), e3, wL_at]; exact ⟨rfl, rfl⟩
      · rw [e4, wL_no (by omega), wL_no (by omega), e3, wL_no (by omega), wL_no (by omega)]; exact c1 j (by omega)
  exact ⟨_, key 10 0 (by omega) M (fun j hj => absurd hj (Nat.not_lt_zero _)) (frL_rf _ _ _ M)⟩
theorem abs_sq {a : Int} {B : Nat} (h : a * a ≤ (B : Int) * B) : a.natAbs ≤ B := by
  have e : ((a.natAbs : Int)) * (a.natAbs : Int) = a * a := by
    rcases Int.natAbs_eq a with q | q
    · rw [← q]
    · have : (a.natAbs : Int) = -a := by omega
      rw [this, Int.neg_mul_neg]
  have := sq_eq (a := (a.natAbs : Int)) (b := (B : Int)) (by omega) (by omega) (by rw [e]; exact h)
  omega
theorem mul_ab {a b : Int} {A B : Nat} (ha : a.natAbs ≤ A) (hb : b.natAbs ≤ B) : (a * b).natAbs ≤ A * B := by rw [Int.natAbs_mul]; exact Nat.mul_le_mul ha hb
theorem pw91 : ∀ j, j < 8 → pw 91 (j + 1) ≤ ((68574961 : Nat) : Int) * ((68574961 : Nat) : Int) := by decide
theorem pw91' : ∀ j, j < 9 → pw 91 (j + 1) ≤ ((655000000 : Nat) : Int) * ((655000000 : Nat) : Int) := by decide
theorem rg_sub {a b c d : Int} (ha : a.natAbs ≤ 68574961) (hb : b.natAbs ≤ 68574961) (hc : c.natAbs ≤ 68574961) (hd : d.natAbs ≤ 68574961) : rg (a * b - c * d) := by
  have h1 := mul_ab ha hb
  have h2 := mul_ab hc hd
  generalize a * b = p at *
  generalize c * d = q at *
  unfold rg; omega
/-- rows and columns, as the class has them -/
def WS (M : Mem) (t : Nat) (x : Nat → Nat → Int) (c : Nat → Nat) (k : Nat) : Prop := ∀ j, j < k → rwL M (t + 1) 20 j (x j) ∧ M.1 (t + 2) j = nI (c j)
theorem WS_L {M M' : Mem} {t k r : Nat} {x : Nat → Nat → Int} {c : Nat → Nat} (h : WS M t x c k) (f : frL (t + 1) (20 * r) 20 M M') (hr : k ≤ r) : WS M' t x c k := fun j hj => ⟨rwL_fr (h j hj).1 f (by omega), by rw [f.1]; exact (h j hj).2⟩
theorem X7_in68_sp {t u k : Nat} {v4 : Int32} {C : Nat → Nat → Int} {us : Nat → Nat} {x : Nat → Nat → Int} {c : Nat → Nat} {v : Nat → Int} {M : Mem} {X : Mem → Prop} {K : Int32 → Mem → Prop} (hA : alen (t + 1) = 220) (hC : ∀ u i, -3 ≤ C u i ∧ C u i ≤ 3) (hk : k ≤ 8) (hu : u < 10) (hn : ∀ l, l < k → us l ≠ u) (hE : ES C us x c k) (hW : WS M t x c k) (hr : rwL M (t + 1) 20 k v) (hv : RC C us x c 0 u v)
    (h : ∀ M' v', RC C us x c k u v' → rwL M' (t + 1) 20 k v' → frL (t + 1) (20 * k) 20 M M' → X M') : ∃ f, L_X7_isIndependent_68 t (nI k) v4 X K f 0 M := by
  have key : ∀ d j, j + d = k → ∀ (M1 : Mem) v1, RC C us x c j u v1 → rwL M1 (t + 1) 20 k v1 → frL (t + 1) (20 * k) 20 M M1 → L_X7_isIndependent_68 t (nI k) v4 X K (d + 1) (nI j) M1 := by
    intro d
    induction d with
    | zero =>
      intro j hj M1 v1 c1 c2 c3
      have : j = k := by omega
      subst this
      rw [L_X7_isIndependent_68, nI_LE (by omega) (by omega)]
      exact ⟨fun _ => h M1 v1 c1 c2 c3, by omega⟩
    | succ d ih =>
      intro j hj M1 v1 c1 c2 c3
      have hW1 := WS_L hW c3 (Nat.le_refl k)
      obtain ⟨⟨q1, q2⟩, q3, q4, q5, q6, q7⟩ := hE.2 j (by omega)
      have bv : ∀ i, i < 20 → (v1 i).natAbs ≤ 68574961 := fun i hi => abs_sq (Int.le_trans (RC_b hC hE (by omega) hu c1 i hi) (pw91 j (by omega)))
      have bx : ∀ i, i < 20 → (x j i).natAbs ≤ 68574961 := fun i hi => abs_sq (Int.le_trans (q7 i hi) (pw91 j (by omega)))
      have rgs : ∀ {z : Int}, z.natAbs ≤ 68574961 → rg z := fun hz => by unfold rg; omega
      rw [L_X7_isIndependent_68, nI_LE (by omega) (by omega), vp_nI (by omega) (by omega), gI, nI_CL (by omega), (hW1 j (by omega)).2, nI_A1]
      refine ⟨by omega, fun _ => ⟨by omega, ?_⟩⟩
      rw [l_20]
      refine X8_clearColumn_sp (wd := 20) (r1 := k) (r2 := j) (c := c j) (y1 := v1) (y2 := x j) (by omega) (by omega) (by rw [hA]; omega) (by rw [hA]; omega) (by rw [hA]; omega) (by omega) c2 (hW1 j (by omega)).1 (rgs (bv _ (by omega))) (rgs (bx _ (by omega))) (fun i hi => rg_sub (bv i hi) (bx _ (by omega)) (bx i hi) (bv _ (by omega))) (fun z => ?_) (fun M' z1 z2 r' f' => ?_)
      · rcases z with z | z
        · exact absurd z q2
        · exact ih (j + 1) (by omega) M1 v1 (RC_n c1 z) c2 c3
      · exact ih (j + 1) (by omega) M' _ (RC_s hE (by omega) hu hn c1) r' (frL_tr c3 f')
  exact ⟨_, key k 0 (by omega) M v hv hr (frL_rf _ _ _ M)⟩
/-- only row k and its column are changed -/
def frI (t k : Nat) (M M' : Mem) : Prop := (∀ b, b ≠ t + 2 → M'.1 b = M.1 b) ∧ (∀ j, j ≠ k → M'.1 (t + 2) j = M.1 (t + 2) j) ∧ (∀ b, b ≠ t + 1 → M'.2 b = M.2 b) ∧ ∀ i, i < 20 * k ∨ 20 * k + 20 ≤ i → M'.2 (t + 1) i = M.2 (t + 1) i
theorem X7_isIndependent_sp {t nc u k tp ts : Nat} {n : NN} {w : Bool} {us : Nat → Nat} {x : Nat → Nat → Int} {c : Nat → Nat} {M : Mem} {K : Int32 → Mem → Prop} (hA : alen (t + 1) = 220) (hk : k ≤ 8) (hn : atC M nc n tp ts) (hw : M.1 t 0 = bI w) (hu : u < 10) (hU : unB n w u = true) (hne : ∀ l, l < k → us l ≠ u) (hE : ES (CH n w) us x c k) (hW : WS M t x c k)
    (h0 : ∀ M' v, RC (CH n w) us x c k u v → (∀ i, i < 10 → v i = 0) → rwL M' (t + 1) 20 k v → frI t k M M' → K 0 M')
    (h1 : ∀ M' v p, RC (CH n w) us x c k u v → p < 10 → v p ≠ 0 → rwL M' (t + 1) 20 k v → M'.1 (t + 2) k = nI p → frI t k M M' → K 1 M') : f_X7_isIndependent t nc (nI u) (nI k) M K := by
  unfold f_X7_isIndependent
  intro x4 e4
  rw [l_20, pk_mul, Nat.mul_comm] at e4
  subst e4
  have hC := CH_3 hn.2.2.2 w
  refine X7_in9_sp (by omega) hn hw hu hU (fun M5 r5 f5 => ?_)
  refine X7_in68_sp hA hC hk hu hne hE (WS_L hW f5 (Nat.le_refl k)) r5 (RC_0 hu) (fun M7 v c7 r7 f7 => ?_)
  have f57 := frL_tr f5 f7
  have bv : ∀ i, i < 20 → rg (v i) := fun i hi => by
    have := abs_sq (Int.le_trans (RC_b hC hE (Nat.le_refl k) hu c7 i hi) (pw91' k (by omega)))
    unfold rg; omega
  have key : ∀ d i, i + d = 10 → (∀ j, j < i → v j = 0) → L_X7_isIndependent_102 t (nI k) (nI (20 * k)) (fun M_9 => K 0 M_9) K (d + 1) (nI i) M7 := by
    intro d
    induction d with
    | zero =>
      intro i hi c
      rw [L_X7_isIndependent_102, l_10, nI_LE (by omega) (by omega)]
      exact ⟨fun _ => h0 M7 v c7 (fun j hj => c j (by omega)) r7 ⟨fun b _ => by rw [f57.1], fun j _ => by rw [f57.1], f57.2.1, f57.2.2⟩, by omega⟩
    | succ d ih =>
      intro i hi c
      rw [L_X7_isIndependent_102, l_10, nI_LE (by omega) (by omega), nI_add, vp_nI (by omega) (by omega), gL, nI_CL (by omega), r7 i (by omega), z_0, oL_EQ (bv i (by omega)) rg_0, nI_A1, vp_nI (by omega) (by omega)]
      refine ⟨by omega, fun _ => ⟨by omega, fun z => ih (i + 1) (by omega) (fun j hj => ?_), fun z => ⟨by omega, fun M8 e8 => ?_⟩⟩⟩
      · rcases Nat.lt_succ_iff_lt_or_eq.mp hj with y | y
        · exact c j y
        · rw [y]; exact z
      · rw [nI_CL (by omega)] at e8
        refine h1 M8 v i c7 (by omega) z (fun j hj => by rw [e8]; exact r7 j hj) (by rw [e8, w1_at]) ⟨fun b hb => by rw [e8, w1_ne hb, f57.1], fun j hj => by rw [e8, w1_no hj, f57.1], fun b hb => by rw [e8, w1_2]; exact f57.2.1 b hb, fun j hj => by rw [e8, w1_2]; exact f57.2.2 j hj⟩
  exact ⟨_, key 10 0 (by omega) (fun j hj => absurd hj (Nat.not_lt_zero _))⟩
