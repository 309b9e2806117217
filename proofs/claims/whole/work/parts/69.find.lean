/-! the class: the search of least supports; the rank -/
def unM (n : NN) (w : Bool) : Nat := if w = true then nS n else nP n
theorem unM_tb {n : NN} {tp ts : Nat} (h : WF n tp ts) (w : Bool) (u : Nat) : (unM n w).testBit u = unB n w u := by
  unfold unM unB
  cases w
  · rfl
  · rw [if_pos rfl, if_pos rfl]
    by_cases q : u < 8
    · rw [decide_eq_true q, Bool.true_and]
    · rw [decide_eq_false q, Bool.false_and]
      exact tb_hi (k := 8) (Nat.lt_of_lt_of_le (wf_S h) (by decide)) (by omega)
theorem unB_lt {n : NN} {tp ts : Nat} (h : WF n tp ts) {w : Bool} {u : Nat} (hu : unB n w u = true) : u < 10 := by
  unfold unB at hu
  cases w
  · rw [if_neg (by decide)] at hu
    exact tb_lt (k := 10) (Nat.lt_of_lt_of_le (wf_P h) (by decide)) hu
  · rw [if_pos rfl, Bool.and_eq_true] at hu
    have := of_decide_eq_true hu.1
    omega
theorem ES_8 {n : NN} {w : Bool} {us : Nat → Nat} {x : Nat → Nat → Int} {c : Nat → Nat} {k : Nat} (hE : ES (CH n w) us x c k) (hU : ∀ l, l < k → unB n w (us l) = true) (hd : ∀ l l', l < l' → l' < k → us l ≠ us l') : k ≤ 8 := by
  cases w
  · refine holes 8 k c (fun i hi => ?_) (fun i j hij hj e => ?_)
    · obtain ⟨⟨q1, q2⟩, q3, _⟩ := hE.2 i hi
      refine Classical.byContradiction fun z => q2 ?_
      rw [q3 (c i) q1, dt_cm]
      refine dt_z (fun u _ => ?_)
      unfold CH
      rw [if_neg (by decide), if_neg z]
    · obtain ⟨⟨q1, q2⟩, _, _, q5, _⟩ := hE.2 j hj
      have := q5 i hij
      rw [e] at this
      exact q2 this
  · refine holes 8 k us (fun i hi => ?_) hd
    have := hU i hi
    unfold unB at this
    rw [if_pos rfl, Bool.and_eq_true] at this
    exact of_decide_eq_true this.1
def frW (t k : Nat) (M M' : Mem) : Prop := (∀ b, b ≠ t → b ≠ t + 2 → b ≠ t + 3 → b ≠ t + 4 → M'.1 b = M.1 b) ∧ (∀ j, j ≠ 5 → j ≠ 6 → M'.1 t j = M.1 t j) ∧ (∀ j, j < k → M'.1 (t + 2) j = M.1 (t + 2) j) ∧ (∀ b, b ≠ t + 1 → M'.2 b = M.2 b) ∧ ∀ i, i < 20 * k → M'.2 (t + 1) i = M.2 (t + 1) i
theorem frW_rf (t k : Nat) (M : Mem) : frW t k M M := ⟨fun _ _ _ _ _ => rfl, fun _ _ _ => rfl, fun _ _ => rfl, fun _ _ => rfl, fun _ _ => rfl⟩
theorem frW_tr {t k : Nat} {M M1 M2 : Mem} (h : frW t k M M1) (h' : frW t k M1 M2) : frW t k M M2 := ⟨fun b h1 h2 h3 h4 => by rw [h'.1 b h1 h2 h3 h4, h.1 b h1 h2 h3 h4], fun j h1 h2 => by rw [h'.2.1 j h1 h2, h.2.1 j h1 h2], fun j hj => by rw [h'.2.2.1 j hj, h.2.2.1 j hj], fun b hb => by rw [h'.2.2.2.1 b hb, h.2.2.2.1 b hb], fun i hi => by rw [h'.2.2.2.2 i hi, h.2.2.2.2 i hi]⟩
theorem frW_I {t k : Nat} {M M' : Mem} (h : frI t k M M') : frW t k M M' := ⟨fun b _ h2 _ _ => h.1 b h2, fun j _ _ => by rw [h.1 t (by omega)], fun j hj => h.2.1 j (by omega), h.2.2.1, fun i hi => h.2.2.2 i (Or.inl hi)⟩
theorem frW_K {t k : Nat} {M M' : Mem} (h : frK t M M') : frW t k M M' := ⟨fun b h1 _ h3 h4 => h.1 b h1 h3 h4, h.2.1, fun j _ => by rw [h.1 (t + 2) (by omega) (by omega) (by omega)], fun b _ => by rw [h.2.2], fun i _ => by rw [h.2.2]⟩
theorem frW_1 {t k : Nat} {M M' : Mem} (h : frW t (k + 1) M M') : frW t k M M' := ⟨h.1, h.2.1, fun j hj => h.2.2.1 j (by omega), h.2.2.2.1, fun i hi => h.2.2.2.2 i (by omega)⟩
theorem WS_W {M M' : Mem} {t k : Nat} {x : Nat → Nat → Int} {c : Nat → Nat} (h : WS M t x c k) (f : frW t k M M') : WS M' t x c k := fun j hj => ⟨fun i hi => by rw [f.2.2.2.2 _ (by omega)]; exact (h j hj).1 i hi, by rw [f.2.2.1 j hj]; exact (h j hj).2⟩
theorem lsW_I {M M' : Mem} {t k U b : Nat} {C : Nat → Nat → Int} (h : lsW M t C U b) (f : frI t k M M') : lsW M' t C U b := by
  unfold lsW
  rw [f.1 t (by omega), f.1 (t + 3) (by omega), f.1 (t + 4) (by omega)]
  exact h
theorem nc_W {M M' : Mem} {t k nc tp ts : Nat} {n : NN} (hn : atC M nc n tp ts) (hc : nc + 3 < t ∨ t + 4 < nc) (f : frW t k M M') : atC M' nc n tp ts := atC_fr hn (f.1 _ (by omega) (by omega) (by omega) (by omega)) (f.1 _ (by omega) (by omega) (by omega) (by omega)) (f.1 _ (by omega) (by omega) (by omega) (by omega)) (f.1 _ (by omega) (by omega) (by omega) (by omega))
/-- bits of numbers between -/
theorem tb_low {T m i : Nat} (h : T % 2 ^ m = 0) (hi : i < m) : T.testBit i = false := by
  have := Nat.testBit_mod_two_pow T m i
  rw [h, Nat.zero_testBit, decide_eq_true hi, Bool.true_and] at this
  exact this.symm
theorem tb_btw {T S m i : Nat} (h : T % 2 ^ m = 0) (h1 : T ≤ S) (h2 : S < T + 2 ^ m) (hi : m ≤ i) : S.testBit i = T.testBit i := by
  obtain ⟨j, rfl⟩ := Nat.exists_eq_add_of_le hi
  rw [Nat.add_comm m j, ← Nat.testBit_div_two_pow, ← Nat.testBit_div_two_pow]
  congr 1
  have p : 0 < 2 ^ m := Nat.two_pow_pos m
  have e := Nat.div_add_mod T (2 ^ m)
  rw [h, Nat.add_zero] at e
  refine Nat.div_eq_of_lt_le ?_ ?_
  · rw [Nat.mul_comm, e]; exact h1
  · rw [Nat.mul_comm, Nat.mul_add, e, Nat.mul_one]; exact h2
theorem sub_btw {T S m : Nat} (h : T % 2 ^ m = 0) (h1 : T ≤ S) (h2 : S < T + 2 ^ m) : sub T S = true := sub_iff.mpr fun i hi => by
  rcases Nat.lt_or_ge i m with q | q
  · rw [tb_low h q] at hi; cases hi
  · rw [tb_btw h h1 h2 q]; exact hi
theorem or_add {T m : Nat} (h : T % 2 ^ (m + 1) = 0) : T ||| 2 ^ m = T + 2 ^ m := by
  have e := Nat.div_add_mod T (2 ^ (m + 1))
  rw [h, Nat.add_zero] at e
  have := Nat.two_pow_add_eq_or_of_lt (i := m + 1) (b := 2 ^ m) (Nat.pow_lt_pow_right (by omega) (by omega)) (T / 2 ^ (m + 1))
  rw [e] at this
  exact this.symm
theorem mod_half2 {T m : Nat} (h : T % 2 ^ (m + 1) = 0) : T % 2 ^ m = 0 ∧ (T + 2 ^ m) % 2 ^ m = 0 := by
  have e : T % 2 ^ m = 0 := by
    obtain ⟨q, hq⟩ := Nat.dvd_of_mod_eq_zero h
    rw [hq, Nat.pow_succ, Nat.mul_assoc]
    exact Nat.mul_mod_right _ _
  exact ⟨e, by rw [Nat.add_mod_right]; exact e⟩
theorem X7_search_sp {t nc tp ts : Nat} {n : NN} {w : Bool} (hA : alen (t + 1) = 220) (hc : nc + 3 < t ∨ t + 4 < nc) (hwf : WF n tp ts) : ∀ m, m ≤ 10 → ∀ dp, m < dp → ∀ (T k : Nat) (us : Nat → Nat) (x : Nat → Nat → Int) (c : Nat → Nat) (M : Mem) (K : Mem → Prop), T % 2 ^ m = 0 → T + 2 ^ m ≤ 1024 → sub T (unM n w) = true → (∀ u, u < 10 → (T.testBit u = true ↔ ∃ l, l < k ∧ us l = u)) → (∀ l, l < k → m ≤ us l ∧ unB n w (us l) = true) → (∀ l l', l < l' → l' < k → us l ≠ us l') → ES (CH n w) us x c k → WS M t x c k → lsW M t (CH n w) (unM n w) T → atC M nc n tp ts → M.1 t 0 = bI w →
    (∀ M', lsW M' t (CH n w) (unM n w) (T + 2 ^ m) → frW t k M M' → K M') → f_X7_search dp t nc (nI m - 1) (nI T) (nI k) M K := by
  have hC := CH_3 hwf w
  intro m
  induction m with
  | zero =>
    intro _ dp hdp T k us x c M K hT hT2 hsub hTu hus hd hE hW hL hn hw h
    obtain ⟨dp, rfl⟩ := Nat.exists_eq_add_of_le hdp
    rw [show 0 + 1 + dp = dp + 1 by omega, f_X7_search]
    refine ⟨fun _ => h M (lsW_sk hL (by omega) (fun S h1 h2 => ?_)) (frW_rf t k M), fun z => absurd (show nI 0 - 1 < 0 by decide) z⟩
    rw [show S = T by rw [Nat.pow_zero] at h2; omega]
    refine pB_f (fun ⟨_, y, hy⟩ => ?_)
    have z := ES_ind hE y (fun u hu q => (hTu u hu).mp (by
      cases r : T.testBit u
      · exact absurd ((hy.1 u hu).2 r) q
      · rfl)) (fun l hl => hy.2.1 _ (hE.2 l hl).1.1)
    obtain ⟨u, hu, q⟩ := prm_nz hy.2.2.1
    exact q (z u hu)
  | succ m ih =>
    intro hm dp hdp T k us x c M K hT hT2 hsub hTu hus hd hE hW hL hn hw h
    obtain ⟨dp, rfl⟩ := Nat.exists_eq_add_of_le hdp
    have k8 := ES_8 hE (fun l hl => (hus l hl).2) hd
    have p2 : 2 ^ (m + 1) = 2 ^ m + 2 ^ m := by rw [Nat.pow_succ]; omega
    have p0 : 0 < 2 ^ m := Nat.two_pow_pos m
    obtain ⟨hT0, hT1⟩ := mod_half2 hT
    rw [show m + 1 + 1 + dp = (m + 1 + dp) + 1 by omega, f_X7_search, nI_s1]
    refine ⟨fun z => absurd z (nI_neg (by omega)), fun _ => ⟨fun _ => ?_, fun z => absurd (show nI k ≤ 10 by rw [l_10, nI_LE (by omega) (by omega)]; omega) z⟩⟩
    refine ih (by omega) (m + 1 + dp) (by omega) T k us x c M _ hT0 (by omega) hsub hTu (fun l hl => ⟨by have := (hus l hl).1; omega, (hus l hl).2⟩) hd hE hW hL hn hw (fun M2 L2 f2 => ?_)
    have hn2 := nc_W hn hc f2
    have hw2 : M2.1 t 0 = bI w := by rw [f2.2.1 0 (by decide) (by decide)]; exact hw
    refine X7_isUnit_sp hn2 hw2 (show m < 10 by omega) ⟨fun z => ?_, fun z => ?_⟩
    · have hU := b_ofn z
      have hnu : ∀ l, l < k → us l ≠ m := fun l hl e => by have := (hus l hl).1; omega
      have hor : nI T ||| ((1 : Int32) <<< (nI m &&& 31)) = nI (T + 2 ^ m) := by rw [shl_nI (by omega), nI_or, or_add hT]
      have hTb : ∀ u, (T + 2 ^ m).testBit u = (T.testBit u || decide (m = u)) := fun u => by rw [← or_add hT, Nat.testBit_or, tb_one]
      have hS' : stU1 (T + 2 ^ m) us k m := fun u hu => by
        rw [hTb, Bool.or_eq_true, hTu u hu]
        constructor
        · intro q
          rcases q with q | q
          · exact Or.inr q
          · exact Or.inl (of_decide_eq_true q).symm
        · intro q
          rcases q with q | q
          · exact Or.inr (decide_eq_true q.symm)
          · exact Or.inl q
      have hsub' : sub (T + 2 ^ m) (unM n w) = true := sub_iff.mpr fun i hi => by
        rw [hTb, Bool.or_eq_true] at hi
        rcases hi with q | q
        · exact sub_iff.mp hsub i q
        · rw [← of_decide_eq_true q, unM_tb hwf]; exact hU
      refine X7_isIndependent_sp hA k8 hn2 hw2 (by omega) hU hnu hE (WS_W hW f2) (fun M4 v r4 z4 w4 f4 => ⟨fun _ => ?_, fun q => absurd rfl q⟩) (fun M4 v p r4 hp hvp w4 c4 f4 => ⟨fun q => absurd q (by decide), fun _ => ?_⟩)
      · rw [hor, l_20, l_10, pk_mul, nI_add, Nat.mul_comm k 20]
        refine X7_keepIfAbove_sp hC k8 (by omega) hE r4 z4 w4 hS' (by omega) hsub' (lsW_I L2 f4) (fun M5 L5 f5 => h M5 (lsW_sk L5 (by omega) (fun S h1 h2 => pB_f (fun ⟨_, y, hy⟩ => ?_))) (frW_tr f2 (frW_tr (frW_I f4) (frW_K f5))))
        have hker := dep_ker r4 z4
        have := Sup_in hy (show S < 1024 by omega) (sub_btw hT1 (by omega) (by omega)) (by omega) (z := fun u => v (10 + u)) (fun u hu q => (hS' u hu).mpr (r4.2.2.2.2.2 u hu q)) hker
        exact r4.2.2.2.1 (this m (by omega))
      · rw [hor, nI_A1]
        have hE' : ES (CH n w) (fun i => if i = k then m else us i) (fun i => if i = k then v else x i) (fun i => if i = k then p else c i) (k + 1) := by
          have e0 : ES (CH n w) (fun i => if i = k then m else us i) (fun i => if i = k then v else x i) (fun i => if i = k then p else c i) k := ES_c hE (fun j hj => if_neg (by omega)) (fun j hj => if_neg (by omega)) (fun j hj => if_neg (by omega))
          refine ES_s hC e0 (by rw [if_pos rfl]; omega) ?_ (by rw [if_pos rfl]; exact hp) (by rw [if_pos rfl, if_pos rfl]; exact hvp)
          rw [if_pos rfl, if_pos rfl]
          obtain ⟨g1, g2, g3, g4, g5, g6⟩ := r4
          refine ⟨RR_c g1 (fun j hj i _ => by rw [if_neg (by omega)]) (fun _ _ => rfl) (fun _ _ => rfl), g2, g3, g4, fun l hl => by show v (if l = k then p else c l) = 0; rw [if_neg (by omega)]; exact g5 l hl, fun u' h1 h2 => ?_⟩
          rcases g6 u' h1 h2 with q | ⟨l, l1, l2⟩
          · exact Or.inl q
          · exact Or.inr ⟨l, l1, by show (if l = k then m else us l) = u'; rw [if_neg (by omega)]; exact l2⟩
        have hW' : WS M4 t (fun i => if i = k then v else x i) (fun i => if i = k then p else c i) (k + 1) := fun j hj => by
          dsimp only
          by_cases q : j = k
          · rw [if_pos q, if_pos q, q]; exact ⟨w4, c4⟩
          · rw [if_neg q, if_neg q]; exact WS_W (WS_W hW f2) (frW_I f4) j (by omega)
        refine ih (by omega) (m + 1 + dp) (by omega) (T + 2 ^ m) (k + 1) (fun i => if i = k then m else us i) (fun i => if i = k then v else x i) (fun i => if i = k then p else c i) M4 K hT1 (by omega) hsub' (fun u hu => ?_) (fun l hl => ?_) (fun l l' h1 h2 => ?_) hE' hW' (lsW_I L2 f4) (nc_W hn2 hc (frW_I f4)) (by rw [f4.1 t (by omega)]; exact hw2) (fun M5 L5 f5 => h M5 (by rw [p2, ← Nat.add_assoc]; exact L5) (frW_tr f2 (frW_tr (frW_I f4) (frW_1 f5))))
        · rw [hS' u hu]
          constructor
          · intro q
            rcases q with q | ⟨l, l1, l2⟩
            · exact ⟨k, by omega, by rw [if_pos rfl, q]⟩
            · exact ⟨l, by omega, by rw [if_neg (by omega)]; exact l2⟩
          · intro ⟨l, l1, l2⟩
            by_cases q : l = k
            · rw [if_pos q] at l2; exact Or.inl l2.symm
            · rw [if_neg q] at l2; exact Or.inr ⟨l, by omega, l2⟩
        · by_cases q : l = k
          · rw [if_pos q]; exact ⟨Nat.le_refl _, hU⟩
          · rw [if_neg q]; exact ⟨by have := (hus l (by omega)).1; omega, (hus l (by omega)).2⟩
        · rw [if_neg (show l ≠ k by omega)]
          by_cases q : l' = k
          · rw [if_pos q]; exact hnu l (by omega)
          · rw [if_neg q]; exact hd l l' h1 (by omega)
    · have hU := b_of0 z
      refine h M2 (lsW_sk L2 (by omega) (fun S h1 h2 => pB_f (fun ⟨q, _⟩ => ?_))) f2
      have e : S.testBit m = true := by
        rw [tb_btw (T := T + 2 ^ m) hT1 h1 (by omega) (Nat.le_refl _), ← or_add hT, Nat.testBit_or, tb_one, decide_eq_true rfl, Bool.or_true]
      have := sub_iff.mp q m e
      rw [unM_tb hwf, hU] at this
      cases this
theorem X7_findLeast_sp {t nc tp ts : Nat} {n : NN} {w : Bool} {M : Mem} {K : Mem → Prop} (hA : alen (t + 1) = 220) (hc : nc + 3 < t ∨ t + 4 < nc) (hn : atC M nc n tp ts) (hw : M.1 t 0 = bI w) (hs : M.1 t 7 = M.1 nc 7 → K M)
    (h : ¬ M.1 t 7 = M.1 nc 7 → ∀ M', lsW M' t (CH n w) (unM n w) 1024 → M'.1 t 7 = M.1 nc 7 → M'.1 t 0 = M.1 t 0 → (∀ b, b ≠ t → b ≠ t + 2 → b ≠ t + 3 → b ≠ t + 4 → M'.1 b = M.1 b) → (∀ b, b ≠ t + 1 → M'.2 b = M.2 b) → K M') : f_X7_findLeast t nc M K := by
  unfold f_X7_findLeast
  refine ⟨fun z M2 e2 M3 e3 M4 e4 => ?_, hs⟩
  have n4 : ∀ b, b ≠ t → M4.1 b = M.1 b := fun b hb => by rw [e4, w1_ne hb, e3, w1_ne hb, e2, w1_ne hb]
  have t0 : M4.1 t 0 = M.1 t 0 := by rw [e4, w1_no (by decide), e3, w1_no (by decide), e2, w1_no (by decide)]
  have t7 : M4.1 t 7 = M.1 nc 7 := by rw [e4, w1_no (by decide), e3, w1_no (by decide), e2, w1_at]
  have m4 : M4.2 = M.2 := by rw [e4, w1_2, e3, w1_2, e2, w1_2]
  have hn4 : atC M4 nc n tp ts := atC_fr hn (n4 _ (by omega)) (n4 _ (by omega)) (n4 _ (by omega)) (n4 _ (by omega))
  have := X7_search_sp (w := w) hA hc hn.2.2.2 10 (Nat.le_refl _) 16 (by omega) 0 0 (fun _ => 0) (fun _ _ => 0) (fun _ => 0) M4 K (by decide) (by decide) (sub_iff.mpr fun i hi => by rw [Nat.zero_testBit] at hi; cases hi) (fun u hu => ⟨fun q => (by rw [Nat.zero_testBit] at q; cases q), fun ⟨l, l1, _⟩ => absurd l1 (Nat.not_lt_zero _)⟩) (fun l hl => absurd hl (Nat.not_lt_zero _)) (fun l l' _ hl => absurd hl (Nat.not_lt_zero _)) (ES_0 _ _ _ _) (fun j hj => absurd hj (Nat.not_lt_zero _)) ⟨by rw [e4, w1_no (by decide), e3, w1_at]; rfl, by rw [e4, w1_at]; rfl, fun S hS => absurd hS (Nat.not_lt_zero _)⟩ hn4 (by rw [t0]; exact hw) (fun M5 L5 f5 => h z M5 L5 (by rw [f5.2.1 7 (by decide) (by decide)]; exact t7) (by rw [f5.2.1 0 (by decide) (by decide)]; exact t0) (fun b h1 h2 h3 h4 => by rw [f5.1 b h1 h2 h3 h4, n4 b h1]) (fun b hb => by rw [f5.2.2.2.1 b hb, m4]))
  exact this
