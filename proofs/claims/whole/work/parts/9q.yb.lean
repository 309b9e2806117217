/-! least numbers are small -/
theorem unB_of {n : NN} {tp ts : Nat} {w : Bool} {u : Nat} (hwf : WF n tp ts) (h : (unM n w).testBit u = true) : unB n w u = true := by
  unfold unM at h
  unfold unB
  cases w
  · exact h
  · rw [if_pos rfl] at h ⊢
    rw [h, Bool.and_true]
    refine decide_eq_true (Classical.byContradiction fun q => ?_)
    rw [wf_Sh hwf (by have := hwf.2.1; omega)] at h
    cases h
theorem yv_b {n : NN} {tp ts : Nat} {w : Bool} {S : Nat} (hwf : WF n tp ts) (hS : S < 1024) (g : gdB (CH n w) (unM n w) S = true) : ∀ i, i < 10 → 0 ≤ yv (CH n w) S i ∧ yv (CH n w) S i ≤ 655000000 := by
  obtain ⟨sU, ex⟩ := pB_iff.mp g
  have hy := yv_sp ex
  have hC := CH_3 hwf w
  have pos : ∀ i, i < 10 → 0 ≤ yv (CH n w) S i := fun i hi => by
    cases t : S.testBit i
    · rw [(hy.1 i hi).2 t]; omega
    · have := (hy.1 i hi).1 t; omega
  have key : ∀ u, u ≤ 10 → (∀ i, i < 10 → yv (CH n w) S i ≤ 655000000) ∨ ∃ k us x c, ES (CH n w) us x c k ∧ (∀ l, l < k → us l < u ∧ S.testBit (us l) = true) ∧ (∀ u', u' < u → S.testBit u' = true → ∃ l, l < k ∧ us l = u') ∧ (∀ l l', l < l' → l' < k → us l ≠ us l') := by
    intro u
    induction u with
    | zero => intro _; exact Or.inr ⟨0, fun _ => 0, fun _ _ => 0, fun _ => 0, ES_0 _ _ _ _, fun l hl => absurd hl (Nat.not_lt_zero _), fun l hl => absurd hl (Nat.not_lt_zero _), fun l l' _ hl => absurd hl (Nat.not_lt_zero _)⟩
    | succ u ih =>
      intro hu
      rcases ih (by omega) with b | ⟨k, us, x, c, e1, e2, e3, e4⟩
      · exact Or.inl b
      · cases q : S.testBit u
        · refine Or.inr ⟨k, us, x, c, e1, fun l hl => ⟨by have := (e2 l hl).1; omega, (e2 l hl).2⟩, fun u' h1 h2 => ?_, e4⟩
          rcases Nat.lt_succ_iff_lt_or_eq.mp h1 with y | y
          · exact e3 u' y h2
          · rw [y, q] at h2; cases h2
        · have hnu : ∀ l, l < k → us l ≠ u := fun l hl e => by have := (e2 l hl).1; omega
          have k8 := ES_8 e1 (fun l hl => unB_of hwf (sub_iff.mp sU _ (e2 l hl).2)) e4
          obtain ⟨v, rv⟩ := RC_ex e1 (show u < 10 by omega) hnu k (Nat.le_refl _)
          by_cases z : ∀ i, i < 10 → v i = 0
          · left
            have zk := dep_ker rv z
            obtain ⟨a, b, a0, e⟩ := hy.2.2.2 (fun u' => v (10 + u')) (fun u' hu' t => by
              rcases rv.2.2.2.2.2 u' hu' t with y | ⟨l, l1, l2⟩
              · rw [y]; exact q
              · rw [← l2]; exact (e2 l l1).2) zk
            have b0 : b ≠ 0 := fun t => by
              have := e u (by omega)
              rw [t, Int.zero_mul] at this
              exact Int.mul_ne_zero a0 rv.2.2.2.1 this
            intro i hi
            have sq := prm_le b0 a0 (fun i hi => (e i hi).symm) hy.2.2.1 i hi
            have vb := RC_b hC e1 (Nat.le_refl k) (show u < 10 by omega) rv (10 + i) (by omega)
            have := abs_sq (Int.le_trans sq (Int.le_trans vb (pw91' k (by omega))))
            have := pos i hi
            omega
          · have ⟨p, hp⟩ : ∃ p, ¬ (p < 10 → v p = 0) := Classical.not_forall.mp z
            have p10 : p < 10 := Classical.byContradiction fun y => hp (fun t => absurd t y)
            have vp : v p ≠ 0 := fun t => hp (fun _ => t)
            have hE' : ES (CH n w) (fun i => if i = k then u else us i) (fun i => if i = k then v else x i) (fun i => if i = k then p else c i) (k + 1) := by
              have e0 : ES (CH n w) (fun i => if i = k then u else us i) (fun i => if i = k then v else x i) (fun i => if i = k then p else c i) k := ES_c e1 (fun j hj => if_neg (by omega)) (fun j hj => if_neg (by omega)) (fun j hj => if_neg (by omega))
              refine ES_s hC e0 (by rw [if_pos rfl]; omega) ?_ (by rw [if_pos rfl]; exact p10) (by rw [if_pos rfl, if_pos rfl]; exact vp)
              rw [if_pos rfl, if_pos rfl]
              obtain ⟨y1, y2, y3, y4, y5, y6⟩ := rv
              refine ⟨RR_c y1 (fun j hj i _ => by rw [if_neg (by omega)]) (fun _ _ => rfl) (fun _ _ => rfl), y2, y3, y4, fun l hl => by show v (if l = k then p else c l) = 0; rw [if_neg (by omega)]; exact y5 l hl, fun u' h1 h2 => ?_⟩
              rcases y6 u' h1 h2 with q | ⟨l, l1, l2⟩
              · exact Or.inl q
              · exact Or.inr ⟨l, l1, by show (if l = k then u else us l) = u'; rw [if_neg (by omega)]; exact l2⟩
            refine Or.inr ⟨k + 1, _, _, _, hE', fun l hl => ?_, fun u' h1 h2 => ?_, fun l l' h1 h2 => ?_⟩
            · by_cases e : l = k
              · rw [if_pos e]; exact ⟨by omega, q⟩
              · rw [if_neg e]; exact ⟨by have := (e2 l (by omega)).1; omega, (e2 l (by omega)).2⟩
            · rcases Nat.lt_succ_iff_lt_or_eq.mp h1 with y | y
              · obtain ⟨l, l1, l2⟩ := e3 u' y h2
                exact ⟨l, by omega, by rw [if_neg (show l ≠ k by omega)]; exact l2⟩
              · exact ⟨k, by omega, by rw [if_pos rfl]; exact y.symm⟩
            · rw [if_neg (show l ≠ k by omega)]
              by_cases e : l' = k
              · rw [if_pos e]; exact hnu l (by omega)
              · rw [if_neg e]; exact e4 l l' h1 (by omega)
  rcases key 10 (Nat.le_refl _) with b | ⟨k, us, x, c, e1, e2, e3, e4⟩
  · exact fun i hi => ⟨pos i hi, b i hi⟩
  · exfalso
    obtain ⟨u0, hu0, z0⟩ := prm_nz hy.2.2.1
    refine z0 (ES_ind e1 (yv (CH n w) S) (fun u hu t => e3 u hu ?_) (fun l hl => hy.2.1 _ (e1.2 l hl).1.1) u0 hu0)
    cases r : S.testBit u
    · exact absurd ((hy.1 u hu).2 r) t
    · rfl
/-- the k-th that is good -/
noncomputable def nthB (c : Nat → Bool) (k : Nat) : Nat := @Classical.epsilon _ ⟨0⟩ (fun m => m < 1024 ∧ c m = true ∧ ctB c m = k)
theorem nthB_sp {c : Nat → Bool} {k : Nat} (h : k < ctB c 1024) : nthB c k < 1024 ∧ c (nthB c k) = true ∧ ctB c (nthB c k) = k := by
  obtain ⟨m, hm⟩ := ctB_kth h
  exact Classical.epsilon_spec (p := fun m => m < 1024 ∧ c m = true ∧ ctB c m = k) ⟨m, hm⟩
theorem nthB_of {c : Nat → Bool} {m : Nat} (h : m < 1024) (hc : c m = true) : nthB c (ctB c m) = m := by
  have := nthB_sp (c := c) (k := ctB c m) (ctB_lt h hc)
  exact ctB_inj this.2.1 hc this.2.2
/-- all that are among the first k -/
noncomputable def orK (c : Nat → Bool) : Nat → Nat
  | 0 => 0
  | k + 1 => orK c k ||| nthB c k
theorem cvN_orK {c : Nat → Bool} : ∀ b, b ≤ 1024 → cvN c b = orK c (ctB c b)
  | 0, _ => rfl
  | b + 1, h => by
    have ih := cvN_orK (c := c) b (by omega)
    rw [cvN]
    cases e : c b
    · rw [if_neg (by decide), ctB_f e]; exact ih
    · rw [if_pos rfl, ctB_t e, orK, nthB_of (by omega) e, ih]
