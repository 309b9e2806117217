/-! the rank, with all that is left as it was -/
def fRk (t : Nat) (M M' : Mem) : Prop := (∀ b, b ≠ t + 2 → M'.1 b = M.1 b) ∧ ∀ b, b ≠ t + 1 → M'.2 b = M.2 b
theorem fRk_tr {t : Nat} {M M1 M2 : Mem} (h : fRk t M M1) (h' : fRk t M1 M2) : fRk t M M2 := ⟨fun b hb => by rw [h'.1 b hb, h.1 b hb], fun b hb => by rw [h'.2 b hb, h.2 b hb]⟩
theorem fRk_I {t k : Nat} {M M' : Mem} (h : frI t k M M') : fRk t M M' := ⟨h.1, h.2.2.1⟩
theorem X7_rankF_sp {t nc tp ts : Nat} {n : NN} {M : Mem} {K : Int32 → Mem → Prop} (hA : alen (t + 1) = 220) (hc : nc + 3 < t ∨ t + 4 < nc) (hn : atC M nc n tp ts) (hw : M.1 t 0 = bI false) (h : ∀ M' k, IsRk n k → fRk t M M' → K (nI k) M') : f_X7_rankOf t nc M K := by
  have hwf := hn.2.2.2
  have hC := CH_3 hwf false
  unfold f_X7_rankOf
  have key : ∀ d u, u + d = 10 → ∀ (M1 : Mem) k us x c, ES (CH n false) us x c k → WS M1 t x c k → (∀ l, l < k → us l < u ∧ unB n false (us l) = true) → (∀ l l', l < l' → l' < k → us l ≠ us l') → (∀ z : Nat → Int, (∀ u', u' < 10 → z u' ≠ 0 → u' < u ∧ unB n false u' = true) → (∀ l, l < k → dt 10 z (fun u => CH n false u (c l)) = 0) → ker (CH n false) z) → frW t 0 M M1 → fRk t M M1 → L_X7_rankOf_4 t nc (fun v2_2 M_4 => K v2_2 M_4) K (d + 1) (nI k) (nI u) M1 := by
    intro d
    induction d with
    | zero =>
      intro u hu M1 k us x c g1 g2 g3 g4 g5 g6 g7
      rw [L_X7_rankOf_4, l_10, nI_LE (by omega) (by omega)]
      exact ⟨fun _ => h M1 k ⟨us, x, c, g1, fun l hl => (g3 l hl).2, g4, fun z a b => g5 z (fun u' h1 h2 => ⟨by omega, a u' h1 h2⟩) b⟩ g7, by omega⟩
    | succ d ih =>
      intro u hu M1 k us x c g1 g2 g3 g4 g5 g6 g7
      have k8 := ES_8 g1 (fun l hl => (g3 l hl).2) g4
      have hn1 := nc_W hn hc g6
      have hw1 : M1.1 t 0 = bI false := by rw [g6.2.1 0 (by decide) (by decide)]; exact hw
      rw [L_X7_rankOf_4, l_10, nI_LE (by omega) (by omega), nI_A1, nI_A1]
      refine ⟨by omega, fun _ => X7_isUnit_sp hn1 hw1 (by omega) ⟨fun q => ?_, fun q => ?_⟩⟩
      · have q := b_of0 q
        refine ih (u + 1) (by omega) M1 k us x c g1 g2 (fun l hl => ⟨by have := (g3 l hl).1; omega, (g3 l hl).2⟩) g4 (fun z a b => g5 z (fun u' h1 h2 => ?_) b) g6 g7
        have := a u' h1 h2
        refine ⟨?_, this.2⟩
        rcases Nat.lt_succ_iff_lt_or_eq.mp this.1 with y | y
        · exact y
        · rw [y, q] at this; cases this.2
      · have q := b_ofn q
        have hnu : ∀ l, l < k → us l ≠ u := fun l hl e => by have := (g3 l hl).1; omega
        have red : ∀ v : Nat → Int, RC (CH n false) us x c k u v → ∀ z : Nat → Int, (∀ u', u' < 10 → z u' ≠ 0 → u' < u + 1 ∧ unB n false u' = true) → ∀ u', u' < 10 → v (10 + u) * z u' - z u * v (10 + u') ≠ 0 → u' < u ∧ unB n false u' = true := fun v rv z a u' h1 h2 => by
          by_cases e : u' = u
          · rw [e, Int.mul_comm] at h2; exact absurd (by omega) h2
          · by_cases t1 : z u' = 0
            · by_cases t2 : v (10 + u') = 0
              · rw [t1, t2] at h2; exact absurd (by omega) h2
              · rcases rv.2.2.2.2.2 u' h1 t2 with e' | ⟨l, l1, l2⟩
                · exact absurd e' e
                · rw [← l2]; exact g3 l l1
            · have := a u' h1 t1; exact ⟨by omega, this.2⟩
        refine X7_isIndependent_sp hA k8 hn1 hw1 (by omega) q hnu g1 g2 (fun M3 v rv z3 w3 f3 => ⟨fun _ => ?_, fun t => absurd rfl t⟩) (fun M3 v p rv hp hvp w3 c3 f3 => ⟨fun t => absurd t (by decide), fun _ => ?_⟩)
        · refine ih (u + 1) (by omega) M3 k us x c g1 (WS_W g2 (frW_I f3)) (fun l hl => ⟨by have := (g3 l hl).1; omega, (g3 l hl).2⟩) g4 (fun z a b => ?_) (frW_tr g6 ⟨(frW_I f3).1, (frW_I f3).2.1, fun j hj => absurd hj (Nat.not_lt_zero _), (frW_I f3).2.2.2.1, fun i hi => absurd hi (by omega)⟩) (fRk_tr g7 (fRk_I f3))
          have kv := dep_ker rv z3
          have := g5 (fun u' => v (10 + u) * z u' - z u * v (10 + u')) (red v rv z a) (fun l hl => by rw [dt_lin, b l hl, kv _ (g1.2 l hl).1.1]; omega)
          intro i hi
          have e := this i hi
          rw [dt_lin, kv i hi, Int.mul_zero, Int.sub_zero] at e
          exact (Int.mul_eq_zero.mp e).resolve_left rv.2.2.2.1
        · have hE' : ES (CH n false) (fun i => if i = k then u else us i) (fun i => if i = k then v else x i) (fun i => if i = k then p else c i) (k + 1) := by
            have e0 : ES (CH n false) (fun i => if i = k then u else us i) (fun i => if i = k then v else x i) (fun i => if i = k then p else c i) k := ES_c g1 (fun j hj => if_neg (by omega)) (fun j hj => if_neg (by omega)) (fun j hj => if_neg (by omega))
            refine ES_s hC e0 (by rw [if_pos rfl]; omega) ?_ (by rw [if_pos rfl]; exact hp) (by rw [if_pos rfl, if_pos rfl]; exact hvp)
            rw [if_pos rfl, if_pos rfl]
            obtain ⟨y1, y2, y3, y4, y5, y6⟩ := rv
            refine ⟨RR_c y1 (fun j hj i _ => by rw [if_neg (by omega)]) (fun _ _ => rfl) (fun _ _ => rfl), y2, y3, y4, fun l hl => by show v (if l = k then p else c l) = 0; rw [if_neg (by omega)]; exact y5 l hl, fun u' h1 h2 => ?_⟩
            rcases y6 u' h1 h2 with q | ⟨l, l1, l2⟩
            · exact Or.inl q
            · exact Or.inr ⟨l, l1, by show (if l = k then u else us l) = u'; rw [if_neg (by omega)]; exact l2⟩
          have hW' : WS M3 t (fun i => if i = k then v else x i) (fun i => if i = k then p else c i) (k + 1) := fun j hj => by
            dsimp only
            by_cases q : j = k
            · rw [if_pos q, if_pos q, q]; exact ⟨w3, c3⟩
            · rw [if_neg q, if_neg q]; exact WS_W g2 (frW_I f3) j (by omega)
          refine ih (u + 1) (by omega) M3 (k + 1) _ _ _ hE' hW' (fun l hl => ?_) (fun l l' h1 h2 => ?_) (fun z a b => ?_) (frW_tr g6 ⟨(frW_I f3).1, (frW_I f3).2.1, fun j hj => absurd hj (Nat.not_lt_zero _), (frW_I f3).2.2.2.1, fun i hi => absurd hi (by omega)⟩) (fRk_tr g7 (fRk_I f3))
          · by_cases e : l = k
            · rw [if_pos e]; exact ⟨by omega, q⟩
            · rw [if_neg e]; exact ⟨by have := (g3 l (by omega)).1; omega, (g3 l (by omega)).2⟩
          · rw [if_neg (show l ≠ k by omega)]
            by_cases e : l' = k
            · rw [if_pos e]; exact hnu l (by omega)
            · rw [if_neg e]; exact g4 l l' h1 (by omega)
          · have bl : ∀ l, l < k → dt 10 z (fun u => CH n false u (c l)) = 0 := fun l hl => by
              have := b l (by omega)
              rw [if_neg (show l ≠ k by omega)] at this
              exact this
            have bk : dt 10 z (fun u => CH n false u p) = 0 := by
              have := b k (by omega)
              rw [if_pos rfl] at this
              exact this
            have ke := g5 (fun u' => v (10 + u) * z u' - z u * v (10 + u')) (red v rv z a) (fun l hl => by rw [dt_lin, bl l hl, ← rv.2.2.1 _ (g1.2 l hl).1.1, rv.2.2.2.2.1 l hl]; omega)
            have e1 := ke p hp
            rw [dt_lin, bk, ← rv.2.2.1 p hp] at e1
            have zu : z u = 0 := by
              have : z u * v p = 0 := by omega
              exact (Int.mul_eq_zero.mp this).resolve_right hvp
            intro i hi
            have e := ke i hi
            rw [dt_lin, zu, Int.zero_mul, Int.sub_zero] at e
            exact (Int.mul_eq_zero.mp e).resolve_left rv.2.2.2.1
  exact ⟨_, key 10 0 (by omega) M 0 (fun _ => 0) (fun _ _ => 0) (fun _ => 0) (ES_0 _ _ _ _) (fun j hj => absurd hj (Nat.not_lt_zero _)) (fun l hl => absurd hl (Nat.not_lt_zero _)) (fun l l' _ hl => absurd hl (Nat.not_lt_zero _)) (fun z a b i hi => dt_z (fun u hu => Classical.byContradiction fun y => absurd (a u hu y).1 (Nat.not_lt_zero _))) (frW_rf t 0 M) ⟨fun _ _ => rfl, fun _ _ => rfl⟩⟩
