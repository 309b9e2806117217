/-! fewer equations than unknowns -/
theorem LIN : ∀ (k n : Nat) (a : Nat → Nat → Int), n < k → ∃ z : Nat → Int, (∃ j, j < k ∧ z j ≠ 0) ∧ ∀ r, r < n → dt k (a r) z = 0
  | 0, _, _, h => absurd h (Nat.not_lt_zero _)
  | k + 1, n, a, h => by
    by_cases q : ∃ r0, r0 < n ∧ a r0 k ≠ 0
    · obtain ⟨r0, r1, r2⟩ := q
      obtain ⟨z, ⟨j, j1, j2⟩, hz⟩ := LIN k (n - 1) (fun r j => a r0 k * a (if r < r0 then r else r + 1) j - a (if r < r0 then r else r + 1) k * a r0 j) (by omega)
      have e1 : ∀ f : Nat → Int, dt k f (fun j => if j < k then a r0 k * z j else if j = k then -(dt k (a r0) z) else 0) = a r0 k * dt k f z := fun f => by
        have h1 := dt_lin (α := a r0 k) (β := 0) (a := z) (b := fun _ => 0) (w := f) k
        rw [dt_cm, dt_cong (u' := fun u => a r0 k * z u - 0 * 0) (v' := f) (fun i hi => ⟨by rw [if_pos hi]; omega, rfl⟩), h1, dt_cm k]; omega
      refine ⟨fun j => if j < k then a r0 k * z j else if j = k then -(dt k (a r0) z) else 0, ⟨j, by omega, by dsimp only; rw [if_pos j1]; exact Int.mul_ne_zero r2 j2⟩, fun r hr => ?_⟩
      rw [dt, e1, if_neg (Nat.lt_irrefl k), if_pos rfl]
      by_cases y : r = r0
      · rw [y, Int.mul_neg]; omega
      · have e := hz (if r < r0 then r else r - 1) (by split <;> omega)
        have es : (if (if r < r0 then r else r - 1) < r0 then (if r < r0 then r else r - 1) else (if r < r0 then r else r - 1) + 1) = r := by
          by_cases t : r < r0
          · rw [if_pos t, if_pos t]
          · rw [if_neg t, if_neg (by omega)]; omega
        rw [es, dt_lin] at e
        rw [Int.mul_neg]
        omega
    · refine ⟨dl k, ⟨k, by omega, by unfold dl; rw [if_pos rfl]; decide⟩, fun r hr => ?_⟩
      rw [dt_cm, dt_dl, if_pos (by omega)]
      exact Classical.byContradiction fun y => q ⟨r, hr, y⟩
def zz (us : Nat → Nat) (t : Nat → Int) : Nat → Nat → Int
  | 0, _ => 0
  | k + 1, u => if u = us k then t k else zz us t k u
theorem zz_0 {us : Nat → Nat} {t : Nat → Int} : ∀ {k u : Nat}, zz us t k u ≠ 0 → ∃ l, l < k ∧ us l = u
  | 0, u, h => absurd rfl h
  | k + 1, u, h => by
    rw [zz] at h
    by_cases q : u = us k
    · exact ⟨k, by omega, q.symm⟩
    · rw [if_neg q] at h
      obtain ⟨l, l1, l2⟩ := zz_0 h
      exact ⟨l, by omega, l2⟩
theorem zz_l {us : Nat → Nat} {t : Nat → Int} : ∀ {k l : Nat}, (∀ i j, i < j → j < k → us i ≠ us j) → l < k → zz us t k (us l) = t l
  | 0, l, _, h => absurd h (Nat.not_lt_zero _)
  | k + 1, l, hi, h => by
    rw [zz]
    by_cases q : l = k
    · rw [q, if_pos rfl]
    · rw [if_neg (hi l k (by omega) (by omega))]
      exact zz_l (fun i j a b => hi i j a (by omega)) (by omega)
theorem dt_up {f z : Nat → Int} {p : Nat} {v : Int} : ∀ {n : Nat}, p < n → dt n f (fun u => if u = p then v else z u) = dt n f z + f p * (v - z p)
  | 0, h => absurd h (Nat.not_lt_zero _)
  | n + 1, h => by
    rw [dt, dt]
    by_cases q : p = n
    · rw [if_pos q.symm, q]
      have : dt n f (fun u => if u = n then v else z u) = dt n f z := dt_cong (fun i hi => ⟨rfl, if_neg (by omega)⟩)
      rw [this]; grind
    · rw [dt_up (by omega), if_neg (fun e => q e.symm)]; omega
theorem zz_dt {us : Nat → Nat} {t f : Nat → Int} : ∀ {k : Nat}, (∀ i j, i < j → j < k → us i ≠ us j) → (∀ l, l < k → us l < 10) → dt 10 f (zz us t k) = dt k (fun l => f (us l)) t
  | 0, _, _ => by rw [dt_cm]; exact dt_z (fun _ _ => rfl)
  | k + 1, hi, hu => by
    have z0 : zz us t k (us k) = 0 := Classical.byContradiction fun y => by
      obtain ⟨l, l1, l2⟩ := zz_0 y
      exact hi l k l1 (by omega) l2
    have e : zz us t (k + 1) = fun u => if u = us k then t k else zz us t k u := rfl
    rw [e, dt_up (hu k (by omega)), z0, zz_dt (fun i j a b => hi i j a (by omega)) (fun l hl => hu l (by omega)), dt, Int.sub_zero]
/-- the rank -/
def IsRk (n : NN) (k : Nat) : Prop := ∃ us x c, ES (CH n false) us x c k ∧ (∀ l, l < k → unB n false (us l) = true) ∧ (∀ l l', l < l' → l' < k → us l ≠ us l') ∧ ∀ z : Nat → Int, (∀ u, u < 10 → z u ≠ 0 → unB n false u = true) → (∀ l, l < k → dt 10 z (fun u => CH n false u (c l)) = 0) → ker (CH n false) z
theorem rk_eq {n : NN} {tp ts k k0 : Nat} {m R : Nat → Nat → Int} {pc : Nat → Nat} (hwf : WF n tp ts) (h : IsRk n k) (g : GJs (AE n false (nP n)) m R pc k0 10) : k = k0 := by
  obtain ⟨us, x, c, hE, hU, hd, hQ⟩ := h
  have n8 := g.2.2.2.2.2.2.1
  have us10 : ∀ l, l < k → us l < 10 := fun l hl => unB_lt hwf (hU l hl)
  have pinj : ∀ i j, i < j → j < k0 → pc i ≠ pc j := fun i j a b e => by have := gj_inj g (by omega) b e; omega
  have un : ∀ u, unB n false u = (nP n).testBit u := fun u => rfl
  refine Nat.le_antisymm (Classical.byContradiction fun w => ?_) (Classical.byContradiction fun w => ?_)
  · obtain ⟨t, ⟨j, j1, j2⟩, ht⟩ := LIN k k0 (fun r l => m r (us l)) (by omega)
    have sp : ∀ u, u < 10 → zz us t k u ≠ 0 → (nP n).testBit u = true := fun u _ q => by
      obtain ⟨l, l1, l2⟩ := zz_0 q
      rw [← l2, ← un]; exact hU l l1
    have kz : ker (CH n false) (zz us t k) := (gj_ker g sp).mpr (fun r hr => by
      rcases Nat.lt_or_ge r k0 with y | y
      · rw [zz_dt hd us10]; exact ht r y
      · rw [dt_cong (u := m r) (u' := fun _ => 0) (v := zz us t k) (v' := zz us t k) (fun i hi => ⟨gj_low g y hr hi, rfl⟩)]
        exact dt_z (fun _ _ => rfl))
    have := ES_ind hE (zz us t k) (fun u _ q => zz_0 q) (fun l hl => kz _ (hE.2 l hl).1.1) (us j) (us10 j j1)
    rw [zz_l hd j1] at this
    exact j2 this
  · obtain ⟨t, ⟨j, j1, j2⟩, ht⟩ := LIN k0 k (fun r l => CH n false (pc l) (c r)) (by omega)
    have p10 : ∀ l, l < k0 → pc l < 10 := fun l hl => (g.2.1 l hl).1
    have kz := hQ (zz pc t k0) (fun u _ q => by
      obtain ⟨l, l1, l2⟩ := zz_0 q
      rw [un, ← l2]; exact gj_S g l1) (fun l hl => by
      rw [dt_cm, zz_dt (f := fun u => CH n false u (c l)) pinj p10]; exact ht l hl)
    have := gj_piv g (z := zz pc t k0) (fun u _ q => zz_0 q) kz (pc j) (p10 j j1)
    rw [zz_l pinj j1] at this
    exact j2 this
theorem X9_rank_sp {k tp ts : Nat} {n : NN} {M : Mem} {K : Int32 → Mem → Prop} (hn : rt M 0 = enc n) (hwf : WF n tp ts) (hk : IsRk n k) (h : ∀ M', frZ M M' → K (nI k) M') : f_X9_rank M K := by
  have hP := wf_P hwf
  unfold f_X9_rank
  have s0 : gI M 4 (0 : Int32) = nI (nP n) := by rw [gI, show (0 : Int32).toNatClampNeg = 0 from rfl]; exact rt_P hn
  rw [s0]
  refine X9_layRows_sp (w := false) hn hwf hP (fun M2 r2 f2 => X9_eliminates_sp (AE_3 hwf false (nP n)) (AE_z hwf false (nP n)) r2 (fun M4 m R pc k0 g4 r4 p4 f4 => ?_))
  rw [← rk_eq hwf hk g4]
  exact h M4 (frZ_tr (frZ_J f2) (frZ_E f4))
theorem X7_rankOf_sp {t nc tp ts : Nat} {n : NN} {M : Mem} {K : Int32 → Mem → Prop} (hA : alen (t + 1) = 220) (hc : nc + 3 < t ∨ t + 4 < nc) (hn : atC M nc n tp ts) (hw : M.1 t 0 = bI false) (h : ∀ M' k, IsRk n k → frW t 0 M M' → K (nI k) M') : f_X7_rankOf t nc M K := by
  have hwf := hn.2.2.2
  have hC := CH_3 hwf false
  unfold f_X7_rankOf
  have key : ∀ d u, u + d = 10 → ∀ (M1 : Mem) k us x c, ES (CH n false) us x c k → WS M1 t x c k → (∀ l, l < k → us l < u ∧ unB n false (us l) = true) → (∀ l l', l < l' → l' < k → us l ≠ us l') → (∀ z : Nat → Int, (∀ u', u' < 10 → z u' ≠ 0 → u' < u ∧ unB n false u' = true) → (∀ l, l < k → dt 10 z (fun u => CH n false u (c l)) = 0) → ker (CH n false) z) → frW t 0 M M1 → L_X7_rankOf_4 t nc (fun v2_2 M_4 => K v2_2 M_4) K (d + 1) (nI k) (nI u) M1 := by
    intro d
    induction d with
    | zero =>
      intro u hu M1 k us x c g1 g2 g3 g4 g5 g6
      rw [L_X7_rankOf_4, l_10, nI_LE (by omega) (by omega)]
      exact ⟨fun _ => h M1 k ⟨us, x, c, g1, fun l hl => (g3 l hl).2, g4, fun z a b => g5 z (fun u' h1 h2 => ⟨by omega, a u' h1 h2⟩) b⟩ g6, by omega⟩
    | succ d ih =>
      intro u hu M1 k us x c g1 g2 g3 g4 g5 g6
      have k8 := ES_8 g1 (fun l hl => (g3 l hl).2) g4
      have hn1 := nc_W hn hc g6
      have hw1 : M1.1 t 0 = bI false := by rw [g6.2.1 0 (by decide) (by decide)]; exact hw
      rw [L_X7_rankOf_4, l_10, nI_LE (by omega) (by omega), nI_A1, nI_A1]
      refine ⟨by omega, fun _ => X7_isUnit_sp hn1 hw1 (by omega) ⟨fun q => ?_, fun q => ?_⟩⟩
      · have q := b_of0 q
        refine ih (u + 1) (by omega) M1 k us x c g1 g2 (fun l hl => ⟨by have := (g3 l hl).1; omega, (g3 l hl).2⟩) g4 (fun z a b => g5 z (fun u' h1 h2 => ?_) b) g6
        have := a u' h1 h2
        refine ⟨?_, this.2⟩
        rcases Nat.lt_succ_iff_lt_or_eq.mp this.1 with y | y
        · exact y
        · rw [y, q] at this; cases this.2
      · have q := b_ofn q
        have hnu : ∀ l, l < k → us l ≠ u := fun l hl e => by have := (g3 l hl).1; omega
        have red : ∀ v : Nat → Int, RC (CH n false) us x c k u v → ∀ z : Nat → Int, (∀ u', u' < 10 → z u' ≠ 0 → u' < u + 1 ∧ unB n false u' = true) → ∀ u', u' < 10 → v (10 + u) * z u' - z u * v (10 + u') ≠ 0 → u' < u ∧ unB n false u' = true := fun v rv z a u' h1 h2 => by
          by_cases e : u' = u
          · rw [e, Int.mul_comm] at h2; exact absurd (by omega) h2
          · by_cases t1 : z u' = 0
            · by_cases t2 : v (10 + u') = 0
              · rw [t1, t2] at h2; exact absurd (by omega) h2
              · rcases rv.2.2.2.2.2 u' h1 t2 with e' | ⟨l, l1, l2⟩
                · exact absurd e' e
                · rw [← l2]; exact g3 l l1
            · have := a u' h1 t1; exact ⟨by omega, this.2⟩
        refine X7_isIndependent_sp hA k8 hn1 hw1 (by omega) q hnu g1 g2 (fun M3 v rv z3 w3 f3 => ⟨fun _ => ?_, fun t => absurd rfl t⟩) (fun M3 v p rv hp hvp w3 c3 f3 => ⟨fun t => absurd t (by decide), fun _ => ?_⟩)
        · refine ih (u + 1) (by omega) M3 k us x c g1 (WS_W g2 (frW_I f3)) (fun l hl => ⟨by have := (g3 l hl).1; omega, (g3 l hl).2⟩) g4 (fun z a b => ?_) (frW_tr g6 ⟨(frW_I f3).1, (frW_I f3).2.1, fun j hj => absurd hj (Nat.not_lt_zero _), (frW_I f3).2.2.2.1, fun i hi => absurd hi (by omega)⟩)
          have kv := dep_ker rv z3
          have := g5 (fun u' => v (10 + u) * z u' - z u * v (10 + u')) (red v rv z a) (fun l hl => by rw [dt_lin, b l hl, kv _ (g1.2 l hl).1.1]; omega)
          intro i hi
          have e := this i hi
          rw [dt_lin, kv i hi, Int.mul_zero, Int.sub_zero] at e
          exact (Int.mul_eq_zero.mp e).resolve_left rv.2.2.2.1
        · have hE' : ES (CH n false) (fun i => if i = k then u else us i) (fun i => if i = k then v else x i) (fun i => if i = k then p else c i) (k + 1) := by
            have e0 : ES (CH n false) (fun i => if i = k then u else us i) (fun i => if i = k then v else x i) (fun i => if i = k then p else c i) k := ES_c g1 (fun j hj => if_neg (by omega)) (fun j hj => if_neg (by omega)) (fun j hj => if_neg (by omega))
            refine ES_s hC e0 (by rw [if_pos rfl]; omega) ?_ (by rw [if_pos rfl]; exact hp) (by rw [if_pos rfl, if_pos rfl]; exact hvp)
            rw [if_pos rfl, if_pos rfl]
            obtain ⟨y1, y2, y3, y4, y5, y6⟩ := rv
            refine ⟨RR_c y1 (fun j hj i _ => by rw [if_neg (by omega)]) (fun _ _ => rfl) (fun _ _ => rfl), y2, y3, y4, fun l hl => by show v (if l = k then p else c l) = 0; rw [if_neg (by omega)]; exact y5 l hl, fun u' h1 h2 => ?_⟩
            rcases y6 u' h1 h2 with q | ⟨l, l1, l2⟩
            · exact Or.inl q
            · exact Or.inr ⟨l, l1, by show (if l = k then u else us l) = u'; rw [if_neg (by omega)]; exact l2⟩
          have hW' : WS M3 t (fun i => if i = k then v else x i) (fun i => if i = k then p else c i) (k + 1) := fun j hj => by
            dsimp only
            by_cases q : j = k
            · rw [if_pos q, if_pos q, q]; exact ⟨w3, c3⟩
            · rw [if_neg q, if_neg q]; exact WS_W g2 (frW_I f3) j (by omega)
          refine ih (u + 1) (by omega) M3 (k + 1) _ _ _ hE' hW' (fun l hl => ?_) (fun l l' h1 h2 => ?_) (fun z a b => ?_) (frW_tr g6 ⟨(frW_I f3).1, (frW_I f3).2.1, fun j hj => absurd hj (Nat.not_lt_zero _), (frW_I f3).2.2.2.1, fun i hi => absurd hi (by omega)⟩)
          · by_cases e : l = k
            · rw [if_pos e]; exact ⟨by omega, q⟩
            · rw [if_neg e]; exact ⟨by have := (g3 l (by omega)).1; omega, (g3 l (by omega)).2⟩
          · rw [if_neg (show l ≠ k by omega)]
            by_cases e : l' = k
            · rw [if_pos e]; exact hnu l (by omega)
            · rw [if_neg e]; exact g4 l l' h1 (by omega)
          · have bl : ∀ l, l < k → dt 10 z (fun u => CH n false u (c l)) = 0 := fun l hl => by
              have := b l (by omega)
              rw [if_neg (show l ≠ k by omega)] at this
              exact this
            have bk : dt 10 z (fun u => CH n false u p) = 0 := by
              have := b k (by omega)
              rw [if_pos rfl] at this
              exact this
            have ke := g5 (fun u' => v (10 + u) * z u' - z u * v (10 + u')) (red v rv z a) (fun l hl => by rw [dt_lin, bl l hl, ← rv.2.2.1 _ (g1.2 l hl).1.1, rv.2.2.2.2.1 l hl]; omega)
            have e1 := ke p hp
            rw [dt_lin, bk, ← rv.2.2.1 p hp] at e1
            have zu : z u = 0 := by
              have : z u * v p = 0 := by omega
              exact (Int.mul_eq_zero.mp this).resolve_right hvp
            intro i hi
            have e := ke i hi
            rw [dt_lin, zu, Int.zero_mul, Int.sub_zero] at e
            exact (Int.mul_eq_zero.mp e).resolve_left rv.2.2.2.1
  exact ⟨_, key 10 0 (by omega) M 0 (fun _ => 0) (fun _ _ => 0) (fun _ => 0) (ES_0 _ _ _ _) (fun j hj => absurd hj (Nat.not_lt_zero _)) (fun l hl => absurd hl (Nat.not_lt_zero _)) (fun l l' _ hl => absurd hl (Nat.not_lt_zero _)) (fun z a b i hi => dt_z (fun u hu => Classical.byContradiction fun y => absurd (a u hu y).1 (Nat.not_lt_zero _))) (frW_rf t 0 M)⟩
