/-! rows of steps, told by how often they are done; 333 weighs what is asked for -/
def W9 (i : Nat) : Int := if i < 8 then 110889 else 1
theorem W9_p (i : Nat) : 0 < W9 i := by unfold W9; split <;> decide
theorem W9_0 (i : Nat) : 0 ≤ W9 i := Int.le_of_lt (W9_p i)
theorem wp_9 {c : Nat → Nat} : ∀ {k : Nat}, (∀ i, i < k → c i < 8) → wp W9 c (fun _ => true) k = pw 110889 k
  | 0, _ => rfl
  | k + 1, h => by
    rw [wp, if_pos rfl, wp_9 (fun i hi => h i (by omega)), pw]
    have : W9 (c k) = 110889 := by unfold W9; rw [if_pos (h k (by omega))]
    rw [this, Int.mul_comm]
theorem pA_0 : pw 110889 0 = 1 := by decide
theorem pB_0 : pw 8982009 (0 + 1) = 8982009 := by decide
theorem pA_1 : pw 110889 1 = 110889 := by decide
theorem pB_1 : pw 8982009 (1 + 1) = 80676485676081 := by decide
theorem pA_2 : pw 110889 2 = 12296370321 := by decide
theorem pB_2 : pw 8982009 (2 + 1) = 724636920430930626729 := by decide
theorem pA_3 : pw 110889 3 = 1363532208525369 := by decide
theorem pB_3 : pw 8982009 (3 + 1) = 6508695341042902767655518561 := by decide
theorem pA_4 : pw 110889 4 = 151200723071169643041 := by decide
theorem pB_4 : pw 8982009 (4 + 1) = 58461160131505422045206776614569049 := by decide
theorem pA_5 : pw 110889 5 = 16766496980638930547173449 := by decide
theorem pB_5 : pw 8982009 (5 + 1) = 525098666451622884358845674413048729239441 := by decide
theorem pA_6 : pw 110889 6 = 1859220083686070369445516586161 := by decide
theorem pB_6 : pw 8982009 (6 + 1) = 4716440947956474811917111077189073403467222216969 := by decide
theorem pA_7 : pw 110889 7 = 206167055859864657197443888722807129 := by decide
theorem pB_7 : pw 8982009 (7 + 1) = 42363115042513588368912798949311952011603221157815510721 := by decide
theorem nine_s {k : Nat} {q : Int} (hk : k ≤ 7) (h : pw 110889 k * (110889 * q) ≤ pw 8982009 (k + 1)) : q ≤ ((43046721 : Nat) : Int) * ((43046721 : Nat) : Int) := by
  have : k = 0 ∨ k = 1 ∨ k = 2 ∨ k = 3 ∨ k = 4 ∨ k = 5 ∨ k = 6 ∨ k = 7 := by omega
  rcases this with e | e | e | e | e | e | e | e <;> subst e
  · rw [pA_0, pB_0] at h; omega
  · rw [pA_1, pB_1] at h; omega
  · rw [pA_2, pB_2] at h; omega
  · rw [pA_3, pB_3] at h; omega
  · rw [pA_4, pB_4] at h; omega
  · rw [pA_5, pB_5] at h; omega
  · rw [pA_6, pB_6] at h; omega
  · rw [pA_7, pB_7] at h; omega
theorem nine_r {k : Nat} {q : Int} (hk : k ≤ 7) (h : pw 110889 k * (1 * q) ≤ pw 8982009 (k + 1)) : q ≤ ((14334558093 : Nat) : Int) * ((14334558093 : Nat) : Int) := by
  have : k = 0 ∨ k = 1 ∨ k = 2 ∨ k = 3 ∨ k = 4 ∨ k = 5 ∨ k = 6 ∨ k = 7 := by omega
  rcases this with e | e | e | e | e | e | e | e <;> subst e
  · rw [pA_0, pB_0] at h; omega
  · rw [pA_1, pB_1] at h; omega
  · rw [pA_2, pB_2] at h; omega
  · rw [pA_3, pB_3] at h; omega
  · rw [pA_4, pB_4] at h; omega
  · rw [pA_5, pB_5] at h; omega
  · rw [pA_6, pB_6] at h; omega
  · rw [pA_7, pB_7] at h; omega
def sml (v : Nat → Int) : Prop := (∀ i, i < 8 → -3 ≤ v i ∧ v i ≤ 3) ∧ -999 ≤ v 8 ∧ v 8 ≤ 999
theorem sml_N {v : Nat → Int} (h : sml v) : dt 9 (fun i => W9 i * v i) v ≤ 8982009 := by
  have e : ∀ i, i < 8 → W9 i * v i * v i ≤ 998001 := fun i hi => by
    have : W9 i = 110889 := by unfold W9; rw [if_pos hi]
    have s := sq9 (h.1 i hi)
    rw [this, Int.mul_assoc]; omega
  have e8 : W9 8 * v 8 * v 8 ≤ 998001 := by
    have : W9 8 = 1 := rfl
    rw [this, Int.one_mul]
    have a := mul_ab (a := v 8) (b := v 8) (A := 999) (B := 999) (by have := h.2; omega) (by have := h.2; omega)
    generalize v 8 * v 8 = q at *
    omega
  have d : ∀ n, n ≤ 8 → dt n (fun i => W9 i * v i) v ≤ 998001 * n := by
    intro n
    induction n with
    | zero => intro _; rw [dt]; omega
    | succ n ih =>
      intro hn
      have := ih (by omega)
      have := e n (by omega)
      rw [dt]; omega
  have := d 8 (Nat.le_refl _)
  rw [dt]; omega
def fit9 (v : Nat → Int) : Prop := sml v ∨ (∀ i, i < 9 → v i = 0) ∨ prm 9 v
def bd9 (v : Nat → Int) : Prop := (∀ i, i < 8 → (v i).natAbs ≤ 43046721) ∧ (v 8).natAbs ≤ 14334558093
/-- rows y; those used, with their columns; steps from s on are done -/
def SE (R y : Nat → Nat → Int) (rw' c : Nat → Nat) (k s : Nat) : Prop :=
  (TT W9 9 8982009 (fun i => y (rw' i)) k ∧ ∀ r, sml (R r)) ∧
  (∀ i, i < k → (rw' i < 10 ∧ c i < 8 ∧ s ≤ c i) ∧ y (rw' i) (c i) ≠ 0 ∧ (∀ l, l < i → y (rw' i) (c l) = 0) ∧ (∀ t, c i < t → t < 8 → y (rw' i) t = 0) ∧ bd9 (y (rw' i))) ∧
  (∀ i j, i < j → j < k → rw' i ≠ rw' j ∧ c j < c i) ∧
  (∀ r, r < 10 → (∀ i, i < k → rw' i ≠ r) → RW 9 (fun i => y (rw' i)) k (y r) (R r) ∧ (∀ l, l < k → y r (c l) = 0) ∧ fit9 (y r) ∧ ∀ t, s ≤ t → t < 8 → y r t = 0) ∧
  (∀ z : Nat → Int, (∀ r, r < 10 → dt 8 (y r) z = y r 8) ↔ ∀ r, r < 10 → dt 8 (R r) z = R r 8) ∧
  (∀ r t, r < 10 → t < 9 → rg (y r t)) ∧ k + s ≤ 8 ∧ ∀ t, t < 8 → (∀ r, r < 10 → R r t = 0) → ∀ r, r < 10 → y r t = 0
theorem SE_0 {R : Nat → Nat → Int} (h : ∀ r, sml (R r)) (rw' c : Nat → Nat) : SE R R rw' c 0 8 := by
  refine ⟨⟨TT_0 _ _ _ _, h⟩, fun i hi => absurd hi (Nat.not_lt_zero _), fun i j _ hj => absurd hj (Nat.not_lt_zero _), fun r hr _ => ⟨RR_0 _ _ _ _, fun l hl => absurd hl (Nat.not_lt_zero _), Or.inl (h r), fun t h1 h2 => by omega⟩, fun z => Iff.rfl, fun r t hr ht => ?_, by omega, fun t _ h => h⟩
  have := h r
  unfold rg
  by_cases q : t = 8
  · rw [q]; have := this.2; omega
  · have := this.1 t (by omega); omega
theorem SE_b {R y : Nat → Nat → Int} {rw' c : Nat → Nat} {k s : Nat} (h : SE R y rw' c k s) (hk : k ≤ 7) {r : Nat} (hr : r < 10) (hu : ∀ i, i < k → rw' i ≠ r) : bd9 (y r) := by
  obtain ⟨⟨hT, hR⟩, hU, hI, hF, hS, hg, hks⟩ := h
  obtain ⟨f1, f2, f3, f4⟩ := hF r hr hu
  rcases f3 with q | q | q
  · exact ⟨fun i hi => by have := q.1 i hi; omega, by have := q.2; omega⟩
  · exact ⟨fun i hi => by rw [q i (by omega)]; decide, by rw [q 8 (by omega)]; decide⟩
  · obtain ⟨C, D, w, c1, c2, c3, c4⟩ := RR_w (W := W9) W9_p (c := c) hT f1 (by decide) (sml_N (hR r)) (fun i hi => by have := (hU i hi).1; omega) (fun i l hl hi => (hU i hi).2.2.1 l hl) (fun i hi => (hU i hi).2.1) f2
    have p := prm_le c1 c2 c3 q
    have b : ∀ i, i < 9 → pw 110889 k * (W9 i * (w i * w i)) ≤ pw 8982009 (k + 1) := fun i hi => by
      have := c4 i hi
      rw [wp_9 (fun i hi => (hU i hi).1.2.1)] at this
      exact this
    refine ⟨fun i hi => abs_sq (Int.le_trans (p i (by omega)) (nine_s hk ?_)), abs_sq (Int.le_trans (p 8 (by omega)) (nine_r hk ?_))⟩
    · have := b i (by omega)
      rw [show W9 i = 110889 by unfold W9; rw [if_pos hi]] at this
      exact this
    · exact b 8 (by omega)
/-- no free row has a number at this step -/
theorem SE_n {R y : Nat → Nat → Int} {rw' c : Nat → Nat} {k s : Nat} (h : SE R y rw' c k (s + 1)) (h0 : ∀ r, r < 10 → (∀ i, i < k → rw' i ≠ r) → y r s = 0) : SE R y rw' c k s := by
  obtain ⟨hT, hU, hI, hF, hS, hg, hks, hzc⟩ := h
  refine ⟨hT, fun i hi => ⟨⟨(hU i hi).1.1, (hU i hi).1.2.1, by have := (hU i hi).1.2.2; omega⟩, (hU i hi).2⟩, hI, fun r hr hu => ?_, hS, hg, by omega, hzc⟩
  obtain ⟨f1, f2, f3, f4⟩ := hF r hr hu
  refine ⟨f1, f2, f3, fun t h1 h2 => ?_⟩
  by_cases q : t = s
  · rw [q]; exact h0 r hr hu
  · exact f4 t (by omega) h2
noncomputable def clr9 (y : Nat → Int) (c : Nat) (v : Nat → Int) : Nat → Int := if v c = 0 then v else dvR (fun i => v i * y c - y i * v c) 9
theorem dvR_rg {x : Nat → Int} {n i : Nat} (h : rg (x i)) : rg (dvR x n i) := by
  unfold dvR
  split
  · rename_i q
    unfold rg at *
    have h1 := Int.natAbs_ediv_le_natAbs (x i) ((gcN x n : Nat) : Int)
    omega
  · exact h
theorem rg_99 {a b c d : Int} (ha : a.natAbs ≤ 14334558093) (hb : b.natAbs ≤ 43046721) (hc : c.natAbs ≤ 14334558093) (hd : d.natAbs ≤ 43046721) : rg (a * b - c * d) := by
  have h1 := mul_ab ha hb
  have h2 := mul_ab hc hd
  generalize a * b = p at *
  generalize c * d = q at *
  unfold rg; omega
theorem bd_9 {v : Nat → Int} (h : bd9 v) {i : Nat} (hi : i < 9) : (v i).natAbs ≤ 14334558093 := by
  by_cases q : i = 8
  · rw [q]; exact h.2
  · have := h.1 i (by omega); omega
theorem clr9_sp {y v : Nat → Int} {c : Nat} (hc : c < 8) (hy : y c ≠ 0) (hv : fit9 v) : (∃ g α β : Int, g ≠ 0 ∧ α ≠ 0 ∧ ∀ i, i < 9 → g * clr9 y c v i = α * v i - β * y i) ∧ fit9 (clr9 y c v) ∧ clr9 y c v c = 0 ∧ ∀ i, i < 9 → y i = 0 → v i = 0 → clr9 y c v i = 0 := by
  unfold clr9
  by_cases q : v c = 0
  · rw [if_pos q]
    exact ⟨⟨1, 1, 0, by decide, by decide, fun i _ => by omega⟩, hv, q, fun i _ _ h => h⟩
  · rw [if_neg q]
    obtain ⟨G, G0, G1, G2⟩ := dvR_sp (x := fun i => v i * y c - y i * v c) (n := 9)
    refine ⟨⟨G, y c, v c, G0, hy, fun i hi => by rw [G1 i hi, Int.mul_comm (v i), Int.mul_comm (y i)]⟩, Or.inr G2, ?_, fun i hi h1 h2 => ?_⟩
    · have e := G1 c (by omega)
      rw [Int.mul_comm (v c), Int.sub_self] at e
      exact (Int.mul_eq_zero.mp e).resolve_left G0
    · have e := G1 i hi
      rw [h1, h2, Int.zero_mul, Int.zero_mul, Int.sub_zero] at e
      exact (Int.mul_eq_zero.mp e).resolve_left G0
theorem eq_lin {g α β : Int} {v' v y z : Nat → Int} (e : ∀ i, i < 9 → g * v' i = α * v i - β * y i) : g * (dt 8 v' z - v' 8) = α * (dt 8 v z - v 8) - β * (dt 8 y z - y 8) := by
  have h1 : ∀ n, n ≤ 8 → g * dt n v' z = α * dt n v z - β * dt n y z := by
    intro n
    induction n with
    | zero => intro _; rw [dt, dt, dt]; omega
    | succ n ih =>
      intro hn
      have e1 := ih (by omega)
      have e2 := e n (by omega)
      have e3 : g * (v' n * z n) = α * (v n * z n) - β * (y n * z n) := by
        have : g * (v' n * z n) = (g * v' n) * z n := by grind
        rw [this, e2]; grind
      rw [dt, dt, dt, Int.mul_add, e1, e3]; grind
  have e8 := e 8 (by omega)
  have e9 := h1 8 (Nat.le_refl _)
  rw [Int.mul_sub, e9, e8]; grind
theorem SE_p {R y y' : Nat → Nat → Int} {rw' c : Nat → Nat} {k s r0 : Nat} (h : SE R y rw' c k (s + 1)) (hs : s < 8) (hr0 : r0 < 10) (hu0 : ∀ i, i < k → rw' i ≠ r0) (hy : y r0 s ≠ 0) (e0 : y' r0 = y r0) (e1 : ∀ i, i < k → y' (rw' i) = y (rw' i)) (e2 : ∀ r, r < 10 → r ≠ r0 → (∀ i, i < k → rw' i ≠ r) → y' r = clr9 (y r0) s (y r)) : SE R y' (fun i => if i = k then r0 else rw' i) (fun i => if i = k then s else c i) (k + 1) s := by
  have k7 : k ≤ 7 := by have := h.2.2.2.2.2.2.1; omega
  have hb0 := SE_b h k7 hr0 hu0
  have hb := fun r hr hu => SE_b h k7 (r := r) hr hu
  obtain ⟨⟨hT, hR⟩, hU, hI, hF, hS, hg, hks, hzc⟩ := h
  obtain ⟨z1, z2, z3, z4⟩ := hF r0 hr0 hu0
  have xk : ∀ i, i < k → ∀ t, t < 9 → y (rw' i) t = y' (if i = k then r0 else rw' i) t := fun i hi t _ => by rw [if_neg (by omega), e1 i hi]
  have T1 : TT W9 9 8982009 (fun i => y' (if i = k then r0 else rw' i)) (k + 1) := by
    have a : TT W9 9 8982009 (fun i => y' (if i = k then r0 else rw' i)) k := TT_c hT (fun j hj i hi => xk j hj i hi)
    refine TT_s W9_0 (by decide) a (u := R r0) ?_ (sml_N (hR r0))
    exact RR_c z1 (fun j hj i hi => xk j hj i hi) (fun i _ => by rw [if_pos rfl, e0]) (fun _ _ => rfl)
  have cl : ∀ l, l < k → c l < 8 ∧ s < c l := fun l hl => ⟨(hU l hl).1.2.1, by have := (hU l hl).1.2.2; omega⟩
  refine ⟨⟨T1, hR⟩, fun i hi => ?_, fun i j hij hj => ?_, fun r hr hu => ?_, fun z => ?_, fun r t hr ht => ?_, by omega, fun t ht hz r hr => ?_⟩
  · dsimp only
    by_cases q : i = k
    · rw [if_pos q, if_pos q, e0]
      refine ⟨⟨hr0, hs, Nat.le_refl _⟩, hy, fun l hl => ?_, fun t h1 h2 => z4 t (by omega) h2, hb0⟩
      rw [if_neg (by omega)]
      exact z2 l (by omega)
    · rw [if_neg q, if_neg q, e1 i (by omega)]
      obtain ⟨a1, a2, a3, a4, a5⟩ := hU i (by omega)
      refine ⟨⟨a1.1, a1.2.1, by omega⟩, a2, fun l hl => ?_, a4, a5⟩
      rw [if_neg (by omega)]; exact a3 l hl
  · dsimp only
    rw [if_neg (show i ≠ k by omega), if_neg (show i ≠ k by omega)]
    by_cases q : j = k
    · rw [if_pos q, if_pos q]; exact ⟨hu0 i (by omega), (cl i (by omega)).2⟩
    · rw [if_neg q, if_neg q]; exact hI i j hij (by omega)
  · have ne : r ≠ r0 := fun e => by have := hu k (by omega); dsimp only at this; rw [if_pos rfl] at this; exact this e.symm
    have hu' : ∀ i, i < k → rw' i ≠ r := fun i hi => by have := hu i (by omega); dsimp only at this; rw [if_neg (by omega)] at this; exact this
    obtain ⟨f1, f2, f3, f4⟩ := hF r hr hu'
    obtain ⟨⟨g, α, β, g0, α0, ge⟩, c2, c3, c4⟩ := clr9_sp hs hy f3
    rw [e2 r hr ne hu']
    refine ⟨?_, fun l hl => ?_, c2, fun t h1 h2 => ?_⟩
    · have a : RW 9 (fun i => y' (if i = k then r0 else rw' i)) k (y r) (R r) := RR_c f1 (fun j hj i hi => xk j hj i hi) (fun _ _ => rfl) (fun _ _ => rfl)
      refine RR_s a g0 α0 (β := β) (fun i hi => ?_)
      dsimp only
      rw [if_pos rfl, e0]; exact ge i hi
    · dsimp only
      by_cases q : l = k
      · rw [if_pos q]; exact c3
      · rw [if_neg q]; exact c4 _ (by have := (cl l (by omega)).1; omega) (z2 l (by omega)) (f2 l (by omega))
    · by_cases q : t = s
      · rw [q]; exact c3
      · exact c4 t (by omega) (z4 t (by omega) h2) (f4 t (by omega) h2)
  · rw [← hS z]
    have mono : (∀ r, r < 10 → dt 8 (y' r) z = y' r 8) ↔ ∀ r, r < 10 → dt 8 (y r) z = y r 8 := by
      have cs : ∀ r, r < 10 → (y' r = y r) ∨ (r ≠ r0 ∧ ∃ g α β : Int, g ≠ 0 ∧ α ≠ 0 ∧ ∀ i, i < 9 → g * y' r i = α * y r i - β * y r0 i) := fun r hr => by
        by_cases q : r = r0
        · rw [q]; exact Or.inl e0
        · by_cases w : ∃ i, i < k ∧ rw' i = r
          · obtain ⟨i, i1, i2⟩ := w
            rw [← i2]; exact Or.inl (e1 i i1)
          · have hu' : ∀ i, i < k → rw' i ≠ r := fun i hi e => w ⟨i, hi, e⟩
            rw [e2 r hr q hu']
            exact Or.inr ⟨q, (clr9_sp hs hy (hF r hr hu').2.2.1).1⟩
      constructor
      · intro a r hr
        have a0 := a r0 hr0
        rw [e0] at a0
        rcases cs r hr with q | ⟨_, g, α, β, g0, α0, e⟩
        · rw [← q]; exact a r hr
        · have l := eq_lin (z := z) e
          rw [a r hr, a0] at l
          have : α * (dt 8 (y r) z - y r 8) = 0 := by
            have t1 : y' r 8 - y' r 8 = 0 := Int.sub_self _
            have t2 : y r0 8 - y r0 8 = 0 := Int.sub_self _
            rw [t1, t2, Int.mul_zero, Int.mul_zero, Int.sub_zero] at l
            exact l.symm
          have := (Int.mul_eq_zero.mp this).resolve_left α0
          omega
      · intro a r hr
        rcases cs r hr with q | ⟨_, g, α, β, g0, α0, e⟩
        · rw [q]; exact a r hr
        · have l := eq_lin (z := z) e
          rw [a r hr, a r0 hr0, Int.sub_self, Int.sub_self, Int.mul_zero, Int.mul_zero, Int.sub_zero] at l
          have := (Int.mul_eq_zero.mp l).resolve_left g0
          omega
    exact mono
  · by_cases q : r = r0
    · rw [q, e0]; exact hg r0 t hr0 ht
    · by_cases w : ∃ i, i < k ∧ rw' i = r
      · obtain ⟨i, i1, i2⟩ := w
        rw [← i2, e1 i i1]; exact hg _ t (by rw [i2]; exact hr) ht
      · have hu' : ∀ i, i < k → rw' i ≠ r := fun i hi e => w ⟨i, hi, e⟩
        rw [e2 r hr q hu']
        unfold clr9
        split
        · exact hg r t hr ht
        · have b := hb r hr hu'
          exact dvR_rg (rg_99 (bd_9 b ht) (hb0.1 s hs) (bd_9 hb0 ht) (b.1 s hs))
  · by_cases q : r = r0
    · rw [q, e0]; exact hzc t ht hz r0 hr0
    · by_cases w : ∃ i, i < k ∧ rw' i = r
      · obtain ⟨i, i1, i2⟩ := w
        rw [← i2, e1 i i1, i2]; exact hzc t ht hz r hr
      · have hu' : ∀ i, i < k → rw' i ≠ r := fun i hi e => w ⟨i, hi, e⟩
        rw [e2 r hr q hu']
        exact (clr9_sp hs hy (hF r hr hu').2.2.1).2.2.2 t (by omega) (hzc t ht hz r0 hr0) (hzc t ht hz r hr)
