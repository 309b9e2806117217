/-! the reference's way: each column is cleared in all other rows -/
def fit (v : Nat → Int) : Prop := (∀ i, i < 10 → -3 ≤ v i ∧ v i ≤ 3) ∨ (∀ i, i < 10 → v i = 0) ∨ prm 10 v
/-- m: the rows now; R: those they came from; A: the equations; pc: the columns of the first n rows; columns below c are done -/
def GJs (A m R : Nat → Nat → Int) (pc : Nat → Nat) (n c : Nat) : Prop :=
  (TT (fun _ => 1) 10 90 m n ∧ (∀ r, n ≤ r → r < 10 → RW 10 m n (m r) (R r)) ∧ ∀ r i, -3 ≤ R r i ∧ R r i ≤ 3) ∧
  (∀ k, k < n → pc k < c ∧ m k (pc k) ≠ 0 ∧ ∀ r, r < 10 → r ≠ k → m r (pc k) = 0) ∧
  (∀ c', c' < c → (∀ k, k < n → pc k ≠ c') → ∀ r, n ≤ r → r < 10 → m r c' = 0) ∧
  (∀ r, r < 10 → fit (m r)) ∧
  (∀ z : Nat → Int, (∀ r, r < 10 → dt 10 (m r) z = 0) ↔ ∀ r, r < 10 → dt 10 (A r) z = 0) ∧
  ((∀ r, 8 ≤ r → r < 10 → ∀ i, i < 10 → m r i = 0) ∨ (∀ r, r < 10 → ∀ i, 8 ≤ i → i < 10 → m r i = 0)) ∧ n ≤ 8 ∧ n ≤ c
theorem r_N {v : Nat → Int} (h : ∀ i, -3 ≤ v i ∧ v i ≤ 3) : dt 10 (fun i => (fun _ => 1) i * v i) v ≤ 90 := by
  have := dt_le (u := v) (b := fun _ => 9) (n := 10) (fun i _ => sq9 (h i))
  have e : sI (fun _ => 9) 10 = 90 := by decide
  rw [e] at this
  exact this
theorem GJ_0 {A : Nat → Nat → Int} (h3 : ∀ r i, -3 ≤ A r i ∧ A r i ≤ 3) (hz : (∀ r, 8 ≤ r → r < 10 → ∀ i, i < 10 → A r i = 0) ∨ (∀ r, r < 10 → ∀ i, 8 ≤ i → i < 10 → A r i = 0)) (pc : Nat → Nat) : GJs A A A pc 0 0 :=
  ⟨⟨TT_0 _ _ _ _, fun r _ _ => RR_0 _ _ _ _, h3⟩, fun k hk => absurd hk (Nat.not_lt_zero _), fun c' hc => absurd hc (Nat.not_lt_zero _), fun r _ => Or.inl (fun i _ => h3 r i), fun z => Iff.rfl, hz, by omega, by omega⟩
theorem pw90 : ∀ j, j < 9 → pw 90 j ≤ ((65610000 : Nat) : Int) * ((65610000 : Nat) : Int) := by decide
theorem GJ_b {A m R : Nat → Nat → Int} {pc : Nat → Nat} {n c : Nat} (h : GJs A m R pc n c) (hc : c ≤ 10) (h7 : n ≤ 7 ∨ ∀ r, n ≤ r → r < 10 → ∀ i, i < 10 → m r i = 0) : ∀ r, r < 10 → ∀ i, i < 10 → (m r i).natAbs ≤ 65610000 := by
  obtain ⟨⟨hT, hR, hR3⟩, hp, hn, hf, hk, hz, n8, nc⟩ := h
  intro r hr i hi
  rcases hf r hr with q | q | q
  · have := q i hi; omega
  · rw [q i hi]; decide
  · rcases Nat.lt_or_ge r n with y | y
    · obtain ⟨C, D, w, c1, c2, c3, c4⟩ := TT_w (W := fun _ => 1) (fun _ => by decide) hT y (c := pc) (fun i hi => by have := (hp i hi).1; omega) (fun i l hl hi hl' => (hp l hl').2.2 i (by omega) (fun e => hl e.symm)) (fun i hi => (hp i hi).2.1)
      have p := prm_le c1 c2 c3 q i hi
      have b := c4 i hi
      rw [wp_1, Int.one_mul, Int.one_mul] at b
      exact abs_sq (Int.le_trans (Int.le_trans p b) (pw90 n (by omega)))
    · rcases h7 with h7 | h7
      · obtain ⟨C, D, w, c1, c2, c3, c4⟩ := RR_w (W := fun _ => 1) (fun _ => by decide) (c := pc) hT (hR r y hr) (by decide) (r_N (hR3 r)) (fun i hi => by have := (hp i hi).1; omega) (fun i l hl hi => (hp l (by omega)).2.2 i (by omega) (by omega)) (fun i hi => (hp i hi).2.1) (fun l hl => (hp l hl).2.2 r hr (by omega))
        have p := prm_le c1 c2 c3 q i hi
        have b := c4 i hi
        rw [wp_1, Int.one_mul, Int.one_mul] at b
        exact abs_sq (Int.le_trans (Int.le_trans p b) (pw90 (n + 1) (by omega)))
      · rw [h7 r y hr i hi]; decide
/-- no row has a number in this column -/
theorem GJ_n {A m R : Nat → Nat → Int} {pc : Nat → Nat} {n c : Nat} (h : GJs A m R pc n c) (h0 : ∀ r, n ≤ r → r < 10 → m r c = 0) : GJs A m R pc n (c + 1) := by
  obtain ⟨hT, hp, hn, hf, hk, hz, n8, nc⟩ := h
  refine ⟨hT, fun k hk => ⟨by have := (hp k hk).1; omega, (hp k hk).2⟩, fun c' hc' hne r h1 h2 => ?_, hf, hk, hz, n8, by omega⟩
  rcases Nat.lt_succ_iff_lt_or_eq.mp hc' with y | y
  · exact hn c' y hne r h1 h2
  · rw [y]; exact h0 r h1 h2
def swp (f : Nat → Nat → Int) (a b : Nat) : Nat → Nat → Int := fun r => if r = a then f b else if r = b then f a else f r
theorem swp_iff {f : Nat → Nat → Int} {a b : Nat} (ha : a < 10) (hb : b < 10) {P : (Nat → Int) → Prop} : (∀ r, r < 10 → P (swp f a b r)) ↔ ∀ r, r < 10 → P (f r) := by
  unfold swp
  constructor
  · intro h r hr
    by_cases q1 : r = a
    · by_cases q2 : b = a
      · have := h a ha; rw [if_pos rfl, q2] at this; rw [q1]; exact this
      · have := h b hb; rw [if_neg q2, if_pos rfl] at this; rw [q1]; exact this
    · by_cases q2 : r = b
      · have := h a ha; rw [if_pos rfl] at this; rw [q2]; exact this
      · have := h r hr; rw [if_neg q1, if_neg q2] at this; exact this
  · intro h r hr
    by_cases q1 : r = a
    · rw [if_pos q1]; exact h b hb
    · rw [if_neg q1]
      by_cases q2 : r = b
      · rw [if_pos q2]; exact h a ha
      · rw [if_neg q2]; exact h r hr
theorem GJ_w {A m R : Nat → Nat → Int} {pc : Nat → Nat} {n c a : Nat} (h : GJs A m R pc n c) (h1 : n ≤ a) (h2 : a < 10) (hc : c < 10) (ha : m a c ≠ 0) : GJs A (swp m a n) (swp R a n) pc n c ∧ n ≤ 7 ∧ swp m a n n c ≠ 0 := by
  obtain ⟨⟨hT, hR, hR3⟩, hp, hn, hf, hk, hz, n8, nc⟩ := h
  have lo : ∀ {f : Nat → Nat → Int} {r : Nat}, r < n → swp f a n r = f r := fun {f r} hr => by unfold swp; rw [if_neg (by omega), if_neg (by omega)]
  have nn : ∀ f : Nat → Nat → Int, swp f a n n = f a := fun f => by
    unfold swp
    by_cases q : n = a
    · rw [if_pos q, q]
    · rw [if_neg q, if_pos rfl]
  have up : ∀ {P : (Nat → Int) → (Nat → Int) → Prop}, (∀ r, n ≤ r → r < 10 → P (m r) (R r)) → ∀ r, n ≤ r → r < 10 → P (swp m a n r) (swp R a n r) := fun {P} hP r r1 r2 => by
    unfold swp
    by_cases q1 : r = a
    · rw [if_pos q1, if_pos q1]; exact hP n (Nat.le_refl _) (by omega)
    · rw [if_neg q1, if_neg q1]
      by_cases q2 : r = n
      · rw [if_pos q2, if_pos q2]; exact hP a h1 h2
      · rw [if_neg q2, if_neg q2]; exact hP r r1 r2
  have seven : n ≤ 7 := by
    rcases hz with z | z
    · have : a < 8 := Classical.byContradiction fun w => ha (z a (by omega) h2 c hc)
      omega
    · have : c < 8 := Classical.byContradiction fun w => ha (z a h2 c (by omega) hc)
      omega
  refine ⟨⟨⟨TT_c hT (fun j hj i _ => by rw [lo hj]), fun r r1 r2 => ?_, fun r i => ?_⟩, fun k hk' => ?_, fun c' hc' hne r r1 r2 => up (P := fun x _ => x c' = 0) (fun r r1 r2 => hn c' hc' hne r r1 r2) r r1 r2, ?_, fun z => ?_, ?_, n8, nc⟩, seven, by rw [nn]; exact ha⟩
  · exact RR_c (up (P := fun x y => RW 10 m n x y) hR r r1 r2) (fun j hj i _ => by rw [lo hj]) (fun _ _ => rfl) (fun _ _ => rfl)
  · unfold swp
    split
    · exact hR3 _ _
    · split <;> exact hR3 _ _
  · obtain ⟨p1, p2, p3⟩ := hp k hk'
    rw [lo hk']
    refine ⟨p1, p2, fun r hr hne => ?_⟩
    rcases Nat.lt_or_ge r n with y | y
    · rw [lo y]; exact p3 r hr hne
    · exact up (P := fun x _ => x (pc k) = 0) (fun r r1 r2 => p3 r r2 (by omega)) r y hr
  · exact (swp_iff h2 (show n < 10 by omega)).mpr hf
  · rw [← hk z]; exact swp_iff h2 (show n < 10 by omega) (P := fun x => dt 10 x z = 0)
  · rcases hz with z | z
    · have a8 : a < 8 := Classical.byContradiction fun w => ha (z a (by omega) h2 c hc)
      exact Or.inl (fun r r1 r2 i hi => by unfold swp; rw [if_neg (by omega), if_neg (by omega)]; exact z r r1 r2 i hi)
    · exact Or.inr ((swp_iff h2 (show n < 10 by omega) (P := fun x => ∀ i, 8 ≤ i → i < 10 → x i = 0)).mpr z)
/-- row k, its column c made 0 by row y -/
noncomputable def clr (y : Nat → Int) (c : Nat) (v : Nat → Int) : Nat → Int := if v c = 0 then v else dvR (fun i => v i * y c - y i * v c) 10
theorem clr_sp {y v : Nat → Int} {c : Nat} (hy : y c ≠ 0) (hv : fit v) : (∃ g α β : Int, g ≠ 0 ∧ α ≠ 0 ∧ ∀ i, i < 10 → g * clr y c v i = α * v i - β * y i) ∧ fit (clr y c v) ∧ (c < 10 → clr y c v c = 0) ∧ ∃ g α : Int, g ≠ 0 ∧ α ≠ 0 ∧ ∀ i, i < 10 → y i = 0 → g * clr y c v i = α * v i := by
  unfold clr
  by_cases q : v c = 0
  · rw [if_pos q]
    exact ⟨⟨1, 1, 0, by decide, by decide, fun i _ => by omega⟩, hv, fun _ => q, 1, 1, by decide, by decide, fun i _ _ => rfl⟩
  · rw [if_neg q]
    obtain ⟨G, G0, G1, G2⟩ := dvR_sp (x := fun i => v i * y c - y i * v c) (n := 10)
    refine ⟨⟨G, y c, v c, G0, hy, fun i hi => by rw [G1 i hi, Int.mul_comm (v i), Int.mul_comm (y i)]⟩, Or.inr G2, fun hc => ?_, G, y c, G0, hy, fun i hi z => by rw [G1 i hi, z, Int.zero_mul, Int.sub_zero, Int.mul_comm]⟩
    have e := G1 c hc
    rw [Int.mul_comm (v c), Int.sub_self] at e
    exact (Int.mul_eq_zero.mp e).resolve_left G0
noncomputable def stp (m : Nat → Nat → Int) (n c : Nat) : Nat → Nat → Int := fun r => if r = n then m n else clr (m n) c (m r)
theorem dt_linr {g α β : Int} {v' v y z : Nat → Int} (e : ∀ i, i < 10 → g * v' i = α * v i - β * y i) : g * dt 10 v' z = α * dt 10 v z - β * dt 10 y z := by
  rw [← dt_lin]
  have : ∀ n, n ≤ 10 → g * dt n v' z = dt n (fun u => α * v u - β * y u) z := by
    intro n
    induction n with
    | zero => intro _; rw [dt, dt]; omega
    | succ n ih =>
      intro hn
      rw [dt, dt, ← ih (by omega), ← e n (by omega)]; grind
  exact this 10 (by omega)
theorem GJ_p {A m R : Nat → Nat → Int} {pc : Nat → Nat} {n c : Nat} (h : GJs A m R pc n c) (hc : c < 10) (h7 : n ≤ 7) (hy : m n c ≠ 0) : GJs A (stp m n c) R (fun k => if k = n then c else pc k) (n + 1) (c + 1) := by
  obtain ⟨⟨hT, hR, hR3⟩, hp, hn, hf, hk, hz, n8, nc⟩ := h
  have sn : stp m n c n = m n := by unfold stp; rw [if_pos rfl]
  have so : ∀ {r}, r ≠ n → stp m n c r = clr (m n) c (m r) := fun {r} hr => by unfold stp; rw [if_neg hr]
  have gj : ∀ j, j < n → ∃ g α β : Int, g ≠ 0 ∧ α ≠ 0 ∧ ∀ i, i < 10 → g * stp m n c j i = α * m j i - β * m n i := fun j hj => by
    rw [so (by omega)]
    exact (clr_sp hy (hf j (by omega))).1
  have T1 : TT (fun _ => 1) 10 90 m (n + 1) := TT_s (fun _ => by decide) (by decide) hT (hR n (Nat.le_refl _) (by omega)) (r_N (hR3 n))
  have y0 : ∀ k, k < n → m n (pc k) = 0 := fun k hk' => (hp k hk').2.2 n (by omega) (by omega)
  refine ⟨⟨TT_g T1 (fun i _ => by rw [sn]) gj, fun r r1 r2 => ?_, hR3⟩, fun k hk' => ?_, fun c' hc' hne r r1 r2 => ?_, fun r hr => ?_, fun z => ?_, ?_, by omega, by omega⟩
  · obtain ⟨g, α, β, g0, α0, e⟩ := (clr_sp hy (hf r r2)).1
    rw [← so (show r ≠ n by omega)] at e
    exact RR_g (RR_s (hR r (by omega) r2) g0 α0 e) (fun i _ => by rw [sn]) gj
  · dsimp only
    by_cases q : k = n
    · rw [if_pos q, q, sn]
      exact ⟨by omega, hy, fun r hr hne => by rw [so hne]; exact (clr_sp hy (hf r hr)).2.2.1 hc⟩
    · rw [if_neg q]
      obtain ⟨p1, p2, p3⟩ := hp k (by omega)
      refine ⟨by omega, ?_, fun r hr hne => ?_⟩
      · rw [so q]
        obtain ⟨g, α, g0, α0, e⟩ := (clr_sp hy (hf k (by omega))).2.2.2
        have := e (pc k) (by omega) (y0 k (by omega))
        intro z
        rw [z, Int.mul_zero] at this
        exact Int.mul_ne_zero α0 p2 this.symm
      · by_cases q2 : r = n
        · rw [q2, sn]; exact y0 k (by omega)
        · rw [so q2]
          obtain ⟨g, α, g0, α0, e⟩ := (clr_sp hy (hf r hr)).2.2.2
          have := e (pc k) (by omega) (y0 k (by omega))
          rw [p3 r hr hne, Int.mul_zero] at this
          exact (Int.mul_eq_zero.mp this).resolve_left g0
  · have cc : c' < c := by
      rcases Nat.lt_succ_iff_lt_or_eq.mp hc' with y | y
      · exact y
      · have := hne n (by omega); dsimp only at this; rw [if_pos rfl] at this; exact absurd y.symm this
    have hne' : ∀ k, k < n → pc k ≠ c' := fun k hk' => by have := hne k (by omega); dsimp only at this; rw [if_neg (by omega)] at this; exact this
    rw [so (by omega)]
    obtain ⟨g, α, g0, α0, e⟩ := (clr_sp hy (hf r r2)).2.2.2
    have := e c' (by omega) (hn c' cc hne' n (Nat.le_refl _) (by omega))
    rw [hn c' cc hne' r (by omega) r2, Int.mul_zero] at this
    exact (Int.mul_eq_zero.mp this).resolve_left g0
  · by_cases q : r = n
    · rw [q, sn]; exact hf n (by omega)
    · rw [so q]; exact (clr_sp hy (hf r hr)).2.1
  · rw [← hk z]
    constructor
    · intro a r hr
      have yn := a n (by omega)
      rw [sn] at yn
      by_cases q : r = n
      · rw [q]; exact yn
      · have ar := a r hr
        rw [so q] at ar
        obtain ⟨g, α, β, g0, α0, e⟩ := (clr_sp hy (hf r hr)).1
        have := dt_linr (z := z) e
        rw [ar, yn, Int.mul_zero, Int.mul_zero, Int.sub_zero] at this
        exact (Int.mul_eq_zero.mp this.symm).resolve_left α0
    · intro a r hr
      by_cases q : r = n
      · rw [q, sn]; exact a n (by omega)
      · rw [so q]
        obtain ⟨g, α, β, g0, α0, e⟩ := (clr_sp hy (hf r hr)).1
        have := dt_linr (z := z) e
        rw [a r hr, a n (by omega), Int.mul_zero, Int.mul_zero, Int.sub_zero] at this
        exact (Int.mul_eq_zero.mp this).resolve_left g0
  · rcases hz with z | z
    · refine Or.inl (fun r r1 r2 i hi => ?_)
      rw [so (by omega)]
      unfold clr
      rw [if_pos (z r r1 r2 c hc)]
      exact z r r1 r2 i hi
    · refine Or.inr (fun r hr i i1 i2 => ?_)
      by_cases q : r = n
      · rw [q, sn]; exact z n (by omega) i i1 i2
      · rw [so q]
        obtain ⟨g, α, g0, α0, e⟩ := (clr_sp hy (hf r hr)).2.2.2
        have := e i i2 (z n (by omega) i i1 i2)
        rw [z r hr i i1 i2, Int.mul_zero] at this
        exact (Int.mul_eq_zero.mp this).resolve_left g0
