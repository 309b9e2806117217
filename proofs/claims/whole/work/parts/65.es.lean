/-! units, their changes; mixtures of them, cleared one by one -/
def cgI (n : NN) (s p : Nat) : Int := (nG n (10 * s + p) : Int) - (nT n (10 * s + p) : Int)
def CH (n : NN) (w : Bool) (u i : Nat) : Int := if w = true then cgI n u i else if i < 8 then cgI n i u else 0
def unB (n : NN) (w : Bool) (u : Nat) : Bool := if w = true then decide (u < 8) && (nS n).testBit u else (nP n).testBit u
theorem cgI_3 {n : NN} {tp ts : Nat} (h : WF n tp ts) (s p : Nat) : -3 ≤ cgI n s p ∧ cgI n s p ≤ 3 := by
  have := wf_T3 h (10 * s + p)
  have := wf_G3 h (10 * s + p)
  unfold cgI; omega
theorem CH_3 {n : NN} {tp ts : Nat} (h : WF n tp ts) (w : Bool) (u i : Nat) : -3 ≤ CH n w u i ∧ CH n w u i ≤ 3 := by
  unfold CH
  split
  · exact cgI_3 h u i
  · split
    · exact cgI_3 h i u
    · omega
theorem sq9 {x : Int} (h : -3 ≤ x ∧ x ≤ 3) : x * x ≤ 9 := by
  have : x = -3 ∨ x = -2 ∨ x = -1 ∨ x = 0 ∨ x = 1 ∨ x = 2 ∨ x = 3 := by omega
  rcases this with h | h | h | h | h | h | h <;> rw [h] <;> decide
def sI (b : Nat → Int) : Nat → Int
  | 0 => 0
  | n + 1 => sI b n + b n
theorem dt_le {u b : Nat → Int} : ∀ {n : Nat}, (∀ i, i < n → u i * u i ≤ b i) → dt n (fun i => (fun _ => 1) i * u i) u ≤ sI b n
  | 0, _ => Int.le_refl _
  | n + 1, h => by
    have h1 := dt_le (u := u) (b := b) (n := n) (fun i hi => h i (by omega))
    have h2 := h n (by omega)
    rw [dt, sI]
    dsimp only at h1 ⊢
    rw [Int.one_mul]
    omega
theorem dt_lin {α β : Int} {a b w : Nat → Int} : ∀ n, dt n (fun u => α * a u - β * b u) w = α * dt n a w - β * dt n b w
  | 0 => by rw [dt, dt, dt]; omega
  | n + 1 => by rw [dt, dt, dt, dt_lin n]; grind
theorem dt_z {a w : Nat → Int} : ∀ {n : Nat}, (∀ u, u < n → a u = 0) → dt n a w = 0
  | 0, _ => rfl
  | n + 1, h => by rw [dt, dt_z (fun u hu => h u (by omega)), h n (by omega)]; omega
def ur (C : Nat → Nat → Int) (u : Nat) : Nat → Int := fun i => if i < 10 then C u i else if i = 10 + u then 1 else 0
theorem ur_N {C : Nat → Nat → Int} {u : Nat} (hC : ∀ i, -3 ≤ C u i ∧ C u i ≤ 3) (hu : u < 10) : dt 20 (fun i => (fun _ => 1) i * ur C u i) (ur C u) ≤ 91 := by
  have h := dt_le (u := ur C u) (b := fun i => if i < 10 then 9 else if i = 10 + u then 1 else 0) (n := 20) (fun i _ => by
    unfold ur
    split
    · exact sq9 (hC i)
    · split <;> decide)
  have e : ∀ u, u < 10 → sI (fun i => if i < 10 then 9 else if i = 10 + u then 1 else 0) 20 = 91 := by decide
  rw [e u hu] at h
  exact h
/-- a mixture: its changes are those of its units -/
def mx (C : Nat → Nat → Int) (v : Nat → Int) : Prop := ∀ i, i < 10 → v i = dt 10 (fun u => v (10 + u)) (fun u => C u i)
theorem mx_lin {C : Nat → Nat → Int} {v' v y : Nat → Int} {G α β : Int} (hG : G ≠ 0) (e : ∀ i, i < 20 → G * v' i = α * v i - β * y i) (h1 : mx C v) (h2 : mx C y) : mx C v' := fun i hi => by
  refine Int.eq_of_mul_eq_mul_left hG ?_
  rw [e i (by omega), h1 i hi, h2 i hi, ← dt_lin]
  have : ∀ n, n ≤ 10 → G * dt n (fun u => v' (10 + u)) (fun u => C u i) = dt n (fun u => α * v (10 + u) - β * y (10 + u)) (fun u => C u i) := by
    intro n
    induction n with
    | zero => intro _; rw [dt, dt]; omega
    | succ n ih =>
      intro hn
      have := e (10 + n) (by omega)
      rw [dt, dt, ← ih (by omega), ← this]; grind
  exact (this 10 (by omega)).symm
/-- rows x 0 .. x (k-1), of units us, with columns c of their own -/
def ES (C : Nat → Nat → Int) (us : Nat → Nat) (x : Nat → Nat → Int) (c : Nat → Nat) (k : Nat) : Prop :=
  (∀ j, j ≤ k → TT (fun _ => 1) 20 91 x j) ∧ ∀ i, i < k → (c i < 10 ∧ x i (c i) ≠ 0) ∧ mx C (x i) ∧ (x i (10 + us i) ≠ 0 ∧ us i < 10) ∧ (∀ l, l < i → x i (c l) = 0) ∧ (∀ u, u < 10 → x i (10 + u) ≠ 0 → ∃ l, l ≤ i ∧ us l = u) ∧ (∀ t, t < 20 → x i t * x i t ≤ pw 91 (i + 1))
theorem ES_0 (C : Nat → Nat → Int) (us : Nat → Nat) (x : Nat → Nat → Int) (c : Nat → Nat) : ES C us x c 0 := ⟨fun j hj => by rw [Nat.le_zero.mp hj]; exact TT_0 _ _ _ _, fun i hi => absurd hi (Nat.not_lt_zero _)⟩
theorem ES_c {C : Nat → Nat → Int} {us us' : Nat → Nat} {x x' : Nat → Nat → Int} {c c' : Nat → Nat} {k : Nat} (h : ES C us x c k) (hu : ∀ j, j < k → us' j = us j) (hx : ∀ j, j < k → x' j = x j) (hc : ∀ j, j < k → c' j = c j) : ES C us' x' c' k := by
  refine ⟨fun j hj => TT_c (h.1 j hj) (fun i hi t _ => by rw [hx i (by omega)]), fun i hi => ?_⟩
  obtain ⟨a, b, d, e, f, g⟩ := h.2 i hi
  rw [hx i hi, hc i hi, hu i hi]
  refine ⟨a, b, d, fun l hl => by rw [hc l (by omega)]; exact e l hl, fun u h1 h2 => ?_, g⟩
  obtain ⟨l, l1, l2⟩ := f u h1 h2
  exact ⟨l, l1, by rw [hu l (by omega)]; exact l2⟩
/-- a row on its way: of unit u, cleared by the first j -/
def RC (C : Nat → Nat → Int) (us : Nat → Nat) (x : Nat → Nat → Int) (c : Nat → Nat) (j u : Nat) (v : Nat → Int) : Prop :=
  RW 20 x j v (ur C u) ∧ prm 20 v ∧ mx C v ∧ v (10 + u) ≠ 0 ∧ (∀ l, l < j → v (c l) = 0) ∧ ∀ u', u' < 10 → v (10 + u') ≠ 0 → u' = u ∨ ∃ l, l < j ∧ us l = u'
theorem dt_one {u : Nat} {w : Nat → Int} (hu : u < 10) : dt 10 (fun u' => if u' = u then 1 else 0) w = w u := by
  have := dt_dl (c := u) (v := w) 10
  rw [if_pos hu] at this
  exact this
theorem RC_0 {C : Nat → Nat → Int} {us : Nat → Nat} {x : Nat → Nat → Int} {c : Nat → Nat} {u : Nat} (hu : u < 10) : RC C us x c 0 u (ur C u) := by
  have e : ∀ u', ur C u (10 + u') = if u' = u then 1 else 0 := fun u' => by
    unfold ur
    rw [if_neg (by omega)]
    by_cases q : u' = u
    · rw [if_pos (by omega), if_pos q]
    · rw [if_neg (by omega), if_neg q]
  refine ⟨RR_0 _ _ _ _, fun g hg => ?_, fun i hi => ?_, by rw [e, if_pos rfl]; decide, fun l hl => absurd hl (Nat.not_lt_zero _), fun u' hu' h => Or.inl ?_⟩
  · have := hg (10 + u) (by omega)
    rw [e, if_pos rfl] at this
    exact this
  · have : (fun u' => ur C u (10 + u')) = fun u' => if u' = u then 1 else 0 := funext e
    rw [this, dt_one hu]
    unfold ur; rw [if_pos hi]
  · rw [e] at h
    by_cases q : u' = u
    · exact q
    · rw [if_neg q] at h; exact absurd rfl h
theorem RC_n {C : Nat → Nat → Int} {us : Nat → Nat} {x : Nat → Nat → Int} {c : Nat → Nat} {j u : Nat} {v : Nat → Int} (h : RC C us x c j u v) (hz : v (c j) = 0) : RC C us x c (j + 1) u v := by
  obtain ⟨a, b, d, e, f, g⟩ := h
  refine ⟨RR_n a, b, d, e, fun l hl => ?_, fun u' h1 h2 => ?_⟩
  · rcases Nat.lt_succ_iff_lt_or_eq.mp hl with y | y
    · exact f l y
    · rw [y]; exact hz
  · rcases g u' h1 h2 with y | ⟨l, y1, y2⟩
    · exact Or.inl y
    · exact Or.inr ⟨l, by omega, y2⟩
theorem RC_s {C : Nat → Nat → Int} {us : Nat → Nat} {x : Nat → Nat → Int} {c : Nat → Nat} {k j u : Nat} {v : Nat → Int} (hE : ES C us x c k) (hj : j < k) (hu : u < 10) (hn : ∀ l, l < k → us l ≠ u) (h : RC C us x c j u v) : RC C us x c (j + 1) u (dvR (fun i => v i * x j (c j) - x j i * v (c j)) 20) := by
  obtain ⟨a, b, d, e, f, g⟩ := h
  obtain ⟨⟨q1, q2⟩, q3, q4, q5, q6, q7⟩ := hE.2 j hj
  obtain ⟨G, G0, G1, G2⟩ := dvR_sp (x := fun i => v i * x j (c j) - x j i * v (c j)) (n := 20)
  generalize dvR (fun i => v i * x j (c j) - x j i * v (c j)) 20 = v' at *
  have lin : ∀ i, i < 20 → G * v' i = x j (c j) * v i - v (c j) * x j i := fun i hi => by rw [G1 i hi, Int.mul_comm (v i), Int.mul_comm (x j i)]
  have x0 : x j (10 + u) = 0 := Classical.byContradiction fun z => by
    obtain ⟨l, l1, l2⟩ := q6 u hu z
    exact hn l (by omega) l2
  have vu : v' (10 + u) ≠ 0 := fun z => by
    have := lin (10 + u) (by omega)
    rw [z, x0, Int.mul_zero, Int.mul_zero, Int.sub_zero] at this
    exact Int.mul_ne_zero q2 e this.symm
  refine ⟨RR_s a G0 q2 lin, ?_, mx_lin G0 lin d q3, vu, fun l hl => ?_, fun u' h1 h2 => ?_⟩
  · rcases G2 with z | z
    · exact absurd (z _ (by omega)) vu
    · exact z
  · have cl : c l < 10 := by
      rcases Nat.lt_succ_iff_lt_or_eq.mp hl with y | y
      · exact (hE.2 l (by omega)).1.1
      · rw [y]; exact q1
    have := lin (c l) (by omega)
    have z : G * v' (c l) = 0 := by
      rcases Nat.lt_succ_iff_lt_or_eq.mp hl with y | y
      · rw [this, f l y, q5 l y, Int.mul_zero, Int.mul_zero]; rfl
      · rw [this, y, Int.mul_comm]; omega
    exact (Int.mul_eq_zero.mp z).resolve_left G0
  · have := lin (10 + u') (by omega)
    by_cases z1 : v (10 + u') = 0
    · by_cases z2 : x j (10 + u') = 0
      · rw [z1, z2, Int.mul_zero, Int.mul_zero] at this
        exact absurd ((Int.mul_eq_zero.mp this).resolve_left G0) h2
      · obtain ⟨l, l1, l2⟩ := q6 u' h1 z2
        exact Or.inr ⟨l, by omega, l2⟩
    · rcases g u' h1 z1 with y | ⟨l, y1, y2⟩
      · exact Or.inl y
      · exact Or.inr ⟨l, by omega, y2⟩
theorem wp_1 (c : Nat → Nat) (q : Nat → Bool) : ∀ k, wp (fun _ => 1) c q k = 1
  | 0 => rfl
  | k + 1 => by rw [wp, wp_1 c q k]; split <;> rfl
theorem RC_b {C : Nat → Nat → Int} {us : Nat → Nat} {x : Nat → Nat → Int} {c : Nat → Nat} {k j u : Nat} {v : Nat → Int} (hC : ∀ u i, -3 ≤ C u i ∧ C u i ≤ 3) (hE : ES C us x c k) (hj : j ≤ k) (hu : u < 10) (h : RC C us x c j u v) : ∀ t, t < 20 → v t * v t ≤ pw 91 (j + 1) := by
  obtain ⟨C', D, w, h1, h2, h3, h4⟩ := RR_w (W := fun _ => 1) (fun _ => by decide) (c := c) (hE.1 j hj) h.1 (by decide) (ur_N (hC u) hu) (fun i hi => by have := (hE.2 i (by omega)).1.1; omega) (fun i l hl hi => (hE.2 i (by omega)).2.2.2.1 l hl) (fun i hi => (hE.2 i (by omega)).1.2) h.2.2.2.2.1
  intro t ht
  have p := prm_le h1 h2 h3 h.2.1 t ht
  have q := h4 t ht
  rw [wp_1, Int.one_mul, Int.one_mul] at q
  exact Int.le_trans p q
theorem ES_s {C : Nat → Nat → Int} {us : Nat → Nat} {x : Nat → Nat → Int} {c : Nat → Nat} {k : Nat} (hC : ∀ u i, -3 ≤ C u i ∧ C u i ≤ 3) (hE : ES C us x c k) (hu : us k < 10) (h : RC C us x c k (us k) (x k)) (hc : c k < 10) (hp : x k (c k) ≠ 0) : ES C us x c (k + 1) := by
  have hb := RC_b hC hE (Nat.le_refl k) hu h
  refine ⟨fun j hj => ?_, fun i hi => ?_⟩
  · by_cases y : j = k + 1
    · rw [y]; exact TT_s (fun _ => by decide) (by decide) (hE.1 k (Nat.le_refl _)) h.1 (ur_N (hC _) hu)
    · exact hE.1 j (by omega)
  · rcases Nat.lt_succ_iff_lt_or_eq.mp hi with y | y
    · exact hE.2 i y
    · subst y
      refine ⟨⟨hc, hp⟩, h.2.2.1, ⟨h.2.2.2.1, hu⟩, h.2.2.2.2.1, fun u h1 h2 => ?_, hb⟩
      rcases h.2.2.2.2.2 u h1 h2 with z | ⟨l, z1, z2⟩
      · exact ⟨i, Nat.le_refl _, z.symm⟩
      · exact ⟨l, by omega, z2⟩
/-- no mixture of those units is 0 at all their columns -/
theorem ES_ind {C : Nat → Nat → Int} {us : Nat → Nat} {x : Nat → Nat → Int} {c : Nat → Nat} : ∀ {k : Nat}, ES C us x c k → ∀ y : Nat → Int, (∀ u, u < 10 → y u ≠ 0 → ∃ l, l < k ∧ us l = u) → (∀ l, l < k → dt 10 y (fun u => C u (c l)) = 0) → ∀ u, u < 10 → y u = 0
  | 0, _, y, hs, _, u, hu => Classical.byContradiction fun z => by obtain ⟨l, l1, _⟩ := hs u hu z; exact absurd l1 (Nat.not_lt_zero _)
  | k + 1, hE, y, hs, hz, u, hu => by
    obtain ⟨⟨q1, q2⟩, q3, q4, q5, q6, q7⟩ := hE.2 k (by omega)
    have hE' : ES C us x c k := ⟨fun j hj => hE.1 j (by omega), fun i hi => hE.2 i (by omega)⟩
    have dz : ∀ l, l ≤ k → dt 10 (fun u => x k (10 + us k) * y u - y (us k) * x k (10 + u)) (fun u => C u (c l)) = - (y (us k) * x k (c l)) := fun l hl => by
      rw [dt_lin, hz l (by omega), ← q3 (c l) ((hE.2 l (by omega)).1.1)]; omega
    have ih := ES_ind hE' (fun u => x k (10 + us k) * y u - y (us k) * x k (10 + u)) (fun u' hu' h => ?_) (fun l hl => ?_)
    · have b0 : y (us k) = 0 := by
        have e := dz k (Nat.le_refl _)
        rw [dt_z (fun u hu => ih u hu)] at e
        have : y (us k) * x k (c k) = 0 := by omega
        exact (Int.mul_eq_zero.mp this).resolve_right q2
      have := ih u hu
      rw [b0, Int.zero_mul, Int.sub_zero] at this
      exact (Int.mul_eq_zero.mp this).resolve_left q4.1
    · by_cases e : u' = us k
      · rw [e, Int.mul_comm] at h
        exact absurd (by omega) h
      · by_cases z : y u' = 0
        · by_cases z2 : x k (10 + u') = 0
          · rw [z, z2] at h; exact absurd (by omega) h
          · obtain ⟨l, l1, l2⟩ := q6 u' hu' z2
            exact ⟨l, by rcases Nat.lt_or_eq_of_le l1 with w | w; exact w; rw [w] at l2; exact absurd l2.symm e, l2⟩
        · obtain ⟨l, l1, l2⟩ := hs u' hu' z
          exact ⟨l, by rcases Nat.lt_succ_iff_lt_or_eq.mp l1 with w | w; exact w; rw [w] at l2; exact absurd l2.symm e, l2⟩
    · rw [dz l (by omega), q5 l hl]; omega
