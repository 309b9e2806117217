/-! what the cleared rows tell -/
theorem RC_ex {C : Nat → Nat → Int} {us : Nat → Nat} {x : Nat → Nat → Int} {c : Nat → Nat} {k u : Nat} (hE : ES C us x c k) (hu : u < 10) (hn : ∀ l, l < k → us l ≠ u) : ∀ j, j ≤ k → ∃ v, RC C us x c j u v
  | 0, _ => ⟨_, RC_0 hu⟩
  | j + 1, hj => by
    obtain ⟨v, hv⟩ := RC_ex hE hu hn j (by omega)
    by_cases q : v (c j) = 0
    · exact ⟨v, RC_n hv q⟩
    · exact ⟨_, RC_s hE (by omega) hu hn hv⟩
theorem dt_two {a z : Nat → Int} {p q : Nat} : ∀ {n : Nat}, p < n → q < n → p ≠ q → (∀ i, i < n → i ≠ p → i ≠ q → a i * z i = 0) → dt n a z = a p * z p + a q * z q := by
  have one : ∀ {n p : Nat}, p < n → (∀ i, i < n → i ≠ p → a i * z i = 0) → dt n a z = a p * z p := by
    intro n
    induction n with
    | zero => intro p hp; exact absurd hp (Nat.not_lt_zero _)
    | succ n ih =>
      intro p hp h
      rw [dt]
      by_cases y : p = n
      · have : ∀ m, m ≤ n → dt m a z = 0 := by
          intro m
          induction m with
          | zero => intro _; rfl
          | succ m ihm => intro hm; rw [dt, ihm (by omega), h m (by omega) (by omega)]; rfl
        rw [this n (Nat.le_refl _), y]; omega
      · rw [ih (by omega) (fun i hi hne => h i (by omega) hne), h n (by omega) (by omega)]; omega
  intro n
  induction n with
  | zero => intro hp; exact absurd hp (Nat.not_lt_zero _)
  | succ n ih =>
    intro hp hq hne h
    rw [dt]
    by_cases y : p = n
    · rw [one (n := n) (p := q) (by omega) (fun i hi hi' => h i (by omega) (by omega) hi'), y]; omega
    · by_cases y2 : q = n
      · rw [one (n := n) (p := p) (by omega) (fun i hi hi' => h i (by omega) hi' (by omega)), y2]
      · rw [ih (by omega) (by omega) hne (fun i hi h1 h2 => h i (by omega) h1 h2), h n (by omega) (by omega) (by omega)]; omega
theorem dt_1 {a z : Nat → Int} {p n : Nat} (hp : p < n) (h : ∀ i, i < n → i ≠ p → a i * z i = 0) : dt n a z = a p * z p := by
  have := dt_two (a := a) (z := fun i => if i = p then z p else if i = n then 0 else z i) (p := p) (q := n) (n := n + 1) (by omega) (by omega) (by omega) (fun i hi h1 h2 => by
    rw [if_neg h1, if_neg h2]; exact h i (by omega) h1)
  rw [dt, if_neg (show n ≠ p by omega), if_pos rfl, if_pos rfl, Int.mul_zero, Int.add_zero, Int.add_zero] at this
  rw [← this]
  refine dt_cong (fun i hi => ⟨rfl, ?_⟩)
  by_cases q : i = p
  · rw [if_pos q, q]
  · rw [if_neg q, if_neg (by omega)]
section
variable {n : NN} {w : Bool} {S : Nat} {m R : Nat → Nat → Int} {pc : Nat → Nat} {k0 : Nat}
theorem gj_ker (h : GJs (AE n w S) m R pc k0 10) {z : Nat → Int} (hz : ∀ u, u < 10 → z u ≠ 0 → S.testBit u = true) : ker (CH n w) z ↔ ∀ r, r < 10 → dt 10 (m r) z = 0 := by
  rw [h.2.2.2.2.1 z]
  have e : ∀ r, dt 10 (AE n w S r) z = dt 10 z (fun u => CH n w u r) := fun r => by
    rw [dt_cm]
    have : ∀ k, k ≤ 10 → dt k z (AE n w S r) = dt k z (fun u => CH n w u r) := by
      intro k
      induction k with
      | zero => intro _; rfl
      | succ k ih =>
        intro hk
        rw [dt, dt, ih (by omega)]
        by_cases q : z k = 0
        · rw [q, Int.zero_mul, Int.zero_mul]
        · unfold AE; rw [if_pos (hz k (by omega) q)]
    exact this 10 (Nat.le_refl _)
  constructor
  · intro a r hr; rw [e r]; exact a r hr
  · intro a r hr; rw [← e r]; exact a r hr
theorem gj_out (h : GJs (AE n w S) m R pc k0 10) {r i : Nat} (hr : r < 10) (hi : i < 10) (hS : S.testBit i = false) : m r i = 0 := by
  have e : ∀ (f : Nat → Int), dt 10 f (dl i) = f i := fun f => by rw [dt_cm, dt_dl, if_pos hi]
  have := (h.2.2.2.2.1 (dl i)).mpr (fun r _ => by rw [e]; unfold AE; rw [if_neg (by rw [hS]; decide)]) r hr
  rw [e] at this
  exact this
theorem gj_low (h : GJs (AE n w S) m R pc k0 10) {r i : Nat} (h1 : k0 ≤ r) (hr : r < 10) (hi : i < 10) : m r i = 0 := by
  by_cases q : ∃ k, k < k0 ∧ pc k = i
  · obtain ⟨k, k1, k2⟩ := q
    rw [← k2]
    exact (h.2.1 k k1).2.2 r hr (by omega)
  · exact h.2.2.1 i hi (fun k hk e => q ⟨k, hk, e⟩) r h1 hr
theorem gj_S (h : GJs (AE n w S) m R pc k0 10) {k : Nat} (hk : k < k0) : S.testBit (pc k) = true := by
  obtain ⟨p1, p2, _⟩ := h.2.1 k hk
  cases q : S.testBit (pc k)
  · exact absurd (gj_out h (by have := h.2.2.2.2.2.2.1; omega) p1 q) p2
  · rfl
theorem gj_inj (h : GJs (AE n w S) m R pc k0 10) {k l : Nat} (hk : k < k0) (hl : l < k0) (e : pc k = pc l) : k = l := Classical.byContradiction fun ne => by
  have := (h.2.1 l hl).2.2 k (by have := h.2.2.2.2.2.2.1; omega) ne
  rw [← e] at this
  exact (h.2.1 k hk).2.1 this
/-- nothing within the pivots depends -/
theorem gj_piv (h : GJs (AE n w S) m R pc k0 10) {z : Nat → Int} (hz : ∀ u, u < 10 → z u ≠ 0 → ∃ k, k < k0 ∧ pc k = u) (hk : ker (CH n w) z) : ∀ u, u < 10 → z u = 0 := by
  have hz' : ∀ u, u < 10 → z u ≠ 0 → S.testBit u = true := fun u hu q => by obtain ⟨k, k1, k2⟩ := hz u hu q; rw [← k2]; exact gj_S h k1
  have a := (gj_ker h hz').mp hk
  intro u hu
  refine Classical.byContradiction fun q => ?_
  obtain ⟨k, k1, k2⟩ := hz u hu q
  have n8 := h.2.2.2.2.2.2.1
  have e := a k (by omega)
  rw [dt_1 (p := u) hu (fun i hi hne => ?_)] at e
  · rw [← k2] at e q
    exact Int.mul_ne_zero (h.2.1 k k1).2.1 q e
  · by_cases y : z i = 0
    · rw [y, Int.mul_zero]
    · obtain ⟨l, l1, l2⟩ := hz i hi y
      have : m k i = 0 := by rw [← l2]; exact (h.2.1 l l1).2.2 k (by omega) (fun e => hne (by rw [← l2, ← e, k2]))
      rw [this, Int.zero_mul]
theorem prodq {a : Nat → Int} : ∀ {n : Nat}, (∀ k, k < n → a k ≠ 0) → ∃ (L : Int) (q : Nat → Int), L ≠ 0 ∧ ∀ k, k < n → q k * a k = L
  | 0, _ => ⟨1, fun _ => 0, by decide, fun k hk => absurd hk (Nat.not_lt_zero _)⟩
  | n + 1, h => by
    obtain ⟨L, q, h1, h2⟩ := prodq (a := a) (n := n) (fun k hk => h k (by omega))
    refine ⟨L * a n, fun k => if k = n then L else q k * a n, Int.mul_ne_zero h1 (h n (by omega)), fun k hk => ?_⟩
    show (if k = n then L else q k * a n) * a k = L * a n
    by_cases y : k = n
    · rw [if_pos y, y]
    · rw [if_neg y, Int.mul_assoc, Int.mul_comm (a n), ← Int.mul_assoc, h2 k (by omega)]
/-- a column that is no pivot depends on the pivots -/
theorem gj_free (h : GJs (AE n w S) m R pc k0 10) {f : Nat} (hf : f < 10) (hS : S.testBit f = true) (hn : ∀ k, k < k0 → pc k ≠ f) : ∃ z : Nat → Int, z f ≠ 0 ∧ (∀ u, u < 10 → z u ≠ 0 → u = f ∨ ∃ k, k < k0 ∧ pc k = u) ∧ ker (CH n w) z := by
  have n8 := h.2.2.2.2.2.2.1
  obtain ⟨L, q, L0, hq⟩ := prodq (a := fun k => m k (pc k)) (n := k0) (fun k hk => (h.2.1 k hk).2.1)
  have ex : ∃ z : Nat → Int, z f = L ∧ (∀ k, k < k0 → z (pc k) = -(q k * m k f)) ∧ ∀ u, u ≠ f → (¬ ∃ k, k < k0 ∧ pc k = u) → z u = 0 := by
    refine ⟨fun u => if u = f then L else @dite _ (∃ k, k < k0 ∧ pc k = u) (Classical.propDecidable _) (fun e => -(q (Classical.choose e) * m (Classical.choose e) f)) (fun _ => 0), if_pos rfl, fun k hk => ?_, fun u h1 h2 => ?_⟩
    · have e : ∃ k', k' < k0 ∧ pc k' = pc k := ⟨k, hk, rfl⟩
      dsimp only
      rw [if_neg (hn k hk), dif_pos e]
      have sp := Classical.choose_spec e
      rw [gj_inj h sp.1 hk sp.2]
    · dsimp only
      rw [if_neg h1, dif_neg h2]
  obtain ⟨z, z1, z2, z3⟩ := ex
  have sup : ∀ u, u < 10 → z u ≠ 0 → u = f ∨ ∃ k, k < k0 ∧ pc k = u := fun u _ hu => Classical.byContradiction fun y => hu (z3 u (fun e => y (Or.inl e)) (fun e => y (Or.inr e)))
  have sup' : ∀ u, u < 10 → z u ≠ 0 → S.testBit u = true := fun u hu hz => by
    rcases sup u hu hz with e | ⟨k, k1, k2⟩
    · rw [e]; exact hS
    · rw [← k2]; exact gj_S h k1
  refine ⟨z, by rw [z1]; exact L0, sup, (gj_ker h sup').mpr (fun r hr => ?_)⟩
  rcases Nat.lt_or_ge r k0 with y | y
  · rw [dt_two (p := pc r) (q := f) (h.2.1 r y).1 hf (hn r y) (fun i hi h1 h2 => ?_), z1, z2 r y, ← hq r y]
    · grind
    · by_cases t : z i = 0
      · rw [t, Int.mul_zero]
      · rcases sup i hi t with e | ⟨l, l1, l2⟩
        · exact absurd e h2
        · have : m r i = 0 := by rw [← l2]; exact (h.2.1 l l1).2.2 r hr (fun e => h1 (by rw [← l2, ← e]))
          rw [this, Int.zero_mul]
  · rw [dt_cong (u := m r) (u' := fun _ => 0) (v := z) (v' := z) (fun i hi => ⟨gj_low h y hr hi, rfl⟩)]
    exact dt_z (fun _ _ => rfl)
/-- the pivots are free of dependences: rows of theirs stand -/
theorem gj_ES (h : GJs (AE n w S) m R pc k0 10) (hC : ∀ u i, -3 ≤ CH n w u i ∧ CH n w u i ≤ 3) : ∀ j, j ≤ k0 → ∃ x c, ES (CH n w) pc x c j
  | 0, _ => ⟨fun _ _ => 0, fun _ => 0, ES_0 _ _ _ _⟩
  | j + 1, hj => by
    obtain ⟨x, c, hE⟩ := gj_ES h hC j (by omega)
    have pj := (h.2.1 j (by omega)).1
    obtain ⟨v, hv⟩ := RC_ex hE pj (fun l hl e => by have := gj_inj h (by omega) (by omega) e; omega) j (Nat.le_refl _)
    by_cases q : ∀ i, i < 10 → v i = 0
    · have := gj_piv h (z := fun u => v (10 + u)) (fun u hu y => by
        rcases hv.2.2.2.2.2 u hu y with e | ⟨l, l1, l2⟩
        · exact ⟨j, by omega, e.symm⟩
        · exact ⟨l, by omega, l2⟩) (dep_ker hv q) (pc j) pj
      exact absurd this hv.2.2.2.1
    · obtain ⟨p, p1, p2⟩ : ∃ p, p < 10 ∧ v p ≠ 0 := Classical.byContradiction fun y => q (fun i hi => Classical.byContradiction fun t => y ⟨i, hi, t⟩)
      have e0 : ES (CH n w) pc (fun i => if i = j then v else x i) (fun i => if i = j then p else c i) j := ES_c hE (fun _ _ => rfl) (fun i hi => if_neg (by omega)) (fun i hi => if_neg (by omega))
      refine ⟨fun i => if i = j then v else x i, fun i => if i = j then p else c i, ES_s hC e0 pj ?_ (by rw [if_pos rfl]; exact p1) (by rw [if_pos rfl, if_pos rfl]; exact p2)⟩
      rw [if_pos rfl]
      obtain ⟨g1, g2, g3, g4, g5, g6⟩ := hv
      exact ⟨RR_c g1 (fun j' hj' i _ => by rw [if_neg (by omega)]) (fun _ _ => rfl) (fun _ _ => rfl), g2, g3, g4, fun l hl => by show v (if l = j then p else c l) = 0; rw [if_neg (by omega)]; exact g5 l hl, g6⟩
/-- the one dependence, in least numbers, and how large they are -/
theorem gj_Z (h : GJs (AE n w S) m R pc k0 10) (hC : ∀ u i, -3 ≤ CH n w u i ∧ CH n w u i ≤ 3) {f : Nat} (hf : f < 10) (hS : S.testBit f = true) (hn : ∀ k, k < k0 → pc k ≠ f) : ∃ z : Nat → Int, z f ≠ 0 ∧ ((∀ u, u < 10 → (z u).natAbs ≤ 655000000) ∧ prm 10 z) ∧ (∀ u, u < 10 → z u ≠ 0 → u = f ∨ ∃ k, k < k0 ∧ pc k = u) ∧ ker (CH n w) z := by
  have n8 := h.2.2.2.2.2.2.1
  obtain ⟨x, c, hE⟩ := gj_ES h hC k0 (Nat.le_refl _)
  obtain ⟨v, hv⟩ := RC_ex hE hf hn k0 (Nat.le_refl _)
  obtain ⟨z, z1, z2, z3⟩ := gj_free h hf hS hn
  have zz := ES_ind hE (fun u => v (10 + f) * z u - z f * v (10 + u)) (fun u hu y => ?_) (fun l hl => ?_)
  · have v0 : ∀ i, i < 10 → v i = 0 := fun i hi => by
      have e := dt_lin (α := v (10 + f)) (β := z f) (a := z) (b := fun u => v (10 + u)) (w := fun u => CH n w u i) 10
      rw [dt_z (fun u hu => zz u hu), z3 i hi, ← hv.2.2.1 i hi] at e
      have : z f * v i = 0 := by omega
      exact (Int.mul_eq_zero.mp this).resolve_left z1
    exact ⟨fun u => v (10 + u), hv.2.2.2.1, ⟨fun u hu => abs_sq (Int.le_trans (RC_b hC hE (Nat.le_refl _) hf hv (10 + u) (by omega)) (pw91' k0 (by omega))), prm_10 hv.2.1 v0⟩, hv.2.2.2.2.2, dep_ker hv v0⟩
  · by_cases e : u = f
    · rw [e, Int.mul_comm] at y; exact absurd (by omega) y
    · by_cases t : z u = 0
      · by_cases t2 : v (10 + u) = 0
        · rw [t, t2] at y; exact absurd (by omega) y
        · exact (hv.2.2.2.2.2 u hu t2).resolve_left e
      · exact (z2 u hu t).resolve_left e
  · rw [dt_lin, z3 (c l) ((hE.2 l hl).1.1), ← hv.2.2.1 (c l) ((hE.2 l hl).1.1), hv.2.2.2.2.1 l hl]; omega
/-- one free column: dependences are told by the rows -/
theorem gj_row (h : GJs (AE n w S) m R pc k0 10) {f : Nat} (hf : f < 10) (hn : ∀ k, k < k0 → pc k ≠ f) {z : Nat → Int} (hz : ∀ u, u < 10 → z u ≠ 0 → u = f ∨ ∃ k, k < k0 ∧ pc k = u) (hS : S.testBit f = true) : ker (CH n w) z ↔ ∀ k, k < k0 → m k (pc k) * z (pc k) + m k f * z f = 0 := by
  have n8 := h.2.2.2.2.2.2.1
  have sup' : ∀ u, u < 10 → z u ≠ 0 → S.testBit u = true := fun u hu hz' => by
    rcases hz u hu hz' with e | ⟨k, k1, k2⟩
    · rw [e]; exact hS
    · rw [← k2]; exact gj_S h k1
  have e : ∀ k, k < k0 → dt 10 (m k) z = m k (pc k) * z (pc k) + m k f * z f := fun k hk => dt_two (h.2.1 k hk).1 hf (hn k hk) (fun i hi h1 h2 => by
    by_cases t : z i = 0
    · rw [t, Int.mul_zero]
    · rcases hz i hi t with e | ⟨l, l1, l2⟩
      · exact absurd e h2
      · have : m k i = 0 := by rw [← l2]; exact (h.2.1 l l1).2.2 k (by omega) (fun e => h1 (by rw [← l2, ← e]))
        rw [this, Int.zero_mul])
  rw [gj_ker h sup']
  constructor
  · intro a k hk; rw [← e k hk]; exact a k (by omega)
  · intro a r hr
    rcases Nat.lt_or_ge r k0 with y | y
    · rw [e r y]; exact a r y
    · rw [dt_cong (u := m r) (u' := fun _ => 0) (v := z) (v' := z) (fun i hi => ⟨gj_low h y hr hi, rfl⟩)]
      exact dt_z (fun _ _ => rfl)
end
