/-! rows one behind another: each is 0 where those before it have their own column -/
theorem ew_cong {u v : Nat → Int} : ∀ {n : Nat} (a : Ex n), (∀ i, i < n → u i = v i) → ew n u a = ew n v a
  | 0, _, _ => rfl
  | n + 1, a, h => by
    show (ew n u a.1, ea n (es n (u n) a.1) (es n (-1) (ew n u a.2))) = (ew n v a.1, ea n (es n (v n) a.1) (es n (-1) (ew n v a.2)))
    rw [ew_cong a.1 (fun i hi => h i (by omega)), ew_cong a.2 (fun i hi => h i (by omega)), h n (by omega)]
def Ps (n : Nat) (x : Nat → Nat → Int) : Nat → Ex n
  | 0 => eo n
  | k + 1 => ew n (x k) (Ps n x k)
theorem Ps_cong {n : Nat} {x y : Nat → Nat → Int} : ∀ {k : Nat}, (∀ j, j < k → ∀ i, i < n → x j i = y j i) → Ps n x k = Ps n y k
  | 0, _ => rfl
  | k + 1, h => by rw [Ps, Ps, Ps_cong (fun j hj => h j (by omega)), ew_cong _ (h k (by omega))]
def Jc (n : Nat) (c : Nat → Nat) (q : Nat → Bool) : Nat → Ex n → Ex n
  | 0, a => a
  | j + 1, a => if q j = true then ei n (dl (c j)) (Jc n c q j a) else Jc n c q j a
theorem Jc_t {n : Nat} {c : Nat → Nat} {q : Nat → Bool} {j : Nat} (h : q j = true) (a : Ex n) : Jc n c q (j + 1) a = ei n (dl (c j)) (Jc n c q j a) := if_pos h
theorem Jc_f {n : Nat} {c : Nat → Nat} {q : Nat → Bool} {j : Nat} (h : q j = false) (a : Ex n) : Jc n c q (j + 1) a = Jc n c q j a := if_neg (by rw [h]; decide)
theorem Jc_es {n : Nat} {c : Nat → Nat} {q : Nat → Bool} : ∀ (j : Nat) (d : Int) (a : Ex n), Jc n c q j (es n d a) = es n d (Jc n c q j a)
  | 0, _, _ => rfl
  | j + 1, d, a => by
    cases h : q j
    · rw [Jc_f h, Jc_f h, Jc_es j]
    · rw [Jc_t h, Jc_t h, Jc_es j, ei_es]
def sg (q : Nat → Bool) : Nat → Int
  | 0 => 1
  | j + 1 => if q j = true then - sg q j else sg q j
theorem sg_ne {q : Nat → Bool} : ∀ j, sg q j ≠ 0
  | 0 => by show (1 : Int) ≠ 0; decide
  | j + 1 => by
    have := sg_ne (q := q) j
    rw [sg]; split <;> omega
theorem ea_0 {n : Nat} {c : Int} (hc : c = 0) (a b : Ex n) : ea n (es n c a) b = b := ev_ext n _ _ fun p => by rw [ev_ea, ev_es, hc, Int.zero_mul, Int.zero_add]
theorem ea_00 {n : Nat} (a : Ex n) : ea n a (e0 n) = a := ev_ext n _ _ fun p => by rw [ev_ea, ev_e0, Int.add_zero]
theorem Jc_ew {n : Nat} {c : Nat → Nat} {q : Nat → Bool} {y : Nat → Int} : ∀ {j : Nat} (a : Ex n), (∀ i, i < j → q i = true → y (c i) = 0) → Jc n c q j (ew n y a) = es n (sg q j) (ew n y (Jc n c q j a))
  | 0, a, _ => (es_1 n _).symm
  | j + 1, a, h => by
    have ih := Jc_ew (n := n) (c := c) (q := q) (y := y) (j := j) a (fun i hi => h i (by omega))
    cases hq : q j
    · rw [Jc_f hq, Jc_f hq, ih, sg, if_neg (by rw [hq]; decide)]
    · have z : dt n (dl (c j)) y = 0 := by
        rw [dt_dl]
        split
        · exact h j (by omega) hq
        · rfl
      rw [Jc_t hq, Jc_t hq, ih, ei_es, ei_ew, ea_0 z, es_es, sg, if_pos hq, Int.mul_neg, Int.mul_one]
theorem J_all {n : Nat} {c : Nat → Nat} {q : Nat → Bool} {x : Nat → Nat → Int} : ∀ {k : Nat}, (∀ i, i < k → q i = true) → (∀ i, i < k → c i < n) → (∀ i l, l < i → i < k → x i (c l) = 0) → (∀ i, i < k → x i (c i) ≠ 0) → ∃ p, p ≠ 0 ∧ Jc n c q k (Ps n x k) = es n p (eo n)
  | 0, _, _, _, _ => ⟨1, by decide, (es_1 n _).symm⟩
  | k + 1, hq, hc, ht, hp => by
    obtain ⟨p, p0, e⟩ := J_all (n := n) (c := c) (q := q) (x := x) (k := k) (fun i hi => hq i (by omega)) (fun i hi => hc i (by omega)) (fun i l hl hi => ht i l hl (by omega)) (fun i hi => hp i (by omega))
    refine ⟨sg q k * (p * x k (c k)), Int.mul_ne_zero (sg_ne k) (Int.mul_ne_zero p0 (hp k (by omega))), ?_⟩
    rw [Jc_t (hq k (by omega)), Ps, Jc_ew _ (fun i hi _ => ht k i hi (by omega)), e, ei_es, ew_es, ei_es, ei_ew, ei_eo, ew_e0, es_e0, ea_00, dt_dl, if_pos (hc k (by omega)), es_es, es_es, Int.mul_assoc]
theorem J_but {n : Nat} {c : Nat → Nat} {q : Nat → Bool} {x : Nat → Nat → Int} {k : Nat} (hk : q k = false) : ∀ {m : Nat}, k < m → (∀ i, i < m → i ≠ k → q i = true) → (∀ i, i < m → c i < n) → (∀ i l, l ≠ i → i < m → l < m → x i (c l) = 0) → (∀ i, i < m → x i (c i) ≠ 0) → ∃ p, p ≠ 0 ∧ Jc n c q m (Ps n x m) = es n p (ew n (x k) (eo n))
  | 0, h, _, _, _, _ => absurd h (Nat.not_lt_zero _)
  | m + 1, hm, hq, hc, ht, hp => by
    by_cases y : m = k
    · subst y
      obtain ⟨p, p0, e⟩ := J_all (n := n) (c := c) (q := q) (x := x) (k := m) (fun i hi => hq i (by omega) (by omega)) (fun i hi => hc i (by omega)) (fun i l hl hi => ht i l (by omega) (by omega) (by omega)) (fun i hi => hp i (by omega))
      refine ⟨sg q m * p, Int.mul_ne_zero (sg_ne m) p0, ?_⟩
      rw [Jc_f hk, Ps, Jc_ew _ (fun i hi _ => ht m i (by omega) (by omega) (by omega)), e, ew_es, es_es]
    · obtain ⟨p, p0, e⟩ := J_but (n := n) (c := c) (q := q) (x := x) hk (m := m) (by omega) (fun i hi => hq i (by omega)) (fun i hi => hc i (by omega)) (fun i l hl hi hl' => ht i l hl (by omega) (by omega)) (fun i hi => hp i (by omega))
      refine ⟨sg q m * (p * x m (c m)), Int.mul_ne_zero (sg_ne m) (Int.mul_ne_zero p0 (hp m (by omega))), ?_⟩
      have z : dt n (dl (c m)) (x k) = 0 := by rw [dt_dl, if_pos (hc m (by omega))]; exact ht k m y (by omega) (by omega)
      rw [Jc_t (hq m (by omega) y), Ps, Jc_ew _ (fun i hi _ => ht m i (by omega) (by omega) (by omega)), e, ei_es, ew_es, ei_es, ei_ew, ei_ew, ea_0 z, ei_eo, ew_e0, es_e0, ew_e0, es_e0, ea_00, dt_dl, if_pos (hc m (by omega)), es_es, es_es, Int.mul_assoc]
def wp (W : Nat → Int) (c : Nat → Nat) (q : Nat → Bool) : Nat → Int
  | 0 => 1
  | j + 1 => if q j = true then wp W c q j * W (c j) else wp W c q j
theorem wp_0 {W : Nat → Int} (hW : ∀ i, 0 < W i) (c : Nat → Nat) (q : Nat → Bool) : ∀ j, 0 < wp W c q j
  | 0 => by show (0 : Int) < 1; decide
  | j + 1 => by
    have := wp_0 hW c q j
    rw [wp]
    split
    · exact Int.mul_pos this (hW _)
    · exact this
theorem Jc_le {W : Nat → Int} (hW : ∀ i, 0 < W i) {n : Nat} {c : Nat → Nat} {q : Nat → Bool} : ∀ {j : Nat} (a : Ex n), (∀ i, i < j → c i < n) → wp W c q j * ed W n (Jc n c q j a) (Jc n c q j a) ≤ ed W n a a
  | 0, a, _ => by rw [wp, Int.one_mul]; exact Int.le_refl _
  | j + 1, a, h => by
    have ih := Jc_le hW (q := q) (j := j) a (fun i hi => h i (by omega))
    cases hq : q j
    · rw [Jc_f hq, wp, if_neg (by rw [hq]; decide)]; exact ih
    · rw [Jc_t hq, wp, if_pos hq, Int.mul_assoc]
      exact Int.le_trans (Int.mul_le_mul_of_nonneg_left (ei_le hW n (h j (by omega)) _) (Int.le_of_lt (wp_0 hW c q j))) ih
theorem el_core {W : Nat → Int} (hW : ∀ i, 0 < W i) {n m : Nat} {c : Nat → Nat} {q : Nat → Bool} {A B p : Int} {X Y : Ex n} {v : Nat → Int} (hA : A ≠ 0) (hB : B ≠ 0) (hp : p ≠ 0) (hc : ∀ i, i < m → c i < n) (h : es n A X = es n B Y) (hJ : Jc n c q m X = es n p (ew n v (eo n))) :
    ∃ (C D : Int) (w : Nat → Int), C ≠ 0 ∧ D ≠ 0 ∧ (∀ i, i < n → C * v i = D * w i) ∧ ∀ i, i < n → wp W c q m * (W i * (w i * w i)) ≤ ed W n Y Y := by
  have hW0 : ∀ i, 0 ≤ W i := fun i => Int.le_of_lt (hW i)
  refine ⟨A * p, B, fun i => sc n (ei n (dl i) (Jc n c q m Y)), Int.mul_ne_zero hA hp, hB, fun i hi => ?_, fun i hi => ?_⟩
  · have := congrArg (fun z => sc n (ei n (dl i) (Jc n c q m z))) h
    rw [Jc_es, Jc_es, hJ, ei_es, ei_es, ei_es, ei_ew, ei_eo, ew_e0, es_e0, ea_00, dt_dl, if_pos hi, sc_es, sc_es, sc_es, sc_es, sc_eo, Int.mul_one] at this
    rw [← this, Int.mul_assoc]
  · have h1 := sc_ed hW0 n (ei n (dl i) (Jc n c q m Y))
    have h2 := ei_le hW n hi (Jc n c q m Y)
    have h3 := Jc_le hW (q := q) Y hc
    have h4 : W i * (sc n (ei n (dl i) (Jc n c q m Y)) * sc n (ei n (dl i) (Jc n c q m Y))) ≤ ed W n (Jc n c q m Y) (Jc n c q m Y) := Int.le_trans (Int.mul_le_mul_of_nonneg_left h1 (hW0 i)) h2
    exact Int.le_trans (Int.mul_le_mul_of_nonneg_left h4 (Int.le_of_lt (wp_0 hW c q m))) h3
def pw (N : Int) : Nat → Int
  | 0 => 1
  | k + 1 => N * pw N k
theorem pw_0 {N : Int} (h : 0 ≤ N) : ∀ k, 0 ≤ pw N k
  | 0 => by show (0 : Int) ≤ 1; decide
  | k + 1 => Int.mul_nonneg h (pw_0 h k)
/-- what the rows make together is what those at first made, but for factors -/
def TT (W : Nat → Int) (n : Nat) (N : Int) (x : Nat → Nat → Int) (k : Nat) : Prop := ∃ (A B : Int) (Th : Ex n), A ≠ 0 ∧ B ≠ 0 ∧ es n A (Ps n x k) = es n B Th ∧ ed W n Th Th ≤ pw N k
/-- row v came of row u by those before it -/
def RW (n : Nat) (x : Nat → Nat → Int) (k : Nat) (v u : Nat → Int) : Prop := ∃ d a : Int, d ≠ 0 ∧ a ≠ 0 ∧ es n d (ew n v (Ps n x k)) = es n a (ew n u (Ps n x k))
theorem TT_0 (W : Nat → Int) (n : Nat) (N : Int) (x : Nat → Nat → Int) : TT W n N x 0 := ⟨1, 1, eo n, by decide, by decide, rfl, by rw [ed_eo]; exact Int.le_refl _⟩
theorem RR_0 (n : Nat) (x : Nat → Nat → Int) (k : Nat) (u : Nat → Int) : RW n x k u u := ⟨1, 1, by decide, by decide, rfl⟩
theorem RR_c {n k : Nat} {x y : Nat → Nat → Int} {v v' u u' : Nat → Int} (h : RW n x k v u) (hx : ∀ j, j < k → ∀ i, i < n → x j i = y j i) (hv : ∀ i, i < n → v i = v' i) (hu : ∀ i, i < n → u i = u' i) : RW n y k v' u' := by
  obtain ⟨d, a, h1, h2, h3⟩ := h
  refine ⟨d, a, h1, h2, ?_⟩
  rw [← Ps_cong hx, ← ew_cong _ hv, ← ew_cong _ hu]
  exact h3
theorem TT_c {W : Nat → Int} {n k : Nat} {N : Int} {x y : Nat → Nat → Int} (h : TT W n N x k) (hx : ∀ j, j < k → ∀ i, i < n → x j i = y j i) : TT W n N y k := by
  obtain ⟨A, B, Th, h1, h2, h3, h4⟩ := h
  refine ⟨A, B, Th, h1, h2, ?_, h4⟩
  rw [← Ps_cong hx]
  exact h3
theorem ew_lin {n : Nat} {g α β : Int} {v' v y : Nat → Int} (h : ∀ i, i < n → g * v' i = α * v i - β * y i) (a : Ex n) : es n g (ew n v' a) = ea n (es n α (ew n v a)) (es n (-β) (ew n y a)) := by
  rw [← ew_vs, ← ew_vs, ← ew_vs, ← ew_va]
  refine ew_cong a (fun i hi => ?_)
  have := h i hi
  rw [this, Int.neg_mul]; omega
theorem RR_s {n k : Nat} {x : Nat → Nat → Int} {v v' u : Nat → Int} {g α β : Int} (h : RW n x k v u) (hg : g ≠ 0) (hα : α ≠ 0) (e : ∀ i, i < n → g * v' i = α * v i - β * x k i) : RW n x (k + 1) v' u := by
  obtain ⟨d, a, h1, h2, h3⟩ := h
  refine ⟨d * g, α * a, Int.mul_ne_zero h1 hg, Int.mul_ne_zero hα h2, ?_⟩
  have e5 : es n d (ew n v (ew n (x k) (Ps n x k))) = es n a (ew n u (ew n (x k) (Ps n x k))) := by
    have e6 : es n (-1) (ew n (x k) (es n d (ew n v (Ps n x k)))) = es n (-1) (ew n (x k) (es n a (ew n u (Ps n x k)))) := by rw [h3]
    rw [ew_es, ew_es, es_es, es_es, Int.mul_comm (-1) d, Int.mul_comm (-1) a, ← es_es, ← es_es, ← ew_ac, ← ew_ac] at e6
    exact e6
  rw [Ps, ← es_es, ew_lin e, ew_sq, es_e0, ea_00, es_es, Int.mul_comm d α, ← es_es, e5, es_es]
theorem RR_n {n k : Nat} {x : Nat → Nat → Int} {v u : Nat → Int} (h : RW n x k v u) : RW n x (k + 1) v u := RR_s (g := 1) (α := 1) (β := 0) h (by decide) (by decide) (fun i _ => by omega)
theorem TT_s {W : Nat → Int} (hW : ∀ i, 0 ≤ W i) {n k : Nat} {N : Int} {x : Nat → Nat → Int} {u : Nat → Int} (hN : 0 ≤ N) (h : TT W n N x k) (hr : RW n x k (x k) u) (hu : dt n (fun i => W i * u i) u ≤ N) : TT W n N x (k + 1) := by
  obtain ⟨A, B, Th, h1, h2, h3, h4⟩ := h
  obtain ⟨d, a, g1, g2, g3⟩ := hr
  refine ⟨A * d, a * B, ew n u Th, Int.mul_ne_zero h1 g1, Int.mul_ne_zero g2 h2, ?_, ?_⟩
  · rw [Ps, ← es_es, g3, es_es, Int.mul_comm A a, ← es_es, ← ew_es, h3, ew_es, es_es]
  · have := ew_le hW n u Th
    rw [pw]
    refine Int.le_trans this (Int.le_trans (Int.mul_le_mul_of_nonneg_right hu (ed_pos hW n Th)) (Int.mul_le_mul_of_nonneg_left h4 hN))
/-- a row that is 0 at the columns of those before it -/
theorem RR_w {W : Nat → Int} (hW : ∀ i, 0 < W i) {n k : Nat} {N : Int} {x : Nat → Nat → Int} {c : Nat → Nat} {u v : Nat → Int} (hT : TT W n N x k) (hr : RW n x k v u) (hN : 0 ≤ N) (hu : dt n (fun i => W i * u i) u ≤ N) (hc : ∀ i, i < k → c i < n) (ht : ∀ i l, l < i → i < k → x i (c l) = 0) (hp : ∀ i, i < k → x i (c i) ≠ 0) (hv : ∀ l, l < k → v (c l) = 0) :
    ∃ (C D : Int) (w : Nat → Int), C ≠ 0 ∧ D ≠ 0 ∧ (∀ i, i < n → C * v i = D * w i) ∧ ∀ i, i < n → wp W c (fun _ => true) k * (W i * (w i * w i)) ≤ pw N (k + 1) := by
  have hW0 : ∀ i, 0 ≤ W i := fun i => Int.le_of_lt (hW i)
  obtain ⟨A, B, Th, h1, h2, h3, h4⟩ := hT
  obtain ⟨d, a, g1, g2, g3⟩ := hr
  obtain ⟨p, p0, e⟩ := J_all (n := n) (c := c) (q := fun _ => true) (x := x) (k := k) (fun _ _ => rfl) hc ht hp
  have hX : es n (A * d) (ew n v (Ps n x k)) = es n (a * B) (ew n u Th) := by
    rw [← es_es, g3, es_es, Int.mul_comm A a, ← es_es, ← ew_es, h3, ew_es, es_es]
  have hJ : Jc n c (fun _ => true) k (ew n v (Ps n x k)) = es n (sg (fun _ => true) k * p) (ew n v (eo n)) := by
    rw [Jc_ew _ (fun i hi _ => hv i hi), e, ew_es, es_es]
  obtain ⟨C, D, w, c1, c2, c3, c4⟩ := el_core hW (Int.mul_ne_zero h1 g1) (Int.mul_ne_zero g2 h2) (Int.mul_ne_zero (sg_ne k) p0) hc hX hJ
  refine ⟨C, D, w, c1, c2, c3, fun i hi => Int.le_trans (c4 i hi) ?_⟩
  have := ew_le hW0 n u Th
  rw [pw]
  exact Int.le_trans this (Int.le_trans (Int.mul_le_mul_of_nonneg_right hu (ed_pos hW0 n Th)) (Int.mul_le_mul_of_nonneg_left h4 hN))
/-- a row among rows that are 0 at each other's columns -/
theorem TT_w {W : Nat → Int} (hW : ∀ i, 0 < W i) {n k m : Nat} {N : Int} {x : Nat → Nat → Int} {c : Nat → Nat} (hT : TT W n N x m) (hk : k < m) (hc : ∀ i, i < m → c i < n) (ht : ∀ i l, l ≠ i → i < m → l < m → x i (c l) = 0) (hp : ∀ i, i < m → x i (c i) ≠ 0) :
    ∃ (C D : Int) (w : Nat → Int), C ≠ 0 ∧ D ≠ 0 ∧ (∀ i, i < n → C * x k i = D * w i) ∧ ∀ i, i < n → wp W c (fun i => decide (i ≠ k)) m * (W i * (w i * w i)) ≤ pw N m := by
  obtain ⟨A, B, Th, h1, h2, h3, h4⟩ := hT
  obtain ⟨p, p0, e⟩ := J_but (n := n) (c := c) (q := fun i => decide (i ≠ k)) (x := x) (k := k) (decide_eq_false (fun z => z rfl)) hk (fun i _ hi => decide_eq_true hi) hc ht hp
  obtain ⟨C, D, w, c1, c2, c3, c4⟩ := el_core hW h1 h2 p0 hc h3 e
  exact ⟨C, D, w, c1, c2, c3, fun i hi => Int.le_trans (c4 i hi) h4⟩
/-- rows changed by the last one -/
theorem GJ {n : Nat} {x x' : Nat → Nat → Int} {y : Nat → Int} : ∀ {k : Nat}, (∀ j, j < k → ∃ g α β : Int, g ≠ 0 ∧ α ≠ 0 ∧ ∀ i, i < n → g * x' j i = α * x j i - β * y i) → ∃ G H : Int, G ≠ 0 ∧ H ≠ 0 ∧ es n G (ew n y (Ps n x' k)) = es n H (ew n y (Ps n x k))
  | 0, _ => ⟨1, 1, by decide, by decide, rfl⟩
  | k + 1, h => by
    obtain ⟨G, H, g1, g2, g3⟩ := GJ (n := n) (x := x) (x' := x') (y := y) (k := k) (fun j hj => h j (by omega))
    obtain ⟨g, α, β, a1, a2, a3⟩ := h k (by omega)
    refine ⟨G * g, H * α, Int.mul_ne_zero g1 a1, Int.mul_ne_zero g2 a2, ?_⟩
    have e1 : es n (G * g) (ew n y (ew n (x' k) (Ps n x' k))) = es n (-1) (es n g (ew n (x' k) (es n G (ew n y (Ps n x' k))))) := by
      rw [ew_ac n y, ew_es, es_es, es_es, es_es]
      congr 1; grind
    have e2 : es n (H * α) (ew n y (ew n (x k) (Ps n x k))) = es n (-1) (es n α (ew n (x k) (es n H (ew n y (Ps n x k))))) := by
      rw [ew_ac n y, ew_es, es_es, es_es, es_es]
      congr 1; grind
    rw [Ps, Ps, e1, e2, g3, ew_lin a3, ew_es, ew_es, ew_sq, es_e0, es_e0, ea_00]
theorem TT_g {W : Nat → Int} {n k : Nat} {N : Int} {x x' : Nat → Nat → Int} (h : TT W n N x (k + 1)) (hk : ∀ i, i < n → x' k i = x k i) (hj : ∀ j, j < k → ∃ g α β : Int, g ≠ 0 ∧ α ≠ 0 ∧ ∀ i, i < n → g * x' j i = α * x j i - β * x k i) : TT W n N x' (k + 1) := by
  obtain ⟨G, H, g1, g2, g3⟩ := GJ hj
  obtain ⟨A, B, Th, h1, h2, h3, h4⟩ := h
  refine ⟨A * G, H * B, Th, Int.mul_ne_zero h1 g1, Int.mul_ne_zero g2 h2, ?_, h4⟩
  rw [Ps, ew_cong _ hk, ← es_es, g3, es_es, Int.mul_comm A H, ← es_es]
  rw [Ps] at h3
  rw [h3, es_es]
theorem RR_g {n k : Nat} {x x' : Nat → Nat → Int} {v u : Nat → Int} (h : RW n x (k + 1) v u) (hk : ∀ i, i < n → x' k i = x k i) (hj : ∀ j, j < k → ∃ g α β : Int, g ≠ 0 ∧ α ≠ 0 ∧ ∀ i, i < n → g * x' j i = α * x j i - β * x k i) : RW n x' (k + 1) v u := by
  obtain ⟨G, H, g1, g2, g3⟩ := GJ hj
  obtain ⟨d, a, h1, h2, h3⟩ := h
  rw [Ps] at h3
  have e : ∀ (c : Int) (z : Nat → Int), es n G (es n c (ew n z (Ps n x' (k + 1)))) = es n H (es n c (ew n z (ew n (x k) (Ps n x k)))) := fun c z => by
    rw [Ps, ew_cong _ hk, es_es, Int.mul_comm G c, ← es_es, ← ew_es, g3, ew_es, es_es, es_es, Int.mul_comm c H]
  exact ⟨d, a, h1, h2, es_cancel g1 (by rw [e, e, h3])⟩
/-! no divisor in common -/
def prm (n : Nat) (v : Nat → Int) : Prop := ∀ g : Int, (∀ i, i < n → g ∣ v i) → g ∣ 1
theorem sq_pos (x : Int) : 0 ≤ x * x := by
  rcases Int.le_total 0 x with q | q
  · exact Int.mul_nonneg q q
  · exact Int.mul_nonneg_of_nonpos_of_nonpos q q
theorem prm_le {n : Nat} {v w : Nat → Int} {C D : Int} (hC : C ≠ 0) (hD : D ≠ 0) (h : ∀ i, i < n → C * v i = D * w i) (hp : prm n v) : ∀ i, i < n → v i * v i ≤ w i * w i := by
  have g0 : ((Int.gcd C D : Nat) : Int) ≠ 0 := fun e => by
    have := Int.gcd_dvd_left C D
    rw [e] at this
    exact hC (Int.zero_dvd.mp this)
  have eC := Int.mul_ediv_cancel' (Int.gcd_dvd_left C D)
  have eD := Int.mul_ediv_cancel' (Int.gcd_dvd_right C D)
  have cop : Int.gcd (D / (Int.gcd C D : Nat)) (C / (Int.gcd C D : Nat)) = 1 := by
    rw [Int.gcd_comm]
    exact Int.gcd_ediv_gcd_ediv_gcd_of_ne_zero_left hC
  generalize C / ((Int.gcd C D : Nat) : Int) = C' at eC cop
  generalize D / ((Int.gcd C D : Nat) : Int) = D' at eD cop
  have h' : ∀ i, i < n → C' * v i = D' * w i := fun i hi => by
    have := h i hi
    rw [← eC, ← eD] at this
    generalize ((Int.gcd C D : Nat) : Int) = gg at *
    have e2 : gg * (C' * v i) = gg * (D' * w i) := by
      have e3 := h i hi
      rw [← eC, ← eD] at e3
      rw [← Int.mul_assoc, ← Int.mul_assoc]
      exact e3
    exact Int.eq_of_mul_eq_mul_left g0 e2
  have d1 : D' ∣ 1 := hp D' (fun i hi => by
    have e : D' ∣ C' * v i := ⟨w i, h' i hi⟩
    have := Int.dvd_gcd_mul_iff_dvd_mul.mpr e
    rw [cop] at this
    have e1 : ((1 : Nat) : Int) * v i = v i := by omega
    rw [e1] at this
    exact this)
  intro i hi
  have e := h' i hi
  obtain ⟨t, ht⟩ := d1
  have dd : D' = 1 ∨ D' = -1 := by
    have h7 : D'.natAbs ∣ 1 := ⟨t.natAbs, by rw [← Int.natAbs_mul, ← ht]; rfl⟩
    have := Nat.dvd_one.mp h7
    omega
  have c0 : C' ≠ 0 := fun z => by rw [z, Int.mul_zero] at eC; exact hC eC.symm
  have c1 : 1 ≤ C' * C' := by
    have := sq_pos C'
    have : C' * C' ≠ 0 := Int.mul_ne_zero c0 c0
    omega
  have ww : w i * w i = (C' * C') * (v i * v i) := by
    rcases dd with y | y
    · rw [y, Int.one_mul] at e; rw [← e]; grind
    · rw [y] at e
      have : w i = -(C' * v i) := by omega
      rw [this]; grind
  rw [ww]
  have := Int.mul_le_mul_of_nonneg_right c1 (sq_pos (v i))
  rw [Int.one_mul] at this
  exact this
