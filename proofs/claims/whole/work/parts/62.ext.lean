/-! what vectors make together: a tree of numbers, one for each set of columns -/
def Ex : Nat → Type
  | 0 => Int
  | n + 1 => Ex n × Ex n
def e0 : (n : Nat) → Ex n
  | 0 => (0 : Int)
  | n + 1 => (e0 n, e0 n)
def eo : (n : Nat) → Ex n
  | 0 => (1 : Int)
  | n + 1 => (eo n, e0 n)
def ea : (n : Nat) → Ex n → Ex n → Ex n
  | 0, a, b => Int.add a b
  | n + 1, a, b => (ea n a.1 b.1, ea n a.2 b.2)
def es : (n : Nat) → Int → Ex n → Ex n
  | 0, c, a => Int.mul c a
  | n + 1, c, a => (es n c a.1, es n c a.2)
/-- the product, with a weight for each column -/
def ed (W : Nat → Int) : (n : Nat) → Ex n → Ex n → Int
  | 0, a, b => Int.mul a b
  | n + 1, a, b => ed W n a.1 b.1 + W n * ed W n a.2 b.2
def ew : (n : Nat) → (Nat → Int) → Ex n → Ex n
  | 0, _, _ => (0 : Int)
  | n + 1, v, a => (ew n v a.1, ea n (es n (v n) a.1) (es n (-1) (ew n v a.2)))
def ei : (n : Nat) → (Nat → Int) → Ex n → Ex n
  | 0, _, _ => (0 : Int)
  | n + 1, v, a => (ea n (ei n v a.1) (es n (v n) a.2), es n (-1) (ei n v a.2))
def sc : (n : Nat) → Ex n → Int
  | 0, a => a
  | n + 1, a => sc n a.1
def ev : (n : Nat) → Ex n → List Bool → Int
  | 0, a, _ => a
  | _ + 1, _, [] => 0
  | n + 1, a, false :: p => ev n a.1 p
  | n + 1, a, true :: p => ev n a.2 p
theorem ev_ext : ∀ (n : Nat) (a b : Ex n), (∀ p, ev n a p = ev n b p) → a = b
  | 0, _, _, h => h []
  | n + 1, a, b, h => Prod.ext (ev_ext n a.1 b.1 (fun p => h (false :: p))) (ev_ext n a.2 b.2 (fun p => h (true :: p)))
theorem ev_ea : ∀ (n : Nat) (a b : Ex n) (p : List Bool), ev n (ea n a b) p = ev n a p + ev n b p
  | 0, _, _, _ => rfl
  | _ + 1, _, _, [] => rfl
  | n + 1, a, b, false :: p => ev_ea n a.1 b.1 p
  | n + 1, a, b, true :: p => ev_ea n a.2 b.2 p
theorem ev_es : ∀ (n : Nat) (c : Int) (a : Ex n) (p : List Bool), ev n (es n c a) p = c * ev n a p
  | 0, _, _, _ => rfl
  | _ + 1, c, _, [] => (Int.mul_zero c).symm
  | n + 1, c, a, false :: p => ev_es n c a.1 p
  | n + 1, c, a, true :: p => ev_es n c a.2 p
theorem ev_e0 : ∀ (n : Nat) (p : List Bool), ev n (e0 n) p = 0
  | 0, _ => rfl
  | _ + 1, [] => rfl
  | n + 1, false :: p => ev_e0 n p
  | n + 1, true :: p => ev_e0 n p
theorem es_es (n : Nat) (c d : Int) (a : Ex n) : es n c (es n d a) = es n (c * d) a := ev_ext n _ _ fun p => by rw [ev_es, ev_es, ev_es, Int.mul_assoc]
theorem es_1 (n : Nat) (a : Ex n) : es n 1 a = a := ev_ext n _ _ fun p => by rw [ev_es, Int.one_mul]
theorem es_e0 (n : Nat) (c : Int) : es n c (e0 n) = e0 n := ev_ext n _ _ fun p => by rw [ev_es, ev_e0, Int.mul_zero]
theorem es_cancel {n : Nat} {c : Int} {a b : Ex n} (hc : c ≠ 0) (h : es n c a = es n c b) : a = b := ev_ext n _ _ fun p => by
  have := congrArg (fun x => ev n x p) h
  simp only [ev_es] at this
  exact Int.eq_of_mul_eq_mul_left hc this
theorem ew_ea : ∀ (n : Nat) (v : Nat → Int) (a b : Ex n), ew n v (ea n a b) = ea n (ew n v a) (ew n v b)
  | 0, _, _, _ => rfl
  | n + 1, v, a, b => Prod.ext (ew_ea n v a.1 b.1) (by
      show ea n (es n (v n) (ea n a.1 b.1)) (es n (-1) (ew n v (ea n a.2 b.2))) = ea n (ea n (es n (v n) a.1) (es n (-1) (ew n v a.2))) (ea n (es n (v n) b.1) (es n (-1) (ew n v b.2)))
      rw [ew_ea n v a.2 b.2]
      refine ev_ext n _ _ fun p => ?_
      simp only [ev_ea, ev_es]
      grind)
theorem ew_es : ∀ (n : Nat) (v : Nat → Int) (c : Int) (a : Ex n), ew n v (es n c a) = es n c (ew n v a)
  | 0, _, c, _ => (Int.mul_zero c).symm
  | n + 1, v, c, a => Prod.ext (ew_es n v c a.1) (by
      show ea n (es n (v n) (es n c a.1)) (es n (-1) (ew n v (es n c a.2))) = es n c (ea n (es n (v n) a.1) (es n (-1) (ew n v a.2)))
      rw [ew_es n v c a.2]
      refine ev_ext n _ _ fun p => ?_
      simp only [ev_ea, ev_es]
      grind)
theorem ew_va : ∀ (n : Nat) (u w : Nat → Int) (a : Ex n), ew n (fun i => u i + w i) a = ea n (ew n u a) (ew n w a)
  | 0, _, _, _ => rfl
  | n + 1, u, w, a => Prod.ext (ew_va n u w a.1) (by
      show ea n (es n (u n + w n) a.1) (es n (-1) (ew n (fun i => u i + w i) a.2)) = ea n (ea n (es n (u n) a.1) (es n (-1) (ew n u a.2))) (ea n (es n (w n) a.1) (es n (-1) (ew n w a.2)))
      rw [ew_va n u w a.2]
      refine ev_ext n _ _ fun p => ?_
      simp only [ev_ea, ev_es]
      grind)
theorem ew_vs : ∀ (n : Nat) (c : Int) (u : Nat → Int) (a : Ex n), ew n (fun i => c * u i) a = es n c (ew n u a)
  | 0, c, _, _ => (Int.mul_zero c).symm
  | n + 1, c, u, a => Prod.ext (ew_vs n c u a.1) (by
      show ea n (es n (c * u n) a.1) (es n (-1) (ew n (fun i => c * u i) a.2)) = es n c (ea n (es n (u n) a.1) (es n (-1) (ew n u a.2)))
      rw [ew_vs n c u a.2]
      refine ev_ext n _ _ fun p => ?_
      simp only [ev_ea, ev_es]
      grind)
theorem ew_ac : ∀ (n : Nat) (u v : Nat → Int) (a : Ex n), ew n u (ew n v a) = es n (-1) (ew n v (ew n u a))
  | 0, _, _, _ => rfl
  | n + 1, u, v, a => Prod.ext (ew_ac n u v a.1) (by
      show ea n (es n (u n) (ew n v a.1)) (es n (-1) (ew n u (ea n (es n (v n) a.1) (es n (-1) (ew n v a.2))))) = es n (-1) (ea n (es n (v n) (ew n u a.1)) (es n (-1) (ew n v (ea n (es n (u n) a.1) (es n (-1) (ew n u a.2))))))
      rw [ew_ea, ew_ea, ew_es, ew_es, ew_es, ew_es, ew_ac n u v a.2]
      refine ev_ext n _ _ fun p => ?_
      simp only [ev_ea, ev_es]
      grind)
theorem ew_sq (n : Nat) (v : Nat → Int) (a : Ex n) : ew n v (ew n v a) = e0 n := ev_ext n _ _ fun p => by
  have := congrArg (fun x => ev n x p) (ew_ac n v v a)
  simp only [ev_es] at this
  rw [ev_e0]
  omega
theorem ew_e0 : ∀ (n : Nat) (v : Nat → Int), ew n v (e0 n) = e0 n := fun n v => by
  have := ew_es n v 0 (e0 n)
  rw [es_e0] at this
  rw [this]
  exact ev_ext n _ _ fun p => by rw [ev_es, ev_e0, Int.zero_mul]
theorem ei_ea : ∀ (n : Nat) (v : Nat → Int) (a b : Ex n), ei n v (ea n a b) = ea n (ei n v a) (ei n v b)
  | 0, _, _, _ => rfl
  | n + 1, v, a, b => Prod.ext (by
      show ea n (ei n v (ea n a.1 b.1)) (es n (v n) (ea n a.2 b.2)) = ea n (ea n (ei n v a.1) (es n (v n) a.2)) (ea n (ei n v b.1) (es n (v n) b.2))
      rw [ei_ea n v a.1 b.1]
      refine ev_ext n _ _ fun p => ?_
      simp only [ev_ea, ev_es]
      grind) (by
      show es n (-1) (ei n v (ea n a.2 b.2)) = ea n (es n (-1) (ei n v a.2)) (es n (-1) (ei n v b.2))
      rw [ei_ea n v a.2 b.2]
      refine ev_ext n _ _ fun p => ?_
      simp only [ev_ea, ev_es]
      grind)
theorem ei_es : ∀ (n : Nat) (v : Nat → Int) (c : Int) (a : Ex n), ei n v (es n c a) = es n c (ei n v a)
  | 0, _, c, _ => (Int.mul_zero c).symm
  | n + 1, v, c, a => Prod.ext (by
      show ea n (ei n v (es n c a.1)) (es n (v n) (es n c a.2)) = es n c (ea n (ei n v a.1) (es n (v n) a.2))
      rw [ei_es n v c a.1]
      refine ev_ext n _ _ fun p => ?_
      simp only [ev_ea, ev_es]
      grind) (by
      show es n (-1) (ei n v (es n c a.2)) = es n c (es n (-1) (ei n v a.2))
      rw [ei_es n v c a.2]
      refine ev_ext n _ _ fun p => ?_
      simp only [ev_ea, ev_es]
      grind)
theorem ei_vs : ∀ (n : Nat) (c : Int) (u : Nat → Int) (a : Ex n), ei n (fun i => c * u i) a = es n c (ei n u a)
  | 0, c, _, _ => (Int.mul_zero c).symm
  | n + 1, c, u, a => Prod.ext (by
      show ea n (ei n (fun i => c * u i) a.1) (es n (c * u n) a.2) = es n c (ea n (ei n u a.1) (es n (u n) a.2))
      rw [ei_vs n c u a.1]
      refine ev_ext n _ _ fun p => ?_
      simp only [ev_ea, ev_es]
      grind) (by
      show es n (-1) (ei n (fun i => c * u i) a.2) = es n c (es n (-1) (ei n u a.2))
      rw [ei_vs n c u a.2]
      refine ev_ext n _ _ fun p => ?_
      simp only [ev_es]
      grind)
def dt : Nat → (Nat → Int) → (Nat → Int) → Int
  | 0, _, _ => 0
  | n + 1, u, v => dt n u v + u n * v n
theorem ei_ew : ∀ (n : Nat) (u v : Nat → Int) (a : Ex n), ei n u (ew n v a) = ea n (es n (dt n u v) a) (es n (-1) (ew n v (ei n u a)))
  | 0, u, v, a => by
    have h : ∀ x : Int, (0 : Int) = Int.add (Int.mul 0 x) (Int.mul (-1) 0) := fun x => by show (0 : Int) = 0 * x + -1 * 0; omega
    exact h a
  | n + 1, u, v, a => Prod.ext (by
      show ea n (ei n u (ew n v a.1)) (es n (u n) (ea n (es n (v n) a.1) (es n (-1) (ew n v a.2)))) = ea n (es n (dt n u v + u n * v n) a.1) (es n (-1) (ew n v (ea n (ei n u a.1) (es n (u n) a.2))))
      rw [ei_ew n u v a.1, ew_ea, ew_es]
      refine ev_ext n _ _ fun p => ?_
      simp only [ev_ea, ev_es]
      grind) (by
      show es n (-1) (ei n u (ea n (es n (v n) a.1) (es n (-1) (ew n v a.2)))) = ea n (es n (dt n u v + u n * v n) a.2) (es n (-1) (ea n (es n (v n) (ea n (ei n u a.1) (es n (u n) a.2))) (es n (-1) (ew n v (es n (-1) (ei n u a.2))))))
      rw [ei_ea, ei_es, ei_es, ei_ew n u v a.2, ew_es]
      refine ev_ext n _ _ fun p => ?_
      simp only [ev_ea, ev_es]
      grind)
theorem ei_eo : ∀ (n : Nat) (u : Nat → Int), ei n u (eo n) = e0 n
  | 0, _ => rfl
  | n + 1, u => by
    have h0 : ei n u (e0 n) = e0 n := by
      have := ei_es n u 0 (e0 n)
      rw [es_e0] at this
      rw [this]
      exact ev_ext n _ _ fun p => by rw [ev_es, ev_e0, Int.zero_mul]
    refine Prod.ext ?_ ?_
    · show ea n (ei n u (eo n)) (es n (u n) (e0 n)) = e0 n
      rw [ei_eo n u, es_e0]
      exact ev_ext n _ _ fun p => by rw [ev_ea, ev_e0]; rfl
    · show es n (-1) (ei n u (e0 n)) = e0 n
      rw [h0, es_e0]
/-! the product -/
theorem ed_cm (W : Nat → Int) : ∀ (n : Nat) (a b : Ex n), ed W n a b = ed W n b a
  | 0, a, b => Int.mul_comm a b
  | n + 1, a, b => by show ed W n a.1 b.1 + W n * ed W n a.2 b.2 = ed W n b.1 a.1 + W n * ed W n b.2 a.2; rw [ed_cm W n a.1 b.1, ed_cm W n a.2 b.2]
theorem ed_ea (W : Nat → Int) : ∀ (n : Nat) (a b c : Ex n), ed W n a (ea n b c) = ed W n a b + ed W n a c
  | 0, a, b, c => Int.mul_add a b c
  | n + 1, a, b, c => by
    show ed W n a.1 (ea n b.1 c.1) + W n * ed W n a.2 (ea n b.2 c.2) = (ed W n a.1 b.1 + W n * ed W n a.2 b.2) + (ed W n a.1 c.1 + W n * ed W n a.2 c.2)
    rw [ed_ea W n a.1 b.1 c.1, ed_ea W n a.2 b.2 c.2]; grind
theorem ed_es (W : Nat → Int) : ∀ (n : Nat) (a : Ex n) (c : Int) (b : Ex n), ed W n a (es n c b) = c * ed W n a b
  | 0, a, c, b => Int.mul_left_comm a c b
  | n + 1, a, c, b => by
    show ed W n a.1 (es n c b.1) + W n * ed W n a.2 (es n c b.2) = c * (ed W n a.1 b.1 + W n * ed W n a.2 b.2)
    rw [ed_es W n a.1 c b.1, ed_es W n a.2 c b.2]; grind
theorem ed_adj (W : Nat → Int) : ∀ (n : Nat) (v : Nat → Int) (a b : Ex n), ed W n (ew n v a) b = ed W n a (ei n (fun i => W i * v i) b)
  | 0, _, a, b => by
    have h : ∀ x y : Int, Int.mul 0 y = Int.mul x 0 := fun x y => by show 0 * y = x * 0; omega
    exact h a b
  | n + 1, v, a, b => by
    show ed W n (ew n v a.1) b.1 + W n * ed W n (ea n (es n (v n) a.1) (es n (-1) (ew n v a.2))) b.2 = ed W n a.1 (ea n (ei n (fun i => W i * v i) b.1) (es n (W n * v n) b.2)) + W n * ed W n a.2 (es n (-1) (ei n (fun i => W i * v i) b.2))
    rw [ed_adj W n v a.1 b.1, ed_ea, ed_es, ed_es, ed_cm W n (ea n _ _) b.2, ed_ea, ed_es, ed_es, ed_cm W n b.2 (ew n v a.2), ed_adj W n v a.2 b.2, ed_cm W n b.2 a.1]
    grind
theorem ed_pyth (W : Nat → Int) (n : Nat) (v : Nat → Int) (a : Ex n) : ed W n (ew n v a) (ew n v a) + ed W n (ei n (fun i => W i * v i) a) (ei n (fun i => W i * v i) a) = dt n (fun i => W i * v i) v * ed W n a a := by
  rw [ed_adj, ei_ew, ed_ea, ed_es, ed_es, ed_cm W n a (ew n v _), ed_adj]
  grind
theorem ed_pos {W : Nat → Int} (hW : ∀ i, 0 ≤ W i) : ∀ (n : Nat) (a : Ex n), 0 ≤ ed W n a a
  | 0, a => by
    show (0 : Int) ≤ Int.mul a a
    have h : ∀ x : Int, 0 ≤ x * x := fun x => by
      rcases Int.le_total 0 x with q | q
      · exact Int.mul_nonneg q q
      · exact Int.mul_nonneg_of_nonpos_of_nonpos q q
    exact h a
  | n + 1, a => Int.add_nonneg (ed_pos hW n a.1) (Int.mul_nonneg (hW n) (ed_pos hW n a.2))
theorem sc_es : ∀ (n : Nat) (c : Int) (a : Ex n), sc n (es n c a) = c * sc n a
  | 0, _, _ => rfl
  | n + 1, c, a => sc_es n c a.1
theorem sc_eo : ∀ n : Nat, sc n (eo n) = 1
  | 0 => rfl
  | n + 1 => sc_eo n
theorem sc_ed {W : Nat → Int} (hW : ∀ i, 0 ≤ W i) : ∀ (n : Nat) (a : Ex n), sc n a * sc n a ≤ ed W n a a
  | 0, _ => Int.le_refl _
  | n + 1, a => by
    have h1 := sc_ed hW n a.1
    have h2 := Int.mul_nonneg (hW n) (ed_pos hW n a.2)
    show sc n a.1 * sc n a.1 ≤ ed W n a.1 a.1 + W n * ed W n a.2 a.2
    omega
theorem ed_eo (W : Nat → Int) : ∀ n : Nat, ed W n (eo n) (eo n) = 1
  | 0 => rfl
  | n + 1 => by
    show ed W n (eo n) (eo n) + W n * ed W n (e0 n) (e0 n) = 1
    have h0 : ed W n (e0 n) (e0 n) = 0 := by
      have := ed_es W n (e0 n) 0 (e0 n)
      rw [es_e0, Int.zero_mul] at this
      exact this
    rw [ed_eo W n, h0]; omega
def dl (c : Nat) : Nat → Int := fun i => if i = c then 1 else 0
theorem dt_dl {c : Nat} {v : Nat → Int} : ∀ n, dt n (dl c) v = if c < n then v c else 0
  | 0 => rfl
  | n + 1 => by
    rw [dt, dt_dl n]
    unfold dl
    by_cases q : n = c
    · rw [if_pos q, if_neg (by omega), if_pos (by omega), q]; omega
    · rw [if_neg q]
      by_cases z : c < n
      · rw [if_pos z, if_pos (by omega)]; omega
      · rw [if_neg z, if_neg (by omega)]; omega
theorem dt_cm {u v : Nat → Int} : ∀ n, dt n u v = dt n v u
  | 0 => rfl
  | n + 1 => by rw [dt, dt, dt_cm n, Int.mul_comm]
theorem dt_cong {u u' v v' : Nat → Int} : ∀ {n : Nat}, (∀ i, i < n → u i = u' i ∧ v i = v' i) → dt n u v = dt n u' v'
  | 0, _ => rfl
  | n + 1, h => by rw [dt, dt, dt_cong (fun i hi => h i (by omega)), (h n (by omega)).1, (h n (by omega)).2]
theorem ew_le {W : Nat → Int} (hW : ∀ i, 0 ≤ W i) (n : Nat) (v : Nat → Int) (a : Ex n) : ed W n (ew n v a) (ew n v a) ≤ dt n (fun i => W i * v i) v * ed W n a a := by
  have := ed_pyth W n v a
  have := ed_pos hW n (ei n (fun i => W i * v i) a)
  omega
theorem ei_le {W : Nat → Int} (hW : ∀ i, 0 < W i) (n : Nat) {c : Nat} (hc : c < n) (a : Ex n) : W c * ed W n (ei n (dl c) a) (ei n (dl c) a) ≤ ed W n a a := by
  have hW0 : ∀ i, 0 ≤ W i := fun i => Int.le_of_lt (hW i)
  have h := ed_pyth W n (dl c) a
  have p := ed_pos hW0 n (ew n (dl c) a)
  have e1 : (fun i => W i * dl c i) = fun i => W c * dl c i := funext fun i => by
    unfold dl
    by_cases q : i = c
    · rw [q]
    · rw [if_neg q, Int.mul_zero, Int.mul_zero]
  rw [e1, ei_vs, ed_es, ed_cm W n (es n _ _), ed_es] at h
  have e2 : dt n (fun i => W c * dl c i) (dl c) = W c := by
    rw [dt_cm, dt_dl, if_pos hc]
    unfold dl
    rw [if_pos rfl, Int.mul_one]
  rw [e2] at h
  have h2 : W c * (W c * ed W n (ei n (dl c) a) (ei n (dl c) a)) ≤ W c * ed W n a a := by omega
  exact Int.le_of_mul_le_mul_left h2 (hW c)
