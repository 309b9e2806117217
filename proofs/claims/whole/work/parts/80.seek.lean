/-! counts: which are best -/
def adm (n : NN) (x : Nat → Nat) : Prop := ∀ s, s < 8 → (nS n).testBit s = false → x s = 0
def Sol (n : NN) (am x : Nat → Nat) : Prop := ∀ r, r < 10 → dt 8 (SR n am r) (fun s => (x s : Int)) = SR n am r 8
def lexle (x y : Nat → Nat) : Prop := (∀ s, s < 8 → x s = y s) ∨ ∃ j, j < 8 ∧ (∀ i, i < j → x i = y i) ∧ x j < y j
def BX (n : NN) (am x : Nat → Nat) : Prop := adm n x ∧ Sol n am x ∧ sm x 8 ≤ 12 ∧ ∀ y, adm n y → Sol n am y → sm x 8 < sm y 8 ∨ (sm x 8 = sm y 8 ∧ lexle x y)
def BN (n : NN) (am : Nat → Nat) : Prop := ∀ y, adm n y → Sol n am y → 12 < sm y 8
theorem BX_u {n : NN} {am x y : Nat → Nat} (h : BX n am x) (h' : BX n am y) : ∀ s, s < 8 → x s = y s := by
  have a := h.2.2.2 y h'.1 h'.2.1
  have b := h'.2.2.2 x h.1 h.2.1
  have e : sm x 8 = sm y 8 := by omega
  have a := (a.resolve_left (by omega)).2
  have b := (b.resolve_left (by omega)).2
  rcases a with q | ⟨j, j1, j2, j3⟩
  · exact q
  · rcases b with q | ⟨k, k1, k2, k3⟩
    · exact fun s hs => (q s hs).symm
    · rcases Nat.lt_trichotomy j k with t | t | t
      · have := k2 j t; omega
      · subst t; omega
      · have := j2 k t; omega
theorem BN_X {n : NN} {am x : Nat → Nat} (h : BN n am) (h' : BX n am x) : False := by
  have := h x h'.1 h'.2.1
  have := h'.2.2.1
  omega
/-- those that do steps of use alone -/
def adU (n : NN) (y : Nat → Nat) : Prop := ∀ s, s < 8 → ¬ usN n s → y s = 0
theorem lexle_tr {x y z : Nat → Nat} (h : lexle x y) (h' : lexle y z) : lexle x z := by
  rcases h with a | ⟨j, j1, j2, j3⟩
  · rcases h' with b | ⟨k, k1, k2, k3⟩
    · exact Or.inl (fun s hs => by rw [a s hs, b s hs])
    · exact Or.inr ⟨k, k1, fun i hi => by rw [a i (by omega), k2 i hi], by rw [a k k1]; exact k3⟩
  · rcases h' with b | ⟨k, k1, k2, k3⟩
    · exact Or.inr ⟨j, j1, fun i hi => by rw [j2 i hi, b i (by omega)], by rw [← b j j1]; exact j3⟩
    · rcases Nat.lt_trichotomy j k with t | t | t
      · exact Or.inr ⟨j, j1, fun i hi => by rw [j2 i hi, k2 i (by omega)], by rw [← k2 j t]; exact j3⟩
      · subst t; exact Or.inr ⟨j, j1, fun i hi => by rw [j2 i hi, k2 i hi], by omega⟩
      · exact Or.inr ⟨k, k1, fun i hi => by rw [j2 i (by omega), k2 i hi], by rw [j2 k t]; exact k3⟩
theorem dt_set {a : Nat → Int} {y : Nat → Nat} {s v : Nat} : ∀ {n : Nat}, s < n → dt n a (fun i => ((if i = s then v else y i : Nat) : Int)) = dt n a (fun i => (y i : Int)) + a s * ((v : Int) - (y s : Int))
  | 0, h => absurd h (Nat.not_lt_zero _)
  | n + 1, h => by
    rw [dt, dt]
    by_cases q : n = s
    · rw [if_pos q, q, dt_cong (u' := a) (v' := fun i => (y i : Int)) (fun i hi => ⟨rfl, by rw [if_neg (by omega)]⟩), Int.mul_sub]
      omega
    · rw [if_neg q, dt_set (by omega)]
      omega
theorem sm_set {y : Nat → Nat} {s v : Nat} : ∀ {n : Nat}, s < n → sm (fun i => if i = s then v else y i) n + y s = sm y n + v
  | 0, h => absurd h (Nat.not_lt_zero _)
  | n + 1, h => by
    rw [sm, sm]
    by_cases q : n = s
    · have e : ∀ k, k ≤ s → sm (fun i => if i = s then v else y i) k = sm y k := by
        intro k
        induction k with
        | zero => intro _; rfl
        | succ k ih => intro hk; rw [sm, sm, ih (by omega), if_neg (by omega)]
      rw [if_pos q, q, e s (Nat.le_refl _)]
      omega
    · have := sm_set (y := y) (s := s) (v := v) (n := n) (by omega)
      rw [if_neg q]
      omega
/-- none is left out that is better: what changes nothing is not done, and for a step the last that changes the same is done -/
theorem use_of {n : NN} {am y : Nat → Nat} (hy : Sol n am y) : ∀ k, k ≤ 8 → ∃ z, (∀ s, s < k → ¬ usN n s → z s = 0) ∧ Sol n am z ∧ sm z 8 ≤ sm y 8 ∧ (sm z 8 = sm y 8 → lexle z y)
  | 0, _ => ⟨y, fun s hs => absurd hs (Nat.not_lt_zero _), hy, Nat.le_refl _, fun _ => Or.inl (fun _ _ => rfl)⟩
  | k + 1, hk => by
    obtain ⟨z, z1, z2, z3, z4⟩ := use_of hy k (by omega)
    by_cases u : usN n k ∨ z k = 0
    · refine ⟨z, fun s hs hu => ?_, z2, z3, z4⟩
      rcases Nat.lt_succ_iff_lt_or_eq.mp hs with q | q
      · exact z1 s q hu
      · subst q; exact u.resolve_left hu
    · have u1 : ¬ usN n k := fun w => u (Or.inl w)
      have u2 : z k ≠ 0 := fun w => u (Or.inr w)
      have sk := sm_set (y := z) (s := k) (v := 0) (n := 8) (by omega)
      by_cases no : noN n k
      · refine ⟨fun i => if i = k then 0 else z i, fun s hs hu => ?_, fun r hr => ?_, by omega, fun e => by omega⟩
        · dsimp only
          by_cases q : s = k
          · rw [if_pos q]
          · rw [if_neg q]; exact z1 s (by omega) hu
        · have e : SR n am r k = 0 := by
            unfold SR cgI
            rw [if_pos (by omega), no r hr, Int.sub_self]
          rw [dt_set (by omega), e, Int.zero_mul, Int.add_zero]
          exact z2 r hr
      · obtain ⟨t, t1, t2, t3⟩ : ∃ t, k < t ∧ t < 8 ∧ alkN n k t := Classical.byContradiction fun w => u1 ⟨fun t a b c => w ⟨t, a, b, c⟩, no⟩
        have ft : (if t = k then 0 else z t) = z t := if_neg (by omega)
        have st := sm_set (y := fun i => if i = k then 0 else z i) (s := t) (v := z t + z k) (n := 8) t2
        rw [ft] at st
        refine ⟨fun i => if i = t then z t + z k else if i = k then 0 else z i, fun s hs hu => ?_, fun r hr => ?_, by omega, fun e => lexle_tr (Or.inr ⟨k, by omega, fun i hi => ?_, ?_⟩) (z4 (by omega))⟩
        · dsimp only
          rw [if_neg (by omega)]
          by_cases q : s = k
          · rw [if_pos q]
          · rw [if_neg q]; exact z1 s (by omega) hu
        · have e : SR n am r t = SR n am r k := by
            unfold SR
            rw [if_pos t2, if_pos (by omega)]
            exact (t3 r hr).symm
          rw [dt_set (y := fun i => if i = k then 0 else z i) t2, dt_set (by omega), ft, e, ← z2 r hr]
          rw [show ((z t + z k : Nat) : Int) - (z t : Int) = (z k : Int) by omega, Int.mul_sub]
          omega
        · dsimp only
          rw [if_neg (by omega), if_neg (by omega)]
        · dsimp only
          rw [if_neg (by omega), if_pos rfl]
          omega
def ltP (j : Nat) (t y : Nat → Nat) : Prop := ∃ i, i < j ∧ (∀ l, l < i → y l = t l) ∧ y i < t i
def eqP (j : Nat) (t y : Nat → Nat) : Prop := ∀ l, l < j → y l = t l
theorem lex_of {j : Nat} {t x y : Nat → Nat} (hj : j ≤ 8) (h : ltP j t x) (h' : eqP j t y) : lexle x y := by
  obtain ⟨i, i1, i2, i3⟩ := h
  exact Or.inr ⟨i, by omega, fun l hl => by rw [i2 l hl, h' l (by omega)], by rw [h' i i1]; exact i3⟩
/-- what was found so far, among those of P; lm: how many steps more would be taken -/
def CB (M : Mem) (n : NN) (am : Nat → Nat) (P : (Nat → Nat) → Prop) (lm : Int) : Prop :=
  (M.1 124 10).toInt = lm ∧ -1 ≤ lm ∧ lm ≤ 12 ∧ ((M.1 124 9 = -1 ∧ lm = 12 ∧ ∀ y, P y → adU n y → Sol n am y → 12 < sm y 8) ∨
    ∃ x, M.1 124 9 = nI (sm x 8) ∧ lm = (sm x 8 : Int) - 1 ∧ (∀ s, s < 8 → M.1 129 s = nI (x s)) ∧ P x ∧ adm n x ∧ Sol n am x ∧ sm x 8 ≤ 12 ∧ ∀ y, P y → adU n y → Sol n am y → sm x 8 < sm y 8 ∨ (sm x 8 = sm y 8 ∧ lexle x y))
theorem CB_ext {M : Mem} {n : NN} {am : Nat → Nat} {P P' : (Nat → Nat) → Prop} {lm : Int} (h : CB M n am P lm) (hP : ∀ y, P y → P' y) (hx : ∀ y, P' y → adU n y → Sol n am y → P y ∨ (lm < (sm y 8 : Int) ∧ ∀ x, P x → lexle x y)) : CB M n am P' lm := by
  obtain ⟨a, b, c, d⟩ := h
  refine ⟨a, b, c, ?_⟩
  rcases d with ⟨d1, d2, d3⟩ | ⟨x, x1, x2, x3, x4, x5, x6, x7, x8⟩
  · refine Or.inl ⟨d1, d2, fun y h1 h2 h3 => ?_⟩
    rcases hx y h1 h2 h3 with q | q
    · exact d3 y q h2 h3
    · have := q.1; omega
  · refine Or.inr ⟨x, x1, x2, x3, hP x x4, x5, x6, x7, fun y h1 h2 h3 => ?_⟩
    rcases hx y h1 h2 h3 with q | q
    · exact x8 y q h2 h3
    · have := q.1
      have := q.2 x x4
      by_cases t : sm x 8 < sm y 8
      · exact Or.inl t
      · exact Or.inr ⟨by omega, this⟩
/-- the rows, as they tell -/
def SS (n : NN) (am : Nat → Nat) (Y : Nat → Nat → Int) (rw' c : Nat → Nat) (k : Nat) : Prop := SE (SR n am) Y rw' c k 0 ∧ ∀ r, r < 10 → ((gcN (Y r) 8 : Nat) : Int) ∣ Y r 8
theorem dt_ex {a z : Nat → Int} {m : Nat} : ∀ {n : Nat}, m ≤ n → (∀ t, m ≤ t → t < n → a t = 0) → dt n a z = dt m a z
  | 0, h, _ => by rw [Nat.le_zero.mp h]
  | n + 1, h, h0 => by
    by_cases q : m = n + 1
    · rw [q]
    · rw [dt, dt_ex (by omega) (fun t h1 h2 => h0 t h1 (by omega)), h0 n (by omega) (by omega)]; omega
theorem Sol_iff {n : NN} {am x : Nat → Nat} {Y : Nat → Nat → Int} {rw' c : Nat → Nat} {k : Nat} (h : SS n am Y rw' c k) : Sol n am x ↔ ∀ i, i < k → dt (c i + 1) (Y (rw' i)) (fun s => (x s : Int)) = Y (rw' i) 8 := by
  obtain ⟨⟨hT, hU, hI, hF, hS, hg, hks, _⟩, hd⟩ := h
  have e : ∀ i, i < k → dt 8 (Y (rw' i)) (fun s => (x s : Int)) = dt (c i + 1) (Y (rw' i)) (fun s => (x s : Int)) := fun i hi => dt_ex (by have := (hU i hi).1.2.1; omega) (fun t h1 h2 => (hU i hi).2.2.2.1 t (by omega) h2)
  unfold Sol
  rw [← hS (fun s => (x s : Int))]
  constructor
  · intro a i hi
    rw [← e i hi]; exact a _ (hU i hi).1.1
  · intro a r hr
    by_cases w : ∃ i, i < k ∧ rw' i = r
    · obtain ⟨i, i1, i2⟩ := w
      rw [← i2, e i i1]; exact a i i1
    · obtain ⟨f1, f2, f3, f4⟩ := hF r hr (fun i hi q => w ⟨i, hi, q⟩)
      have g0 : gcN (Y r) 8 = 0 := by
        have h1 : (0 : Int) ∣ ((gcN (Y r) 8 : Nat) : Int) := gcN_of (fun i hi => by rw [f4 i (by omega) hi]; exact Int.dvd_refl 0)
        have := Int.zero_dvd.mp h1
        omega
      have := hd r hr
      rw [g0] at this
      have y8 : Y r 8 = 0 := Int.zero_dvd.mp this
      rw [y8]
      exact dt_z (fun t ht => f4 t (by omega) ht)
/-- numbers of tried steps -/
theorem X6_missingIn_sp {r st : Nat} {Y : Nat → Nat → Int} {t : Nat → Nat} {M : Mem} {K : Int64 → Mem → Prop} (hr : r < 10) (hs : st ≤ 8) (hY : rwL M 126 9 r (Y r)) (ht : ∀ s, s < st → M.1 128 s = nI (t s) ∧ t s ≤ 12) (h : K (oL (Y r 8 - dt st (Y r) (fun s => (t s : Int)))) M) : f_X6_missingIn (nI (9 * r)) (nI st) M K := by
  unfold f_X6_missingIn
  rw [l_8, nI_add, vp_nI (by omega) (by omega), gL, nI_CL (by omega), hY 8 (by omega)]
  refine ⟨by omega, fun x3 e3 => ?_⟩
  subst e3
  have key : ∀ d s, s + d = st → L_X6_missingIn_13 (nI (9 * r)) (nI st) (fun v3_2 M_2 => K v3_2 M_2) K (d + 1) (oL (Y r 8 - dt s (Y r) (fun s => (t s : Int)))) (nI s) M := by
    intro d
    induction d with
    | zero =>
      intro s hs'
      have : s = st := by omega
      subst this
      rw [L_X6_missingIn_13, nI_LE (by omega) (by omega)]
      exact ⟨fun _ => h, by omega⟩
    | succ d ih =>
      intro s hs'
      have tt := ht s (by omega)
      have e : (nI (t s)).toInt64 = oL (t s : Int) := by rw [i2l, i_nI (by omega)]
      rw [L_X6_missingIn_13, nI_LE (by omega) (by omega), nI_add, vp_nI (by omega) (by omega), vp_nI (by omega) (by omega), gL, nI_CL (by omega), hY s (by omega), gI, nI_CL (by omega), tt.1, e, oL_mul, oL_sub, nI_A1]
      refine ⟨by omega, fun _ => ⟨by omega, by omega, fun x ex => ?_⟩⟩
      have := ih (s + 1) (by omega)
      rw [dt] at this
      rw [ex, show Y r 8 - dt s (Y r) (fun s => (t s : Int)) - Y r s * (t s : Int) = Y r 8 - (dt s (Y r) (fun s => (t s : Int)) + Y r s * (t s : Int)) by omega]
      exact this
  have k0 := key st 0 (by omega)
  rw [dt, Int.sub_zero] at k0
  exact ⟨_, k0⟩
theorem dt_bd {a : Nat → Int} {t : Nat → Nat} {B : Nat} : ∀ {n : Nat}, (∀ s, s < n → (a s).natAbs ≤ B ∧ t s ≤ 12) → (dt n a (fun s => (t s : Int))).natAbs ≤ n * (B * 12)
  | 0, _ => by rw [dt]; omega
  | n + 1, h => by
    have ih := dt_bd (a := a) (t := t) (B := B) (n := n) (fun s hs => h s (by omega))
    have h1 := mul_ab (a := a n) (b := (t n : Int)) (h n (by omega)).1 (show ((t n : Int)).natAbs ≤ 12 by have := (h n (by omega)).2; omega)
    rw [dt, Nat.add_mul, Nat.one_mul]
    omega
/-- sums of what is left, between least and most -/
theorem dt_lohi {a : Nat → Int} {y : Nat → Nat} {lo hi : Int} {st : Nat} (h0 : lo ≤ 0) (h1 : 0 ≤ hi) : ∀ {n : Nat}, st ≤ n → (∀ s, st ≤ s → s < n → lo ≤ a s ∧ a s ≤ hi) → lo * ((sm y n - sm y st : Nat) : Int) ≤ dt n a (fun s => (y s : Int)) - dt st a (fun s => (y s : Int)) ∧ dt n a (fun s => (y s : Int)) - dt st a (fun s => (y s : Int)) ≤ hi * ((sm y n - sm y st : Nat) : Int) := by
  intro n
  induction n with
  | zero => intro h _; rw [Nat.le_zero.mp h, Nat.sub_self]; omega
  | succ n ih =>
    intro h h2
    by_cases q : st = n + 1
    · rw [q, Nat.sub_self]; omega
    · obtain ⟨i1, i2⟩ := ih (by omega) (fun s a b => h2 s a (by omega))
      obtain ⟨b1, b2⟩ := h2 n (by omega) (by omega)
      have mo := sm_mono (f := y) (show st ≤ n by omega)
      have e : ((sm y (n + 1) - sm y st : Nat) : Int) = ((sm y n - sm y st : Nat) : Int) + (y n : Int) := by rw [sm]; omega
      have p1 := Int.mul_le_mul_of_nonneg_right b1 (show 0 ≤ (y n : Int) by omega)
      have p2 := Int.mul_le_mul_of_nonneg_right b2 (show 0 ≤ (y n : Int) by omega)
      rw [e, Int.mul_add, Int.mul_add, dt]
      omega
theorem X6_cs41_sp {v1 v2 : Int32} {r st s : Nat} {Y : Nat → Nat → Int} {M : Mem} {X : Int64 → Int64 → Mem → Prop} {K : Int32 → Mem → Prop} (hr : r < 10) (hs : s < 8) (hst : st ≤ s) (hY : rwL M 126 9 r (Y r)) (hb : bd9 (Y r))
    (h : ∀ lo hi : Int, lo ≤ 0 → 0 ≤ hi → lo.natAbs ≤ 43046721 → hi.natAbs ≤ 43046721 → (∀ t, st ≤ t → t < s + 1 → lo ≤ Y r t ∧ Y r t ≤ hi) → X (oL lo) (oL hi) M) : ∃ g, L_X6_canStillBe_41 v1 v2 (nI s) (nI (9 * r)) X K g (0 : Int64) (0 : Int64) (nI st) M := by
  have key : ∀ d j, j + d = s + 1 → st ≤ j → ∀ lo hi : Int, lo ≤ 0 → 0 ≤ hi → lo.natAbs ≤ 43046721 → hi.natAbs ≤ 43046721 → (∀ t, st ≤ t → t < j → lo ≤ Y r t ∧ Y r t ≤ hi) → L_X6_canStillBe_41 v1 v2 (nI s) (nI (9 * r)) X K (d + 1) (oL lo) (oL hi) (nI j) M := by
    intro d
    induction d with
    | zero =>
      intro j hj hj' lo hi a1 a2 a3 a4 a5
      rw [L_X6_canStillBe_41, nI_LT (by omega) (by omega)]
      exact ⟨fun _ => h lo hi a1 a2 a3 a4 (fun t h1 h2 => a5 t h1 (by omega)), by omega⟩
    | succ d ih =>
      intro j hj hj' lo hi a1 a2 a3 a4 a5
      have b := hb.1 j (by omega)
      have r1 : rg (Y r j) := by unfold rg; omega
      have r2 : rg lo := by unfold rg; omega
      have r3 : rg hi := by unfold rg; omega
      rw [L_X6_canStillBe_41, nI_LT (by omega) (by omega), nI_add, vp_nI (by omega) (by omega), gL, nI_CL (by omega), hY j (by omega), nI_A1]
      refine ⟨by omega, fun _ => ⟨by omega, fun x5 e5 x7 e7 => ?_⟩⟩
      have x5' : x5 = oL (if Y r j < lo then Y r j else lo) := by
        rw [e5]
        by_cases q : Y r j < lo
        · rw [if_pos (by rw [oL_LT r1 r2]; exact q), if_pos q]
        · rw [if_neg (by rw [oL_LT r1 r2]; exact q), if_neg q]
      have x7' : x7 = oL (if Y r j < hi then hi else Y r j) := by
        rw [e7]
        by_cases q : Y r j < hi
        · rw [if_pos (by rw [oL_LT r1 r3]; exact q), if_pos q]
        · rw [if_neg (by rw [oL_LT r1 r3]; exact q), if_neg q]
      rw [x5', x7']
      refine ih (j + 1) (by omega) (by omega) _ _ (by split <;> omega) (by split <;> omega) (by split <;> omega) (by split <;> omega) (fun t h1 h2 => ?_)
      rcases Nat.lt_succ_iff_lt_or_eq.mp h2 with q | q
      · have := a5 t h1 q
        constructor <;> split <;> omega
      · rw [q]
        constructor <;> split <;> omega
  exact ⟨_, key (s + 1 - st) st (by omega) (Nat.le_refl _) 0 0 (by omega) (by omega) (by decide) (by decide) (fun t h1 h2 => by omega)⟩
theorem X6_canStillBe_sp {n : NN} {am t : Nat → Nat} {Y : Nat → Nat → Int} {rw' c : Nat → Nat} {k st mo : Nat} {M : Mem} {K : Int32 → Mem → Prop} (h : SS n am Y rw' c k) (hY : rw9 M Y) (hO : RO M rw' c k 0) (hst : st ≤ 8) (hmo : mo ≤ 12) (ht : ∀ s, s < st → M.1 128 s = nI (t s) ∧ t s ≤ 12) (h1 : K 1 M) (h0 : (∀ y, eqP st t y → Sol n am y → mo < sm y 8 - sm y st) → K 0 M) : f_X6_canStillBe (nI st) (nI mo) M K := by
  unfold f_X6_canStillBe
  have key : ∀ d s, s + d = 8 → st ≤ s → L_X6_canStillBe_2 (nI st) (nI mo) (fun M_4 => K 1 M_4) K (d + 1) (nI s) M := by
    intro d
    induction d with
    | zero =>
      intro s hs _
      rw [L_X6_canStillBe_2, l_8, nI_LE (by omega) (by omega)]
      exact ⟨fun _ => h1, by omega⟩
    | succ d ih =>
      intro s hs hss
      rw [L_X6_canStillBe_2, l_8, nI_LE (by omega) (by omega), vp_nI (by omega) (by omega), gI, nI_CL (by omega), nI_A1]
      refine ⟨by omega, fun _ => ⟨by omega, fun q x4 e4 x5 e5 x7 e7 => ?_, fun q => ih (s + 1) (by omega) (by omega)⟩⟩
      rcases hO s (Nat.zero_le _) (by omega) with ⟨i, i1, i2, i3⟩ | ⟨i1, i2⟩
      · obtain ⟨⟨u1, u2, _⟩, u3, u4, u5, u6⟩ := h.1.2.1 i i1
        rw [i3, l_9, pk_mul, Nat.mul_comm] at e4
        subst e4
        subst e5
        subst e7
        have eM : (nI mo).toInt64 = oL (mo : Int) := by rw [i2l, i_nI (by omega)]
        refine X6_cs41_sp u1 (by omega) hss (hY _ u1) u6 (fun lo hi a1 a2 a3 a4 a5 => X6_missingIn_sp u1 hst (hY _ u1) ht ?_)
        have bm : (Y (rw' i) 8 - dt st (Y (rw' i)) (fun s => (t s : Int))).natAbs ≤ 100000000000 := by
          have := dt_bd (a := Y (rw' i)) (t := t) (B := 43046721) (n := st) (fun s hs => ⟨u6.1 s (by omega), (ht s hs).2⟩)
          have b8 := u6.2
          have b9 : st * (43046721 * 12) ≤ 8 * (43046721 * 12) := Nat.mul_le_mul_right _ hst
          omega
        have bl := mul_ab (b := (mo : Int)) (B := 12) a3 (by omega)
        have bh := mul_ab (b := (mo : Int)) (B := 12) a4 (by omega)
        have key2 : ∀ y, eqP st t y → Sol n am y → sm y 8 - sm y st ≤ mo → lo * (mo : Int) ≤ Y (rw' i) 8 - dt st (Y (rw' i)) (fun s => (t s : Int)) ∧ Y (rw' i) 8 - dt st (Y (rw' i)) (fun s => (t s : Int)) ≤ hi * (mo : Int) := fun y y1 y2 y3 => by
          have e1 := (Sol_iff h).mp y2 i i1
          rw [i2] at e1
          have e2 : dt st (Y (rw' i)) (fun s => (y s : Int)) = dt st (Y (rw' i)) (fun s => (t s : Int)) := dt_cong (fun s hs => ⟨rfl, by rw [y1 s hs]⟩)
          have lh := dt_lohi (y := y) a1 a2 (show st ≤ s + 1 by omega) a5
          rw [e1, e2] at lh
          have m1 := sm_mono (f := y) (show s + 1 ≤ 8 by omega)
          have m2 := sm_mono (f := y) (show st ≤ s + 1 by omega)
          have g1 : ((sm y (s + 1) - sm y st : Nat) : Int) ≤ (mo : Int) := by omega
          have g2 := Int.mul_le_mul_of_nonpos_left a1 g1
          have g3 := Int.mul_le_mul_of_nonneg_left g1 a2
          omega
        have no : ∀ y, (Y (rw' i) 8 - dt st (Y (rw' i)) (fun s => (t s : Int)) < lo * (mo : Int) ∨ hi * (mo : Int) < Y (rw' i) 8 - dt st (Y (rw' i)) (fun s => (t s : Int))) → eqP st t y → Sol n am y → mo < sm y 8 - sm y st := fun y w y1 y2 => by
          rcases Nat.lt_or_ge mo (sm y 8 - sm y st) with z | z
          · exact z
          · have := key2 y y1 y2 z; omega
        generalize Y (rw' i) 8 - dt st (Y (rw' i)) (fun s => (t s : Int)) = mi at *
        rw [eM, oL_mul, oL_mul]
        generalize lo * (mo : Int) = p1 at *
        generalize hi * (mo : Int) = p2 at *
        have r1 : rg mi := by unfold rg; omega
        have r2 : rg p1 := by unfold rg; omega
        have r3 : rg p2 := by unfold rg; omega
        rw [oL_LT r1 r2, oL_LE r1 r3]
        exact ⟨fun w => h0 (fun y => no y (Or.inl w)), fun w => ⟨fun w' => ih (s + 1) (by omega) (by omega), fun w' => h0 (fun y => no y (Or.inr (by omega)))⟩⟩
      · rw [i2] at q; exact absurd rfl q
  exact ⟨_, key (8 - st) st (by omega) (Nat.le_refl _)⟩
theorem X6_countByRow_sp {t : Nat → Nat} {Y : Nat → Nat → Int} {r st : Nat} {M : Mem} {K : Int32 → Mem → Prop} (hr : r < 10) (hst : st < 8) (hO : M.1 127 st = nI r) (hY : rwL M 126 9 r (Y r)) (hb : bd9 (Y r)) (hn : Y r st ≠ 0) (ht : ∀ s, s < st → M.1 128 s = nI (t s) ∧ t s ≤ 12)
    (h1 : ∀ x : Nat, x ≤ 12 → Y r st * (x : Int) = Y r 8 - dt st (Y r) (fun s => (t s : Int)) → K (nI x) M) (h0 : (∀ x : Nat, x ≤ 12 → Y r st * (x : Int) ≠ Y r 8 - dt st (Y r) (fun s => (t s : Int))) → K (-1) M) : f_X6_countByRow (nI st) M K := by
  unfold f_X6_countByRow
  rw [vp_nI (by omega) (by omega), gI, nI_CL (by omega), hO]
  refine ⟨by omega, fun x2 e2 => ?_⟩
  rw [l_9, pk_mul, Nat.mul_comm] at e2
  subst e2
  rw [nI_add, vp_nI (by omega) (by omega), gL, nI_CL (by omega), hY st (by omega)]
  refine ⟨by omega, fun x3 e3 => ?_⟩
  subst e3
  have bo := hb.1 st hst
  have bm : (Y r 8 - dt st (Y r) (fun s => (t s : Int))).natAbs ≤ 100000000000 := by
    have := dt_bd (a := Y r) (t := t) (B := 43046721) (n := st) (fun s hs => ⟨hb.1 s (by omega), (ht s hs).2⟩)
    have b8 := hb.2
    have b9 : st * (43046721 * 12) ≤ 8 * (43046721 * 12) := Nat.mul_le_mul_right _ (by omega)
    omega
  refine X6_missingIn_sp hr (by omega) hY ht ?_
  generalize Y r 8 - dt st (Y r) (fun s => (t s : Int)) = mi at *
  generalize Y r st = ow at *
  have r1 : rg mi := by unfold rg; omega
  have r2 : rg ow := by unfold rg; omega
  have r3 : rg (mi.tmod ow) := by
    have := Int.natAbs_tmod mi ow
    have h9 := Nat.mod_le mi.natAbs ow.natAbs
    unfold rg; omega
  have r4 : rg (mi.tdiv ow) := by
    have h8 : (mi.tdiv ow).natAbs = mi.natAbs / ow.natAbs := Int.natAbs_tdiv mi ow
    have h9 := Nat.div_le_self mi.natAbs ow.natAbs
    rw [← h8] at h9
    unfold rg; omega
  rw [oL_rem r1 r2, oL_div r1 r2, z_0, oL_EQ r2 rg_0, oL_EQ r3 rg_0]
  refine ⟨fun q => absurd q hn, fun _ => ⟨hn, fun q x7 e7 => ?_, fun q => h0 (fun x _ e => q (Int.tmod_eq_zero_of_dvd ⟨x, e.symm⟩))⟩⟩
  subst e7
  have dv := Int.mul_tdiv_cancel' (Int.dvd_of_tmod_eq_zero q)
  have r12 : rg 12 := ⟨by decide, by decide⟩
  have uq : ∀ x : Nat, ow * (x : Int) = mi → mi.tdiv ow = (x : Int) := fun x e => Int.eq_of_mul_eq_mul_left hn (by rw [dv, e])
  rw [oL_LT r4 rg_0, show (12 : Int64) = oL 12 from rfl, oL_LT r12 r4]
  refine ⟨fun w => h0 (fun x _ e => by have := uq x e; omega), fun w => ⟨fun w' => h0 (fun x hx e => by have := uq x e; omega), fun w' => ?_⟩⟩
  have e2 : oL (mi.tdiv ow) = oL (((mi.tdiv ow).toNat : Nat) : Int) := by rw [Int.toNat_of_nonneg (by omega)]
  rw [e2, o2i (by omega)]
  refine h1 _ (by omega) ?_
  rw [Int.toNat_of_nonneg (by omega)]
  exact dv
