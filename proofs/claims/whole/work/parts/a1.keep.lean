/-! what is kept; new stamps -/
def kPs (P : List N3) (x : N3) : List N3 := (if P.length = 12 then P.tail else P) ++ [x]
def zKp (z : ZS) : ZS := (z.1, z.2.1, z.2.2.1, kPs (zsP z) (zs3 z), zsA z)
def zNt (z : ZS) (n : NN) : ZS := (z.1, z.2.1, (n, (zs3 z).2), zsP z, zsA z)
def zN3 (z : ZS) (x : N3) : ZS := (z.1, z.2.1, x, zsP z, zsA z)
theorem atC_nt {M M' : Mem} {t t' tp ts : Nat} {n : NN} (e : nt M' t' = nt M t) (h : atC M t n tp ts) : atC M' t' n tp ts := by
  obtain ⟨a, b, c, d⟩ := h
  have e3 : M'.1 t' 3 = M.1 t 3 := congrArg (fun x : Nt => x.2.2.2.1) e
  have e4 : M'.1 t' 4 = M.1 t 4 := congrArg (fun x : Nt => x.2.2.2.2.1) e
  exact ⟨by rw [e]; exact a, by rw [e3]; exact b, by rw [e4]; exact c, d⟩
theorem kPs_len {P : List N3} {x : N3} (h : P.length ≤ 12) : (kPs P x).length = (if P.length = 12 then 12 else P.length + 1) := by
  unfold kPs
  rw [List.length_append]
  by_cases q : P.length = 12
  · rw [if_pos q, if_pos q, List.length_tail, q]; rfl
  · rw [if_neg q, if_neg q]; rfl
theorem kPs_get {P : List N3} {x y : N3} {i : Nat} (h : P.length ≤ 12) (e : (kPs P x)[i]? = some y) : (i = (kPs P x).length - 1 ∧ y = x) ∨ (i < (kPs P x).length - 1 ∧ P[if P.length = 12 then i + 1 else i]? = some y) := by
  have l := kPs_len (x := x) h
  by_cases q : P.length = 12
  · rw [if_pos q] at l
    rw [l, if_pos q]
    unfold kPs at e
    rw [if_pos q] at e
    by_cases r : i < P.tail.length
    · rw [List.getElem?_append_left r, List.getElem?_tail] at e
      rw [List.length_tail, q] at r
      exact Or.inr ⟨r, e⟩
    · rw [List.getElem?_append_right (by omega)] at e
      rw [List.length_tail, q] at r e
      have : i - (12 - 1) < 1 := by
        obtain ⟨t, _⟩ := List.getElem?_eq_some_iff.mp e
        exact t
      have i11 : i = 11 := by omega
      rw [i11] at e
      have e : some x = some y := e
      exact Or.inl ⟨i11, (Option.some.inj e).symm⟩
  · rw [if_neg q] at l
    rw [l, if_neg q]
    unfold kPs at e
    rw [if_neg q] at e
    by_cases r : i < P.length
    · rw [List.getElem?_append_left r] at e
      exact Or.inr ⟨by omega, e⟩
    · rw [List.getElem?_append_right (by omega)] at e
      have : i - P.length < 1 := by
        obtain ⟨t, _⟩ := List.getElem?_eq_some_iff.mp e
        exact t
      have i11 : i = P.length := by omega
      rw [i11, Nat.sub_self] at e
      have e : some x = some y := e
      exact Or.inl ⟨by omega, (Option.some.inj e).symm⟩
theorem kp_c {c : Nat} {M : Mem} {S : Nat → N3} {st : Nat} {z : ZS} {K : Mem → Prop} (h : IvS c M S st z) (k : ∀ M', IvS c M' S st (zKp z) → (∀ b, b < 54 ∨ 103 < b → M'.1 b = M.1 b) → K M') : f_X2_keep 50 M K := by
  obtain ⟨a1, a2, a3, ⟨f, p1, p2, p3, p4, p5⟩, a5, a6⟩ := h
  refine X2_keep_sp p2 p3 p1 p4 (Or.inl (by decide)) (fun M' f' k' ef ek g1 g2 g3 g4 g5 g6 g7 => ?_)
  have kl : (kPs (zsP z) (zs3 z)).length = k' := by rw [kPs_len p4, ek]
  have k12 : 1 ≤ k' ∧ k' ≤ 12 := by rw [ek]; split <;> omega
  have f12 : f' < 12 := by rw [ef]; split <;> omega
  have lo : ∀ b, b < 54 ∨ 103 < b → M'.1 b = M.1 b := fun b hb => g6 b (by omega) (by have := Nat.mod_lt (f' + k' - 1) (show 0 < 12 by decide); omega)
  refine k M' ⟨⟨a1.1, by rw [lo 41 (by decide)]; exact a1.2⟩, iTp_f a2 (fun b h1 h2 => lo b (by omega)), iNt_f a3 (fun b h1 h2 => lo b (by omega)), ⟨f', f12, g1, ?_, ?_, fun i x hx => ?_⟩, iSk_f a5 (fun b h1 h2 => lo b (by omega)), iCa_f a6 (fun b hb => lo b (by omega))⟩ lo
  · show M'.1 54 2 = nI (kPs (zsP z) (zs3 z)).length
    rw [kl]; exact g2
  · show (kPs (zsP z) (zs3 z)).length ≤ 12
    rw [kl]; exact k12.2
  · rcases kPs_get p4 hx with ⟨r1, r2⟩ | ⟨r1, r2⟩
    · rw [kl] at r1
      obtain ⟨ff, s, b1, b2, b3, b4, b5, b6, b7⟩ := a3
      rw [r2, r1, show f' + (k' - 1) = f' + k' - 1 by omega]
      exact ⟨ff, s, b1, b2, by rw [g4]; exact b3, by rw [g5]; exact b4, b5, b6, atC_nt g3 b7⟩
    · rw [kl] at r1
      have o := p5 _ x r2
      have ec : 56 + 4 * ((f + (if (zsP z).length = 12 then i + 1 else i)) % 12) = 56 + 4 * ((f' + i) % 12) := by
        rw [ef]
        split <;> omega
      rw [ec] at o
      refine iNt_f o (fun b h1 h2 => g6 b (by omega) ?_)
      omega
/- a new state -/
theorem atC_w {M : Mem} {t tp ts j : Nat} {n : NN} {v : Int32} (hj : j = 7 ∨ j = 8) (h : atC M t n tp ts) : atC (wI M t j v) t n tp ts := by
  refine atC_nt (M := M) (t := t) ?_ h
  unfold nt
  rw [w1_ne (by omega), w1_ne (by omega), w1_ne (by omega), w1_no (by omega), w1_no (by omega), w1_no (by omega), w1_no (by omega)]
def upS (S : Nat → N3) (k : Nat) (x : N3) : Nat → N3 := fun i => if i = k then x else S i
theorem upS_o {S : Nat → N3} {k : Nat} {x : N3} : ∀ i, i ≤ k → upS S (k + 1) x i = S i := fun i hi => if_neg (by omega)
theorem upS_k {S : Nat → N3} {k : Nat} {x : N3} : upS S k x k = x := if_pos rfl
theorem nS_c {c : Nat} {M0 M1 : Mem} {S : Nat → N3} {st : Nat} {z : ZS} {n' : NN} {K : Mem → Prop} (h : IvS c M0 S st z) (e : ∀ b, b ≠ 53 → M1.1 b = M0.1 b) (ha : atC M1 50 n' (zs3 z).2.1 (zs3 z).2.2) (har : arN n' = arN (zsN z)) (k : ∀ M', IvC (c + 1) M' (zNt z n') → (∀ b, b < 41 → M'.1 b = M0.1 b) → K M') : f_X8_newState M1 K := by
  obtain ⟨a1, a2, ⟨f, s, b1, b2, b3, b4, b5, b6, b7⟩, a4, a5, a6⟩ := h
  unfold f_X8_newState
  intro M2 e2 M3 e3
  have v2 : M2.1 41 12 = nI (st + 1) := by rw [e2, w1_at, e 41 (by decide), a1.2, nI_A1]
  rw [v2] at e3
  have o : ∀ b, b ≠ 41 → b ≠ 50 → b ≠ 53 → M3.1 b = M0.1 b := fun b h1 h2 h3 => by rw [e3, w1_ne h2, e2, w1_ne h1, e b h3]
  have ha3 : atC M3 50 n' (zs3 z).2.1 (zs3 z).2.2 := by
    rw [e3]
    refine atC_w (Or.inr rfl) ?_
    rw [e2]
    exact atC_fr ha (w1_ne (by decide)) (w1_ne (by decide)) (w1_ne (by decide)) (w1_ne (by decide))
  have hS := upS_o (S := S) (k := st) (x := (n', (zs3 z).2))
  refine k M3 ⟨upS S (st + 1) (n', (zs3 z).2), st + 1, ⟨by omega, ?_⟩, iTp_f a2 (fun b h1 h2 => o b (by omega) (by omega) (by omega)), ⟨f, st + 1, by omega, Nat.le_refl _, ?_, ?_, upS_k, ?_, ha3⟩, iPa_s (iPa_f a4 (fun b h1 h2 => o b (by omega) (by omega) (by omega))) hS (by omega), iSk_s (iSk_f a5 (fun b h1 h2 => o b (by omega) (by omega) (by omega))) hS (by omega), iCa_s (iCa_f a6 (fun b hb => o b (by omega) (by omega) (by omega))) hS (by omega)⟩ (fun b hb => o b (by omega) (by omega) (by omega))
  · rw [e3, w1_ne (by decide)]; exact v2
  · rw [e3, w1_no (by decide), e2, w1_ne (by decide), e 50 (by decide)]; exact b3
  · rw [e3, w1_at]
  · rw [hS f b1, b6]; exact har.symm
/- a new form -/
theorem nF_c {c : Nat} {M0 M1 : Mem} {S : Nat → N3} {st : Nat} {z : ZS} {x : N3} {K : Mem → Prop} (h : IvS c M0 S st z) (e : ∀ b, b < 50 ∨ 53 < b → M1.1 b = M0.1 b) (ha : atC M1 50 x.1 x.2.1 x.2.2) (k : ∀ M' S', IvS (c + 1) M' S' (st + 1) (zN3 z x) → (∀ b, b ≠ 41 → b < 50 ∨ 53 < b → M'.1 b = M0.1 b) → K M') : f_X8_newForm M1 K := by
  obtain ⟨a1, a2, a3, a4, a5, a6⟩ := h
  unfold f_X8_newForm f_X8_newState
  intro M2 e2 M3 e3 M4 e4
  have v2 : M2.1 41 12 = nI (st + 1) := by rw [e2, w1_at, e 41 (by decide), a1.2, nI_A1]
  rw [v2] at e3
  have v3 : M3.1 50 8 = nI (st + 1) := by rw [e3, w1_at]
  rw [v3] at e4
  have o : ∀ b, b ≠ 41 → b < 50 ∨ 53 < b → M4.1 b = M0.1 b := fun b h1 h2 => by rw [e4, w1_ne (by omega), e3, w1_ne (by omega), e2, w1_ne h1, e b h2]
  have ha4 : atC M4 50 x.1 x.2.1 x.2.2 := by
    rw [e4]
    refine atC_w (Or.inl rfl) ?_
    rw [e3]
    refine atC_w (Or.inr rfl) ?_
    rw [e2]
    exact atC_fr ha (w1_ne (by decide)) (w1_ne (by decide)) (w1_ne (by decide)) (w1_ne (by decide))
  have hS := upS_o (S := S) (k := st) (x := x)
  refine k M4 (upS S (st + 1) x) ⟨⟨by omega, ?_⟩, iTp_f a2 (fun b h1 h2 => o b (by omega) (by omega)), ⟨st + 1, st + 1, Nat.le_refl _, Nat.le_refl _, ?_, ?_, upS_k, ?_, ha4⟩, iPa_s (iPa_f a4 (fun b h1 h2 => o b (by omega) (by omega))) hS (by omega), iSk_s (iSk_f a5 (fun b h1 h2 => o b (by omega) (by omega))) hS (by omega), iCa_s (iCa_f a6 (fun b hb => o b (by omega) (by omega))) hS (by omega)⟩ o
  · rw [e4, w1_ne (by decide), e3, w1_ne (by decide)]; exact v2
  · rw [e4, w1_at]
  · rw [e4, w1_no (by decide)]; exact v3
  · show arN (upS S (st + 1) x (st + 1)).1 = arN x.1
    rw [upS_k]
/- the reference keeps -/
theorem kp_r {M : Mem} {z : ZS} {K : Mem → Prop} (h : IvR M z) (k : ∀ M', IvR M' (zKp z) → (∀ b, b ≠ 0 → b ≠ 10 → M'.1 b = M.1 b) → (∀ j, j ≠ 26 → M'.1 0 j = M.1 0 j) → M'.2 = M.2 → K M') : f_X9_keep M K := by
  obtain ⟨b1, b2, b3, ⟨q1, q2, q3⟩, b5, b6, b7, b8⟩ := h
  refine X9_keep_sp q1 q2 (fun M' k' ek g0 g1 g2 g3 g4 => ?_)
  have kl : (kPs (zsP z) (zs3 z)).length = k' := by rw [kPs_len q2, ek]
  have k12 : 1 ≤ k' ∧ k' ≤ 12 := by rw [ek]; split <;> omega
  have o0 : ∀ j, j ≠ 26 → M'.1 0 j = M.1 0 j := fun j hj => by rw [g0, upd_no hj]
  have o : ∀ b, b ≠ 0 → b ≠ 10 → M'.1 b = M.1 b := g3
  refine k M' ⟨?_, ?_, ?_, ⟨?_, ?_, fun i x hx => ?_⟩, ?_, ?_, ?_, ?_⟩ o o0 g4
  · rw [o0 10 (by decide), o 9 (by decide) (by decide)]; exact b1
  · rw [o0 16 (by decide), o0 17 (by decide)]; exact b2
  · rw [rt0_f (o 1 (by decide) (by decide)) (o 2 (by decide) (by decide)) (o 3 (by decide) (by decide)) (o 4 (by decide) (by decide)) (o 5 (by decide) (by decide))]; exact b3
  · show M'.1 0 26 = nI (kPs (zsP z) (zs3 z)).length
    rw [kl, g0, upd_at]
  · show (kPs (zsP z) (zs3 z)).length ≤ 12
    rw [kl]; exact k12.2
  · rcases kPs_get q2 hx with ⟨r1, r2⟩ | ⟨r1, r2⟩
    · rw [kl] at r1
      rw [r2, r1, g1]; exact b3.1
    · rw [kl] at r1
      rw [g2 i r1]; exact q3 _ x r2
  · rw [o 8 (by decide) (by decide)]; exact b5
  · rw [o0 22 (by decide)]
    exact fun q => rSmP_f (b6 q) (fun b h1 h2 => o b (by omega) (by omega))
  · rw [o0 23 (by decide)]
    exact fun q => rGr_f (b7 q) (fun b h1 h2 _ _ _ _ => o b (by omega) (by omega))
  · rw [o0 24 (by decide)]
    exact fun q => RCt_f (b8 q) (o0 40 (by decide)) (o 20 (by decide) (by decide)) (o 22 (by decide) (by decide)) (o 23 (by decide) (by decide))
/-- the reference has other tokens -/
theorem mv_r {M0 M1 : Mem} {z : ZS} {n' : NN} {K : Mem → Prop} (h : IvR M0 z) (e : ∀ b, b ≠ 3 → M1.1 b = M0.1 b) (e2 : M1.2 = M0.2) (hr : rt M1 0 = enc n') (w : WF n' (zs3 z).2.1 (zs3 z).2.2) (har : arN n' = arN (zsN z)) (k : ∀ M', IvR M' (zNt z n') → hiC M0 M' → K M') : f_X9_moved M1 K := by
  obtain ⟨b1, b2, b3, b4, b5, b6, b7, b8⟩ := h
  unfold f_X9_moved
  intro M2 e2' M3 e3
  have o : ∀ b, b ≠ 0 → b ≠ 3 → M3.1 b = M0.1 b := fun b h1 h2 => by rw [e3, w1_ne h1, e2', w1_ne h1, e b h2]
  have o0 : ∀ j, j ≠ 23 → j ≠ 24 → M3.1 0 j = M0.1 0 j := fun j h1 h2 => by rw [e3, w1_no h2, e2', w1_no h1, e 0 (by decide)]
  refine k M3 ⟨?_, ?_, ⟨?_, w⟩, ?_, ?_, ?_, ?_, ?_⟩ (fun b hb => ⟨o b (by omega) (by omega), by rw [e3, e2']; show M1.2 b = _; rw [e2]⟩)
  · rw [o0 10 (by decide) (by decide), o 9 (by decide) (by decide)]; exact b1
  · rw [o0 16 (by decide) (by decide), o0 17 (by decide) (by decide)]; exact b2
  · rw [e3, e2']; exact hr
  · rw [o0 26 (by decide) (by decide)]
    exact ⟨b4.1, b4.2.1, fun i x hx => by rw [kb_f (o 10 (by decide) (by decide))]; exact b4.2.2 i x hx⟩
  · rw [o 8 (by decide) (by decide)]; exact b5
  · rw [o0 22 (by decide) (by decide)]
    intro q
    have := rSmP_f (b6 q) (M' := M3) (fun b h1 h2 => o b (by omega) (by omega))
    unfold rSmP at *
    intro w'
    show rSw M3 w' (CH n' w') (unM n' w') 1024 ∧ enumOK (M3.1 18 (bN w')) (M3.1 16) (260 * bN w') (lsN n' w') 1024
    rw [CH_ar har, unM_ar har, lsN_ar har]
    exact this w'
  · exact fun q => absurd (by rw [e3, w1_no (by decide), e2', w1_at]) q
  · exact fun q => absurd (by rw [e3, w1_at]) q
