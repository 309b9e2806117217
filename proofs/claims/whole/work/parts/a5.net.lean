/-! calls: net -/
theorem PCn_at {M : Mem} {y : PT} (h : PCn M y) (hw : ptW y) : atC M 46 (nnP y) y.2.1.1 y.2.2.1.1 := by
  obtain ⟨⟨a1, a2, a3, a4⟩, ⟨b1, b2⟩, _, _, c1, c2, c3, _⟩ := h
  refine ⟨?_, a1, a3, nnP_wf hw (fun i hi => (c1 i hi).2) (fun i hi => (c2 i hi).2) (fun i hi => (c3 i hi).2)⟩
  unfold toR nt enc
  dsimp only
  rw [b1, b2, show M.1 (46 + 1) = M.1 47 from rfl, show M.1 (46 + 2) = M.1 48 from rfl, show M.1 (46 + 3) = M.1 49 from rfl, fun_tr (g := y.2.2.2.1) (fun i hi => (c1 i hi).1) (fun i hi => (hw.2.2.1 i hi).1), fun_tr (g := y.2.2.2.2.1) (fun i hi => (c2 i hi).1) (fun i hi => (hw.2.2.2.1 i hi).1), fun_tr (g := y.2.2.2.2.2) (fun i hi => (c3 i hi).1) (fun i hi => by have := hw.2.2.2.2 i hi; have := hw.1; omega)]
  rfl
def zNet (z : ZS) (y : PT) : ZS := ((0, zsT z), (0, -1), (nnP y, y.2.1.1, y.2.2.1.1), [], fun _ => 0)
def zBad (z : ZS) (e : Nat × Nat) : ZS := ((0, zsT z), (nI e.1, nI e.2), z.2.2)
theorem pop_ones {k : Nat} (h : k ≤ 10) : pop (2 ^ k - 1) = k := by
  have : ∀ k : Fin 11, pop (2 ^ (k : Nat) - 1) = k := by decide
  exact this ⟨k, by omega⟩
theorem C_net {c : Nat} {M : Mem} {z : ZS} {K : Int32 → Mem → Prop} (h : IvC c M z) (kb : ∀ e M', pNet (zsT z) (zsL z) (zsL z) pt0 = .error e → IvC c M' (zBad z e) → loC M M' → K (-1) M') (kk : ∀ y M', pNet (zsT z) (zsL z) (zsL z) pt0 = .ok y → IvC (c + 1) M' (zNet z y) → loC M M' → K (nI y.2.1.1) M') : f_X8_net M K := by
  obtain ⟨S, st, a1, a2, a3, a4, a5, a6⟩ := h
  unfold f_X8_net
  refine X4_readInto_sp a2.1 (fun r M2 rd fp M3 e3 => ?_)
  have o2 : ∀ b, b < 42 ∨ b = 43 ∨ 49 < b → M2.1 b = M.1 b := fun b hb => fp.1 b (by omega) (by omega) (by omega) (by omega) (by omega) (by omega) (by omega)
  have o3 : ∀ b, b < 42 ∨ b = 43 ∨ 49 < b → M3.1 b = M.1 b := fun b hb => by rw [e3, w1_ne (by omega), o2 b hb]
  have lo3 : loC M M3 := fun b hb => o3 b (by omega)
  cases q : pNet (zsT z) (zsL z) (zsL z) pt0 with
  | error e =>
    rw [q] at rd
    have rd : r = 0 ∧ M2.1 42 4 = nI e.1 ∧ M2.1 42 5 = nI e.2 := rd
    refine ⟨fun y => absurd rd.1 y, fun _ => kb e M3 q ⟨S, st, ⟨a1.1, by rw [o3 41 (by decide)]; exact a1.2⟩, ⟨⟨Nat.zero_le _, ?_, fun i hi => absurd hi (Nat.not_lt_zero _)⟩, ?_, ?_⟩, iNt_f a3 (fun b h1 h2 => o3 b (by omega)), iPa_f a4 (fun b h1 h2 => o3 b (by omega)), iSk_f a5 (fun b h1 h2 => o3 b (by omega)), iCa_f a6 (fun b hb => o3 b (by omega))⟩ lo3⟩
    · rw [e3, w1_at]; rfl
    · rw [e3, w1_no (by decide)]; exact rd.2.1
    · rw [e3, w1_no (by decide)]; exact rd.2.2
  | ok y =>
    rw [q] at rd
    have rd : r = 1 ∧ PCn M2 y ∧ TS4 M2 (zsT z) (zsL z) y.1 ∧ y.1 ≤ zsL z := rd
    have yw := pNet_w _ _ _ pt0_w q
    have at2 := PCn_at rd.2.1 yw
    have at3 : atC M3 46 (nnP y) y.2.1.1 y.2.2.1.1 := by
      rw [e3]
      exact atC_fr at2 (w1_ne (by decide)) (w1_ne (by decide)) (w1_ne (by decide)) (w1_ne (by decide))
    refine ⟨fun _ => ?_, fun y => absurd y (by rw [rd.1]; decide)⟩
    have I3 : IvS c M3 S st ((0, zsT z), (0, -1), z.2.2) := ⟨⟨a1.1, by rw [o3 41 (by decide)]; exact a1.2⟩, ⟨⟨Nat.zero_le _, by rw [e3, w1_at]; rfl, fun i hi => absurd hi (Nat.not_lt_zero _)⟩, by rw [e3, w1_no (by decide)]; exact rd.2.1.2.2.2.2.2.2.2.1, by rw [e3, w1_no (by decide)]; exact rd.2.1.2.2.2.2.2.2.2.2⟩, iNt_f a3 (fun b h1 h2 => o3 b (by omega)), iPa_f a4 (fun b h1 h2 => o3 b (by omega)), iSk_f a5 (fun b h1 h2 => o3 b (by omega)), iCa_f a6 (fun b hb => o3 b (by omega))⟩
    refine X1_copyFrom_sp (d := 50) (s := 46) (Or.inr (by decide)) (fun M4 c1 c2 c3 c4 c5 => ?_)
    refine nF_c (x := (nnP y, y.2.1.1, y.2.2.1.1)) I3 c4 (atC_nt c1 at3) (fun M5 S' a5' o5 => ?_)
    obtain ⟨x1, x2, x3, ⟨f, p1, p2, p3, p4, p5⟩, x5, x6⟩ := a5'
    unfold f_X6_forgetAims
    refine J7_fill_sp (a := 125) (N := 10) rfl (by decide) (fun M6 g1 g2 g3 g4 M7 e7 => ?_)
    unfold f_X2_forget
    intro M8 e8
    have o : ∀ b, b ≠ 54 → b ≠ 124 → b ≠ 125 → M8.1 b = M5.1 b := fun b h1 h2 h3 => by rw [e8, w1_ne h1, e7, w1_ne h2, g3 b h3]
    have I8 : IvC (c + 1) M8 (zNet z y) := ⟨S', st + 1, ⟨x1.1, by rw [o 41 (by decide) (by decide) (by decide)]; exact x1.2⟩, iTp_f x2 (fun b h1 h2 => o b (by omega) (by omega) (by omega)), iNt_f x3 (fun b h1 h2 => o b (by omega) (by omega) (by omega)), ⟨f, p1, by rw [e8, w1_no (by decide), e7, w1_ne (by decide), g3 54 (by decide)]; exact p2, by rw [e8, w1_at]; rfl, Nat.zero_le _, fun i x hx => by cases hx⟩, ⟨fun p hp => by rw [e8, w1_ne (by decide), e7, w1_ne (by decide), g1 p hp]; rfl, fun p => Nat.zero_le _, Or.inl (by rw [e8, w1_ne (by decide), e7, w1_at])⟩, iCa_f x6 (fun b hb => o b (by omega) (by omega) (by omega))⟩
    have hn := IvC_w I8
    have hn : atC M8 50 (nnP y) y.2.1.1 y.2.2.1.1 := hn
    rw [ac_P hn]
    refine J6_bitCount_sp (wf_P hn.2.2.2) ?_
    rw [show pop (nP (nnP y)) = y.2.1.1 from pop_ones yw.1]
    exact kk y M8 q I8 (fun b hb => by rw [o b (by omega) (by omega) (by omega), o5 b (by omega) (by omega), lo3 b hb])
theorem R_net {M : Mem} {z : ZS} {K : Int32 → Mem → Prop} (h : IvR M z) (kb : ∀ e M', pNet (zsT z) (zsL z) (zsL z) pt0 = .error e → IvR M' (zBad z e) → hiC M M' → K (-1) M') (kk : ∀ y M', pNet (zsT z) (zsL z) (zsL z) pt0 = .ok y → IvR M' (zNet z y) → hiC M M' → K (nI y.2.1.1) M') : f_X9_net M K := by
  obtain ⟨⟨t1, t2, t3⟩, b2, b3, b4, b5, b6, b7, b8⟩ := h
  refine X9_net_sp t1 t2 t3 (fun e M' q g1 g2 g3 g4 g5 g6 g7 => ?_) (fun y M' q yw ywf g1 g2 g3 g4 g5 g6 g7 g8 g9 g10 g11 => ?_)
  · have o : ∀ b, 7 < b → M'.1 b = M.1 b := fun b hb => g5 b (by omega) (by omega) (by omega) (by omega) (by omega) (by omega)
    refine kb e M' q ⟨⟨Nat.zero_le _, g1, fun i hi => absurd hi (Nat.not_lt_zero _)⟩, ⟨g2, g3⟩, ?_, ?_, ?_, ?_, ?_, ?_⟩ (fun b hb => ⟨o b (by omega), by rw [g7]⟩)
    · rw [g6]; exact b3
    · rw [g4 26 (by decide)]
      exact ⟨b4.1, b4.2.1, fun i x hx => by rw [kb_f (o 10 (by decide))]; exact b4.2.2 i x hx⟩
    · rw [o 8 (by decide)]; exact b5
    · rw [g4 22 (by decide)]
      exact fun q => rSmP_f (b6 q) (fun b h1 h2 => o b (by omega))
    · rw [g4 23 (by decide)]
      exact fun q => rGr_f (b7 q) (fun b h1 h2 _ _ _ _ => o b (by omega))
    · rw [g4 24 (by decide)]
      exact fun q => RCt_f (b8 q) (g4 40 (by decide)) (o 20 (by decide)) (o 22 (by decide)) (o 23 (by decide))
  · refine kk y M' q ⟨⟨Nat.zero_le _, g1, fun i hi => absurd hi (Nat.not_lt_zero _)⟩, ⟨g2, g3⟩, ⟨g10, ywf⟩, ⟨g7, Nat.zero_le _, fun i x hx => by cases hx⟩, fun p hp => ⟨g9 p hp, Nat.zero_le _⟩, fun q => absurd g4 q, fun q => absurd g5 q, fun q => absurd g6 q⟩ (fun b hb => ⟨g8 b (by omega), by rw [g11]⟩)
