/-! calls: undo, become -/
def lst3 (P : List N3) : N3 := P.getD (P.length - 1) ((fun _ => 0, fun _ => 0, fun _ => 0, 0, 0), 0, 0)
def zUnd (z : ZS) : ZS := (z.1, z.2.1, lst3 (zsP z), (zsP z).dropLast, zsA z)
theorem lst3_g {P : List N3} (h : 0 < P.length) : P[P.length - 1]? = some (lst3 P) := by
  unfold lst3
  rw [List.getD_eq_getElem?_getD, List.getElem?_eq_getElem (by omega)]
  rfl
theorem dl_g {P : List N3} {i : Nat} {x : N3} (h : P.dropLast[i]? = some x) : i < P.length - 1 ∧ P[i]? = some x := by
  obtain ⟨a, b⟩ := List.getElem?_eq_some_iff.mp h
  rw [List.length_dropLast] at a
  refine ⟨a, ?_⟩
  rw [List.getElem_dropLast] at b
  exact List.getElem?_eq_some_iff.mpr ⟨by omega, b⟩
theorem C_undo {c : Nat} {M : Mem} {z : ZS} {K : Int32 → Mem → Prop} (h : IvC c M z) (k0 : (zsP z).length = 0 → K 0 M) (k1 : 0 < (zsP z).length → ∀ M', IvC c M' (zUnd z) → loC M M' → K 1 M') : f_X8_undo M K := by
  obtain ⟨S, st, a1, a2, a3, ⟨f, p1, p2, p3, p4, p5⟩, a5, a6⟩ := h
  unfold f_X8_undo
  refine X2_restore_sp p2 p3 p1 p4 (fun e => ⟨by decide, k0 e⟩) (fun kp M' g1 g2 g3 g4 g5 g6 g7 => ⟨by decide, ?_⟩)
  have o : ∀ b, b ≠ 54 → (b < 50 ∨ 53 < b) → M'.1 b = M.1 b := g6
  obtain ⟨ff, s, b1, b2, b3, b4, b5, b6, b7⟩ := p5 _ _ (lst3_g kp)
  rw [show f + ((zsP z).length - 1) = f + (zsP z).length - 1 by omega] at b3 b4 b7
  refine k1 kp M' ⟨S, st, ⟨a1.1, by rw [o 41 (by decide) (by decide)]; exact a1.2⟩, iTp_f a2 (fun b h1 h2 => o b (by omega) (by omega)), ⟨ff, s, b1, b2, by rw [g4]; exact b3, by rw [g5]; exact b4, b5, b6, atC_nt g3 b7⟩, ⟨f, p1, g1, ?_, ?_, fun i x hx => ?_⟩, iSk_f a5 (fun b h1 h2 => o b (by omega) (by omega)), iCa_f a6 (fun b hb => o b (by omega) (by omega))⟩ (fun b hb => o b (by omega) (by omega))
  · show M'.1 54 2 = nI (zsP z).dropLast.length
    rw [List.length_dropLast]; exact g2
  · show (zsP z).dropLast.length ≤ 12
    rw [List.length_dropLast]; omega
  · have d := dl_g hx
    exact iNt_f (p5 i x d.2) (fun b h1 h2 => o b (by omega) (by omega))
theorem R_undo {M : Mem} {z : ZS} {K : Int32 → Mem → Prop} (h : IvR M z) (hw : ∀ x, x ∈ zsP z → WF x.1 x.2.1 x.2.2) (k0 : (zsP z).length = 0 → ∀ M', IvR M' z → hiC M M' → K 0 M') (k1 : 0 < (zsP z).length → ∀ M', IvR M' (zUnd z) → hiC M M' → K 1 M') : f_X9_undo M K := by
  obtain ⟨b1, b2, b3, ⟨q1, q2, q3⟩, b5, b6, b7, b8⟩ := id h
  refine X9_undo_sp q1 q2 (fun e => k0 e _ (IvR_0 h) (hiC_w (by decide))) (fun kp M' g1 g2 g3 g4 g5 g6 g7 g8 => ?_)
  have o : ∀ b, 5 < b → M'.1 b = M.1 b := fun b hb => g7 b (by omega) (by omega) (by omega) (by omega) (by omega) (by omega)
  refine k1 kp M' ⟨?_, ?_, ⟨?_, ?_⟩, ⟨?_, ?_, fun i x hx => ?_⟩, ?_, fun q => absurd g2 q, fun q => absurd g3 q, fun q => absurd g4 q⟩ (fun b hb => ⟨o b (by omega), by rw [g8]⟩)
  · rw [g5 10 (by decide) (by decide) (by decide) (by decide) (by decide), o 9 (by decide)]; exact b1
  · rw [g5 16 (by decide) (by decide) (by decide) (by decide) (by decide), g5 17 (by decide) (by decide) (by decide) (by decide) (by decide)]; exact b2
  · rw [g6]; exact q3 _ _ (lst3_g kp)
  · exact hw _ (List.mem_of_getElem? (lst3_g kp))
  · show M'.1 0 26 = nI (zsP z).dropLast.length
    rw [List.length_dropLast]; exact g1
  · show (zsP z).dropLast.length ≤ 12
    rw [List.length_dropLast]; omega
  · rw [kb_f (o 10 (by decide))]; exact q3 i x (dl_g hx).2
  · rw [o 8 (by decide)]; exact b5
theorem IvC_pw {c : Nat} {M : Mem} {z : ZS} (h : IvC c M z) : ∀ x, x ∈ zsP z → WF x.1 x.2.1 x.2.2 := fun x hx => by
  obtain ⟨S, st, _, _, _, ⟨f, _, _, _, _, p5⟩, _⟩ := h
  obtain ⟨i, hi⟩ := List.getElem?_of_mem hx
  obtain ⟨_, _, _, _, _, _, _, _, w⟩ := p5 i x hi
  exact w.2.2.2
/- become -/
noncomputable def zBec (z : ZS) : ZS := zN3 (zKp z) (rdN z, (zs3 z).2)
theorem C_become {c : Nat} {M : Mem} {z : ZS} {K : Int32 → Mem → Prop} (hc : c < 100000) (h : IvC c M z) (k0 : (rdL z).length = 0 → ∀ M', IvC c M' z → loC M M' → K (-1) M') (k1 : ¬ (rdL z).length = 0 → ∀ M', IvC (c + 1) M' (zBec z) → loC M M' → K (nI (rdL z).length) M') : f_X8_become M K := by
  have l18 := rdL_le z
  unfold f_X8_become
  refine mkS_c hc h (fun M2 a2 r2 lo2 => ?_)
  have l2 : M2.1 146 4 = nI (rdL z).length := r2.2.1
  rw [l2, nI_Z (by omega)]
  refine ⟨fun q => ?_, fun q => k0 q M2 a2 (fun b hb => lo2 b (by omega))⟩
  obtain ⟨S, st, a2⟩ := a2
  refine kp_c a2 (fun M3 a3 lo3 => ?_)
  have r3 : rdC M3 (zs3 z) := rdC_f r2 (fun b h1 h2 => lo3 b (by omega))
  refine X1_copyFrom_sp (d := 50) (s := 147) (Or.inl (by decide)) (fun M4 c1 c2 c3 c4 c5 => ?_)
  have ha : atC M4 50 (rdN z) (zs3 z).2.1 (zs3 z).2.2 := atC_nt c1 r3.1
  refine nF_c (z := zKp z) (x := (rdN z, (zs3 z).2)) a3 c4 ha (fun M5 S' a5 o5 => ?_)
  have l5 : M5.1 146 4 = nI (rdL z).length := by rw [o5 146 (by decide) (by decide), lo3 146 (by decide)]; exact l2
  rw [l5]
  exact k1 q M5 ⟨S', st + 1, a5⟩ (fun b hb => by rw [o5 b (by omega) (by omega), lo3 b (by omega), lo2 b (by omega)])
theorem R_become {M : Mem} {z : ZS} {K : Int32 → Mem → Prop} (h : IvR M z) (k0 : (rdL z).length = 0 → ∀ M', IvR M' z → hiC M M' → K (-1) M') (k1 : ¬ (rdL z).length = 0 → ∀ M', IvR M' (zBec z) → hiC M M' → K (nI (rdL z).length) M') : f_X9_become M K := by
  have l18 := rdL_le z
  unfold f_X9_become
  intro M2 e2
  have h2 : IvR M2 z := by rw [e2]; exact IvR_0 h
  have g2 : hiC M M2 := by rw [e2]; exact hiC_w (by decide)
  refine lR_r h2 (fun M3 a3 r3 lo3 => ?_)
  have l3 : M3.1 0 58 = nI (rdL z).length := r3.2.1
  rw [l3, nI_Z (by omega)]
  refine ⟨fun q => ?_, fun q => k0 q M3 a3 (hiC_tr g2 lo3)⟩
  refine kp_r a3 (fun M4 a4 o4 o40 e42 => ?_)
  have hr4 : rt M4 1 = enc (rdN z) := by rw [rt0_f (o4 1 (by decide) (by decide)) (o4 2 (by decide) (by decide)) (o4 3 (by decide) (by decide)) (o4 4 (by decide) (by decide)) (o4 5 (by decide) (by decide))]; exact r3.1
  refine X9_copies_sp (g1 := 1) (g2 := 0) (by decide) (by decide) (by decide) (fun M5 c1 c2 c3 c4 => ?_)
  have o5 : ∀ b, b = 0 ∨ 5 < b → M5.1 b = M4.1 b := fun b hb => c3 b (by omega) (by omega) (by omega) (by omega) (by omega)
  unfold f_X9_another f_X9_moved
  intro M6 e6 M7 e7 M8 e8
  have o : ∀ b, b ≠ 0 → M8.1 b = M5.1 b := fun b hb => by rw [e8, w1_ne hb, e7, w1_ne hb, e6, w1_ne hb]
  have o0 : ∀ j, j ≠ 22 → j ≠ 23 → j ≠ 24 → M8.1 0 j = M4.1 0 j := fun j h1 h2 h3 => by rw [e8, w1_no h3, e7, w1_no h2, e6, w1_no h1, o5 0 (by decide)]
  have m2 : M8.2 = M3.2 := by rw [e8, e7, e6]; show M5.2 = _; rw [c4, e42]
  have l8 : M8.1 0 58 = nI (rdL z).length := by rw [o0 58 (by decide) (by decide) (by decide), o40 58 (by decide)]; exact l3
  show K (M8.1 0 58) M8
  rw [l8]
  obtain ⟨b1, b2, b3, b4, b5, b6, b7, b8⟩ := a4
  refine k1 q M8 ⟨?_, ?_, ⟨?_, rd_wf b3.2⟩, ?_, ?_, fun q => absurd ?_ q, fun q => absurd ?_ q, fun q => absurd ?_ q⟩ (hiC_tr g2 (hiC_tr lo3 (fun b hb => ⟨by rw [o b (by omega), o5 b (by omega), o4 b (by omega) (by omega)], by rw [m2]⟩)))
  · rw [o0 10 (by decide) (by decide) (by decide), o 9 (by decide), o5 9 (by decide)]; exact b1
  · rw [o0 16 (by decide) (by decide) (by decide), o0 17 (by decide) (by decide) (by decide)]; exact b2
  · show rt M8 0 = enc (rdN z)
    rw [rt0_f (o 1 (by decide)) (o 2 (by decide)) (o 3 (by decide)) (o 4 (by decide)) (o 5 (by decide)), c1]; exact hr4
  · rw [o0 26 (by decide) (by decide) (by decide)]
    exact ⟨b4.1, b4.2.1, fun i x hx => by rw [kb_f (o 10 (by decide)), kb_f (o5 10 (by decide))]; exact b4.2.2 i x hx⟩
  · rw [o 8 (by decide), o5 8 (by decide)]; exact b5
  · rw [e8, w1_no (by decide), e7, w1_no (by decide), e6, w1_at]
  · rw [e8, w1_no (by decide), e7, w1_at]
  · rw [e8, w1_at]
