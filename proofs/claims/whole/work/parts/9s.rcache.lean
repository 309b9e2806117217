/-! the reference: what is laid once -/
theorem lS_r {M : Mem} {z : ZS} {K : Mem → Prop} (h : IvR M z) (k : ∀ M', IvR M' z → rSmP M' (zsN z) → hiC M M' → K M') : f_X9_laySums M K := by
  obtain ⟨hn, w⟩ := h.2.2.1
  refine X9_laySums_sp hn w (fun q => (rSmP_of hn w).mpr (h.2.2.2.2.2.1 q)) (fun M' a b d e f => ?_)
  have hr : rt M' 0 = rt M 0 := rt0_f (e 1 (by decide) (by decide) (by decide) (by decide) (by decide) (by decide) (by decide)) (e 2 (by decide) (by decide) (by decide) (by decide) (by decide) (by decide) (by decide)) (e 3 (by decide) (by decide) (by decide) (by decide) (by decide) (by decide) (by decide)) (e 4 (by decide) (by decide) (by decide) (by decide) (by decide) (by decide) (by decide)) (e 5 (by decide) (by decide) (by decide) (by decide) (by decide) (by decide) (by decide)) 0
  have sm' : rSmP M' (zsN z) := (rSmP_of (by rw [hr]; exact hn) w).mp a
  refine k M' (IvR_k h (fun j hj => d j (by omega)) hr (e 8 (by decide) (by decide) (by decide) (by decide) (by decide) (by decide) (by decide)) (e 9 (by decide) (by decide) (by decide) (by decide) (by decide) (by decide) (by decide)) (e 10 (by decide) (by decide) (by decide) (by decide) (by decide) (by decide) (by decide)) (fun _ => sm') (fun q => ?_) (fun q => ?_)) sm' (fun b hb => ⟨e b (by omega) (by omega) (by omega) (by omega) (by omega) (by omega) (by omega), f b (by omega) (by omega)⟩)
  · rw [d 23 (by decide)] at q
    exact rGr_f (h.2.2.2.2.2.2.1 q) (fun b h1 h2 _ _ _ _ => e b (by omega) (by omega) (by omega) (by omega) (by omega) (by omega) (by omega))
  · rw [d 24 (by decide)] at q
    exact RCt_f (h.2.2.2.2.2.2.2 q) (d 40 (by decide)) (e 20 (by decide) (by decide) (by decide) (by decide) (by decide) (by decide) (by decide)) (e 22 (by decide) (by decide) (by decide) (by decide) (by decide) (by decide) (by decide)) (e 23 (by decide) (by decide) (by decide) (by decide) (by decide) (by decide) (by decide))
theorem lN_r {M : Mem} {z : ZS} {K : Mem → Prop} (h : IvR M z) (k : ∀ M', IvR M' z → rGr M' (zsN z) → hiC M M' → K M') : f_X9_layNow M K := by
  obtain ⟨hn, w⟩ := h.2.2.1
  have bv := bfs_v w
  unfold f_X9_layNow
  refine ⟨fun q M2 e2 => ?_, fun q => k M h (h.2.2.2.2.2.2.1 q) (hiC_rf M)⟩
  have hn2 : rt M2 0 = enc (zsN z) := by rw [e2]; exact hn
  refine X9_layGraph_sp (o := 0) (by decide) w hn2 (fun M3 a3 f3 => ?_)
  have t3 : th M3 0 (bfs (zsN z)) := ⟨a3.1.1, fun e he => a3.2.1 e (by omega)⟩
  refine X9_layHome_sp bv.1 (gk_1 _ w) bv.2.2 t3 (fun M4 a4 f4 => ?_)
  have o : ∀ b, b < 24 ∨ 36 < b → b ≠ 0 → M4.1 b = M.1 b := fun b hb h0 => by rw [f4.1 b (by omega) (by omega) (by omega) (by omega), f3.1 b (by omega) (by omega) (by omega) (by omega) (by omega) (by omega) (by omega) (by omega) (by omega), e2, w1_ne h0]
  have o0 : ∀ j, j ≠ 23 → M4.1 0 j = M.1 0 j := fun j hj => by rw [f4.1 0 (by decide) (by decide) (by decide) (by decide), f3.1 0 (by decide) (by decide) (by decide) (by decide) (by decide) (by decide) (by decide) (by decide) (by decide), e2, w1_no hj]
  have gr : rGr M4 (zsN z) := by
    refine ⟨?_, a4⟩
    unfold rB rL rG at *
    rw [f4.1 24 (by decide) (by decide) (by decide) (by decide), f4.1 25 (by decide) (by decide) (by decide) (by decide), f4.1 26 (by decide) (by decide) (by decide) (by decide), f4.1 27 (by decide) (by decide) (by decide) (by decide), f4.1 28 (by decide) (by decide) (by decide) (by decide), f4.1 29 (by decide) (by decide) (by decide) (by decide), f4.1 30 (by decide) (by decide) (by decide) (by decide), f4.1 33 (by decide) (by decide) (by decide) (by decide)]
    exact a3
  refine k M4 (IvR_k h (fun j hj => o0 j (by omega)) (rt0_f (o 1 (by decide) (by decide)) (o 2 (by decide) (by decide)) (o 3 (by decide) (by decide)) (o 4 (by decide) (by decide)) (o 5 (by decide) (by decide)) 0) (o 8 (by decide) (by decide)) (o 9 (by decide) (by decide)) (o 10 (by decide) (by decide)) (fun q => ?_) (fun _ => gr) (fun q => ?_)) gr (fun b hb => ⟨o b (by omega) (by omega), by rw [f4.2, f3.2.1, e2]; rfl⟩)
  · rw [o0 22 (by decide)] at q
    exact rSmP_f (h.2.2.2.2.2.1 q) (fun b h1 h2 => o b (by omega) (by omega))
  · rw [o0 24 (by decide)] at q
    exact RCt_f (h.2.2.2.2.2.2.2 q) (o0 40 (by decide)) (o 20 (by decide) (by decide)) (o 22 (by decide) (by decide)) (o 23 (by decide) (by decide))
theorem lC_r {M : Mem} {z : ZS} {K : Mem → Prop} (h : IvR M z) (k : ∀ M', IvR M' z → RCt M' (zsN z) (zsA z) → hiC M M' → K M') : f_X9_layCounts M K := by
  obtain ⟨hn, w⟩ := h.2.2.1
  refine X9_layCounts_sp hn w h.2.2.2.2.1 h.2.2.2.2.2.2.2 (fun M' a b d e f => ?_)
  have o : ∀ b, b < 19 ∨ 23 < b → b ≠ 0 → M'.1 b = M.1 b := fun b hb h0 => e b h0 (by omega) (by omega) (by omega) (by omega) (by omega)
  refine k M' (IvR_k h (fun j hj => d j (by omega) (by omega) (by omega)) (rt0_f (o 1 (by decide) (by decide)) (o 2 (by decide) (by decide)) (o 3 (by decide) (by decide)) (o 4 (by decide) (by decide)) (o 5 (by decide) (by decide)) 0) (o 8 (by decide) (by decide)) (o 9 (by decide) (by decide)) (o 10 (by decide) (by decide)) (fun q => ?_) (fun q => ?_) (fun _ => a)) a (fun b hb => ⟨o b (by omega) (by omega), by rw [f]⟩)
  · rw [d 22 (by decide) (by decide) (by decide)] at q
    exact rSmP_f (h.2.2.2.2.2.1 q) (fun b h1 h2 => o b (by omega) (by omega))
  · rw [d 23 (by decide) (by decide) (by decide)] at q
    exact rGr_f (h.2.2.2.2.2.2.1 q) (fun b h1 h2 _ _ _ _ => o b (by omega) (by omega))
def rdR (M : Mem) (n : NN) : Prop := rt M 1 = enc (redN 18 n) ∧ M.1 0 58 = nI (redL 18 n).length ∧ rlsAt (M.1 37) (M.1 38) (M.1 39) 0 (redL 18 n)
theorem lR_r {M : Mem} {z : ZS} {K : Mem → Prop} (h : IvR M z) (k : ∀ M', IvR M' z → rdR M' (zsN z) → hiC M M' → K M') : f_X9_layReduced M K := by
  obtain ⟨hn, w⟩ := h.2.2.1
  refine X9_layReduced_sp hn w (fun M' a1 a2 a3 a4 a5 a6 a7 => ?_)
  have o0 : ∀ j, j ≠ 58 → M'.1 0 j = M.1 0 j := fun j hj => by rw [a4, upd_no hj]
  have o : ∀ b, 5 < b → b < 37 ∨ 39 < b → M'.1 b = M.1 b := fun b h1 h2 => a6 b h1 (by omega) (by omega) (by omega)
  refine k M' (IvR_k h (fun j hj => o0 j (by omega)) a2 (o 8 (by decide) (by decide)) (o 9 (by decide) (by decide)) (o 10 (by decide) (by decide)) (fun q => ?_) (fun q => ?_) (fun q => ?_)) ⟨a1, by rw [a4, upd_at], a5⟩ (fun b hb => ⟨o b (by omega) (by omega), by rw [a7]⟩)
  · rw [o0 22 (by decide)] at q
    exact rSmP_f (h.2.2.2.2.2.1 q) (fun b h1 h2 => o b (by omega) (by omega))
  · rw [o0 23 (by decide)] at q
    exact rGr_f (h.2.2.2.2.2.2.1 q) (fun b h1 h2 _ _ _ _ => o b (by omega) (by omega))
  · rw [o0 24 (by decide)] at q
    exact RCt_f (h.2.2.2.2.2.2.2 q) (o0 40 (by decide)) (o 20 (by decide) (by decide)) (o 22 (by decide) (by decide)) (o 23 (by decide) (by decide))
theorem rk_r {k0 : Nat} {M : Mem} {z : ZS} {K : Int32 → Mem → Prop} (h : IvR M z) (hk : IsRk (zsN z) k0) (k : ∀ M', IvR M' z → hiC M M' → K (nI k0) M') : f_X9_rank M K := by
  obtain ⟨hn, w⟩ := h.2.2.1
  refine X9_rank_sp hn w hk (fun M' f => ?_)
  have o : ∀ b, b ≠ 13 → M'.1 b = M.1 b := f.1
  refine k M' (IvR_k h (fun j hj => by rw [o 0 (by decide)]) (rt0_f (o 1 (by decide)) (o 2 (by decide)) (o 3 (by decide)) (o 4 (by decide)) (o 5 (by decide)) 0) (o 8 (by decide)) (o 9 (by decide)) (o 10 (by decide)) (fun q => ?_) (fun q => ?_) (fun q => ?_)) (fun b hb => ⟨o b (by omega), f.2 b (by omega) (by omega)⟩)
  · rw [o 0 (by decide)] at q
    exact rSmP_f (h.2.2.2.2.2.1 q) (fun b h1 h2 => o b (by omega))
  · rw [o 0 (by decide)] at q
    exact rGr_f (h.2.2.2.2.2.2.1 q) (fun b h1 h2 _ _ _ _ => o b (by omega))
  · rw [o 0 (by decide)] at q
    exact RCt_f (h.2.2.2.2.2.2.2 q) (by rw [o 0 (by decide)]) (o 20 (by decide)) (o 22 (by decide)) (o 23 (by decide))
theorem rk_c {c : Nat} {M : Mem} {z : ZS} {K : Int32 → Mem → Prop} (h : IvC c M z) (k : ∀ M' k0, IsRk (zsN z) k0 → IvC c M' z → loC M M' → K (nI k0) M') : f_X7_rankOf 104 50 M K := by
  have hn := IvC_w h
  obtain ⟨S, st, h⟩ := h
  obtain ⟨a1, a2, a3, a4, a5, a6⟩ := id h
  refine X7_rankF_sp (t := 104) rfl (Or.inl (by decide)) hn a6.1.1 (fun M' k0 i f => ?_)
  have o : ∀ b, b ≠ 106 → M'.1 b = M.1 b := f.1
  obtain ⟨x1, x2, x3, x4, x5, x6, x7⟩ := a6
  exact k M' k0 i (IvC_c h (fun b h1 h2 => o b (by omega)) (fun b h1 h2 => o b (by omega)) ⟨iWt_f x1 (o _ (by omega)) (o _ (by omega)) (o _ (by omega)), iWt_f x2 (o _ (by omega)) (o _ (by omega)) (o _ (by omega)), iPs_f x3 (o _ (by omega)) (o _ (by omega)) (o _ (by omega)) (o _ (by omega)), iPs_f x4 (o _ (by omega)) (o _ (by omega)) (o _ (by omega)) (o _ (by omega)), iGr_f x5 (fun b h1 h2 => o b (by omega)), iRd_f x6 (fun b h1 h2 => o b (by omega)), iGr_f x7 (fun b h1 h2 => o b (by omega))⟩) (fun b hb => o b (by omega))
