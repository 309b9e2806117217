/-! the class: the graph, what is made smaller, counts: worked out once for a stamp -/
def grC (r : Bool) : Nat := if r then 154 else 134
noncomputable def grN (r : Bool) (n : NN) : NN := if r then redN 18 n else n
theorem grC_in (r : Bool) : grC r = 134 ∨ grC r = 154 := by cases r; exact Or.inl rfl; exact Or.inr rfl
theorem iCa_g {M : Mem} {S : Nat → N3} {st : Nat} {r : Bool} (h : iCa M S st) : iGr M S st (grC r) r := by cases r; exact h.2.2.2.2.1; exact h.2.2.2.2.2.2
theorem iCa_gr {M M' : Mem} {S : Nat → N3} {st : Nat} {r : Bool} (h : iCa M S st) (e : ∀ b, b < grC r ∨ grC r + 11 < b → M'.1 b = M.1 b) (n : iGr M' S st (grC r) r) : iCa M' S st := by
  obtain ⟨x1, x2, x3, x4, x5, x6, x7⟩ := h
  cases r
  · have lo : ∀ b, b < 134 ∨ 145 < b → M'.1 b = M.1 b := e
    exact ⟨iWt_f x1 (lo _ (by omega)) (lo _ (by omega)) (lo _ (by omega)), iWt_f x2 (lo _ (by omega)) (lo _ (by omega)) (lo _ (by omega)), iPs_f x3 (lo _ (by omega)) (lo _ (by omega)) (lo _ (by omega)) (lo _ (by omega)), iPs_f x4 (lo _ (by omega)) (lo _ (by omega)) (lo _ (by omega)) (lo _ (by omega)), n, iRd_f x6 (fun b h1 h2 => lo b (by omega)), iGr_f x7 (fun b h1 h2 => lo b (by omega))⟩
  · have lo : ∀ b, b < 154 ∨ 165 < b → M'.1 b = M.1 b := e
    exact ⟨iWt_f x1 (lo _ (by omega)) (lo _ (by omega)) (lo _ (by omega)), iWt_f x2 (lo _ (by omega)) (lo _ (by omega)) (lo _ (by omega)), iPs_f x3 (lo _ (by omega)) (lo _ (by omega)) (lo _ (by omega)) (lo _ (by omega)), iPs_f x4 (lo _ (by omega)) (lo _ (by omega)) (lo _ (by omega)) (lo _ (by omega)), iGr_f x5 (fun b h1 h2 => lo b (by omega)), iRd_f x6 (fun b h1 h2 => lo b (by omega)), n⟩
/-- a graph of the net that is now -/
def gNow (M : Mem) (n : NN) (r : Bool) : Prop := gCl M (grC r) (grN r n) ∧ M.1 (grC r) 11 = M.1 50 8
/-- what is made smaller of the net that is now -/
def rNow (M : Mem) (x : N3) : Prop := rdC M x ∧ M.1 146 5 = M.1 50 8
theorem IvC_g {c : Nat} {r : Bool} {M M' : Mem} {z : ZS} (h : IvC c M z) (e : ∀ b, b < grC r ∨ grC r + 11 < b → M'.1 b = M.1 b) (g : gNow M' (zsN z) r) : IvC c M' z := by
  have gi := grC_in r
  obtain ⟨S, st, h⟩ := h
  obtain ⟨a1, a2, ⟨f, s, b1, b2, b3, b4, b5, b6, b7⟩, a4, a5, a6⟩ := id h
  refine IvC_c h (fun b h1 h2 => e b (by omega)) (fun b h1 h2 => e b (by omega)) (iCa_gr (r := r) a6 e (Or.inr ⟨s, b2, ?_, ?_⟩))
  · rw [g.2, e 50 (by omega)]; exact b4
  · have : S s = zs3 z := b5
    rw [this]; exact g.1
theorem X0_grow_c {c : Nat} {r : Bool} {M : Mem} {z : ZS} {K : Mem → Prop} {cc : Nat} (hc : c < 100000) (hcc : (cc = 50 ∧ r = false) ∨ (cc = 147 ∧ r = true)) (h : IvC c M z) (hn : ∃ tp ts, atC M cc (grN r (zsN z)) tp ts) (k : ∀ M', IvC c M' z → gNow M' (zsN z) r → (∀ b, b < grC r ∨ grC r + 11 < b → M'.1 b = M.1 b) → K M') : f_X0_grow (grC r) cc (M.1 50 8) M K := by
  have gi := grC_in r
  obtain ⟨S, st, h⟩ := h
  obtain ⟨a1, a2, ⟨f, s, b1, b2, b3, b4, b5, b6, b7⟩, a4, a5, a6⟩ := id h
  obtain ⟨tp, ts, hn⟩ := hn
  refine X0_grow_sp (t := grC r) (c := cc) (by cases r <;> rfl) (by cases r <;> rfl) (by rcases hcc with ⟨q1, q2⟩ | ⟨q1, q2⟩ <;> rw [q1, q2] <;> decide) hn (fun q => ?_) (fun q M' g1 g2 g3 g4 g5 g6 => ?_)
  · refine k M ⟨S, st, h⟩ ⟨?_, q⟩ (fun _ _ => rfl)
    rcases iCa_g (r := r) a6 with y | ⟨s', y1, y2, y3⟩
    · rw [q, b4] at y; exact absurd y (nI_M (by omega))
    · rw [y2, b4, nI_EQ (by omega) (by omega)] at q
      rw [q, b5] at y3
      exact y3
  · have N : gNow M' (zsN z) r := ⟨⟨g1, fun y => absurd g4 y, fun y => absurd g5 y, fun y => absurd g6 y⟩, by rw [g3, g2.1 50 (by omega)]⟩
    exact k M' (IvC_g (r := r) ⟨S, st, h⟩ g2.1 N) N g2.1
theorem X8_presentGraph_sp {c : Nat} {M : Mem} {z : ZS} {K : Nat → Mem → Prop} (hc : c < 100000) (h : IvC c M z) (k : ∀ M', IvC c M' z → gNow M' (zsN z) false → (∀ b, b < 134 ∨ 145 < b → M'.1 b = M.1 b) → K 134 M') : f_X8_presentGraph M K := by
  obtain ⟨S, st, a1, a2, ⟨f, s, b1, b2, b3, b4, b5, b6, b7⟩, a4⟩ := id h
  unfold f_X8_presentGraph
  exact X0_grow_c (r := false) hc (Or.inl ⟨rfl, rfl⟩) h ⟨_, _, b7⟩ k
theorem X8_smallerGraph_sp {c : Nat} {M : Mem} {z : ZS} {K : Nat → Mem → Prop} (hc : c < 100000) (h : IvC c M z) (hr : rdC M (zs3 z)) (k : ∀ M', IvC c M' z → gNow M' (zsN z) true → rdC M' (zs3 z) → (∀ b, b < 154 ∨ 165 < b → M'.1 b = M.1 b) → K 154 M') : f_X8_smallerGraph M K := by
  unfold f_X8_smallerGraph
  exact X0_grow_c (r := true) hc (Or.inr ⟨rfl, rfl⟩) h ⟨_, _, hr.1⟩ (fun M' a b e => k M' a b (rdC_f hr (fun b h1 h2 => e b (Or.inl (by show b < 154; omega)))) e)
theorem mkS_c {c : Nat} {M : Mem} {z : ZS} {K : Mem → Prop} (hc : c < 100000) (h : IvC c M z) (k : ∀ M', IvC c M' z → rdC M' (zs3 z) → (∀ b, b < 146 ∨ 153 < b → M'.1 b = M.1 b) → K M') : f_X5_makeSmall 50 M K := by
  obtain ⟨S, st, h⟩ := h
  obtain ⟨a1, a2, ⟨f, s, b1, b2, b3, b4, b5, b6, b7⟩, a4, a5, a6⟩ := id h
  refine X5_makeSmall_sp b7 (fun q => ?_) (fun q M' g1 g2 g3 g4 g5 g6 => ?_)
  · refine k M ⟨S, st, h⟩ ?_ (fun _ _ => rfl)
    rcases a6.2.2.2.2.2.1 with y | ⟨s', y1, y2, y3⟩
    · rw [q, b4] at y; exact absurd y (nI_M (by omega))
    · rw [y2, b4, nI_EQ (by omega) (by omega)] at q
      rw [q, b5] at y3
      exact y3
  · have R : rdC M' (zs3 z) := ⟨g1, g2, g4⟩
    obtain ⟨x1, x2, x3, x4, x5, x6, x7⟩ := a6
    refine k M' (IvC_c h (fun b h1 h2 => g5 b (by omega)) (fun b h1 h2 => g5 b (by omega)) ⟨iWt_f x1 (g5 _ (by omega)) (g5 _ (by omega)) (g5 _ (by omega)), iWt_f x2 (g5 _ (by omega)) (g5 _ (by omega)) (g5 _ (by omega)), iPs_f x3 (g5 _ (by omega)) (g5 _ (by omega)) (g5 _ (by omega)) (g5 _ (by omega)), iPs_f x4 (g5 _ (by omega)) (g5 _ (by omega)) (g5 _ (by omega)) (g5 _ (by omega)), iGr_f x5 (fun b h1 h2 => g5 b (by omega)), Or.inr ⟨s, b2, by rw [g3]; exact b4, by rw [b5]; exact R⟩, iGr_f x7 (fun b h1 h2 => g5 b (by omega))⟩) R g5
theorem IvC_sk {c : Nat} {M M' : Mem} {S : Nat → N3} {st : Nat} {z : ZS} (h : IvS c M S st z) (e : ∀ b, 41 ≤ b → b ≤ 123 → M'.1 b = M.1 b) (e2 : ∀ b, 134 ≤ b → b ≤ 165 → M'.1 b = M.1 b) (sk : iSk M' S st (zsA z)) : IvC c M' z := by
  obtain ⟨a1, a2, a3, a4, a5, a6⟩ := h
  exact ⟨S, st, ⟨a1.1, by rw [e 41 (by decide) (by decide)]; exact a1.2⟩, iTp_f a2 (fun b h1 h2 => e b (by omega) (by omega)), iNt_f a3 (fun b h1 h2 => e b (by omega) (by omega)), iPa_f a4 (fun b h1 h2 => e b (by omega) (by omega)), sk, iCa_f a6 (fun b hb => by rcases hb with hb | hb; exact e b (by omega) (by omega); exact e2 b (by omega) (by omega))⟩
/-- counts of the net that is now -/
def cNow (M : Mem) (z : ZS) : Prop := CTL M (zsN z) (zsA z) ∧ M.1 124 12 = M.1 50 8
theorem fC_c {c : Nat} {M : Mem} {z : ZS} {K : Mem → Prop} (hc : c < 100000) (h : IvC c M z) (k : ∀ M', IvC c M' z → cNow M' z → (∀ b, b < 124 ∨ 133 < b → M'.1 b = M.1 b) → K M') : f_X6_findCounts 50 M K := by
  obtain ⟨S, st, h⟩ := h
  obtain ⟨a1, a2, ⟨f, s, b1, b2, b3, b4, b5, b6, b7⟩, a4, a5, a6⟩ := id h
  refine X6_findCounts_sp (by decide) b7 a5.1 a5.2.1 (fun q => ?_) (fun q M' g1 g2 g3 g4 g5 g6 => ?_)
  · refine k M ⟨S, st, h⟩ ⟨?_, q⟩ (fun _ _ => rfl)
    rcases a5.2.2 with y | ⟨s', y1, y2, y3⟩
    · rw [q, b4] at y; exact absurd y (nI_M (by omega))
    · rw [y2, b4, nI_EQ (by omega) (by omega)] at q
      rw [q, b5] at y3
      exact y3
  · have lo : ∀ b, b < 124 ∨ 133 < b → M'.1 b = M.1 b := fun b hb => g5 b (by omega) (by omega) (by omega) (by omega)
    have C : CTL M' (zsN z) (zsA z) := by
      rcases g1 with y | ⟨x, y1, y2, y3⟩
      · exact Or.inl y
      · exact Or.inr ⟨x, y1, y2, y3, fun y => absurd g3 y⟩
    refine k M' (IvC_sk h (fun b h1 h2 => lo b (by omega)) (fun b h1 h2 => lo b (by omega)) ⟨fun p hp => ?_, a5.2.1, Or.inr ⟨s, b2, ?_, ?_⟩⟩) ⟨C, ?_⟩ lo
    · rw [g5 125 (by decide) (by decide) (by decide) (by decide)]; exact a5.1 p hp
    · rw [g2]; exact b4
    · rw [b5]; exact C
    · rw [g2, lo 50 (by decide)]
theorem fO_c {c : Nat} {M : Mem} {z : ZS} {x : Nat → Nat} {K : Int32 → Mem → Prop} (hc : c < 100000) (h : IvC c M z) (h11 : M.1 124 12 = M.1 50 8) (hx : M.1 124 9 = nI (sm x 8) ∧ (∀ s, s < 8 → M.1 129 s = nI (x s)) ∧ BX (zsN z) (zsA z) x ∧ (M.1 124 13 ≠ 0 → LN M (zsN z) x)) (k : ∀ M', IvC c M' z → LN M' (zsN z) x → M'.1 124 9 = nI (sm x 8) → (∀ b, b < 124 ∨ 133 < b → M'.1 b = M.1 b) → K (bI (pB (okU (zsN z) x (sm x 8) (fun _ => 0)))) M') : f_X6_findOrder 50 M K := by
  obtain ⟨S, st, h⟩ := h
  obtain ⟨a1, a2, ⟨f, s, b1, b2, b3, b4, b5, b6, b7⟩, a4, a5, a6⟩ := id h
  obtain ⟨x1, x2, x3, x4⟩ := hx
  refine X6_findOrder_sp (by decide) b7 x3.2.2.1 x1 x2 x4 (fun M' g1 g2 g3 g4 g5 => ?_)
  have lo : ∀ b, b < 124 ∨ 133 < b → M'.1 b = M.1 b := fun b hb => g4 b (by omega) (by omega) (by omega) (by omega) (by omega)
  refine k M' (IvC_sk h (fun b h1 h2 => lo b (by omega)) (fun b h1 h2 => lo b (by omega)) ⟨fun p hp => ?_, a5.2.1, Or.inr ⟨s, b2, ?_, Or.inr ⟨x, ?_, fun i hi => ?_, ?_, fun _ => ?_⟩⟩⟩) g1 ?_ lo
  · rw [g4 125 (by decide) (by decide) (by decide) (by decide) (by decide)]; exact a5.1 p hp
  · rw [g3 12 (by decide) (by decide), h11]; exact b4
  · rw [g3 9 (by decide) (by decide)]; exact x1
  · rw [g4 129 (by decide) (by decide) (by decide) (by decide) (by decide)]; exact x2 i hi
  · rw [b5]; exact x3
  · rw [b5]; exact g1
  · rw [g3 9 (by decide) (by decide)]; exact x1
theorem cB_H {M M' : Mem} {t : Nat} {n : NN} (h : cB M t n) (f : frH t M M') : cB M' t n := by
  unfold cB cL cG at *
  rw [f.2.1 12 (by decide) (by decide) (by decide) (by decide), f.2.1 13 (by decide) (by decide) (by decide) (by decide), f.1 (t + 1) (by omega) (by omega) (by omega) (by omega) (by omega) (by omega), f.1 (t + 2) (by omega) (by omega) (by omega) (by omega) (by omega) (by omega), f.1 (t + 3) (by omega) (by omega) (by omega) (by omega) (by omega) (by omega), f.1 (t + 4) (by omega) (by omega) (by omega) (by omega) (by omega) (by omega), f.1 (t + 5) (by omega) (by omega) (by omega) (by omega) (by omega) (by omega), f.1 (t + 6) (by omega) (by omega) (by omega) (by omega) (by omega) (by omega)]
  exact h
theorem gk_1 (n : NN) {tp ts : Nat} (w : WF n tp ts) : 1 ≤ gk (bfs n) := by
  have a : gk (gst n) ≤ gk (bfs n) := (bfs_v w).2.1.1
  have e : gk (gst n) = 1 := rfl
  omega
theorem fH_c {c : Nat} {M : Mem} {z : ZS} {K : Mem → Prop} {tp ts : Nat} (w : WF (zsN z) tp ts) (h : IvC c M z) (hg : gNow M (zsN z) false) (k : ∀ M', IvC c M' z → gNow M' (zsN z) false → hO M' 134 (bfs (zsN z)) → (∀ b, b < 134 ∨ 145 < b → M'.1 b = M.1 b) → K M') : f_X0_findHomes 134 M K := by
  obtain ⟨⟨g1, g2, g3, g4⟩, g5⟩ := hg
  have g1 : cB M 134 (zsN z) := g1
  have bv := bfs_v w
  refine X0_findHomes_sp (t := 134) (g := bfs (zsN z)) rfl rfl bv.1 (gk_1 _ w) bv.2.2 g1.1.1 (fun e he => g1.2.1 e (by omega)) g2 g3 (fun M' a b d e => ?_)
  have lo : ∀ b, b < 134 ∨ 145 < b → M'.1 b = M.1 b := fun x hx => b.1 x (by omega) (by omega) (by omega) (by omega) (by omega) (by omega)
  have N : gNow M' (zsN z) false := ⟨⟨cB_H g1 b, e, fun _ => a, fun y => by rw [show M'.1 (grC false) 17 = M.1 134 17 from d] at y ⊢; exact g4 y⟩, by rw [show M'.1 (grC false) 11 = M.1 134 11 from b.2.1 11 (by decide) (by decide) (by decide) (by decide), lo 50 (by decide)]; exact g5⟩
  exact k M' (IvC_g (r := false) h lo N) N a lo
theorem lv_c {c : Nat} {r : Bool} {M : Mem} {z : ZS} {K : Int32 → Mem → Prop} {cc tp ts : Nat} (hcc : (cc = 50 ∧ r = false) ∨ (cc = 147 ∧ r = true)) (h : IvC c M z) (hg : gNow M (zsN z) r) (hn : atC M cc (grN r (zsN z)) tp ts) (k : ∀ M', IvC c M' z → (∀ b, b < grC r ∨ grC r + 11 < b → M'.1 b = M.1 b) → K (nI (lvB (grN r (zsN z)) (bfs (grN r (zsN z))))) M') : f_X0_liveOnes (grC r) cc M K := by
  have gi := grC_in r
  obtain ⟨⟨g1, g2, g3, g4⟩, g5⟩ := hg
  have bv := bfs_v hn.2.2.2
  refine X0_liveOnes_sp (t := grC r) (g := bfs (grN r (zsN z))) (by cases r <;> rfl) (by cases r <;> rfl) bv.1 bv.2.2 (by rcases hcc with ⟨q1, q2⟩ | ⟨q1, q2⟩ <;> rw [q1, q2] <;> decide) hn g1.1.1 (fun e he => g1.2.1 e (by omega)) (fun j hj => g1.2.2.1 j hj) g2 g4 (fun M' a b d e f => ?_)
  have lo : ∀ b, b < grC r ∨ grC r + 11 < b → M'.1 b = M.1 b := fun x hx => b.1 x (by omega) (by omega) (by omega) (by omega) (by omega) (by omega)
  refine k M' (IvC_g (r := r) h lo ⟨⟨cB_H g1 b, f, fun y => ?_, fun _ => a⟩, ?_⟩) lo
  · rw [d] at y
    unfold hO
    rw [d, e]; exact g3 y
  · rw [b.2.1 11 (by decide) (by decide) (by decide) (by decide), lo 50 (by omega)]; exact g5
