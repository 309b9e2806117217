/-! what holds between two calls, of the class: stamps name nets -/
/-- arcs, places and steps alone -/
def arN (n : NN) : NN := (n.1, n.2.1, fun _ => 0, n.2.2.2.1, n.2.2.2.2)
theorem CH_ar {n n' : NN} (h : arN n = arN n') (w : Bool) : CH n w = CH n' w := by
  have : CH (arN n) w = CH (arN n') w := by rw [h]
  exact this
theorem unM_ar {n n' : NN} (h : arN n = arN n') (w : Bool) : unM n w = unM n' w := by
  have : unM (arN n) w = unM (arN n') w := by rw [h]
  exact this
theorem akN_ar {n n' : NN} (h : arN n = arN n') (w : Bool) : akN n w = akN n' w := by
  have : akN (arN n) w = akN (arN n') w := by rw [h]
  exact this
theorem lsN_ar {n n' : NN} (h : arN n = arN n') (w : Bool) : lsN n w = lsN n' w := by
  have : lsN (arN n) w = lsN (arN n') w := by rw [h]
  exact this
/-- a net in a cell, with its stamps -/
def iNt (M : Mem) (S : Nat → N3) (st t : Nat) (x : N3) : Prop := ∃ f s, f ≤ st ∧ s ≤ st ∧ M.1 t 7 = nI f ∧ M.1 t 8 = nI s ∧ S s = x ∧ arN (S f).1 = arN x.1 ∧ atC M t x.1 x.2.1 x.2.2
def iWt (M : Mem) (S : Nat → N3) (st t : Nat) (w : Bool) : Prop := M.1 t 0 = bI w ∧ (M.1 t 7 = -1 ∨ ∃ f, f ≤ st ∧ M.1 t 7 = nI f ∧ lsW M t (CH (S f).1 w) (unM (S f).1 w) 1024)
def plS (M : Mem) (t : Nat) (n : NN) (w : Bool) : Prop := (∀ s, s < 8 → M.1 (t + 1) s = nI (akN n w s) ∧ akN n w s < 1024) ∧ (∀ s, s < 8 → M.1 (t + 2) s = nI (akN n (!w) s) ∧ akN n (!w) s < 1024)
def iPs (M : Mem) (S : Nat → N3) (st t : Nat) (w : Bool) : Prop := M.1 t 0 = bI w ∧ (M.1 t 6 = -1 ∨ ∃ f, f ≤ st ∧ M.1 t 6 = nI f ∧ plS M t (S f).1 w ∧ (M.1 t 7 ≠ 0 → enumOK (M.1 t 5) (M.1 (t + 3)) 0 (lsN (S f).1 w) 1024))
def CTL (M : Mem) (n : NN) (am : Nat → Nat) : Prop := (M.1 124 9 = -1 ∧ BN n am) ∨ ∃ x, M.1 124 9 = nI (sm x 8) ∧ (∀ s, s < 8 → M.1 129 s = nI (x s)) ∧ BX n am x ∧ (M.1 124 13 ≠ 0 → LN M n x)
def iSk (M : Mem) (S : Nat → N3) (st : Nat) (am : Nat → Nat) : Prop := (∀ p, p < 10 → M.1 125 p = nI (am p)) ∧ (∀ p, am p ≤ 999) ∧ (M.1 124 12 = -1 ∨ ∃ s, s ≤ st ∧ M.1 124 12 = nI s ∧ CTL M (S s).1 am)
def gCl (M : Mem) (t : Nat) (n : NN) : Prop := cB M t n ∧ (M.1 t 15 ≠ 0 → bL M t (bfs n)) ∧ (M.1 t 16 ≠ -1 → hO M t (bfs n)) ∧ (M.1 t 17 ≠ -1 → M.1 t 17 = nI (lvB n (bfs n)))
def iGr (M : Mem) (S : Nat → N3) (st t : Nat) (r : Bool) : Prop := M.1 t 11 = -1 ∨ ∃ s, s ≤ st ∧ M.1 t 11 = nI s ∧ gCl M t (if r then redN 18 (S s).1 else (S s).1)
def rdC (M : Mem) (x : N3) : Prop := atC M 147 (redN 18 x.1) x.2.1 x.2.2 ∧ M.1 146 4 = nI (redL 18 x.1).length ∧ rlsAt (M.1 151) (M.1 152) (M.1 153) 0 (redL 18 x.1)
def iRd (M : Mem) (S : Nat → N3) (st : Nat) : Prop := M.1 146 5 = -1 ∨ ∃ s, s ≤ st ∧ M.1 146 5 = nI s ∧ rdC M (S s)
def iPa (M : Mem) (S : Nat → N3) (st : Nat) (P : List N3) : Prop := ∃ f, f < 12 ∧ M.1 54 1 = nI f ∧ M.1 54 2 = nI P.length ∧ P.length ≤ 12 ∧ ∀ i x, P[i]? = some x → iNt M S st (56 + 4 * ((f + i) % 12)) x
def iTp (M : Mem) (z : ZS) : Prop := tpC M (zsT z) (zsL z) ∧ M.1 42 4 = zsK z ∧ M.1 42 5 = zsF z
def iCa (M : Mem) (S : Nat → N3) (st : Nat) : Prop := iWt M S st 104 false ∧ iWt M S st 109 true ∧ iPs M S st 114 false ∧ iPs M S st 119 true ∧ iGr M S st 134 false ∧ iRd M S st ∧ iGr M S st 154 true
def IvS (c : Nat) (M : Mem) (S : Nat → N3) (st : Nat) (z : ZS) : Prop := (st ≤ c ∧ M.1 41 12 = nI st) ∧ iTp M z ∧ iNt M S st 50 (zs3 z) ∧ iPa M S st (zsP z) ∧ iSk M S st (zsA z) ∧ iCa M S st
def IvC (c : Nat) (M : Mem) (z : ZS) : Prop := ∃ S st, IvS c M S st z
/- frames -/
theorem iNt_f {M M' : Mem} {S : Nat → N3} {st t : Nat} {x : N3} (h : iNt M S st t x) (e : ∀ b, t ≤ b → b ≤ t + 3 → M'.1 b = M.1 b) : iNt M' S st t x := by
  obtain ⟨f, s, h1, h2, h3, h4, h5, h6, h7⟩ := h
  refine ⟨f, s, h1, h2, ?_, ?_, h5, h6, atC_fr h7 (e _ (by omega) (by omega)) (e _ (by omega) (by omega)) (e _ (by omega) (by omega)) (e _ (by omega) (by omega))⟩
  · rw [e t (by omega) (by omega)]; exact h3
  · rw [e t (by omega) (by omega)]; exact h4
theorem lsW_f {M M' : Mem} {t : Nat} {C : Nat → Nat → Int} {U b : Nat} (h : lsW M t C U b) (e0 : M'.1 t = M.1 t) (e3 : M'.1 (t + 3) = M.1 (t + 3)) (e4 : M'.1 (t + 4) = M.1 (t + 4)) : lsW M' t C U b := by
  unfold lsW at *
  rw [e0, e3, e4]; exact h
theorem iWt_f {M M' : Mem} {S : Nat → N3} {st t : Nat} {w : Bool} (h : iWt M S st t w) (e0 : M'.1 t = M.1 t) (e3 : M'.1 (t + 3) = M.1 (t + 3)) (e4 : M'.1 (t + 4) = M.1 (t + 4)) : iWt M' S st t w := by
  unfold iWt lsW at *
  rw [e0, e3, e4]; exact h
theorem plS_f {M M' : Mem} {n : NN} {t : Nat} {w : Bool} (h : plS M t n w) (e1 : M'.1 (t + 1) = M.1 (t + 1)) (e2 : M'.1 (t + 2) = M.1 (t + 2)) : plS M' t n w := by
  unfold plS at *
  rw [e1, e2]; exact h
theorem iPs_f {M M' : Mem} {S : Nat → N3} {st t : Nat} {w : Bool} (h : iPs M S st t w) (e0 : M'.1 t = M.1 t) (e1 : M'.1 (t + 1) = M.1 (t + 1)) (e2 : M'.1 (t + 2) = M.1 (t + 2)) (e3 : M'.1 (t + 3) = M.1 (t + 3)) : iPs M' S st t w := by
  unfold iPs plS at *
  rw [e0, e1, e2, e3]; exact h
theorem CTL_f {M M' : Mem} {n : NN} {am : Nat → Nat} (h : CTL M n am) (e0 : M'.1 124 = M.1 124) (e1 : M'.1 129 = M.1 129) (e2 : M'.1 130 = M.1 130) : CTL M' n am := by
  unfold CTL LN at *
  rw [e0, e1, e2]; exact h
theorem iSk_f {M M' : Mem} {S : Nat → N3} {st : Nat} {am : Nat → Nat} (h : iSk M S st am) (e : ∀ b, 124 ≤ b → b ≤ 130 → M'.1 b = M.1 b) : iSk M' S st am := by
  unfold iSk CTL LN at *
  rw [e 124 (by decide) (by decide), e 125 (by decide) (by decide), e 129 (by decide) (by decide), e 130 (by decide) (by decide)]; exact h
theorem gCl_f {M M' : Mem} {t : Nat} {n : NN} (h : gCl M t n) (e : ∀ b, t ≤ b → b ≤ t + 11 → M'.1 b = M.1 b) : gCl M' t n := by
  unfold gCl cB cL cG bL hO at *
  rw [e t (by omega) (by omega), e (t + 1) (by omega) (by omega), e (t + 2) (by omega) (by omega), e (t + 3) (by omega) (by omega), e (t + 4) (by omega) (by omega), e (t + 5) (by omega) (by omega), e (t + 6) (by omega) (by omega), e (t + 7) (by omega) (by omega), e (t + 8) (by omega) (by omega), e (t + 11) (by omega) (by omega)]
  exact h
theorem iGr_f {M M' : Mem} {S : Nat → N3} {st t : Nat} {r : Bool} (h : iGr M S st t r) (e : ∀ b, t ≤ b → b ≤ t + 11 → M'.1 b = M.1 b) : iGr M' S st t r := by
  unfold iGr
  rw [e t (by omega) (by omega)]
  rcases h with h | ⟨s, h1, h2, h3⟩
  · exact Or.inl h
  · exact Or.inr ⟨s, h1, h2, gCl_f h3 e⟩
theorem rdC_f {M M' : Mem} {x : N3} (h : rdC M x) (e : ∀ b, 146 ≤ b → b ≤ 153 → M'.1 b = M.1 b) : rdC M' x := by
  unfold rdC at *
  rw [e 146 (by decide) (by decide), e 151 (by decide) (by decide), e 152 (by decide) (by decide), e 153 (by decide) (by decide)]
  exact ⟨atC_fr h.1 (e _ (by decide) (by decide)) (e _ (by decide) (by decide)) (e _ (by decide) (by decide)) (e _ (by decide) (by decide)), h.2⟩
theorem iRd_f {M M' : Mem} {S : Nat → N3} {st : Nat} (h : iRd M S st) (e : ∀ b, 146 ≤ b → b ≤ 153 → M'.1 b = M.1 b) : iRd M' S st := by
  unfold iRd
  rw [e 146 (by decide) (by decide)]
  rcases h with h | ⟨s, h1, h2, h3⟩
  · exact Or.inl h
  · exact Or.inr ⟨s, h1, h2, rdC_f h3 e⟩
theorem iPa_f {M M' : Mem} {S : Nat → N3} {st : Nat} {P : List N3} (h : iPa M S st P) (e : ∀ b, 54 ≤ b → b ≤ 103 → M'.1 b = M.1 b) : iPa M' S st P := by
  obtain ⟨f, h1, h2, h3, h4, h5⟩ := h
  refine ⟨f, h1, ?_, ?_, h4, fun i x hx => iNt_f (h5 i x hx) (fun b q1 q2 => e b (by omega) (by have := Nat.mod_lt (f + i) (show 0 < 12 by decide); omega))⟩
  · rw [e 54 (by decide) (by decide)]; exact h2
  · rw [e 54 (by decide) (by decide)]; exact h3
theorem iTp_f {M M' : Mem} {z : ZS} (h : iTp M z) (e : ∀ b, 42 ≤ b → b ≤ 43 → M'.1 b = M.1 b) : iTp M' z := by
  unfold iTp tpC at *
  rw [e 42 (by decide) (by decide), e 43 (by decide) (by decide)]; exact h
theorem iCa_f {M M' : Mem} {S : Nat → N3} {st : Nat} (h : iCa M S st) (e : ∀ b, (104 ≤ b ∧ b ≤ 123) ∨ (134 ≤ b ∧ b ≤ 165) → M'.1 b = M.1 b) : iCa M' S st :=
  ⟨iWt_f h.1 (e _ (by omega)) (e _ (by omega)) (e _ (by omega)), iWt_f h.2.1 (e _ (by omega)) (e _ (by omega)) (e _ (by omega)), iPs_f h.2.2.1 (e _ (by omega)) (e _ (by omega)) (e _ (by omega)) (e _ (by omega)), iPs_f h.2.2.2.1 (e _ (by omega)) (e _ (by omega)) (e _ (by omega)) (e _ (by omega)), iGr_f h.2.2.2.2.1 (fun b h1 h2 => e b (by omega)), iRd_f h.2.2.2.2.2.1 (fun b h1 h2 => e b (by omega)), iGr_f h.2.2.2.2.2.2 (fun b h1 h2 => e b (by omega))⟩
theorem IvC_hi {c : Nat} {M M' : Mem} {z : ZS} (h : IvC c M z) (f : hiC M M') : IvC c M' z := by
  obtain ⟨S, st, a1, a2, a3, a4, a5, a6⟩ := h
  exact ⟨S, st, ⟨a1.1, by rw [(f 41 (by decide)).1]; exact a1.2⟩, iTp_f a2 (fun b h1 h2 => (f b (by omega)).1), iNt_f a3 (fun b h1 h2 => (f b (by omega)).1), iPa_f a4 (fun b h1 h2 => (f b (by omega)).1), iSk_f a5 (fun b h1 h2 => (f b (by omega)).1), iCa_f a6 (fun b hb => (f b (by omega)).1)⟩
theorem IvC_up {c c' : Nat} {M : Mem} {z : ZS} (h : IvC c M z) (hc : c ≤ c') : IvC c' M z := by
  obtain ⟨S, st, a1, a⟩ := h
  exact ⟨S, st, ⟨by omega, a1.2⟩, a⟩
/- a new stamp -/
theorem iNt_s {M : Mem} {S S' : Nat → N3} {st st' t : Nat} {x : N3} (h : iNt M S st t x) (hS : ∀ i, i ≤ st → S' i = S i) (hst : st ≤ st') : iNt M S' st' t x := by
  obtain ⟨f, s, h1, h2, h3, h4, h5, h6, h7⟩ := h
  exact ⟨f, s, by omega, by omega, h3, h4, by rw [hS s h2]; exact h5, by rw [hS f h1]; exact h6, h7⟩
theorem iWt_s {M : Mem} {S S' : Nat → N3} {st st' t : Nat} {w : Bool} (h : iWt M S st t w) (hS : ∀ i, i ≤ st → S' i = S i) (hst : st ≤ st') : iWt M S' st' t w := by
  refine ⟨h.1, ?_⟩
  rcases h.2 with h | ⟨f, h1, h2, h3⟩
  · exact Or.inl h
  · exact Or.inr ⟨f, by omega, h2, by rw [hS f h1]; exact h3⟩
theorem iPs_s {M : Mem} {S S' : Nat → N3} {st st' t : Nat} {w : Bool} (h : iPs M S st t w) (hS : ∀ i, i ≤ st → S' i = S i) (hst : st ≤ st') : iPs M S' st' t w := by
  refine ⟨h.1, ?_⟩
  rcases h.2 with h | ⟨f, h1, h2, h3⟩
  · exact Or.inl h
  · exact Or.inr ⟨f, by omega, h2, by rw [hS f h1]; exact h3⟩
theorem iSk_s {M : Mem} {S S' : Nat → N3} {st st' : Nat} {am : Nat → Nat} (h : iSk M S st am) (hS : ∀ i, i ≤ st → S' i = S i) (hst : st ≤ st') : iSk M S' st' am := by
  refine ⟨h.1, h.2.1, ?_⟩
  rcases h.2.2 with h | ⟨f, h1, h2, h3⟩
  · exact Or.inl h
  · exact Or.inr ⟨f, by omega, h2, by rw [hS f h1]; exact h3⟩
theorem iGr_s {M : Mem} {S S' : Nat → N3} {st st' t : Nat} {r : Bool} (h : iGr M S st t r) (hS : ∀ i, i ≤ st → S' i = S i) (hst : st ≤ st') : iGr M S' st' t r := by
  rcases h with h | ⟨f, h1, h2, h3⟩
  · exact Or.inl h
  · exact Or.inr ⟨f, by omega, h2, by rw [hS f h1]; exact h3⟩
theorem iRd_s {M : Mem} {S S' : Nat → N3} {st st' : Nat} (h : iRd M S st) (hS : ∀ i, i ≤ st → S' i = S i) (hst : st ≤ st') : iRd M S' st' := by
  rcases h with h | ⟨f, h1, h2, h3⟩
  · exact Or.inl h
  · exact Or.inr ⟨f, by omega, h2, by rw [hS f h1]; exact h3⟩
theorem iPa_s {M : Mem} {S S' : Nat → N3} {st st' : Nat} {P : List N3} (h : iPa M S st P) (hS : ∀ i, i ≤ st → S' i = S i) (hst : st ≤ st') : iPa M S' st' P := by
  obtain ⟨f, h1, h2, h3, h4, h5⟩ := h
  exact ⟨f, h1, h2, h3, h4, fun i x hx => iNt_s (h5 i x hx) hS hst⟩
theorem iCa_s {M : Mem} {S S' : Nat → N3} {st st' : Nat} (h : iCa M S st) (hS : ∀ i, i ≤ st → S' i = S i) (hst : st ≤ st') : iCa M S' st' :=
  ⟨iWt_s h.1 hS hst, iWt_s h.2.1 hS hst, iPs_s h.2.2.1 hS hst, iPs_s h.2.2.2.1 hS hst, iGr_s h.2.2.2.2.1 hS hst, iRd_s h.2.2.2.2.2.1 hS hst, iGr_s h.2.2.2.2.2.2 hS hst⟩
