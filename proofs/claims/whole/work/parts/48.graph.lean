/-! the graph, over the naturals -/
def can (n : NN) (x : Nat → Nat) (s : Nat) : Bool := (nS n).testBit s && allB (fun p => decide (nT n (10 * s + p) ≤ x p ∧ x p + nG n (10 * s + p) ≤ 999 + nT n (10 * s + p))) 10
def mv (n : NN) (x : Nat → Nat) (s : Nat) : Nat → Nat := fun p => x p + nG n (10 * s + p) - nT n (10 * s + p)
/-- so many markings; the markings; from which; by which step; whether full; where each step leads -/
abbrev GS : Type := Nat × (Nat → Nat → Nat) × (Nat → Int32) × (Nat → Int32) × Bool × (Nat → Int32)
abbrev gk (g : GS) : Nat := g.1
abbrev gm (g : GS) : Nat → Nat → Nat := g.2.1
abbrev gf (g : GS) : Nat → Int32 := g.2.2.1
abbrev gy (g : GS) : Nat → Int32 := g.2.2.2.1
abbrev gl (g : GS) : Bool := g.2.2.2.2.1
abbrev gx (g : GS) : Nat → Int32 := g.2.2.2.2.2
noncomputable def look (g : GS) (x : Nat → Nat) : Option Nat := ff (fun i => ifP (∀ p, p < 10 → gm g i p = x p) (some i)) 0 (gk g)
noncomputable def come (g : GS) (x : Nat → Nat) (f y : Int32) : GS × Int32 := match look g x with
  | some i => (g, nI i)
  | none => if gk g = 300 then ((gk g, gm g, gf g, gy g, true, gx g), -1) else ((gk g + 1, fun i => if i = gk g then x else gm g i, upd (gf g) (gk g) f, upd (gy g) (gk g) y, gl g, gx g), nI (gk g))
def sx (g : GS) (e : Nat) (v : Int32) : GS := (gk g, gm g, gf g, gy g, gl g, upd (gx g) e v)
noncomputable def stS (n : NN) (i s : Nat) (g : GS) : GS := if can n (gm g i) s = true then sx (come g (mv n (gm g i) s) (nI i) (nI s)).1 (8 * i + s) (come g (mv n (gm g i) s) (nI i) (nI s)).2 else sx g (8 * i + s) (-1)
noncomputable def stU (n : NN) (i : Nat) (g : GS) : Nat → GS
  | 0 => g
  | s + 1 => stS n i s (stU n i g s)
noncomputable def lpG (n : NN) : Nat → Nat → GS → GS
  | 0, _, g => g
  | k + 1, i, g => if i < gk g then lpG n k (i + 1) (stU n i g 8) else g
def g00 : GS := (0, fun _ _ => 0, fun _ => 0, fun _ => 0, false, fun _ => 0)
noncomputable def gst (n : NN) : GS := (come g00 (nH n) (-1) (-1)).1
noncomputable def bfs (n : NN) : GS := lpG n 301 0 (gst n)
theorem can_iff {n : NN} {x : Nat → Nat} {s : Nat} : can n x s = true ↔ (nS n).testBit s = true ∧ ∀ p, p < 10 → nT n (10 * s + p) ≤ x p ∧ x p + nG n (10 * s + p) ≤ 999 + nT n (10 * s + p) := by
  unfold can
  rw [Bool.and_eq_true, allB_iff]
  exact ⟨fun h => ⟨h.1, fun p hp => of_decide_eq_true (h.2 p hp)⟩, fun h => ⟨h.1, fun p hp => decide_eq_true (h.2 p hp)⟩⟩
theorem look_s {g : GS} {x : Nat → Nat} {i : Nat} (h : look g x = some i) : i < gk g ∧ ∀ p, p < 10 → gm g i p = x p := by
  obtain ⟨j, _, hj, e⟩ := ff_some h
  obtain ⟨a, b⟩ := ifP_s e
  cases b
  exact ⟨by omega, a⟩
theorem ff_nn {α : Type} {c : Nat → Option α} : ∀ {k lo : Nat}, ff c lo k = none → ∀ j, lo ≤ j → j < lo + k → c j = none
  | 0, lo, _, j, a, b => by omega
  | k + 1, lo, h, j, a, b => by
    rw [ff] at h
    cases hc : c lo with
    | some x => rw [hc] at h; cases h
    | none =>
      rw [hc] at h
      rcases Nat.eq_or_lt_of_le a with q | q
      · rw [← q]; exact hc
      · exact ff_nn h j q (by omega)
theorem look_n {g : GS} {x : Nat → Nat} (h : look g x = none) : ∀ i, i < gk g → ¬ ∀ p, p < 10 → gm g i p = x p := fun i hi z => by
  have := ff_nn h i (Nat.zero_le _) (by omega)
  rw [ifP_t z] at this
  cases this
/-- a graph as it may be on the way -/
def GV (g : GS) : Prop := gk g ≤ 300 ∧ (gl g = true → gk g = 300) ∧ (∀ i j, i < gk g → j < gk g → (∀ p, p < 10 → gm g i p = gm g j p) → i = j) ∧ (∀ i, i < gk g → ∀ p, p < 10 → gm g i p ≤ 999) ∧ (∀ i, i < gk g → (i = 0 ∧ gf g i = -1) ∨ ∃ j, j < i ∧ gf g i = nI j)
theorem look_of {g : GS} {x : Nat → Nat} {i : Nat} (v : GV g) (hi : i < gk g) (h : ∀ p, p < 10 → gm g i p = x p) : look g x = some i := by
  cases e : look g x with
  | none => exact absurd h (look_n e i hi)
  | some j => have := look_s e; rw [v.2.2.1 j i this.1 hi (fun p hp => by rw [this.2 p hp, h p hp])]
/-- what come keeps -/
theorem come_v {g : GS} {x : Nat → Nat} {f y : Int32} (v : GV g) (hx : ∀ p, p < 10 → x p ≤ 999) (hf : (gk g = 0 ∧ f = -1) ∨ ∃ j, j < gk g ∧ f = nI j) : GV (come g x f y).1 ∧ gk g ≤ gk (come g x f y).1 ∧ (∀ i, i < gk g → gm (come g x f y).1 i = gm g i ∧ gf (come g x f y).1 i = gf g i ∧ gy (come g x f y).1 i = gy g i) ∧ gx (come g x f y).1 = gx g ∧ (((come g x f y).2 = -1) ∨ ∃ j, j < gk (come g x f y).1 ∧ (come g x f y).2 = nI j) := by
  unfold come
  cases e : look g x with
  | some i => exact ⟨v, Nat.le_refl _, fun _ _ => ⟨rfl, rfl, rfl⟩, rfl, Or.inr ⟨i, (look_s e).1, rfl⟩⟩
  | none =>
    by_cases q : gk g = 300
    · dsimp only
      rw [if_pos q]
      exact ⟨⟨v.1, fun _ => q, v.2.2.1, v.2.2.2.1, v.2.2.2.2⟩, Nat.le_refl _, fun _ _ => ⟨rfl, rfl, rfl⟩, rfl, Or.inl rfl⟩
    · dsimp only
      rw [if_neg q]
      have ln := look_n e
      have v1 := v.1
      refine ⟨⟨?_, fun z => absurd (v.2.1 z) q, fun i j hi hj hp => ?_, fun i hi p hp => ?_, fun i hi => ?_⟩, Nat.le_succ _, fun i hi => ⟨?_, ?_, ?_⟩, rfl, Or.inr ⟨gk g, Nat.lt_succ_self _, rfl⟩⟩
      · show gk g + 1 ≤ 300; omega
      · change i < gk g + 1 at hi
        change j < gk g + 1 at hj
        change ∀ p, p < 10 → (if i = gk g then x else gm g i) p = (if j = gk g then x else gm g j) p at hp
        by_cases a : i = gk g
        · by_cases b : j = gk g
          · rw [a, b]
          · rw [if_pos a, if_neg b] at hp
            exact absurd (fun p h => (hp p h).symm) (ln j (by omega))
        · by_cases b : j = gk g
          · rw [if_neg a, if_pos b] at hp
            exact absurd hp (ln i (by omega))
          · rw [if_neg a, if_neg b] at hp
            exact v.2.2.1 i j (by omega) (by omega) hp
      · change i < gk g + 1 at hi
        show (if i = gk g then x else gm g i) p ≤ 999
        by_cases a : i = gk g
        · rw [if_pos a]; exact hx p hp
        · rw [if_neg a]; exact v.2.2.2.1 i (by omega) p hp
      · change i < gk g + 1 at hi
        show (i = 0 ∧ upd (gf g) (gk g) f i = -1) ∨ ∃ j, j < i ∧ upd (gf g) (gk g) f i = nI j
        by_cases a : i = gk g
        · subst a; rw [upd_at]
          rcases hf with ⟨h0, h1⟩ | ⟨j, h0, h1⟩
          · exact Or.inl ⟨h0, h1⟩
          · exact Or.inr ⟨j, h0, h1⟩
        · rw [upd_no a]; exact v.2.2.2.2 i (by omega)
      · show (if i = gk g then x else gm g i) = _
        rw [if_neg (by omega)]
      · exact upd_no (by omega)
      · exact upd_no (by omega)
theorem sx_v {g : GS} {e : Nat} {w : Int32} (v : GV g) : GV (sx g e w) := v
theorem mv_999 {n : NN} {x : Nat → Nat} {s : Nat} (h : can n x s = true) : ∀ p, p < 10 → mv n x s p ≤ 999 := fun p hp => by
  have := (can_iff.mp h).2 p hp
  unfold mv; omega
/-- from one state of the graph to a later one -/
def gle (g g' : GS) : Prop := gk g ≤ gk g' ∧ ∀ i, i < gk g → gm g' i = gm g i ∧ gf g' i = gf g i ∧ gy g' i = gy g i
theorem gle_rf (g : GS) : gle g g := ⟨Nat.le_refl _, fun _ _ => ⟨rfl, rfl, rfl⟩⟩
theorem gle_tr {a b c : GS} (h : gle a b) (h' : gle b c) : gle a c := ⟨Nat.le_trans h.1 h'.1, fun i hi => by
  have x := h.2 i hi
  have y := h'.2 i (Nat.lt_of_lt_of_le hi h.1)
  exact ⟨by rw [y.1, x.1], by rw [y.2.1, x.2.1], by rw [y.2.2, x.2.2]⟩⟩
def xok (g : GS) (b : Nat) : Prop := ∀ e, e < b → gx g e = -1 ∨ ∃ j, j < gk g ∧ gx g e = nI j
theorem stS_v {n : NN} {i s : Nat} {g : GS} (v : GV g) (hi : i < gk g) (hx : xok g (8 * i + s)) : GV (stS n i s g) ∧ gle g (stS n i s g) ∧ xok (stS n i s g) (8 * i + s + 1) ∧ ∀ e, e < 8 * i + s → gx (stS n i s g) e = gx g e := by
  unfold stS
  by_cases q : can n (gm g i) s = true
  · rw [if_pos q]
    obtain ⟨a, b, c, d, r⟩ := come_v (f := nI i) (y := nI s) v (mv_999 q) (Or.inr ⟨i, hi, rfl⟩)
    refine ⟨sx_v a, ⟨b, c⟩, fun e he => ?_, fun e he => ?_⟩
    · show upd _ (8 * i + s) _ e = -1 ∨ _
      by_cases z : e = 8 * i + s
      · subst z
        rcases r with r | ⟨j, r1, r2⟩
        · left; rw [upd_at]; exact r
        · right; refine ⟨j, r1, ?_⟩; show upd _ _ _ _ = _; rw [upd_at]; exact r2
      · rcases hx e (by omega) with y | ⟨j, y1, y2⟩
        · left; rw [upd_no z, d]; exact y
        · right; refine ⟨j, Nat.lt_of_lt_of_le y1 b, ?_⟩; show upd _ _ _ _ = _; rw [upd_no z, d]; exact y2
    · show upd _ _ _ _ = _; rw [upd_no (by omega), d]
  · rw [if_neg q]
    refine ⟨sx_v v, gle_rf g, fun e he => ?_, fun e he => ?_⟩
    · show upd _ (8 * i + s) _ e = -1 ∨ _
      by_cases z : e = 8 * i + s
      · subst z; left; rw [upd_at]
      · rcases hx e (by omega) with y | ⟨j, y1, y2⟩
        · left; rw [upd_no z]; exact y
        · right; refine ⟨j, y1, ?_⟩; show upd _ _ _ _ = _; rw [upd_no z]; exact y2
    · show upd _ _ _ _ = _; rw [upd_no (by omega)]
theorem stU_v {n : NN} {i : Nat} {g : GS} (v : GV g) (hi : i < gk g) (hx : xok g (8 * i)) : ∀ s, GV (stU n i g s) ∧ gle g (stU n i g s) ∧ xok (stU n i g s) (8 * i + s) ∧ ∀ e, e < 8 * i → gx (stU n i g s) e = gx g e
  | 0 => ⟨v, gle_rf g, hx, fun _ _ => rfl⟩
  | s + 1 => by
    obtain ⟨a, b, c, d⟩ := stU_v (n := n) v hi hx s
    obtain ⟨a', b', c', d'⟩ := stS_v (n := n) (s := s) a (Nat.lt_of_lt_of_le hi b.1) c
    exact ⟨a', gle_tr b b', c', fun e he => by rw [stU, d' e (by omega), d e he]⟩
theorem gv_0 (n : NN) {tp ts : Nat} (w : WF n tp ts) : GV (gst n) ∧ gk (gst n) = 1 := by
  have v0 : GV g00 := ⟨by decide, fun e => (by cases e), fun i j hi => absurd hi (Nat.not_lt_zero i), fun i hi => absurd hi (Nat.not_lt_zero i), fun i hi => absurd hi (Nat.not_lt_zero i)⟩
  refine ⟨(come_v (y := -1) v0 (fun p _ => wf_H w p) (Or.inl ⟨rfl, rfl⟩)).1, ?_⟩
  have : look g00 (nH n) = none := rfl
  unfold gst come
  rw [this]
  rfl
