/-! what holds between two calls, of the class and of the reference, each for itself -/
abbrev N3 : Type := NN × Nat × Nat
/-- the tape, the fault, the net, what is kept, the aims -/
abbrev ZS : Type := (Nat × (Nat → Nat)) × (Int32 × Int32) × N3 × List N3 × (Nat → Nat)
abbrev zsL (z : ZS) : Nat := z.1.1
abbrev zsT (z : ZS) : Nat → Nat := z.1.2
abbrev zsK (z : ZS) : Int32 := z.2.1.1
abbrev zsF (z : ZS) : Int32 := z.2.1.2
abbrev zs3 (z : ZS) : N3 := z.2.2.1
abbrev zsN (z : ZS) : NN := z.2.2.1.1
abbrev zsP (z : ZS) : List N3 := z.2.2.2.1
abbrev zsA (z : ZS) : Nat → Nat := z.2.2.2.2
/-- places that a step takes from, gives to -/
def akN (n : NN) (w : Bool) (s : Nat) : Nat := mN (fun p => decide (¬ (if w then nT n (10 * s + p) else nG n (10 * s + p)) = 0)) 10
theorem aks_akN {A : Nat → Int32} {f : Nat → Nat} {s : Nat} (hf : ∀ i, f i ≤ 3) (h : ∀ p, p < 10 → A (10 * s + p) = nI (f (10 * s + p))) : aks A s = mN (fun p => decide (¬ f (10 * s + p) = 0)) 10 := by
  unfold aks
  have : ∀ k, k ≤ 10 → mN (fun p => decide (¬ A (10 * s + p) ≤ 0)) k = mN (fun p => decide (¬ f (10 * s + p) = 0)) k := by
    intro k
    induction k with
    | zero => intro _; rfl
    | succ k ih =>
      intro hk
      have e : decide (¬ A (10 * s + k) ≤ 0) = decide (¬ f (10 * s + k) = 0) := by
        have := hf (10 * s + k)
        rw [h k (by omega)]
        exact decide_eq_decide.mpr (by rw [nI_L0 (by omega)])
      rw [mN, mN, ih (by omega), e]
  exact this 10 (Nat.le_refl _)
theorem rA_akN {M : Mem} {n : NN} {tp ts : Nat} (hn : rt M 0 = enc n) (hw : WF n tp ts) (w : Bool) {s : Nat} (hs : s < 8) : rA M w s = akN n w s := by
  unfold rA akN
  cases w
  · exact aks_akN (f := nG n) hw.2.2.2.2.2.1 (fun p hp => by have := rt_G hn (i := 10 * s + p) (by omega); rw [Nat.mul_zero, Nat.zero_add] at this; exact this)
  · exact aks_akN (f := nT n) hw.2.2.2.2.1 (fun p hp => by have := rt_T hn (i := 10 * s + p) (by omega); rw [Nat.mul_zero, Nat.zero_add] at this; exact this)
theorem akN_lt (n : NN) (w : Bool) (s : Nat) : akN n w s < 1024 := mN_lt _ 10
theorem cl_cg {a a' b b' : Nat → Nat} (ha : ∀ s, s < 8 → a s = a' s) (hb : ∀ s, s < 8 → b s = b' s) (m : Nat) : cl a b m = cl a' b' m := by
  unfold cl
  have : ∀ k, k ≤ 8 → allB (fun s => decide (a s &&& m = 0) || !decide (b s &&& m = 0)) k = allB (fun s => decide (a' s &&& m = 0) || !decide (b' s &&& m = 0)) k := by
    intro k
    induction k with
    | zero => intro _; rfl
    | succ k ih => intro hk; rw [allB, allB, ih (by omega), ha k (by omega), hb k (by omega)]
  exact this 8 (Nat.le_refl _)
theorem lst_eq {a a' b b' : Nat → Nat} (ha : ∀ s, s < 8 → a s = a' s) (hb : ∀ s, s < 8 → b s = b' s) (P : Nat) : lst a b P = lst a' b' P := by
  funext m
  unfold lst
  have e : cl a b = cl a' b' := funext fun m => cl_cg ha hb m
  rw [e]
/-- the least sets, told by the net -/
def lsN (n : NN) (w : Bool) : Nat → Bool := lst (akN n w) (akN n (!w)) (nP n)
def rSmP (M : Mem) (n : NN) : Prop := ∀ w : Bool, rSw M w (CH n w) (unM n w) 1024 ∧ enumOK (M.1 18 (bN w)) (M.1 16) (260 * bN w) (lsN n w) 1024
theorem rSmP_of {M : Mem} {n : NN} {tp ts : Nat} (hn : rt M 0 = enc n) (hw : WF n tp ts) : rSum M n ↔ rSmP M n := by
  have e : ∀ w : Bool, lst (rA M w) (rA M (!w)) (nP n) = lsN n w := fun w => lst_eq (fun s hs => rA_akN hn hw w hs) (fun s hs => rA_akN hn hw (!w) hs) _
  unfold rSum rSmP
  exact ⟨fun h w => ⟨(h w).1, by rw [← e w]; exact (h w).2⟩, fun h w => ⟨(h w).1, by rw [e w]; exact (h w).2⟩⟩
def rGr (M : Mem) (n : NN) : Prop := rB M 0 n ∧ bk M 36 (bfs n) (fun i => pB (hmP (bfs n) i))
def IvR (M : Mem) (z : ZS) : Prop :=
  (zsL z ≤ 900 ∧ M.1 0 10 = nI (zsL z) ∧ ∀ i, i < zsL z → M.1 9 i = nI (zsT z i) ∧ zsT z i ≤ 255) ∧
  (M.1 0 16 = zsK z ∧ M.1 0 17 = zsF z) ∧
  (rt M 0 = enc (zsN z) ∧ WF (zsN z) (zs3 z).2.1 (zs3 z).2.2) ∧
  (M.1 0 26 = nI (zsP z).length ∧ (zsP z).length ≤ 12 ∧ ∀ i x, (zsP z)[i]? = some x → kb M i = enc x.1) ∧
  (∀ p, p < 10 → M.1 8 p = nI (zsA z p) ∧ zsA z p ≤ 999) ∧
  (M.1 0 22 ≠ 0 → rSmP M (zsN z)) ∧ (M.1 0 23 ≠ 0 → rGr M (zsN z)) ∧ (M.1 0 24 ≠ 0 → RCt M (zsN z) (zsA z))
theorem rSmP_f {M M' : Mem} {n : NN} (h : rSmP M n) (e : ∀ b, 14 ≤ b → b ≤ 18 → M'.1 b = M.1 b) : rSmP M' n := by
  unfold rSmP rSw at *
  rw [e 14 (by decide) (by decide), e 15 (by decide) (by decide), e 16 (by decide) (by decide), e 17 (by decide) (by decide), e 18 (by decide) (by decide)]
  exact h
theorem rGr_f {M M' : Mem} {n : NN} (h : rGr M n) (e : ∀ b, 24 ≤ b → b ≤ 36 → b ≠ 31 → b ≠ 32 → b ≠ 34 → b ≠ 35 → M'.1 b = M.1 b) : rGr M' n := by
  unfold rGr rB rL rG bk at *
  rw [e 24 (by decide) (by decide) (by decide) (by decide) (by decide) (by decide), e 25 (by decide) (by decide) (by decide) (by decide) (by decide) (by decide), e 26 (by decide) (by decide) (by decide) (by decide) (by decide) (by decide), e 27 (by decide) (by decide) (by decide) (by decide) (by decide) (by decide), e 28 (by decide) (by decide) (by decide) (by decide) (by decide) (by decide), e 29 (by decide) (by decide) (by decide) (by decide) (by decide) (by decide), e 30 (by decide) (by decide) (by decide) (by decide) (by decide) (by decide), e 33 (by decide) (by decide) (by decide) (by decide) (by decide) (by decide), e 36 (by decide) (by decide) (by decide) (by decide) (by decide) (by decide)]
  exact h
theorem RCt_f {M M' : Mem} {n : NN} {am : Nat → Nat} (h : RCt M n am) (e0 : M'.1 0 40 = M.1 0 40) (e20 : M'.1 20 = M.1 20) (e22 : M'.1 22 = M.1 22) (e23 : M'.1 23 = M.1 23) : RCt M' n am := by
  unfold RCt SH WT at *
  rw [e0, e20, e22, e23]
  exact h
theorem kb_f {M M' : Mem} (h : M'.1 10 = M.1 10) (i : Nat) : kb M' i = kb M i := by unfold kb; rw [h]
theorem rt0_f {M M' : Mem} (h1 : M'.1 1 = M.1 1) (h2 : M'.1 2 = M.1 2) (h3 : M'.1 3 = M.1 3) (h4 : M'.1 4 = M.1 4) (h5 : M'.1 5 = M.1 5) (g : Nat) : rt M' g = rt M g := by unfold rt; rw [h1, h2, h3, h4, h5]
/-- all that the reference keeps but its caches is as before -/
theorem IvR_k {M M' : Mem} {z : ZS} (h : IvR M z) (s1 : ∀ j, j = 10 ∨ j = 16 ∨ j = 17 ∨ j = 26 → M'.1 0 j = M.1 0 j) (hr : rt M' 0 = rt M 0) (e8 : M'.1 8 = M.1 8) (e9 : M'.1 9 = M.1 9) (e10 : M'.1 10 = M.1 10) (c1 : M'.1 0 22 ≠ 0 → rSmP M' (zsN z)) (c2 : M'.1 0 23 ≠ 0 → rGr M' (zsN z)) (c3 : M'.1 0 24 ≠ 0 → RCt M' (zsN z) (zsA z)) : IvR M' z := by
  obtain ⟨a1, a2, a3, a4, a5, _⟩ := h
  refine ⟨?_, ?_, ?_, ?_, ?_, c1, c2, c3⟩
  · rw [s1 10 (by omega), e9]; exact a1
  · rw [s1 16 (by omega), s1 17 (by omega)]; exact a2
  · rw [hr]; exact a3
  · rw [s1 26 (by omega)]
    exact ⟨a4.1, a4.2.1, fun i x hx => by rw [kb_f e10]; exact a4.2.2 i x hx⟩
  · rw [e8]; exact a5
theorem IvR_f {M M' : Mem} {z : ZS} (h : IvR M z) (e0 : ∀ j, j ≠ 0 → M'.1 0 j = M.1 0 j) (e : ∀ b, 0 < b → b < 40 → M'.1 b = M.1 b) : IvR M' z := by
  refine IvR_k h (fun j hj => e0 j (by omega)) (rt0_f (e 1 (by decide) (by decide)) (e 2 (by decide) (by decide)) (e 3 (by decide) (by decide)) (e 4 (by decide) (by decide)) (e 5 (by decide) (by decide)) 0) (e 8 (by decide) (by decide)) (e 9 (by decide) (by decide)) (e 10 (by decide) (by decide)) (fun q => ?_) (fun q => ?_) (fun q => ?_)
  · rw [e0 22 (by decide)] at q
    exact rSmP_f (h.2.2.2.2.2.1 q) (fun b h1 h2 => e b (by omega) (by omega))
  · rw [e0 23 (by decide)] at q
    exact rGr_f (h.2.2.2.2.2.2.1 q) (fun b h1 h2 _ _ _ _ => e b (by omega) (by omega))
  · rw [e0 24 (by decide)] at q
    exact RCt_f (h.2.2.2.2.2.2.2 q) (e0 40 (by decide)) (e 20 (by decide) (by decide)) (e 22 (by decide) (by decide)) (e 23 (by decide) (by decide))
theorem IvR_0 {M : Mem} {z : ZS} {v : Int32} (h : IvR M z) : IvR (wI M 0 0 v) z := IvR_f h (fun j hj => w1_no hj) (fun b hb _ => w1_ne (by omega))
/-- the class leaves the reference alone -/
def loC (M M' : Mem) : Prop := ∀ b, b < 40 → M'.1 b = M.1 b
/-- the reference leaves the class alone -/
def hiC (M M' : Mem) : Prop := ∀ b, 40 ≤ b → M'.1 b = M.1 b ∧ M'.2 b = M.2 b
theorem loC_rf (M : Mem) : loC M M := fun _ _ => rfl
theorem loC_tr {M M1 M2 : Mem} (h : loC M M1) (h' : loC M1 M2) : loC M M2 := fun b hb => by rw [h' b hb, h b hb]
theorem hiC_rf (M : Mem) : hiC M M := fun _ _ => ⟨rfl, rfl⟩
theorem hiC_tr {M M1 M2 : Mem} (h : hiC M M1) (h' : hiC M1 M2) : hiC M M2 := fun b hb => by rw [(h' b hb).1, (h' b hb).2]; exact h b hb
theorem hiC_w {a k : Nat} {v : Int32} {M : Mem} (ha : a < 40) : hiC M (wI M a k v) := fun b hb => ⟨w1_ne (by omega), rfl⟩
theorem loC_w {a k : Nat} {v : Int32} {M : Mem} (ha : 40 ≤ a) : loC M (wI M a k v) := fun b hb => w1_ne (by omega)
theorem IvR_lo {M M' : Mem} {z : ZS} (h : IvR M z) (f : loC M M') : IvR M' z := IvR_f h (fun j _ => by rw [f 0 (by decide)]) (fun b _ hb => f b hb)
