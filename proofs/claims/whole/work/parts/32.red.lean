/-! rules: the nets as values -/
def drP (n : Rt) (p : Nat) : Rt := (fun i => if i % 10 = p then 0 else n.1 i, fun i => if i % 10 = p then 0 else n.2.1 i, fun i => if i = p then 0 else n.2.2.1 i, n.2.2.2.1 &&& (((1 : Int32) <<< (nI p &&& 31)) ^^^ (-1)), n.2.2.2.2)
def drS (n : Rt) (s : Nat) : Rt := (fun i => if i / 10 = s then 0 else n.1 i, fun i => if i / 10 = s then 0 else n.2.1 i, n.2.2.1, n.2.2.2.1, n.2.2.2.2 &&& (((1 : Int32) <<< (nI s &&& 31)) ^^^ (-1)))
/-- a column, a row made 0, up to some step, place -/
def zC (f : Nat → Int32) (p o k : Nat) : Nat → Int32 := fun i => if o ≤ i ∧ (i - o) % 10 = p ∧ (i - o) / 10 < k then 0 else f i
def zR (f : Nat → Int32) (s o k : Nat) : Nat → Int32 := fun i => if o ≤ i ∧ (i - o) / 10 = s ∧ (i - o) % 10 < k then 0 else f i
theorem zC_0 (f : Nat → Int32) (p o : Nat) : zC f p o 0 = f := by funext i; unfold zC; rw [if_neg (by omega)]
theorem zR_0 (f : Nat → Int32) (s o : Nat) : zR f s o 0 = f := by funext i; unfold zR; rw [if_neg (by omega)]
theorem zC_s (f : Nat → Int32) {p o k : Nat} (hp : p < 10) : upd (zC f p o k) (o + (10 * k + p)) 0 = zC f p o (k + 1) := by
  funext i
  by_cases h : i = o + (10 * k + p)
  · subst h; rw [upd_at]; unfold zC; rw [if_pos ⟨by omega, by omega, by omega⟩]
  · rw [upd_no h]; unfold zC
    by_cases h2 : o ≤ i ∧ (i - o) % 10 = p ∧ (i - o) / 10 < k
    · rw [if_pos h2, if_pos ⟨h2.1, h2.2.1, by omega⟩]
    · rw [if_neg h2, if_neg (fun z => h2 ⟨z.1, z.2.1, by omega⟩)]
theorem zR_s (f : Nat → Int32) {s o k : Nat} (hk : k < 10) : upd (zR f s o k) (o + (10 * s + k)) 0 = zR f s o (k + 1) := by
  funext i
  by_cases h : i = o + (10 * s + k)
  · subst h; rw [upd_at]; unfold zR; rw [if_pos ⟨by omega, by omega, by omega⟩]
  · rw [upd_no h]; unfold zR
    by_cases h2 : o ≤ i ∧ (i - o) / 10 = s ∧ (i - o) % 10 < k
    · rw [if_pos h2, if_pos ⟨h2.1, h2.2.1, by omega⟩]
    · rw [if_neg h2, if_neg (fun z => h2 ⟨z.1, z.2.1, by omega⟩)]
theorem zC_tr (f : Nat → Int32) {p o : Nat} : tr 80 (fun i => zC f p o 8 (o + i)) = fun i => if i % 10 = p then 0 else tr 80 (fun i => f (o + i)) i := by
  funext i
  unfold tr
  by_cases h : i < 80
  · rw [if_pos h, if_pos h]
    show zC f p o 8 (o + i) = _
    unfold zC
    rw [show o + i - o = i by omega]
    by_cases h2 : i % 10 = p
    · rw [if_pos ⟨by omega, h2, by omega⟩, if_pos h2]
    · rw [if_neg (fun z => h2 z.2.1), if_neg h2]
  · rw [if_neg h, if_neg h]; split <;> rfl
theorem zR_tr (f : Nat → Int32) {s o : Nat} : tr 80 (fun i => zR f s o 10 (o + i)) = fun i => if i / 10 = s then 0 else tr 80 (fun i => f (o + i)) i := by
  funext i
  unfold tr
  by_cases h : i < 80
  · rw [if_pos h, if_pos h]
    show zR f s o 10 (o + i) = _
    unfold zR
    rw [show o + i - o = i by omega]
    by_cases h2 : i / 10 = s
    · rw [if_pos ⟨by omega, h2, by omega⟩, if_pos h2]
    · rw [if_neg (fun z => h2 z.2.1), if_neg h2]
  · rw [if_neg h, if_neg h]; split <;> rfl
theorem tr_up (f : Nat → Int32) {p : Nat} (hp : p < 10) : tr 10 (upd f p 0) = fun i => if i = p then 0 else tr 10 f i := by
  funext i
  unfold tr upd
  by_cases h : i = p
  · subst h; rw [if_pos hp, if_pos rfl, if_pos rfl]
  · by_cases h2 : i < 10
    · rw [if_pos h2, if_neg h, if_neg h, if_pos h2]
    · rw [if_neg h2, if_neg h, if_neg h2]
theorem ix_z {s p : Nat} (hp : p < 10) : (nI s * 10) + nI p = nI (10 * s + p) := by rw [l_10, pk_mul, nI_add, Nat.mul_comm]
theorem X1_dropPlace_sp {t p : Nat} {M : Mem} {K : Mem → Prop} (hp : p < 10)
    (h : ∀ M' : Mem, toR (nt M' t) = drP (toR (nt M t)) p → (∀ k, k ≠ 5 → M'.1 t k = M.1 t k) → (∀ c, c < t ∨ t + 3 < c → M'.1 c = M.1 c) → M'.2 = M.2 → K M') : f_X1_dropPlace t (nI p) M K := by
  unfold f_X1_dropPlace
  have e0 : M = sA (sA M (t + 1) (zC (M.1 (t + 1)) p 0 0)) (t + 2) (zC (M.1 (t + 2)) p 0 0) := by rw [zC_0, zC_0, sA_id, sA_id]
  have fin : vp_in (nI p) 10 ∧ ∀ M_5 : Mem, M_5 = wI (sA (sA M (t + 1) (zC (M.1 (t + 1)) p 0 8)) (t + 2) (zC (M.1 (t + 2)) p 0 8)) (t + 3) (nI p).toNatClampNeg 0 → ∀ M_6 : Mem, M_6 = wI M_5 t 5 ((M_5.1 t 5) &&& (((1 : Int32) <<< (nI p &&& 31)) ^^^ (-1))) → K M_6 := by
    refine ⟨(vp_nI (by omega) (by omega)).mpr hp, fun M5 e5 M6 e6 => ?_⟩
    rw [nI_CL (by omega)] at e5
    have f1 : M6.1 (t + 1) = zC (M.1 (t + 1)) p 0 8 := by rw [e6, w1_ne (by omega), e5, w1_ne (by omega), sA_ne (by omega), sA_eq]
    have f2 : M6.1 (t + 2) = zC (M.1 (t + 2)) p 0 8 := by rw [e6, w1_ne (by omega), e5, w1_ne (by omega), sA_eq]
    have f3 : M6.1 (t + 3) = upd (M.1 (t + 3)) p 0 := by rw [e6, w1_ne (by omega), e5, w1_eq, sA_ne (by omega), sA_ne (by omega)]
    have ft : ∀ k, M5.1 t k = M.1 t k := fun k => by rw [e5, w1_ne (by omega), sA_ne (by omega), sA_ne (by omega)]
    refine h M6 ?_ (fun k hk => ?_) (fun c hc => ?_) ?_
    · have g1 := zC_tr (M.1 (t + 1)) (p := p) (o := 0)
      have g2 := zC_tr (M.1 (t + 2)) (p := p) (o := 0)
      simp only [Nat.zero_add] at g1 g2
      unfold toR nt drP
      rw [f1, f2, f3]
      exact r5 g1 g2 (tr_up _ hp) (show M6.1 t 5 = M.1 t 5 &&& _ by rw [e6, w1_at, ft]) (show M6.1 t 6 = M.1 t 6 by rw [e6, w1_no (by decide), ft])
    · rw [e6, w1_no hk, ft]
    · rw [e6, w1_ne (by omega), e5, w1_ne (by omega), sA_ne (by omega), sA_ne (by omega)]
    · rw [e6, w1_2, e5, w1_2, sA_2, sA_2]
  have key : ∃ n, L_X1_dropPlace_2 t (nI p) (fun (M_4 : Mem) => vp_in (nI p) 10 ∧ ∀ M_5 : Mem, M_5 = wI M_4 (t + 3) (nI p).toNatClampNeg (0 : Int32) → ∀ M_6 : Mem, M_6 = wI M_5 t 5 ((M_5.1 t 5) &&& (((1 : Int32) <<< (nI p &&& 31)) ^^^ (-1 : Int32))) → K M_6) K n (nI 0) (sA (sA M (t + 1) (zC (M.1 (t + 1)) p 0 0)) (t + 2) (zC (M.1 (t + 2)) p 0 0)) := by
    refine upT (fun n j => L_X1_dropPlace_2 t (nI p) _ K n (nI j) (sA (sA M (t + 1) (zC (M.1 (t + 1)) p 0 j)) (t + 2) (zC (M.1 (t + 2)) p 0 j))) 0 8 (by omega) (fun n => ?_) (fun j _ hj n ih => ?_)
    · rw [L_X1_dropPlace_2]
      exact ⟨fun _ => fin, fun q => absurd (by rw [l_8, nI_LE (by omega) (by omega)]; exact Nat.le_refl _) q⟩
    · rw [L_X1_dropPlace_2, ix_z hp]
      refine ⟨fun q => absurd q (by rw [l_8, nI_LE (by omega) (by omega)]; omega), fun _ => ⟨(vp_nI (by omega) (by omega)).mpr (by omega), fun M1 e1 M2 e2 => ?_⟩⟩
      have s1 := zC_s (M.1 (t + 1)) (o := 0) (k := j) hp
      have s2 := zC_s (M.1 (t + 2)) (o := 0) (k := j) hp
      rw [Nat.zero_add] at s1 s2
      rw [nI_CL (by omega), sA_cm _ (by omega), wI_of_sA, s1] at e1
      rw [nI_CL (by omega), e1, sA_cm _ (by omega), wI_of_sA, s2] at e2
      rw [e2, l_1, nI_add]
      exact ih
  rw [← e0] at key
  exact key
theorem X1_dropStep_sp {t s : Nat} {M : Mem} {K : Mem → Prop} (hs : s < 8)
    (h : ∀ M' : Mem, toR (nt M' t) = drS (toR (nt M t)) s → (∀ k, k ≠ 6 → M'.1 t k = M.1 t k) → (∀ c, c < t ∨ t + 3 < c → M'.1 c = M.1 c) → M'.2 = M.2 → K M') : f_X1_dropStep t (nI s) M K := by
  unfold f_X1_dropStep
  have e0 : M = sA (sA M (t + 1) (zR (M.1 (t + 1)) s 0 0)) (t + 2) (zR (M.1 (t + 2)) s 0 0) := by rw [zR_0, zR_0, sA_id, sA_id]
  have fin : ∀ M_5 : Mem, M_5 = wI (sA (sA M (t + 1) (zR (M.1 (t + 1)) s 0 10)) (t + 2) (zR (M.1 (t + 2)) s 0 10)) t 6 (((sA (sA M (t + 1) (zR (M.1 (t + 1)) s 0 10)) (t + 2) (zR (M.1 (t + 2)) s 0 10)).1 t 6) &&& (((1 : Int32) <<< (nI s &&& 31)) ^^^ (-1))) → K M_5 := by
    intro M5 e5
    have f1 : M5.1 (t + 1) = zR (M.1 (t + 1)) s 0 10 := by rw [e5, w1_ne (by omega), sA_ne (by omega), sA_eq]
    have f2 : M5.1 (t + 2) = zR (M.1 (t + 2)) s 0 10 := by rw [e5, w1_ne (by omega), sA_eq]
    have f3 : M5.1 (t + 3) = M.1 (t + 3) := by rw [e5, w1_ne (by omega), sA_ne (by omega), sA_ne (by omega)]
    refine h M5 ?_ (fun k hk => ?_) (fun c hc => ?_) ?_
    · have g1 := zR_tr (M.1 (t + 1)) (s := s) (o := 0)
      have g2 := zR_tr (M.1 (t + 2)) (s := s) (o := 0)
      simp only [Nat.zero_add] at g1 g2
      unfold toR nt drS
      rw [f1, f2, f3]
      exact r5 g1 g2 rfl (show M5.1 t 5 = M.1 t 5 by rw [e5, w1_no (by decide), sA_ne (by omega), sA_ne (by omega)]) (show M5.1 t 6 = M.1 t 6 &&& _ by rw [e5, w1_at, sA_ne (by omega), sA_ne (by omega)])
    · rw [e5, w1_no hk, sA_ne (by omega), sA_ne (by omega)]
    · rw [e5, w1_ne (by omega), sA_ne (by omega), sA_ne (by omega)]
    · rw [e5, w1_2, sA_2, sA_2]
  have key : ∃ n, L_X1_dropStep_2 t (nI s) (fun (M_4 : Mem) => ∀ M_5 : Mem, M_5 = wI M_4 t 6 ((M_4.1 t 6) &&& (((1 : Int32) <<< (nI s &&& 31)) ^^^ (-1 : Int32))) → K M_5) K n (nI 0) (sA (sA M (t + 1) (zR (M.1 (t + 1)) s 0 0)) (t + 2) (zR (M.1 (t + 2)) s 0 0)) := by
    refine upT (fun n j => L_X1_dropStep_2 t (nI s) _ K n (nI j) (sA (sA M (t + 1) (zR (M.1 (t + 1)) s 0 j)) (t + 2) (zR (M.1 (t + 2)) s 0 j))) 0 10 (by omega) (fun n => ?_) (fun j _ hj n ih => ?_)
    · rw [L_X1_dropStep_2]
      exact ⟨fun _ => fin, fun q => absurd (by rw [l_10, nI_LE (by omega) (by omega)]; exact Nat.le_refl _) q⟩
    · rw [L_X1_dropStep_2, ix_z hj]
      refine ⟨fun q => absurd q (by rw [l_10, nI_LE (by omega) (by omega)]; omega), fun _ => ⟨(vp_nI (by omega) (by omega)).mpr (by omega), fun M1 e1 M2 e2 => ?_⟩⟩
      have s1 := zR_s (M.1 (t + 1)) (s := s) (o := 0) hj
      have s2 := zR_s (M.1 (t + 2)) (s := s) (o := 0) hj
      rw [Nat.zero_add] at s1 s2
      rw [nI_CL (by omega), sA_cm _ (by omega), wI_of_sA, s1] at e1
      rw [nI_CL (by omega), e1, sA_cm _ (by omega), wI_of_sA, s2] at e2
      rw [e2, l_1, nI_add]
      exact ih
  rw [← e0] at key
  exact key
/-- a rule is noted: the class -/
def app (n : Rt) (p s : Option Nat) : Rt := match p, s with
  | some p, some s => drS (drP n p) s
  | some p, none => drP n p
  | none, some s => drS n s
  | none, none => n
def oI (o : Option Nat) : Int32 := match o with
  | some p => nI p
  | none => -1
theorem X5_note_sp {k c : Nat} {p s : Option Nat} {M : Mem} {K : Int32 → Mem → Prop} (hc : M.1 146 4 = nI c) (hc18 : c < 18) (hp : ∀ x, p = some x → x < 10) (hs : ∀ x, s = some x → x < 8)
    (h : ∀ M' : Mem, toR (nt M' 147) = app (toR (nt M 147)) p s → M'.1 147 3 = M.1 147 3 → M'.1 147 4 = M.1 147 4 → M'.1 146 = upd (M.1 146) 4 (nI (c + 1)) → M'.1 151 = upd (M.1 151) c (nI k) → M'.1 152 = upd (M.1 152) c (oI p) → M'.1 153 = upd (M.1 153) c (oI s) → (∀ b, b < 146 ∨ 153 < b → M'.1 b = M.1 b) → M'.2 = M.2 → K 1 M') : f_X5_note (nI k) (oI p) (oI s) M K := by
  unfold f_X5_note S_X5_note_6 S_X5_note_51
  rw [hc]
  refine ⟨fun q => absurd q (by rw [l_18, nI_LE (by omega) (by omega)]; omega), fun _ => ⟨(vp_nI (by omega) (by omega)).mpr hc18, fun M2 e2 => ?_⟩⟩
  have c2 : M2.1 146 4 = nI c := by rw [e2, w1_ne (by decide), hc]
  rw [c2]
  refine ⟨(vp_nI (by omega) (by omega)).mpr hc18, fun M3 e3 => ?_⟩
  have c3 : M3.1 146 4 = nI c := by rw [e3, w1_ne (by decide), c2]
  rw [c3]
  refine ⟨(vp_nI (by omega) (by omega)).mpr hc18, fun M4 e4 M5 e5 => ?_⟩
  rw [nI_CL (by omega)] at e2 e3 e4
  have c4 : M4.1 146 4 = nI c := by rw [e4, w1_ne (by decide), c3]
  have b5 : ∀ b, b ≠ 146 → b ≠ 151 → b ≠ 152 → b ≠ 153 → M5.1 b = M.1 b := fun b h1 h2 h3 h4 => by rw [e5, w1_ne h1, e4, w1_ne h4, e3, w1_ne h3, e2, w1_ne h2]
  have a146 : M5.1 146 = upd (M.1 146) 4 (nI (c + 1)) := by rw [e5, w1_eq, c4, l_1, nI_add, e4, w1_ne (by decide), e3, w1_ne (by decide), e2, w1_ne (by decide)]
  have a151 : M5.1 151 = upd (M.1 151) c (nI k) := by rw [e5, w1_ne (by decide), e4, w1_ne (by decide), e3, w1_ne (by decide), e2, w1_eq]
  have a152 : M5.1 152 = upd (M.1 152) c (oI p) := by rw [e5, w1_ne (by decide), e4, w1_ne (by decide), e3, w1_eq, e2, w1_ne (by decide)]
  have a153 : M5.1 153 = upd (M.1 153) c (oI s) := by rw [e5, w1_ne (by decide), e4, w1_eq, e3, w1_ne (by decide), e2, w1_ne (by decide)]
  have n5 : nt M5 147 = nt M 147 := by unfold nt; rw [b5 _ (by decide) (by decide) (by decide) (by decide), b5 _ (by decide) (by decide) (by decide) (by decide), b5 _ (by decide) (by decide) (by decide) (by decide), b5 _ (by decide) (by decide) (by decide) (by decide)]
  have m5 : M5.2 = M.2 := by rw [e5, w1_2, e4, w1_2, e3, w1_2, e2, w1_2]
  have nneg : ∀ x : Nat, x < 10 → ¬ nI x = (-1 : Int32) := fun x hx e => by
    have := congrArg Int32.toInt e
    rw [i_nI (by omega), i_m1] at this; omega
  -- the place, then the step
  have go : ∀ M6 : Mem, toR (nt M6 147) = app (toR (nt M 147)) p none → M6.1 147 3 = M.1 147 3 → M6.1 147 4 = M.1 147 4 → (∀ b, b < 147 ∨ 150 < b → M6.1 b = M5.1 b) → M6.2 = M.2 → ((oI s = -1 → K 1 M6) ∧ (¬ oI s = -1 → f_X1_dropStep 147 (oI s) M6 (fun M_9 => K 1 M_9))) := by
    intro M6 g1 g2 g3 g4 g5
    cases s with
    | none =>
      refine ⟨fun _ => h M6 ?_ g2 g3 ?_ ?_ ?_ ?_ (fun b hb => ?_) g5, fun q => absurd rfl q⟩
      · rw [g1]; try (cases p <;> rfl)
      · rw [g4 146 (by omega), a146]
      · rw [g4 151 (by omega), a151]
      · rw [g4 152 (by omega), a152]
      · rw [g4 153 (by omega), a153]
      · rw [g4 b (by omega), b5 b (by omega) (by omega) (by omega) (by omega)]
    | some x =>
      have hx := hs x rfl
      refine ⟨fun q => absurd q (nneg x (by omega)), fun _ => X1_dropStep_sp hx (fun M7 k1 k2 k3 k4 => h M7 ?_ ?_ ?_ ?_ ?_ ?_ ?_ (fun b hb => ?_) ?_)⟩
      · rw [k1, g1]; cases p <;> rfl
      · rw [k2 3 (by decide), g2]
      · rw [k2 4 (by decide), g3]
      · rw [k3 146 (by omega), g4 146 (by omega), a146]
      · rw [k3 151 (by omega), g4 151 (by omega), a151]
      · rw [k3 152 (by omega), g4 152 (by omega), a152]
      · rw [k3 153 (by omega), g4 153 (by omega), a153]
      · rw [k3 b (by omega), g4 b (by omega), b5 b (by omega) (by omega) (by omega) (by omega)]
      · rw [k4, g5]
  cases p with
  | none => exact ⟨fun _ => go M5 (by rw [n5]; rfl) (by rw [b5 147 (by decide) (by decide) (by decide) (by decide)]) (by rw [b5 147 (by decide) (by decide) (by decide) (by decide)]) (fun _ _ => rfl) m5, fun q => absurd rfl q⟩
  | some x =>
    have hx := hp x rfl
    refine ⟨fun q => absurd q (nneg x hx), fun _ => X1_dropPlace_sp hx (fun M6 k1 k2 k3 k4 => go M6 (by rw [k1, n5]; rfl) ?_ ?_ (fun b hb => k3 b (by omega)) (by rw [k4, m5]))⟩
    · rw [k2 3 (by decide), b5 147 (by decide) (by decide) (by decide) (by decide)]
    · rw [k2 4 (by decide), b5 147 (by decide) (by decide) (by decide) (by decide)]
