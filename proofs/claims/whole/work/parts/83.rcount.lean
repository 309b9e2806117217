/-! the reference: counts by their numbers -/
theorem nI_cI {a : Nat} (h : a < 2147483648) : nI a = cI (a : Int) := (cI_nI a h).symm
def upT1 (t : Nat → Nat) (s m : Nat) : Nat → Nat := fun s' => if s' = s then m else t s'
theorem upT1_s (t : Nat → Nat) (s m : Nat) : upT1 t s m s = m := if_pos rfl
theorem upT1_o {t : Nat → Nat} {s m s' : Nat} (h : s' ≠ s) : upT1 t s m s' = t s' := if_neg h
theorem RV_up {n : NN} {t : Nat → Nat} {s m : Nat} (hs : s < 8) (p : Nat) : RV n (upT1 t s m) p = RV n t p + ((m : Int) - (t s : Int)) * cgI n s p := by
  unfold RV
  have e : (fun s' => ((upT1 t s m s' : Nat) : Int)) = fun s' => if s' = s then (m : Int) else (t s' : Int) := funext fun s' => by
    by_cases q : s' = s
    · rw [if_pos q, q, upT1_s]
    · rw [if_neg q, upT1_o q]
  rw [e, dt_up hs]; grind
/-- tried, and the tokens behind it -/
def TR (M : Mem) (n : NN) (t : Nat → Nat) : Prop := (∀ s, s < 8 → M.1 19 s = nI (t s)) ∧ ∀ p, p < 10 → M.1 21 p = cI (RV n t p)
theorem chg_c {n : NN} {tp ts s p : Nat} {M : Mem} (hn : rt M 0 = enc n) (hwf : WF n tp ts) (hs : s < 8) (hp : p < 10) : M.1 2 (80 * 0 + 10 * s + p) - M.1 1 (80 * 0 + 10 * s + p) = cI (cgI n s p) := by
  have := wf_G3 hwf (10 * s + p)
  have := wf_T3 hwf (10 * s + p)
  rw [Nat.add_assoc, rt_G hn (by omega), rt_T hn (by omega), nI_cI (by omega), nI_cI (by omega), cI_sub]; rfl
def frA (M M' : Mem) : Prop := (∀ b, b ≠ 19 → b ≠ 21 → M'.1 b = M.1 b) ∧ M'.2 = M.2
theorem frA_tr {M M1 M2 : Mem} (h : frA M M1) (h' : frA M1 M2) : frA M M2 := ⟨fun b a c => by rw [h'.1 b a c, h.1 b a c], by rw [h'.2, h.2]⟩
theorem frA_rf (M : Mem) : frA M M := ⟨fun _ _ _ => rfl, rfl⟩
theorem rt_A {M M' : Mem} (h : frA M M') (o : Nat) : rt M' o = rt M o := by
  unfold rt
  rw [h.1 1 (by decide) (by decide), h.1 2 (by decide) (by decide), h.1 3 (by decide) (by decide), h.1 4 (by decide) (by decide), h.1 5 (by decide) (by decide)]
theorem X9_adds_sp {s m tp ts : Nat} {x : Int32} {n : NN} {t : Nat → Nat} {M : Mem} {K : Mem → Prop} (hn : rt M 0 = enc n) (hwf : WF n tp ts) (hs : s < 8) (ht : ∀ s, s < 8 → t s ≤ 12) (hm : m ≤ 13) (hT : TR M n t) (hx : x = cI ((m : Int) - (t s : Int))) (h : ∀ M', TR M' n (upT1 t s m) → frA M M' → K M') : f_X9_adds (nI s) x M K := by
  have ts := ht s hs
  unfold f_X9_adds
  rw [vp_nI (by omega) (by omega), gI, nI_CL (by omega), hT.1 s hs, hx]
  refine ⟨by omega, fun M2 e2 => ?_⟩
  rw [nI_cI (a := t s) (by omega), cI_add, show (t s : Int) + ((m : Int) - (t s : Int)) = (m : Int) by omega, cI_nI m (by omega)] at e2
  have key : ∀ d p, p + d = 10 → ∀ M1 : Mem, (∀ p', p' < p → M1.1 21 p' = cI (RV n (upT1 t s m) p')) → (∀ p', p ≤ p' → p' < 10 → M1.1 21 p' = cI (RV n t p')) → fr1 21 M2 M1 → L_X9_adds_12 (nI s) (cI ((m : Int) - (t s : Int))) (fun M_5 => K M_5) K (d + 1) (nI p) M1 := by
    intro d
    induction d with
    | zero =>
      intro p hp M1 c1 c2 c3
      rw [L_X9_adds_12, l_10, nI_LE (by omega) (by omega)]
      refine ⟨fun _ => h M1 ⟨fun s' hs' => ?_, fun p' hp' => c1 p' (by omega)⟩ ⟨fun b h1 h2 => by rw [c3.1 b h2, e2, w1_ne h1], by rw [c3.2, e2, w1_2]⟩, by omega⟩
      rw [c3.1 19 (by decide), e2]
      by_cases q : s' = s
      · rw [q, w1_at, upT1_s]
      · rw [w1_no q, upT1_o q]; exact hT.1 s' hs'
    | succ d ih =>
      intro p hp M1 c1 c2 c3
      have hn1 : rt M1 0 = enc n := by
        have f1 : frA M M1 := ⟨fun b h1 h2 => by rw [c3.1 b h2, e2, w1_ne h1], by rw [c3.2, e2, w1_2]⟩
        rw [rt_A f1]; exact hn
      rw [L_X9_adds_12, l_10, nI_LE (by omega) (by omega), vp_nI (by omega) (by omega), gI, nI_CL (by omega), c2 p (Nat.le_refl _) (by omega), nI_A1]
      refine ⟨by omega, fun _ => ⟨by omega, X9_change_sp (g := 0) (by omega) hs (by omega) (fun M4 e4 => ?_)⟩⟩
      rw [chg_c hn1 hwf hs (by omega), cI_mul, cI_add, ← RV_up hs] at e4
      refine ih (p + 1) (by omega) M4 (fun p' hp' => ?_) (fun p' h1 h2 => by rw [e4, w1_no (by omega)]; exact c2 p' (by omega) h2) (by rw [e4]; exact fr1_tr c3 (fr1_w M1))
      by_cases q : p' = p
      · rw [e4, q, w1_at]
      · rw [e4, w1_no q]; exact c1 p' (by omega)
  refine ⟨_, key 10 0 (by omega) M2 (fun p' hp' => absurd hp' (Nat.not_lt_zero _)) (fun p' _ hp' => by rw [e2, w1_ne (by decide)]; exact hT.2 p' hp') (fr1_rf _ M2)⟩
/-- what the reference found so far -/
def CR (M : Mem) (n : NN) (am : Nat → Nat) (P : (Nat → Nat) → Prop) (C : Nat) : Prop :=
  M.1 0 40 = nI C ∧ C ≤ 13 ∧ ((C = 13 ∧ ∀ y, P y → adm n y → Sol n am y → 12 < sm y 8) ∨
    ∃ x, C = sm x 8 ∧ (∀ s, s < 8 → M.1 20 s = nI (x s)) ∧ P x ∧ adm n x ∧ Sol n am x ∧ sm x 8 ≤ 12 ∧ ∀ y, P y → adm n y → Sol n am y → sm x 8 < sm y 8 ∨ (sm x 8 = sm y 8 ∧ lexle x y))
theorem CR_ext {M M' : Mem} {n : NN} {am : Nat → Nat} {P P' : (Nat → Nat) → Prop} {C : Nat} (h : CR M n am P C) (e0 : M'.1 0 40 = M.1 0 40) (e20 : M'.1 20 = M.1 20) (hP : ∀ y, P y → P' y) (hx : ∀ y, P' y → adm n y → Sol n am y → P y ∨ (C ≤ sm y 8 ∧ ∀ x, P x → lexle x y)) : CR M' n am P' C := by
  obtain ⟨a, b, d⟩ := h
  refine ⟨by rw [e0]; exact a, b, ?_⟩
  rcases d with ⟨d2, d3⟩ | ⟨x, x2, x3, x4, x5, x6, x7, x8⟩
  · refine Or.inl ⟨d2, fun y h1 h2 h3 => ?_⟩
    rcases hx y h1 h2 h3 with q | q
    · exact d3 y q h2 h3
    · have := q.1; omega
  · refine Or.inr ⟨x, x2, by rw [e20]; exact x3, hP x x4, x5, x6, x7, fun y h1 h2 h3 => ?_⟩
    rcases hx y h1 h2 h3 with q | q
    · exact x8 y q h2 h3
    · have := q.1
      have := q.2 x x4
      by_cases t : sm x 8 < sm y 8
      · exact Or.inl t
      · exact Or.inr ⟨by omega, this⟩
def vl (t : Nat → Nat) : Nat → Nat
  | 0 => 0
  | j + 1 => vl t j * 13 + t j
theorem vl_lt {t : Nat → Nat} : ∀ {j : Nat}, (∀ i, i < j → t i ≤ 12) → vl t j < 13 ^ j
  | 0, _ => by show 0 < 1; decide
  | j + 1, h => by
    have := vl_lt (t := t) (j := j) (fun i hi => h i (by omega))
    have := h j (by omega)
    rw [vl, Nat.pow_succ]; omega
theorem vl_cong {t t' : Nat → Nat} : ∀ {j : Nat}, (∀ i, i < j → t i = t' i) → vl t j = vl t' j
  | 0, _ => rfl
  | j + 1, h => by rw [vl, vl, vl_cong (fun i hi => h i (by omega)), h j (by omega)]
theorem vl_up {t t' : Nat → Nat} {s : Nat} (h1 : ∀ i, i < s → t' i = t i) (h2 : t' s = t s + 1) (ht : ∀ i, i < 8 → t i ≤ 12) : ∀ {j : Nat}, s < j → j ≤ 8 → vl t j < vl t' j := by
  intro j
  induction j with
  | zero => intro h; omega
  | succ j ih =>
    intro h hj
    rw [vl, vl]
    by_cases q : s = j
    · rw [← q, vl_cong h1, h2]; omega
    · have := ih (by omega) (by omega)
      have := ht j (by omega)
      omega
/-- the next counts: the last step that may be done once more is, those behind it not at all -/
def ndx (t : Nat → Nat) (s : Nat) : Nat → Nat := fun i => if i < s then t i else if i = s then t s + 1 else 0
def cut (t : Nat → Nat) (s : Nat) : Nat → Nat := fun i => if i < s then t i else 0
theorem sm_cut {t : Nat → Nat} {s : Nat} (hs : s ≤ 8) : sm (cut t s) 8 = sm t s := by
  have h : ∀ k, s ≤ k → sm (cut t s) k = sm t s := by
    intro k hk
    induction k with
    | zero => rw [Nat.le_zero.mp hk]; rfl
    | succ k ih =>
      by_cases q : s = k + 1
      · rw [q]; exact sm_cong' (fun i hi => if_pos (by omega))
      · rw [sm, ih (by omega)]
        show sm t s + cut t s k = sm t s
        unfold cut; rw [if_neg (by omega)]; omega
  exact h 8 hs
theorem X9_lc130_sp {n : NN} {am t : Nat → Nat} {C tp ts : Nat} {M0 : Mem} {X : Int32 → Int32 → Mem → Prop} {K : Mem → Prop} (hn : rt M0 0 = enc n) (hwf : WF n tp ts) (hadm : adm n t) (ht : ∀ s, s < 8 → t s ≤ 12) (hc0 : M0.1 0 40 = nI C) (hC : C ≤ 13)
    (h1 : ∀ s M', s < 8 → (nS n).testBit s = true → sm t (s + 1) + 1 < C → (∀ j, s < j → j < 8 → (nS n).testBit j = true → C ≤ sm t (j + 1) + 1) → TR M' n (ndx t s) → frA M0 M' → X (nI (sm t (s + 1) + 1)) 1 M')
    (h0 : ∀ M' v, (∀ j, j < 8 → (nS n).testBit j = true → C ≤ sm t (j + 1) + 1) → frA M0 M' → X v 0 M') : ∀ s, s ≤ 8 → ∀ M : Mem, TR M n (cut t s) → frA M0 M → (∀ j, s ≤ j → j < 8 → (nS n).testBit j = true → C ≤ sm t (j + 1) + 1) → L_X9_layCounts_130 X K (s + 2) (nI (sm t s)) 0 (nI s - 1) M := by
  have hS8 := wf_S hwf
  have e : ∀ i, i < 8 → decide ((nI (nS n) >>> (nI i &&& 31)) &&& 1 = 1) = (nS n).testBit i := fun i hi => bt_nI (n := nS n) (k := i) (by omega) (by omega)
  have smb : ∀ s, s ≤ 8 → sm t s ≤ 96 := fun s hs => by
    have : ∀ k, k ≤ 8 → sm t k ≤ 12 * k := by
      intro k
      induction k with
      | zero => intro _; exact Nat.le_refl _
      | succ k ih => intro hk; have := ih (by omega); have := ht k (by omega); rw [sm]; omega
    have := this s hs; omega
  intro s
  induction s with
  | zero =>
    intro _ M hT hf hj
    rw [L_X9_layCounts_130]
    exact ⟨fun _ => h0 M _ (fun j hj' => hj j (Nat.zero_le _) hj') hf, fun z => absurd (show nI 0 - 1 < 0 by decide) z⟩
  | succ s ih =>
    intro hs M hT hf hj
    have hn1 : rt M 0 = enc n := by rw [rt_A hf]; exact hn
    have s0 : gI M 5 (0 : Int32) = nI (nS n) := by rw [gI, show (0 : Int32).toNatClampNeg = 0 from rfl]; exact rt_S hn1
    have c0 : M.1 0 40 = nI C := by rw [hf.1 0 (by decide) (by decide)]; exact hc0
    have em : nI s + (-1) = nI s - 1 := by rw [Int32.sub_eq_add_neg]
    have cs : cut t (s + 1) s = t s := by unfold cut; rw [if_pos (by omega)]
    have b1 := smb (s + 1) (by omega)
    have b0 := smb s (by omega)
    have smS : sm t (s + 1) = sm t s + t s := rfl
    have cle : ∀ s', s' < 8 → cut t (s + 1) s' ≤ 12 := fun s' hs' => by unfold cut; split; exact ht s' hs'; omega
    rw [show s + 1 + 2 = (s + 2) + 1 by omega, nI_s1, L_X9_layCounts_130, s0, em]
    refine ⟨fun z => absurd z (nI_neg (by omega)), fun _ => ⟨fun z => absurd rfl z, fun _ => X9_isOf_sp ⟨fun q => ?_, fun q => ?_⟩⟩⟩
    · rw [e s (by omega)] at q
      have q := b_ofn q
      rw [c0, vp_nI (by omega) (by omega), gI, nI_CL (by omega), hT.1 s (by omega), cs]
      have tI : (nI C - 1).toInt = (C : Int) - 1 := by
        rw [i_sub (by rw [i_nI (by omega), show (1 : Int32).toInt = 1 by decide]; omega) (by rw [i_nI (by omega), show (1 : Int32).toInt = 1 by decide]; omega), i_nI (by omega)]; rfl
      rw [i_le, tI, i_nI (by omega)]
      refine ⟨fun w => ⟨by omega, fun x1 e1 => ?_⟩, fun w => ?_⟩
      · rw [nI_sb (by omega), show sm t (s + 1) - t s = sm t s by omega] at e1
        subst e1
        refine X9_adds_sp (m := 0) hn1 hwf (by omega) cle (by omega) hT (by rw [cs, nI_cI (by have := ht s (by omega); omega), cI_neg]; congr 1; omega) (fun M' T' f' => ih (by omega) M' ?_ (frA_tr hf f') (fun j j1 j2 j3 => ?_))
        · have : upT1 (cut t (s + 1)) s 0 = cut t s := funext fun i => by
            unfold upT1 cut
            by_cases z : i = s
            · rw [if_pos z, if_neg (by omega)]
            · rw [if_neg z]
              by_cases y : i < s
              · rw [if_pos y, if_pos (by omega)]
              · rw [if_neg y, if_neg (by omega)]
          rw [← this]; exact T'
        · by_cases z : j = s
          · rw [z]; omega
          · exact hj j (by omega) j2 j3
      · have tm := ht s (by omega)
        refine X9_adds_sp (m := t s + 1) hn1 hwf (by omega) cle (by omega) hT (by rw [cs]; show (1 : Int32) = _; rw [show ((t s + 1 : Nat) : Int) - (t s : Int) = 1 by omega]; rfl) (fun M' T' f' => ?_)
        have T2 : TR M' n (ndx t s) := by
          have : upT1 (cut t (s + 1)) s (t s + 1) = ndx t s := funext fun i => by
            unfold upT1 cut ndx
            by_cases z : i = s
            · rw [if_pos z, if_neg (by omega), if_pos z]
            · rw [if_neg z]
              by_cases y : i < s
              · rw [if_pos y, if_pos (by omega)]
              · rw [if_neg y, if_neg (by omega), if_neg z]
          rw [← this]; exact T'
        have fin := h1 s M' (by omega) q (by omega) (fun j j1 j2 j3 => hj j (by omega) j2 j3) T2 (frA_tr hf f')
        rw [nI_A1, L_X9_layCounts_130]
        exact ⟨fun _ => fin, fun _ => ⟨fun _ => fin, fun z => absurd z (by decide)⟩⟩
    · rw [e s (by omega)] at q
      have q := b_of0 q
      have t0 := hadm s (by omega) q
      have : sm t (s + 1) = sm t s := by omega
      rw [this]
      refine ih (by omega) M ?_ hf (fun j j1 j2 j3 => ?_)
      · have : cut t s = cut t (s + 1) := funext fun i => by
          unfold cut
          by_cases y : i < s
          · rw [if_pos y, if_pos (by omega)]
          · rw [if_neg y]
            by_cases z : i = s
            · rw [if_pos (by omega), z, t0]
            · rw [if_neg (by omega)]
        rw [this]; exact hT
      · by_cases z : j = s
        · rw [z, q] at j3; cases j3
        · exact hj j (by omega) j2 j3
