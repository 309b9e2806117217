/-! the class: the table of markings -/
theorem i_bv (x : Int32) : x = nI x.toBitVec.toNat := by
  apply Int32.toBitVec_inj.mp
  show x.toBitVec = BitVec.ofNat 32 x.toBitVec.toNat
  rw [BitVec.ofNat_toNat, BitVec.setWidth_eq]
def hh (f : Nat → Int32) : Nat → Int32
  | 0 => 0
  | p + 1 => hh f p * 31 + f p
def hsI (v : Int32) : Int32 := ((v ^^^ (ushr v 10)) ^^^ (ushr v 20)) &&& 1023
def hs (f : Nat → Int32) : Nat := (hsI (hh f 10)).toBitVec.toNat
theorem hs_lt (f : Nat → Int32) : hs f < 1024 := by
  unfold hs hsI
  rw [Int32.toBitVec_and, BitVec.toNat_and]
  exact Nat.lt_of_le_of_lt Nat.and_le_right (by decide)
theorem hh_cong {f g : Nat → Int32} : ∀ {n : Nat}, (∀ p, p < n → f p = g p) → hh f n = hh g n
  | 0, _ => rfl
  | n + 1, h => by rw [hh, hh, hh_cong (fun p hp => h p (by omega)), h n (by omega)]
theorem hs_cong {f g : Nat → Int32} (h : ∀ p, p < 10 → f p = g p) : hs f = hs g := by unfold hs; rw [hh_cong h]
theorem X0_slotOf_sp {t a : Nat} {M : Mem} {K : Int32 → Mem → Prop} (ha : a + 10 ≤ 3010) (h : K (nI (hs (fun p => M.1 (t + 1) (a + p)))) M) : f_X0_slotOf t (nI a) M K := by
  unfold f_X0_slotOf
  have key : ∃ n, L_X0_slotOf_4 t (nI a) (fun v2_2 M_2 => K (((v2_2 ^^^ (ushr v2_2 (10))) ^^^ (ushr v2_2 (20))) &&& (1023)) M_2) K n (hh (fun p => M.1 (t + 1) (a + p)) 0) (nI 0) M := by
    refine upT (fun n j => L_X0_slotOf_4 t (nI a) (fun v2_2 M_2 => K (((v2_2 ^^^ (ushr v2_2 (10))) ^^^ (ushr v2_2 (20))) &&& (1023)) M_2) K n (hh (fun p => M.1 (t + 1) (a + p)) j) (nI j) M) 0 10 (by omega) (fun n => ?_) (fun j _ hj n ih => ?_)
    · rw [L_X0_slotOf_4]
      refine ⟨fun _ => ?_, fun q => absurd (by rw [l_10, nI_LE (by omega) (by omega)]; exact Nat.le_refl _) q⟩
      rw [hs, ← i_bv] at h
      exact h
    · rw [L_X0_slotOf_4, nI_add, l_10, nI_LE (by omega) (by omega), nI_A1, gI, nI_CL (by omega)]
      refine ⟨by omega, fun _ => ⟨(vp_nI (by omega) (by omega)).mpr (by omega), fun x2 e2 => ?_⟩⟩
      rw [e2]
      exact ih
  exact key
/-- the graph as the class has it; the table -/
def tS (T : Nat → Int32) (g : GS) : Prop := (∀ a, a < 1024 → T a = -1 ∨ ∃ i, i < gk g ∧ T a = nI i) ∧ (∀ i, i < gk g → ∃ k, k < 1024 ∧ T ((hs (fun p => nI (gm g i p)) + k) % 1024) = nI i ∧ ∀ k', k' < k → T ((hs (fun p => nI (gm g i p)) + k') % 1024) ≠ -1) ∧ ctB (fun a => decide (T a ≠ -1)) 1024 ≤ gk g
def cG (M : Mem) (t : Nat) (g : GS) : Prop := M.1 t 12 = nI (gk g) ∧ M.1 t 13 = bI (gl g) ∧ (∀ i, i < gk g → ∀ p, p < 10 → M.1 (t + 1) (10 * i + p) = nI (gm g i p)) ∧ (∀ i, i < gk g → M.1 (t + 2) i = gf g i ∧ M.1 (t + 3) i = gy g i) ∧ tS (M.1 (t + 6)) g
theorem X0_isSame_sp {t i : Nat} {g : GS} {x : Nat → Nat} {M : Mem} {K : Int32 → Mem → Prop} (v : GV g) (hg : cG M t g) (hi : i < gk g) (hx : ∀ p, p < 10 → M.1 (t + 1) (10 * gk g + p) = nI (x p) ∧ x p ≤ 999)
    (h1 : (∀ p, p < 10 → gm g i p = x p) → K 1 M) (h0 : ¬ (∀ p, p < 10 → gm g i p = x p) → K 0 M) : f_X0_isSame t (nI i) M K := by
  have k3 := v.1
  unfold f_X0_isSame
  refine up (fun k j => L_X0_isSame_2 t (nI i) _ K k (nI j) M) (fun j => ∀ p, p < j → gm g i p = x p) 0 10 (by omega) (fun s hs => absurd hs (Nat.not_lt_zero s)) (fun e k => ?_) (fun j _ hj e k ih => ?_)
  · rw [L_X0_isSame_2]
    exact ⟨fun _ => h1 e, fun q => absurd (by rw [l_10, nI_LE (by omega) (by omega)]; exact Nat.le_refl _) q⟩
  · have b1 := v.2.2.2.1 i hi j hj
    have b2 := (hx j hj).2
    rw [L_X0_isSame_2, hg.1]
    simp (disch := omega) only [forall_eq, gI, ix_z, m_10, m10_, m_80, m80_, m300_, m8_, m_8, nI_add, nI_A1, nI_E1, nI_L1, nI_1L, nI_1l, vp_nI, nI_LE, nI_LT, nI_EQ, nI_CL, nI_Z, l_2, l_3, l_4, l_5, l_6, l_7, l_8, l_9, l_10, l_11, l_12, l_13, l_14, l_15, l_16, l_17, l_18, l_19, l_20, l_21, l_22, l_23, l_24, l_25, l_26, l_27, l_28, l_29, l_30, l_32, l_48, l_57, l_59, l_63, l_80, l_96, l_97, l_99, l_122, l_128, l_160, l_170, l_171, l_172, l_200, l_240, l_255, l_256, l_260, l_300, l_900, l_999, l_1023, l_1024, l_1296, l_2064, l_2400, l_3010, l_4800, l_6000, l_600, l_10000, hg.2.2.1 i hi j hj, (hx j hj).1]
    refine ⟨by omega, fun _ => ⟨by omega, by omega, fun y => ih (fun p hp => ?_), fun y => h0 (fun z => y (z j hj))⟩⟩
    rcases Nat.lt_succ_iff_lt_or_eq.mp hp with u | rfl
    · exact e p u
    · exact y
theorem ctB_all {c : Nat → Bool} : ∀ {n : Nat}, (∀ i, i < n → c i = true) → ctB c n = n
  | 0, _ => rfl
  | n + 1, h => by rw [ctB_t (h n (by omega)), ctB_all (fun i hi => h i (by omega))]
theorem and1023 {a : Nat} : nI a &&& 1023 = nI (a % 1024) := by
  rw [l_1023, nI_and, show (1023 : Nat) = 2 ^ 10 - 1 from rfl, Nat.and_two_pow_sub_one_eq_mod]
/-- the search in the table -/
theorem X0_f15_sp {t : Nat} {g : GS} {x : Nat → Nat} {v1 v2 : Int32} {M : Mem} {X K : Int32 → Mem → Prop} (v : GV g) (hg : cG M t g) (hx : ∀ p, p < 10 → M.1 (t + 1) (10 * gk g + p) = nI (x p) ∧ x p ≤ 999)
    (hs1 : ∀ i, look g x = some i → K (nI i) M) (hs0 : look g x = none → ∀ k, k < 1024 → M.1 (t + 6) ((hs (fun p => nI (x p)) + k) % 1024) = -1 → (∀ k', k' < k → M.1 (t + 6) ((hs (fun p => nI (x p)) + k') % 1024) ≠ -1) → X (nI ((hs (fun p => nI (x p)) + k) % 1024)) M) : ∃ n, L_X0_findOrAdd_15 t v1 v2 X K n (nI (hs (fun p => nI (x p)))) 0 M := by
  have k3 := v.1
  have hl := hs_lt (fun p => nI (x p))
  have key : ∀ d k, k + d = 1024 → (∀ k', k' < k → M.1 (t + 6) ((hs (fun p => nI (x p)) + k') % 1024) ≠ -1 ∧ ∀ i, i < gk g → M.1 (t + 6) ((hs (fun p => nI (x p)) + k') % 1024) = nI i → ¬ ∀ p, p < 10 → gm g i p = x p) → L_X0_findOrAdd_15 t v1 v2 X K (d + 1) (nI ((hs (fun p => nI (x p)) + k) % 1024)) (nI k) M := by
    intro d
    induction d with
    | zero =>
      intro k hk e
      exfalso
      have : ctB (fun a => decide (M.1 (t + 6) a ≠ -1)) 1024 = 1024 := ctB_all (fun a ha => by
        have := (e ((a + 1024 - hs (fun p => nI (x p))) % 1024) (by omega)).1
        rw [show (hs (fun p => nI (x p)) + (a + 1024 - hs (fun p => nI (x p))) % 1024) % 1024 = a by omega] at this
        exact decide_eq_true this)
      have := hg.2.2.2.2.2.2
      omega
    | succ d ih =>
      intro k hk e
      have hb : (hs (fun p => nI (x p)) + k) % 1024 < 1024 := Nat.mod_lt _ (by omega)
      rw [L_X0_findOrAdd_15]
      simp (disch := omega) only [l_1024, nI_LE, vp_nI, gI, nI_CL, nI_A1]
      refine ⟨by omega, fun _ => ⟨hb, fun z => ?_, fun z => ?_⟩⟩
      · refine hs0 ?_ k (by omega) z (fun k' hk' => (e k' hk').1)
        cases q : look g x with
        | none => rfl
        | some i =>
          exfalso
          obtain ⟨q1, q2⟩ := look_s q
          obtain ⟨ki, c1, c2, c3⟩ := hg.2.2.2.2.2.1 i q1
          have eh : hs (fun p => nI (gm g i p)) = hs (fun p => nI (x p)) := hs_cong (fun p hp => by show nI _ = nI _; rw [q2 p hp])
          rw [eh] at c2 c3
          rcases Nat.lt_trichotomy ki k with r | r | r
          · exact (e ki r).2 i q1 c2 q2
          · subst r; rw [c2] at z; exact nI_M (by omega) z
          · exact c3 k r z
      · rcases hg.2.2.2.2.1 _ hb with y | ⟨i, hi, y⟩
        · exact absurd y z
        rw [y]
        refine X0_isSame_sp v hg hi hx (fun s1 => ⟨fun r => absurd r (by decide), fun _ => ?_⟩) (fun s0 => ⟨fun _ x3 e3 => ?_, fun r => absurd rfl r⟩)
        · rw [y]; exact hs1 i (look_of v hi s1)
        · rw [and1023] at e3
          rw [e3, show ((hs (fun p => nI (x p)) + k) % 1024 + 1) % 1024 = (hs (fun p => nI (x p)) + (k + 1)) % 1024 by omega]
          refine ih (k + 1) (by omega) (fun k' hk' => ?_)
          rcases Nat.lt_succ_iff_lt_or_eq.mp hk' with u | rfl
          · exact e k' u
          · exact ⟨z, fun i' hi' yi => by rw [y, nI_EQ (by omega) (by omega)] at yi; rw [← yi]; exact s0⟩
  have := key 1024 0 (by omega) (fun k' hk' => absurd hk' (Nat.not_lt_zero k'))
  rw [show (hs (fun p => nI (x p)) + 0) % 1024 = hs (fun p => nI (x p)) by omega] at this
  exact ⟨_, this⟩
/-- what findOrAdd may change of the class's graph -/
def frC (t : Nat) (M M' : Mem) : Prop := (∀ b, b < t ∨ t + 11 < b → M'.1 b = M.1 b) ∧ M'.2 = M.2
theorem frC_rf (t : Nat) (M : Mem) : frC t M M := ⟨fun _ _ => rfl, rfl⟩
theorem frC_tr {t : Nat} {M M1 M2 : Mem} (h : frC t M M1) (h' : frC t M1 M2) : frC t M M2 := ⟨fun b hb => by rw [h'.1 b hb, h.1 b hb], by rw [h'.2, h.2]⟩
theorem ctB_upd {T : Nat → Int32} {a : Nat} {u : Int32} : ∀ n, ctB (fun i => decide (upd T a u i ≠ -1)) n ≤ ctB (fun i => decide (T i ≠ -1)) n + (if a < n then 1 else 0)
  | 0 => Nat.zero_le _
  | n + 1 => by
    have ih := ctB_upd (T := T) (a := a) (u := u) n
    rw [ctB, ctB]
    by_cases q : n = a
    · subst q
      rw [if_neg (Nat.lt_irrefl _)] at ih
      rw [if_pos (c := n < n + 1) (Nat.lt_succ_self _)]
      split <;> split <;> omega
    · rw [show upd T a u n = T n from upd_no q]
      by_cases z : a < n
      · rw [if_pos z] at ih
        rw [if_pos (c := a < n + 1) (by omega)]
        split <;> omega
      · rw [if_neg z] at ih
        rw [if_neg (c := a < n + 1) (by omega)]
        split <;> omega
theorem X0_findOrAdd_sp {t : Nat} {g : GS} {x : Nat → Nat} {f y : Int32} {M : Mem} {K : Int32 → Mem → Prop} (v : GV g) (hg : cG M t g) (hx : ∀ p, p < 10 → M.1 (t + 1) (10 * gk g + p) = nI (x p) ∧ x p ≤ 999)
    (h : ∀ M', cG M' t (come g x f y).1 → frC t M M' → M'.1 (t + 1) = M.1 (t + 1) → M'.1 (t + 4) = M.1 (t + 4) → M'.1 (t + 5) = M.1 (t + 5) → (∀ k, k ≠ 12 → k ≠ 13 → M'.1 t k = M.1 t k) → K (come g x f y).2 M') : f_X0_findOrAdd t f y M K := by
  have k3 := v.1
  unfold f_X0_findOrAdd
  rw [hg.1, l_10, m_10]
  refine X0_slotOf_sp (by omega) ?_
  rw [hs_cong (f := fun p => M.1 (t + 1) (10 * gk g + p)) (g := fun p => nI (x p)) (fun p hp => (hx p hp).1)]
  unfold come at h
  refine X0_f15_sp v hg hx (fun i e => ?_) (fun e k hk hz hn => ?_)
  · rw [e] at h
    exact h M hg (frC_rf t M) rfl rfl rfl (fun _ _ _ => rfl)
  · rw [e] at h
    dsimp only at h
    have hb : (hs (fun p => nI (x p)) + k) % 1024 < 1024 := Nat.mod_lt _ (by omega)
    rw [hg.1, l_300, nI_LT (by omega) (by omega)]
    refine ⟨fun q => ⟨(vp_nI (by omega) (by omega)).mpr hb, fun M5 e5 => ?_⟩, fun q M9 e9 => ?_⟩
    · rw [if_neg (by omega)] at h
      have c5 : M5.1 t 12 = nI (gk g) := by rw [e5, w1_ne (by omega)]; exact hg.1
      rw [c5]
      refine ⟨(vp_nI (by omega) (by omega)).mpr q, fun M6 e6 => ?_⟩
      have c6 : M6.1 t 12 = nI (gk g) := by rw [e6, w1_ne (by omega)]; exact c5
      rw [c6]
      refine ⟨(vp_nI (by omega) (by omega)).mpr q, fun M7 e7 M8 e8 => ?_⟩
      have c7 : M7.1 t 12 = nI (gk g) := by rw [e7, w1_ne (by omega)]; exact c6
      rw [c7, nI_A1] at e8
      rw [nI_CL (by omega)] at e5 e6 e7
      have q0 : M8.1 t = upd (M.1 t) 12 (nI (gk g + 1)) := by rw [e8, w1_eq, e7, w1_ne (by omega), e6, w1_ne (by omega), e5, w1_ne (by omega)]
      have q2 : M8.1 (t + 2) = upd (M.1 (t + 2)) (gk g) f := by rw [e8, w1_ne (by omega), e7, w1_ne (by omega), e6, w1_eq, e5, w1_ne (by omega)]
      have q3 : M8.1 (t + 3) = upd (M.1 (t + 3)) (gk g) y := by rw [e8, w1_ne (by omega), e7, w1_eq, e6, w1_ne (by omega), e5, w1_ne (by omega)]
      have q6 : M8.1 (t + 6) = upd (M.1 (t + 6)) ((hs (fun p => nI (x p)) + k) % 1024) (nI (gk g)) := by rw [e8, w1_ne (by omega), e7, w1_ne (by omega), e6, w1_ne (by omega), e5, w1_eq]
      have qn : ∀ b, b ≠ t → b ≠ t + 2 → b ≠ t + 3 → b ≠ t + 6 → M8.1 b = M.1 b := fun b h1 h2 h3 h4 => by rw [e8, w1_ne h1, e7, w1_ne h3, e6, w1_ne h2, e5, w1_ne h4]
      have r8 : M8.1 t 12 - 1 = nI (gk g) := by
        rw [q0, upd_at, ← nI_A1]
        exact Int32.add_sub_cancel _ _
      rw [r8]
      refine h M8 ⟨?_, ?_, fun i hi p hp => ?_, fun i hi => ?_, ⟨fun a ha => ?_, fun i hi => ?_, ?_⟩⟩ ⟨fun b hb => qn b (by omega) (by omega) (by omega) (by omega), by rw [e8, w1_2, e7, w1_2, e6, w1_2, e5, w1_2]⟩ (qn _ (by omega) (by omega) (by omega) (by omega)) (qn _ (by omega) (by omega) (by omega) (by omega)) (qn _ (by omega) (by omega) (by omega) (by omega)) (fun k h1 h2 => by rw [q0, upd_no h1])
      · rw [q0, upd_at]
      · rw [q0, upd_no (by decide)]; exact hg.2.1
      · change i < gk g + 1 at hi
        show _ = nI ((if i = gk g then x else gm g i) p)
        rw [qn _ (by omega) (by omega) (by omega) (by omega)]
        by_cases z : i = gk g
        · subst z; rw [if_pos rfl]; exact (hx p hp).1
        · rw [if_neg z]; exact hg.2.2.1 i (by omega) p hp
      · change i < gk g + 1 at hi
        show _ = upd (gf g) (gk g) f i ∧ _ = upd (gy g) (gk g) y i
        rw [q2, q3]
        by_cases z : i = gk g
        · subst z; rw [upd_at, upd_at, upd_at, upd_at]; exact ⟨rfl, rfl⟩
        · rw [upd_no z, upd_no z, upd_no z, upd_no z]; exact hg.2.2.2.1 i (by omega)
      · rw [q6]
        show _ ∨ ∃ i, i < gk g + 1 ∧ _
        by_cases z : a = (hs (fun p => nI (x p)) + k) % 1024
        · rw [z, upd_at]; exact Or.inr ⟨gk g, by omega, rfl⟩
        · rw [upd_no z]
          rcases hg.2.2.2.2.1 a ha with u | ⟨i, u1, u2⟩
          · exact Or.inl u
          · exact Or.inr ⟨i, by omega, u2⟩
      · change i < gk g + 1 at hi
        show ∃ k_1, k_1 < 1024 ∧ M8.1 (t + 6) ((hs (fun p => nI ((if i = gk g then x else gm g i) p)) + k_1) % 1024) = nI i ∧ ∀ k', k' < k_1 → M8.1 (t + 6) ((hs (fun p => nI ((if i = gk g then x else gm g i) p)) + k') % 1024) ≠ -1
        rw [q6]
        have nn : ∀ a, M.1 (t + 6) a ≠ -1 → upd (M.1 (t + 6)) ((hs (fun p => nI (x p)) + k) % 1024) (nI (gk g)) a ≠ -1 := fun a ha => by
          by_cases z : a = (hs (fun p => nI (x p)) + k) % 1024
          · rw [z, upd_at]; exact nI_M (by omega)
          · rw [upd_no z]; exact ha
        by_cases z : i = gk g
        · subst z
          refine ⟨k, hk, ?_, fun k' hk' => ?_⟩
          · rw [if_pos rfl, upd_at]
          · rw [if_pos rfl]; exact nn _ (hn k' hk')
        · rw [if_neg z]
          obtain ⟨ki, c1, c2, c3⟩ := hg.2.2.2.2.2.1 i (by omega)
          refine ⟨ki, c1, ?_, fun k' hk' => nn _ (c3 k' hk')⟩
          rw [upd_no, c2]
          intro z2
          rw [z2, hz] at c2
          exact nI_M (by omega) c2.symm
      · rw [q6]
        show _ ≤ gk g + 1
        have := ctB_upd (T := M.1 (t + 6)) (a := (hs (fun p => nI (x p)) + k) % 1024) (u := nI (gk g)) 1024
        rw [if_pos hb] at this
        have := hg.2.2.2.2.2.2
        omega
    · rw [if_pos (by omega)] at h
      have qn : ∀ b, b ≠ t → M9.1 b = M.1 b := fun b hb => by rw [e9, w1_ne hb]
      refine h M9 ⟨?_, ?_, ?_, ?_, ?_⟩ ⟨fun b hb => qn b (by omega), by rw [e9, w1_2]⟩ (qn _ (by omega)) (qn _ (by omega)) (qn _ (by omega)) (fun k h1 h2 => by rw [e9, w1_no h2])
      · rw [e9, w1_no (by decide)]; exact hg.1
      · rw [e9, w1_at]; rfl
      · rw [qn _ (by omega)]; exact hg.2.2.1
      · rw [qn _ (by omega), qn _ (by omega)]; exact hg.2.2.2.1
      · rw [qn _ (by omega)]; exact hg.2.2.2.2
