/-! the class: counts sought -/
def frN (st : Nat) (M M' : Mem) : Prop := (∀ b, b ≠ 124 → b ≠ 128 → b ≠ 129 → M'.1 b = M.1 b) ∧ (∀ j, j ≠ 9 → j ≠ 10 → M'.1 124 j = M.1 124 j) ∧ (∀ s, s < st → M'.1 128 s = M.1 128 s) ∧ M'.2 = M.2
theorem frN_rf (st : Nat) (M : Mem) : frN st M M := ⟨fun _ _ _ _ => rfl, fun _ _ _ => rfl, fun _ _ => rfl, rfl⟩
theorem frN_tr {st : Nat} {M M1 M2 : Mem} (h : frN st M M1) (h' : frN st M1 M2) : frN st M M2 := ⟨fun b a c d => by rw [h'.1 b a c d, h.1 b a c d], fun j a c => by rw [h'.2.1 j a c, h.2.1 j a c], fun s hs => by rw [h'.2.2.1 s hs, h.2.2.1 s hs], by rw [h'.2.2.2, h.2.2.2]⟩
theorem frN_1 {st : Nat} {M M' : Mem} (h : frN (st + 1) M M') : frN st M M' := ⟨h.1, h.2.1, fun s hs => h.2.2.1 s (by omega), h.2.2.2⟩
theorem rw9_N {st : Nat} {M M' : Mem} {Y : Nat → Nat → Int} (h : rw9 M Y) (f : frN st M M') : rw9 M' Y := fun r hr i hi => by rw [f.2.2.2]; exact h r hr i hi
theorem RO_N {st : Nat} {M M' : Mem} {rw' c : Nat → Nat} {k s : Nat} (h : RO M rw' c k s) (f : frN st M M') : RO M' rw' c k s := by unfold RO; rw [f.1 127 (by decide) (by decide) (by decide)]; exact h
theorem ltP_s {st m : Nat} {t y : Nat → Nat} : ltP (st + 1) (fun s => if s = st then m else t s) y ↔ ltP st t y ∨ (eqP st t y ∧ y st < m) := by
  constructor
  · intro ⟨i, i1, i2, i3⟩
    have i2' : ∀ l, l < i → y l = if l = st then m else t l := i2
    have i3' : y i < if i = st then m else t i := i3
    by_cases q : i = st
    · rw [if_pos q] at i3'
      rw [q] at i3' i2'
      exact Or.inr ⟨fun l hl => by have := i2' l hl; rw [if_neg (by omega)] at this; exact this, i3'⟩
    · rw [if_neg q] at i3'
      exact Or.inl ⟨i, by omega, fun l hl => by have := i2' l hl; rw [if_neg (by omega)] at this; exact this, i3'⟩
  · intro h
    rcases h with ⟨i, i1, i2, i3⟩ | ⟨h1, h2⟩
    · exact ⟨i, by omega, fun l hl => by show y l = if l = st then m else t l; rw [if_neg (by omega)]; exact i2 l hl, by show y i < if i = st then m else t i; rw [if_neg (by omega)]; exact i3⟩
    · exact ⟨st, by omega, fun l hl => by show y l = if l = st then m else t l; rw [if_neg (by omega)]; exact h1 l hl, by show y st < if st = st then m else t st; rw [if_pos rfl]; exact h2⟩
theorem eqP_s {st m : Nat} {t y : Nat → Nat} : eqP (st + 1) (fun s => if s = st then m else t s) y ↔ eqP st t y ∧ y st = m := by
  constructor
  · intro h
    have h' : ∀ l, l < st + 1 → y l = if l = st then m else t l := h
    refine ⟨fun l hl => by have := h' l (by omega); rw [if_neg (by omega)] at this; exact this, ?_⟩
    have := h' st (by omega)
    rw [if_pos rfl] at this
    exact this
  · intro ⟨h1, h2⟩ l hl
    show y l = if l = st then m else t l
    by_cases q : l = st
    · rw [if_pos q, q]; exact h2
    · rw [if_neg q]; exact h1 l (by omega)
theorem sm_cong' {f g : Nat → Nat} : ∀ {n : Nat}, (∀ i, i < n → f i = g i) → sm f n = sm g n
  | 0, _ => rfl
  | n + 1, h => by rw [sm, sm, sm_cong' (fun i hi => h i (by omega)), h n (by omega)]
theorem lex_ge {st m : Nat} {t x y : Nat → Nat} (hs : st < 8) (h : ltP st t x ∨ (eqP st t x ∧ x st < m)) (h1 : eqP st t y) (h2 : m ≤ y st) : lexle x y := by
  rcases h with h | ⟨a, b⟩
  · exact lex_of (by omega) h h1
  · exact Or.inr ⟨st, hs, fun l hl => by rw [a l hl, h1 l hl], by omega⟩
theorem X6_sk101_sp {n : NN} {am t : Nat → Nat} {st lo hi : Nat} {rec : Int32 → Int32 → Mem → (Mem → Prop) → Prop} {M0 : Mem} {K : Mem → Prop} {lm0 : Int} (hst : st < 8) (hlo : lo ≤ hi) (hhi : hi ≤ 12) (hd : sm t st ≤ 12)
    (hall : ∀ y, eqP st t y → Sol n am y → adU n y → sm y 8 ≤ 12 → lo ≤ y st ∧ y st ≤ hi) (hC0 : CB M0 n am (ltP st t) lm0)
    (hrec : ∀ m, lo ≤ m → m ≤ hi → ∀ (M1 : Mem) (lm1 : Int) (K1 : Mem → Prop), sm t st + m ≤ 12 → CB M1 n am (ltP (st + 1) (fun s => if s = st then m else t s)) lm1 → frN st M0 M1 → M1.1 128 st = nI m → (∀ M' lm', CB M' n am (fun y => ltP (st + 1) (fun s => if s = st then m else t s) y ∨ eqP (st + 1) (fun s => if s = st then m else t s) y) lm' → frN (st + 1) M1 M' → K1 M') → rec (nI (st + 1)) (nI (sm t st + m)) M1 K1)
    (hK : ∀ M' lm', CB M' n am (fun y => ltP st t y ∨ eqP st t y) lm' → frN st M0 M' → K M') : ∃ g, L_X6_seek_101 (nI st) (nI (sm t st)) (nI hi) rec (fun M_8 => K M_8) K g (nI lo) M0 := by
  have end' : ∀ (m : Nat) (M1 : Mem) (lm1 : Int), CB M1 n am (ltP (st + 1) (fun s => if s = st then m else t s)) lm1 → frN st M0 M1 → (∀ y, eqP st t y → Sol n am y → adU n y → m ≤ y st → lm1 < (sm y 8 : Int)) → K M1 := fun m M1 lm1 c1 c2 c3 => hK M1 lm1 (CB_ext c1 (fun y hy => by
      rcases ltP_s.mp hy with q | q
      · exact Or.inl q
      · exact Or.inr q.1) (fun y hy h1 h2 => by
      by_cases q : ltP (st + 1) (fun s => if s = st then m else t s) y
      · exact Or.inl q
      · have e : eqP st t y := by
          rcases hy with z | z
          · exact absurd (ltP_s.mpr (Or.inl z)) q
          · exact z
        have g : m ≤ y st := by
          rcases Nat.lt_or_ge (y st) m with z | z
          · exact absurd (ltP_s.mpr (Or.inr ⟨e, z⟩)) q
          · exact z
        exact Or.inr ⟨c3 y e h2 h1 g, fun x hx => lex_ge hst (ltP_s.mp hx) e g⟩)) c2
  have key : ∀ g m, m + g = hi + 1 → lo ≤ m → ∀ (M1 : Mem) (lm1 : Int), CB M1 n am (ltP (st + 1) (fun s => if s = st then m else t s)) lm1 → frN st M0 M1 → L_X6_seek_101 (nI st) (nI (sm t st)) (nI hi) rec (fun M_8 => K M_8) K (g + 1) (nI m) M1 := by
    intro g
    induction g with
    | zero =>
      intro m hm hl M1 lm1 c1 c2
      rw [L_X6_seek_101, nI_LT (a := hi) (by omega) (by omega)]
      refine ⟨fun w => absurd w (nI_neg (by omega)), fun _ => ⟨fun _ => end' m M1 lm1 c1 c2 (fun y h1 h2 h3 h4 => ?_), fun w => absurd w (by omega)⟩⟩
      have := c1.2.2.1
      rcases Nat.lt_or_ge 12 (sm y 8) with z | z
      · omega
      · have := (hall y h1 h2 h3 z).2; omega
    | succ g ih =>
      intro m hm hl M1 lm1 c1 c2
      have l12 := c1.2.2.1
      rw [L_X6_seek_101, nI_LT (a := hi) (by omega) (by omega), nI_add, i_lt (M1.1 124 10), c1.1, i_nI (n := sm t st + m) (by omega), vp_nI (by omega) (by omega), nI_CL (by omega), nI_A1, nI_A1]
      refine ⟨fun w => absurd w (nI_neg (by omega)), fun _ => ⟨fun w => absurd w (by omega), fun _ => ⟨fun w => end' m M1 lm1 c1 c2 (fun y h1 h2 h3 h4 => ?_), fun w => ⟨by omega, fun M6 e6 => ?_⟩⟩⟩⟩
      · have e : sm y st = sm t st := sm_cong' h1
        have := sm_mono (f := y) (show st + 1 ≤ 8 by omega)
        rw [sm] at this
        omega
      · have f6 : frN st M1 M6 := ⟨fun b _ h2 _ => by rw [e6, w1_ne h2], fun j _ _ => by rw [e6, w1_ne (by decide)], fun s hs => by rw [e6, w1_no (by omega)], by rw [e6, w1_2]⟩
        have c6 : CB M6 n am (ltP (st + 1) (fun s => if s = st then m else t s)) lm1 := by
          unfold CB
          rw [e6, w1_ne (by decide), w1_ne (by decide)]
          exact c1
        refine hrec m hl (by omega) M6 lm1 _ (by omega) c6 (frN_tr c2 f6) (by rw [e6, w1_at]) (fun M7 lm7 c7 f7 => ?_)
        refine ih (m + 1) (by omega) (by omega) M7 lm7 (CB_ext c7 (fun y hy => ?_) (fun y hy _ _ => Or.inl ?_)) (frN_tr c2 (frN_tr f6 (frN_1 f7)))
        · rcases hy with z | z
          · rcases ltP_s.mp z with w | w
            · exact ltP_s.mpr (Or.inl w)
            · exact ltP_s.mpr (Or.inr ⟨w.1, by omega⟩)
          · have := eqP_s.mp z
            exact ltP_s.mpr (Or.inr ⟨this.1, by omega⟩)
        · rcases ltP_s.mp hy with w | w
          · exact Or.inl (ltP_s.mpr (Or.inl w))
          · rcases Nat.lt_succ_iff_lt_or_eq.mp w.2 with v | v
            · exact Or.inl (ltP_s.mpr (Or.inr ⟨w.1, v⟩))
            · exact Or.inr (eqP_s.mpr ⟨w.1, v⟩)
  refine ⟨_, key (hi + 1 - lo) lo (by omega) (Nat.le_refl _) M0 lm0 (CB_ext hC0 (fun y hy => ltP_s.mpr (Or.inl hy)) (fun y hy h1 h2 => ?_)) (frN_rf st M0)⟩
  rcases ltP_s.mp hy with w | w
  · exact Or.inl w
  · refine Or.inr ⟨?_, fun x hx => lex_of (by omega) hx w.1⟩
    have := hC0.2.2.1
    rcases Nat.lt_or_ge 12 (sm y 8) with z | z
    · omega
    · have := (hall y w.1 h2 h1 z).1; omega
theorem X6_seek_sp {n : NN} {am : Nat → Nat} {Y : Nat → Nat → Int} {rw' c : Nat → Nat} {k us tp ts : Nat} (h : SS n am Y rw' c k) (hus : UU n us 8) (hwf : WF n tp ts) : ∀ d st, st + d = 8 → ∀ dp, d < dp → ∀ (t : Nat → Nat) (M : Mem) (K : Mem → Prop) (lm : Int), M.1 124 11 = nI us → rw9 M Y → RO M rw' c k 0 → (∀ s, s < st → M.1 128 s = nI (t s)) → sm t st ≤ 12 → (∀ s, s < st → (nS n).testBit s = false → t s = 0) → (∀ i, i < k → c i < st → dt (c i + 1) (Y (rw' i)) (fun s => (t s : Int)) = Y (rw' i) 8) → CB M n am (ltP st t) lm →
    (∀ M' lm', CB M' n am (fun y => ltP st t y ∨ eqP st t y) lm' → frN st M M' → K M') → f_X6_seek dp (nI st) (nI (sm t st)) M K := by
  have hu8 := hus.1
  intro d
  induction d with
  | zero =>
    intro st hst dp hdp t M K lm hn hY hO ht hd had hrow hC hK
    obtain ⟨dp, rfl⟩ := Nat.exists_eq_add_of_le hdp
    have st8 : st = 8 := by omega
    subst st8
    have t12 : ∀ s, s < 8 → t s ≤ 12 := fun s hs => by
      have := sm_mono (f := t) (show s + 1 ≤ 8 by omega)
      rw [sm] at this; omega
    have far : ¬ (sm t 8 : Int) ≤ lm → K M := fun q => hK M lm (CB_ext hC (fun y hy => Or.inl hy) (fun y hy _ _ => by
      rcases hy with z | z
      · exact Or.inl z
      · refine Or.inr ⟨?_, fun x hx => lex_of (by omega) hx z⟩
        have : sm y 8 = sm t 8 := sm_cong' z
        omega)) (frN_rf 8 M)
    rw [show 0 + 1 + dp = dp + 1 by omega, f_X6_seek]
    unfold f_X6_seekB
    have e10 : ∀ (Q : Prop), (M.1 124 10 < nI (sm t 8) ↔ Q) ↔ (lm < (sm t 8 : Int) ↔ Q) := fun Q => by rw [i_lt, hC.1, i_nI (by omega)]
    refine ⟨fun q => far ?_, fun q => ?_⟩
    · have := (e10 _).mp (Iff.rfl); rw [i_lt, hC.1, i_nI (by omega)] at q; omega
    · rw [i_lt, hC.1, i_nI (by omega)] at q
      have l0 : M.1 124 10 = nI lm.toNat := by have := cl_of (x := M.1 124 10) (by rw [hC.1]; omega); rw [hC.1] at this; exact this
      have lmle := hC.2.2.1
      rw [l0, nI_sb (by omega)]
      refine X6_canStillBe_sp h hY hO (Nat.le_refl _) (by omega) (fun s hs => ⟨ht s hs, t12 s hs⟩) ⟨fun _ => ⟨fun w => absurd w (by rw [l_8, nI_LT (by omega) (by omega)]; omega), fun _ M9 e9 M10 e10 M11 e11 => ?_⟩, fun w => absurd w (by decide)⟩ (fun w => ⟨fun z => absurd rfl z, fun _ => ?_⟩)
      · rw [show (0 : Int32).toNatClampNeg = 0 from rfl, show (8 : Int32).toNatClampNeg = 8 from rfl] at e11
        have s11 : ∀ j, M11.1 124 j = M10.1 124 j := fun j => by rw [e11, wC_ne (by decide)]
        have sol : Sol n am t := (Sol_iff h).mpr (fun i hi => hrow i hi (by have := (h.1.2.1 i hi).1.2.1; omega))
        have hl : nI (sm t 8) - 1 = M11.1 124 10 := by rw [s11, e10, w1_at]
        have tI : (nI (sm t 8) - 1).toInt = (sm t 8 : Int) - 1 := by
          rw [i_sub (by rw [i_nI (by omega), show (1 : Int32).toInt = 1 by decide]; omega) (by rw [i_nI (by omega), show (1 : Int32).toInt = 1 by decide]; omega), i_nI (by omega)]; rfl
        refine hK M11 ((sm t 8 : Int) - 1) ⟨by rw [← hl]; exact tI, by omega, by omega, Or.inr ⟨t, by rw [s11, e10, w1_no (by decide), e9, w1_at], rfl, fun s hs => ?_, Or.inr (fun _ _ => rfl), had, sol, hd, fun y hy h2 h3 => ?_⟩⟩ ⟨fun b h1 h2 h3 => by rw [e11, wC_ne h3, e10, w1_ne h1, e9, w1_ne h1], fun j h1 h2 => by rw [s11, e10, w1_no h2, e9, w1_no h1], fun s hs => by rw [e11, wC_ne (by decide), e10, w1_ne (by decide), e9, w1_ne (by decide)], by rw [e11, wC_2, e10, w1_2, e9, w1_2]⟩
        · rw [e11, wC_eq, cpy0, if_pos hs, e10, w1_ne (by decide), e9, w1_ne (by decide)]; exact ht s hs
        · rcases hy with z | z
          · left
            rcases hC.2.2.2 with ⟨_, d2, d3⟩ | ⟨x, _, x2, _, _, _, _, _, x8⟩
            · have := d3 y z h2 h3; omega
            · have := x8 y z h2 h3; omega
          · right
            exact ⟨(sm_cong' z).symm, Or.inl (fun s hs => (z s hs).symm)⟩
      · refine far (fun z => ?_)
        have sol : Sol n am t := (Sol_iff h).mpr (fun i hi => hrow i hi (by have := (h.1.2.1 i hi).1.2.1; omega))
        have := w t (fun _ _ => rfl) sol
        omega
  | succ d ih =>
    intro st hst dp hdp t M K lm hn hY hO ht hd had hrow hC hK
    obtain ⟨dp, rfl⟩ := Nat.exists_eq_add_of_le hdp
    have t12 : ∀ s, s < st → t s ≤ 12 := fun s hs => by
      have := sm_mono (f := t) (show s + 1 ≤ st by omega)
      rw [sm] at this; omega
    -- nobody behind these is better
    have far : (∀ y, eqP st t y → Sol n am y → adU n y → lm < (sm y 8 : Int)) → K M := fun q => hK M lm (CB_ext hC (fun y hy => Or.inl hy) (fun y hy h1 h2 => by
      rcases hy with z | z
      · exact Or.inl z
      · exact Or.inr ⟨q y z h2 h1, fun x hx => lex_of (by omega) hx z⟩)) (frN_rf st M)
    have smy : ∀ y, eqP st t y → sm t st ≤ sm y 8 := fun y hy => by
      have := sm_mono (f := y) (show st ≤ 8 by omega)
      have e : sm y st = sm t st := sm_cong' hy
      omega
    rw [show d + 1 + 1 + dp = (d + 1 + dp) + 1 by omega, f_X6_seek]
    unfold f_X6_seekB
    refine ⟨fun q => far (fun y hy _ _ => ?_), fun q => ?_⟩
    · rw [i_lt, hC.1, i_nI (by omega)] at q
      have := smy y hy; omega
    rw [i_lt, hC.1, i_nI (by omega)] at q
    have l0 : M.1 124 10 = nI lm.toNat := by have := cl_of (x := M.1 124 10) (by rw [hC.1]; omega); rw [hC.1] at this; exact this
    have lmle := hC.2.2.1
    rw [l0, nI_sb (by omega)]
    refine X6_canStillBe_sp h hY hO (by omega) (by omega) (fun s hs => ⟨ht s hs, t12 s hs⟩) ⟨fun _ => ⟨fun _ => ?_, fun w => absurd (by rw [l_8, nI_LT (by omega) (by omega)]; omega) w⟩, fun w => absurd w (by decide)⟩ (fun w => ⟨fun z => absurd rfl z, fun _ => far (fun y hy h2 _ => ?_)⟩)
    · have hrow1 : ∀ m : Nat, ∀ i, i < k → c i < st → dt (c i + 1) (Y (rw' i)) (fun s => ((if s = st then m else t s : Nat) : Int)) = Y (rw' i) 8 := fun m i hi hc => by
        rw [dt_cong (u' := Y (rw' i)) (v' := fun s => (t s : Int)) (fun s hs => ⟨rfl, by rw [if_neg (by omega)]⟩)]
        exact hrow i hi hc
      have sml' : ∀ m : Nat, sm (fun s => if s = st then m else t s) (st + 1) = sm t st + m := fun m => by
        rw [sm, if_pos rfl, sm_cong' (g := t) (fun s hs => if_neg (by omega))]
      -- once more, from step st + 1 on
      have step : ∀ (m : Nat), ((nS n).testBit st = false → m = 0) → (∀ i, i < k → c i = st → dt (c i + 1) (Y (rw' i)) (fun s => ((if s = st then m else t s : Nat) : Int)) = Y (rw' i) 8) → ∀ (M1 : Mem) (lm1 : Int) (K1 : Mem → Prop), sm t st + m ≤ 12 → CB M1 n am (ltP (st + 1) (fun s => if s = st then m else t s)) lm1 → frN st M M1 → M1.1 128 st = nI m → (∀ M' lm', CB M' n am (fun y => ltP (st + 1) (fun s => if s = st then m else t s) y ∨ eqP (st + 1) (fun s => if s = st then m else t s) y) lm' → frN (st + 1) M1 M' → K1 M') → f_X6_seek (d + 1 + dp) (nI (st + 1)) (nI (sm t st + m)) M1 K1 := by
        intro m hm1 hm2 M1 lm1 K1 hs12 c1 c2 c3 kk
        rw [← sml' m]
        refine ih (st + 1) (by omega) (d + 1 + dp) (by omega) (fun s => if s = st then m else t s) M1 K1 lm1 (by rw [c2.2.1 11 (by decide) (by decide)]; exact hn) (rw9_N hY c2) (RO_N hO c2) (fun s hs => ?_) (by rw [sml' m]; exact hs12) (fun s hs hb => ?_) (fun i hi hc => ?_) c1 kk
        · by_cases z : s = st
          · rw [if_pos z, z]; exact c3
          · rw [if_neg z, c2.2.2.1 s (by omega)]; exact ht s (by omega)
        · by_cases z : s = st
          · rw [if_pos z]; rw [z] at hb; exact hm1 hb
          · rw [if_neg z]; exact had s (by omega) hb
        · by_cases z : c i = st
          · exact hm2 i hi z
          · exact hrow1 m i hi (by omega)
      have yst : ∀ y, sm y 8 ≤ 12 → y st ≤ 12 := fun y hy => by
        have := sm_mono (f := y) (show st + 1 ≤ 8 by omega)
        rw [sm] at this; omega
      rw [hn, vp_nI (by omega) (by omega), gI, nI_CL (by omega)]
      intro x5 e5
      have eb : decide (((nI us >>> (nI st &&& 31)) &&& (1 : Int32)) = 1) = us.testBit st := bt_nI (n := us) (k := st) (by omega) (by omega)
      refine ⟨by omega, ?_⟩
      unfold S_X6_seek_86
      rcases hO st (Nat.zero_le _) (by omega) with ⟨i, i1, i2, i3⟩ | ⟨i1, i2⟩
      · obtain ⟨⟨u1, u2, _⟩, u3, u4, u5, u6⟩ := h.1.2.1 i i1
        rw [i3]
        have rowy : ∀ y, eqP st t y → Sol n am y → Y (rw' i) st * (y st : Int) = Y (rw' i) 8 - dt st (Y (rw' i)) (fun s => (t s : Int)) := fun y hy hs => by
          have e := (Sol_iff h).mp hs i i1
          rw [i2, dt, dt_cong (u' := Y (rw' i)) (v' := fun s => (t s : Int)) (fun s hs' => ⟨rfl, by rw [hy s hs']⟩)] at e
          omega
        rw [i2] at u3
        refine ⟨fun z => absurd z (nI_M (by omega)), fun _ => X6_countByRow_sp u1 (by omega) i3 (hY _ u1) u6 u3 (fun s hs => ⟨ht s hs, t12 s hs⟩) (fun x hx ex => ?_) (fun no => ?_)⟩
        · have inj : ∀ i', i' < k → c i' = st → i' = i := fun i' hi' e => by
            rcases Nat.lt_trichotomy i' i with z | z | z
            · have := (h.1.2.2.1 i' i z i1).2; omega
            · exact z
            · have := (h.1.2.2.1 i i' z hi').2; omega
          have col : (nS n).testBit st = false → False := fun hb => u3 (h.1.2.2.2.2.2.2.2 st (by omega) (fun r hr => by
            unfold SR cgI
            rw [if_pos (by omega)]
            have tz : ∀ f : Nat → Nat, (f (10 * st + r) ≠ 0 → (nS n).testBit ((10 * st + r) / 10) = true) → f (10 * st + r) = 0 := fun f hf => Classical.byContradiction fun w => by
              have := hf w
              rw [(md hr).2, hb] at this; cases this
            have z1 : nG n (10 * st + r) = 0 := tz n.2.1 (fun w => (wf_Gn hwf w).2.2)
            have z2 : nT n (10 * st + r) = 0 := tz n.1 (fun w => (wf_Tn hwf w).2.2)
            rw [z1, z2]; rfl) (rw' i) u1)
          refine X6_sk101_sp (lo := x) (hi := x) (by omega) (Nat.le_refl _) hx hd (fun y y1 y2 y3 y4 => ?_) hC (fun m m1 m2 => step m (fun hb => (col hb).elim) (fun i' hi' e => ?_)) hK
          · have := rowy y y1 y2
            rw [← ex] at this
            have := Int.eq_of_mul_eq_mul_left u3 this
            omega
          · have mx : m = x := by omega
            rw [inj i' hi' e, i2, dt, if_pos rfl, dt_cong (u' := Y (rw' i)) (v' := fun s => (t s : Int)) (fun s hs' => ⟨rfl, by rw [if_neg (by omega)]⟩), mx]
            omega
        · refine ⟨1, ?_⟩
          rw [L_X6_seek_101]
          refine ⟨fun _ => far (fun y y1 y2 y3 => ?_), fun z => absurd (by decide) z⟩
          rcases Nat.lt_or_ge 12 (sm y 8) with z | z
          · omega
          · exact absurd (rowy y y1 y2) (no (y st) (yst y z))
      · rw [i2]
        refine ⟨fun _ => ?_, fun z => absurd rfl z⟩
        cases hb : us.testBit st
        · rw [hb] at eb
          have x0 : x5 = nI 0 := by rw [e5, if_pos (of_decide_eq_false eb)]; rfl
          have nu : ¬ usN n st := fun u => by rw [(hus.2 st (by omega)).mpr ⟨by omega, u⟩] at hb; cases hb
          rw [x0]
          refine X6_sk101_sp (lo := 0) (hi := 0) (by omega) (Nat.le_refl _) (by omega) hd (fun y y1 y2 y3 y4 => ⟨Nat.zero_le _, by rw [y3 st (by omega) nu]; exact Nat.le_refl _⟩) hC (fun m m1 m2 => step m (fun _ => by omega) (fun i' hi' e => absurd e (i1 i' hi'))) hK
        · rw [hb] at eb
          have x0 : x5 = nI 12 := by rw [e5, if_neg (fun z => z (of_decide_eq_true eb))]; rfl
          have iu := us_in hwf ((hus.2 st (by omega)).mp hb).2
          rw [x0]
          refine X6_sk101_sp (lo := 0) (hi := 12) (by omega) (by omega) (by omega) hd (fun y y1 y2 y3 y4 => ⟨Nat.zero_le _, yst y y4⟩) hC (fun m m1 m2 => step m (fun z => by rw [iu] at z; cases z) (fun i' hi' e => absurd e (i1 i' hi'))) hK
    · have := w y hy h2
      have e : sm y st = sm t st := sm_cong' hy
      have := sm_mono (f := y) (show st ≤ 8 by omega)
      omega
