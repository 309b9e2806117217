/-! doing a step: rows of tokens -/
def mvF (T G row : Nat → Int32) (s o1 o2 k : Nat) : Nat → Int32 := fun j => if o2 ≤ j ∧ j < o2 + k then row (o1 + (j - o2)) + (G (10 * s + (j - o2)) - T (10 * s + (j - o2))) else row j
theorem mvF_0 (T G row : Nat → Int32) (s o1 o2 : Nat) : mvF T G row s o1 o2 0 = row := by
  funext j; unfold mvF; rw [if_neg (by omega)]
theorem mvF_s (T G row : Nat → Int32) (s o1 o2 k : Nat) : upd (mvF T G row s o1 o2 k) (o2 + k) (row (o1 + k) + (G (10 * s + k) - T (10 * s + k))) = mvF T G row s o1 o2 (k + 1) := by
  funext j
  by_cases h : j = o2 + k
  · subst h
    rw [upd_at]; unfold mvF
    rw [if_pos (by omega), show o2 + k - o2 = k by omega]
  · rw [upd_no h]; unfold mvF
    by_cases h2 : o2 ≤ j ∧ j < o2 + k
    · rw [if_pos h2, if_pos (by omega)]
    · rw [if_neg h2, if_neg (by omega)]
theorem X1_change_sp {t s p : Nat} {M : Mem} {K : Int32 → Mem → Prop} (hs : s < 8) (hp : p < 10) (h : K (M.1 (t + 2) (10 * s + p) - M.1 (t + 1) (10 * s + p)) M) : f_X1_change t (nI s) (nI p) M K := by
  unfold f_X1_change
  intro x e
  rw [ix_s hs hp] at e
  subst e
  refine ⟨(vp_nI (by omega) (by omega)).mpr (by omega), ?_⟩
  rw [gI, gI, nI_CL (by omega)]
  exact h
theorem X9_change_sp {g s p : Nat} {M : Mem} {K : Int32 → Mem → Prop} (hg : g < 3) (hs : s < 8) (hp : p < 10) (h : K (M.1 2 (80 * g + 10 * s + p) - M.1 1 (80 * g + 10 * s + p)) M) : f_X9_change (nI g) (nI s) (nI p) M K := by
  unfold f_X9_change f_X9_arcAt
  rw [l_80, l_10, pk_mul, pk_mul, nI_add, nI_add]
  refine ⟨(vp_nI (by omega) (by omega)).mpr (by omega), (vp_nI (by omega) (by omega)).mpr (by omega), ?_⟩
  rw [gI, gI, nI_CL (by omega)]
  exact h
theorem X1_move_sp {t a s o1 o2 : Nat} {M : Mem} {K : Mem → Prop} (hS : isSt (M.1 t 6) (nI s) = true) (hs : s < 8) (h1 : a ≠ t + 1) (h2 : a ≠ t + 2) (hz : alen a < 100000) (ho1 : o1 + 10 ≤ alen a) (ho2 : o2 + 10 ≤ alen a) (ho : o1 = o2 ∨ o1 + 10 ≤ o2 ∨ o2 + 10 ≤ o1)
    (h : K (sA M a (mvF (M.1 (t + 1)) (M.1 (t + 2)) (M.1 a) s o1 o2 10))) : f_X1_move t (nI s) a (nI o1) (nI o2) M K := by
  unfold f_X1_move
  refine X1_hasStep_sp ⟨fun b => ?_, fun b => absurd (b_of0 b) (by rw [hS]; decide)⟩
  have e0 : M = sA M a (mvF (M.1 (t + 1)) (M.1 (t + 2)) (M.1 a) s o1 o2 0) := by rw [mvF_0, sA_id]
  have key : ∃ n, L_X1_move_12 t (nI s) a (nI o1) (nI o2) (fun M => K M) K n (nI 0) (sA M a (mvF (M.1 (t + 1)) (M.1 (t + 2)) (M.1 a) s o1 o2 0)) := by
    refine upT (fun n j => L_X1_move_12 t (nI s) a (nI o1) (nI o2) (fun M => K M) K n (nI j) (sA M a (mvF (M.1 (t + 1)) (M.1 (t + 2)) (M.1 a) s o1 o2 j))) 0 10 (by omega) (fun n => ?_) (fun j _ hj n ih => ?_)
    · rw [L_X1_move_12]
      exact ⟨fun _ => h, fun q => absurd (by rw [l_10, nI_LE (by omega) (by omega)]; exact Nat.le_refl _) q⟩
    · rw [L_X1_move_12, nI_add, nI_add]
      refine ⟨fun q => absurd q (by rw [l_10, nI_LE (by omega) (by omega)]; omega), fun _ => ⟨(vp_nI (by omega) (by omega)).mpr (by omega), X1_change_sp hs hj ⟨(vp_nI (by omega) (by omega)).mpr (by omega), fun M2 e2 => ?_⟩⟩⟩
      rw [gI, nI_CL (by omega), nI_CL (by omega), sA_eq, sA_ne (Ne.symm h1), sA_ne (Ne.symm h2), wI_of_sA] at e2
      have er : mvF (M.1 (t + 1)) (M.1 (t + 2)) (M.1 a) s o1 o2 j (o1 + j) = M.1 a (o1 + j) := by unfold mvF; rw [if_neg (by omega)]
      rw [er, mvF_s] at e2
      rw [e2, l_1, nI_add]
      exact ih
  rw [← e0] at key
  exact key
theorem X9_does_sp {s : Nat} {M : Mem} {K : Mem → Prop} (hs : s < 8) (h : K (sA M 3 (mvF (M.1 1) (M.1 2) (M.1 3) s 0 0 10))) : f_X9_does (nI s) M K := by
  have e0 : M = sA M 3 (mvF (M.1 1) (M.1 2) (M.1 3) s 0 0 0) := by rw [mvF_0, sA_id]
  have key : ∃ n, L_X9_does_2 (nI s) (fun M => K M) K n (nI 0) (sA M 3 (mvF (M.1 1) (M.1 2) (M.1 3) s 0 0 0)) := by
    refine upT (fun n j => L_X9_does_2 (nI s) (fun M => K M) K n (nI j) (sA M 3 (mvF (M.1 1) (M.1 2) (M.1 3) s 0 0 j))) 0 10 (by omega) (fun n => ?_) (fun j _ hj n ih => ?_)
    · rw [L_X9_does_2]
      exact ⟨fun _ => h, fun q => absurd (by rw [l_10, nI_LE (by omega) (by omega)]; exact Nat.le_refl _) q⟩
    · rw [L_X9_does_2]
      refine ⟨fun q => absurd q (by rw [l_10, nI_LE (by omega) (by omega)]; omega), fun _ => ⟨(vp_nI (by omega) (by omega)).mpr (by omega), X9_change_sp (g := 0) (by omega) hs hj (fun M2 e2 => ?_)⟩⟩
      rw [gI, nI_CL (by omega), sA_eq, sA_ne (by decide), sA_ne (by decide), wI_of_sA] at e2
      have er : mvF (M.1 1) (M.1 2) (M.1 3) s 0 0 j j = M.1 3 j := by unfold mvF; rw [if_neg (by omega)]
      have es := mvF_s (M.1 1) (M.1 2) (M.1 3) s 0 0 j
      rw [Nat.zero_add] at es
      rw [er, Nat.mul_zero, Nat.zero_add, es] at e2
      rw [e2, l_1, nI_add]
      exact ih
  rw [← e0] at key
  exact key
/-! nets as values -/
abbrev Nt : Type := (Nat → Int32) × (Nat → Int32) × (Nat → Int32) × Int32 × Int32 × Int32 × Int32
def tr (n : Nat) (f : Nat → Int32) : Nat → Int32 := fun i => if i < n then f i else 0
theorem tr_in {n i : Nat} {f : Nat → Int32} (h : i < n) : tr n f i = f i := if_pos h
theorem tr_eq {n : Nat} {f g : Nat → Int32} (h : ∀ i, i < n → f i = g i) : tr n f = tr n g := by
  funext i; unfold tr
  by_cases hi : i < n
  · rw [if_pos hi, if_pos hi, h i hi]
  · rw [if_neg hi, if_neg hi]
theorem tr_of {n : Nat} {f g : Nat → Int32} (h : tr n f = tr n g) : ∀ i, i < n → f i = g i := fun i hi => by
  have := congrFun h i
  rwa [tr_in hi, tr_in hi] at this
/-- a net of the class: arcs taken, given, tokens, how many places, steps were told, which there are -/
def nt (M : Mem) (t : Nat) : Nt := (tr 80 (M.1 (t + 1)), tr 80 (M.1 (t + 2)), tr 10 (M.1 (t + 3)), M.1 t 3, M.1 t 4, M.1 t 5, M.1 t 6)
/-- a net of the reference -/
abbrev Rt : Type := (Nat → Int32) × (Nat → Int32) × (Nat → Int32) × Int32 × Int32
def rt (M : Mem) (g : Nat) : Rt := (tr 80 (fun i => M.1 1 (80 * g + i)), tr 80 (fun i => M.1 2 (80 * g + i)), tr 10 (fun i => M.1 3 (10 * g + i)), M.1 4 g, M.1 5 g)
def toR (n : Nt) : Rt := (n.1, n.2.1, n.2.2.1, n.2.2.2.2.2.1, n.2.2.2.2.2.2)
/-- a net that the reference keeps -/
def kb (M : Mem) (i : Nat) : Rt := (tr 80 (fun j => M.1 10 (172 * i + j)), tr 80 (fun j => M.1 10 (172 * i + 80 + j)), tr 10 (fun j => M.1 10 (172 * i + 160 + j)), M.1 10 (172 * i + 170), M.1 10 (172 * i + 171))
theorem cpy0 (f g : Nat → Int32) (n k : Nat) : va_cpy f g 0 0 n k = if k < n then f k else g k := by
  unfold va_cpy
  by_cases h : k < n
  · rw [if_pos (by omega), if_pos h, Nat.sub_zero, Nat.zero_add]
  · rw [if_neg (by omega), if_neg h]
theorem X1_copyFrom_sp {d s : Nat} {M : Mem} {K : Mem → Prop} (hds : d + 4 ≤ s ∨ s + 4 ≤ d)
    (h : ∀ M' : Mem, nt M' d = nt M s → M'.1 d 7 = M.1 s 7 → M'.1 d 8 = M.1 s 8 → (∀ b, b < d ∨ d + 3 < b → M'.1 b = M.1 b) → M'.2 = M.2 → K M') : f_X1_copyFrom d s M K := by
  unfold f_X1_copyFrom
  intro M1 e1 M2 e2 M3 e3 M4 e4 M5 e5 M6 e6 M7 e7 M8 e8 M9 e9
  rw [show (0 : Int32).toNatClampNeg = 0 from rfl, show (80 : Int32).toNatClampNeg = 80 from rfl] at e1 e2
  rw [show (0 : Int32).toNatClampNeg = 0 from rfl, show (10 : Int32).toNatClampNeg = 10 from rfl] at e3
  have A1 : ∀ b, b ≠ d + 1 → M1.1 b = M.1 b := fun b hb => by rw [e1, wC_ne hb]
  have A2 : ∀ b, b ≠ d + 2 → M2.1 b = M1.1 b := fun b hb => by rw [e2, wC_ne hb]
  have A3 : ∀ b, b ≠ d + 3 → M3.1 b = M2.1 b := fun b hb => by rw [e3, wC_ne hb]
  have A4 : ∀ b, b ≠ d → M9.1 b = M3.1 b := fun b hb => by rw [e9, w1_ne hb, e8, w1_ne hb, e7, w1_ne hb, e6, w1_ne hb, e5, w1_ne hb, e4, w1_ne hb]
  have S3 : ∀ j, M3.1 s j = M.1 s j := fun j => by rw [A3 s (by omega), A2 s (by omega), A1 s (by omega)]
  have F3 : M9.1 d 3 = M.1 s 3 := by rw [e9, w1_no (by decide), e8, w1_no (by decide), e7, w1_no (by decide), e6, w1_no (by decide), e5, w1_no (by decide), e4, w1_at, S3]
  have F4 : M9.1 d 4 = M.1 s 4 := by rw [e9, w1_no (by decide), e8, w1_no (by decide), e7, w1_no (by decide), e6, w1_no (by decide), e5, w1_at, e4, w1_ne (by omega), S3]
  have F5 : M9.1 d 5 = M.1 s 5 := by rw [e9, w1_no (by decide), e8, w1_no (by decide), e7, w1_no (by decide), e6, w1_at, e5, w1_ne (by omega), e4, w1_ne (by omega), S3]
  have F6 : M9.1 d 6 = M.1 s 6 := by rw [e9, w1_no (by decide), e8, w1_no (by decide), e7, w1_at, e6, w1_ne (by omega), e5, w1_ne (by omega), e4, w1_ne (by omega), S3]
  have F7 : M9.1 d 7 = M.1 s 7 := by rw [e9, w1_no (by decide), e8, w1_at, e7, w1_ne (by omega), e6, w1_ne (by omega), e5, w1_ne (by omega), e4, w1_ne (by omega), S3]
  have F8 : M9.1 d 8 = M.1 s 8 := by rw [e9, w1_at, e8, w1_ne (by omega), e7, w1_ne (by omega), e6, w1_ne (by omega), e5, w1_ne (by omega), e4, w1_ne (by omega), S3]
  have T1 : ∀ k, k < 80 → M9.1 (d + 1) k = M.1 (s + 1) k := fun k hk => by
    rw [A4 _ (by omega), A3 _ (by omega), A2 _ (by omega), e1, wC_eq, cpy0, if_pos hk]
  have T2 : ∀ k, k < 80 → M9.1 (d + 2) k = M.1 (s + 2) k := fun k hk => by
    rw [A4 _ (by omega), A3 _ (by omega), e2, wC_eq, cpy0, if_pos hk, A1 _ (by omega)]
  have T3 : ∀ k, k < 10 → M9.1 (d + 3) k = M.1 (s + 3) k := fun k hk => by
    rw [A4 _ (by omega), e3, wC_eq, cpy0, if_pos hk, A2 _ (by omega), A1 _ (by omega)]
  refine h M9 ?_ F7 F8 (fun b hb => by rw [A4 b (by omega), A3 b (by omega), A2 b (by omega), A1 b (by omega)]) ?_
  · unfold nt
    rw [tr_eq T1, tr_eq T2, tr_eq T3, F3, F4, F5, F6]
  · rw [e9, w1_2, e8, w1_2, e7, w1_2, e6, w1_2, e5, w1_2, e4, w1_2, e3, wC_2, e2, wC_2, e1, wC_2]
theorem irem_n {a b : Nat} (ha : a < 2147483648) (hb0 : 0 < b) (hb : b < 2147483648) : irem (nI a) (nI b) = nI (a % b) := pk_rem ha hb0 hb
/-- the class keeps the net -/
theorem X2_keep_sp {v : Nat} {M : Mem} {K : Mem → Prop} {f k : Nat} (hf : M.1 54 1 = nI f) (hk : M.1 54 2 = nI k) (hf12 : f < 12) (hk12 : k ≤ 12) (hv : v + 4 ≤ 54 ∨ 104 ≤ v)
    (h : ∀ (M' : Mem) (f' k' : Nat), f' = (if k = 12 then (f + 1) % 12 else f) → k' = (if k = 12 then 12 else k + 1) → M'.1 54 1 = nI f' → M'.1 54 2 = nI k' →
      nt M' (56 + 4 * ((f' + k' - 1) % 12)) = nt M v → M'.1 (56 + 4 * ((f' + k' - 1) % 12)) 7 = M.1 v 7 → M'.1 (56 + 4 * ((f' + k' - 1) % 12)) 8 = M.1 v 8 →
      (∀ b, b ≠ 54 → (b < 56 + 4 * ((f' + k' - 1) % 12) ∨ 56 + 4 * ((f' + k' - 1) % 12) + 3 < b) → M'.1 b = M.1 b) → M'.2 = M.2 → K M') : f_X2_keep v M K := by
  have go : ∀ (M1 : Mem) (f' k' : Nat), f' = (if k = 12 then (f + 1) % 12 else f) → k' = (if k = 12 then 12 else k + 1) → M1.1 54 1 = nI f' → M1.1 54 2 = nI k' → (∀ b, b ≠ 54 → M1.1 b = M.1 b) → M1.2 = M.2 →
      vp_in (irem (((M1.1 54 1) + (M1.1 54 2)) - (1 : Int32)) (12 : Int32)) 12 ∧ f_X1_copyFrom (55 + 1 + 4 * (irem (((M1.1 54 1) + (M1.1 54 2)) - (1 : Int32)) (12 : Int32)).toNatClampNeg) v M1 (fun (M_5 : Mem) => K M_5) := by
    intro M1 f' k' ef ek hf1 hk1 hb h2
    have hf' : f' < 12 := by rw [ef]; split <;> omega
    have hk' : 1 ≤ k' ∧ k' ≤ 12 := by rw [ek]; split <;> omega
    rw [hf1, hk1, nI_add, l_1, pk_sub (by omega), l_12, irem_n (by omega) (by omega) (by omega)]
    have hr : (f' + k' - 1) % 12 < 12 := Nat.mod_lt _ (by omega)
    refine ⟨(vp_nI (by omega) (by omega)).mpr hr, ?_⟩
    rw [nI_CL (by omega)]
    have hnt : nt M1 v = nt M v := by
      unfold nt
      rw [hb _ (by omega), hb _ (by omega), hb _ (by omega), hb _ (by omega)]
    refine X1_copyFrom_sp (by omega) (fun M' e1 e2 e3 e4 e5 => h M' f' k' ef ek ?_ ?_ (by rw [← hnt]; exact e1) ?_ ?_ ?_ ?_)
    · rw [e4 54 (by omega)]; exact hf1
    · rw [e4 54 (by omega)]; exact hk1
    · rw [← hb v (by omega)]; exact e2
    · rw [← hb v (by omega)]; exact e3
    · intro b hb1 hb2
      rw [e4 b hb2, hb b hb1]
    · rw [e5, h2]
  unfold f_X2_keep S_X2_keep_6
  refine ⟨fun q M1 e1 => ?_, fun q M1 e1 => ?_⟩
  · have hk2 : k ≠ 12 := fun e => q (by rw [hk, e, l_12])
    refine go M1 f (k + 1) (by rw [if_neg hk2]) (by rw [if_neg hk2]) ?_ ?_ (fun b hb => by rw [e1, w1_ne hb]) (by rw [e1, w1_2])
    · rw [e1, w1_no (by decide), hf]
    · rw [e1, w1_at, hk, l_1, nI_add]
  · have hk2 : k = 12 := by rw [hk, l_12, nI_EQ (by omega) (by omega)] at q; exact q
    refine go M1 ((f + 1) % 12) 12 (by rw [if_pos hk2]) (by rw [if_pos hk2]) ?_ ?_ (fun b hb => by rw [e1, w1_ne hb]) (by rw [e1, w1_2])
    · rw [e1, w1_at, hf, l_1, nI_add, l_12, irem_n (by omega) (by omega) (by omega)]
    · rw [e1, w1_no (by decide), hk, hk2]
theorem X2_restore_sp {M : Mem} {K : Int32 → Mem → Prop} {f k : Nat} (hf : M.1 54 1 = nI f) (hk : M.1 54 2 = nI k) (hf12 : f < 12) (hk12 : k ≤ 12)
    (h0 : k = 0 → K 0 M) (h : 0 < k → ∀ M' : Mem, M'.1 54 1 = nI f → M'.1 54 2 = nI (k - 1) →
      nt M' 50 = nt M (56 + 4 * ((f + k - 1) % 12)) → M'.1 50 7 = M.1 (56 + 4 * ((f + k - 1) % 12)) 7 → M'.1 50 8 = M.1 (56 + 4 * ((f + k - 1) % 12)) 8 →
      (∀ b, b ≠ 54 → (b < 50 ∨ 53 < b) → M'.1 b = M.1 b) → M'.2 = M.2 → K 1 M') : f_X2_restore 50 M K := by
  unfold f_X2_restore
  refine ⟨fun q => ?_, fun q => h0 (by rw [hk, l_0, nI_EQ (by omega) (by omega)] at q; exact q)⟩
  have hk0 : 0 < k := by
    rcases Nat.eq_zero_or_pos k with e | e
    · exact absurd (by rw [hk, e]; rfl) q
    · exact e
  rw [hf, hk, nI_add, l_1, pk_sub (by omega), l_12, irem_n (by omega) (by omega) (by omega)]
  have hr : (f + k - 1) % 12 < 12 := Nat.mod_lt _ (by omega)
  refine ⟨(vp_nI (by omega) (by omega)).mpr hr, ?_⟩
  rw [nI_CL (by omega)]
  refine X1_copyFrom_sp (by omega) (fun M1 e1 e2 e3 e4 e5 M2 m2 => h hk0 M2 ?_ ?_ ?_ ?_ ?_ ?_ ?_)
  · rw [m2, w1_no (by decide), e4 54 (by omega), hf]
  · rw [m2, w1_at, e4 54 (by omega), hk, pk_sub (by omega)]
  · rw [← e1, m2]; unfold nt; simp only [w1_ne (show (50 : Nat) ≠ 54 by decide), w1_ne (show (50 + 1 : Nat) ≠ 54 by decide), w1_ne (show (50 + 2 : Nat) ≠ 54 by decide), w1_ne (show (50 + 3 : Nat) ≠ 54 by decide)]
  · rw [m2, w1_ne (by decide)]; exact e2
  · rw [m2, w1_ne (by decide)]; exact e3
  · intro b hb1 hb2
    rw [m2, w1_ne hb1, e4 b hb2]
  · rw [m2, w1_2, e5]
