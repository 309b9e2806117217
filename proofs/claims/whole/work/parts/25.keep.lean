/-! the reference keeps and brings back a net -/
theorem at_eq {f : Nat → Int32} {a b : Nat} (h : a = b) : f a = f b := by rw [h]
theorem r5 {a a' b b' c c' : Nat → Int32} {d d' e e' : Int32} (h1 : a = a') (h2 : b = b') (h3 : c = c') (h4 : d = d') (h5 : e = e') : ((a, b, c, d, e) : Rt) = (a', b', c', d', e') := by rw [h1, h2, h3, h4, h5]
theorem n7 {a a' b b' c c' : Nat → Int32} {d d' e e' f f' g g' : Int32} (h1 : a = a') (h2 : b = b') (h3 : c = c') (h4 : d = d') (h5 : e = e') (h6 : f = f') (h7 : g = g') : ((a, b, c, d, e, f, g) : Nt) = (a', b', c', d', e', f', g') := by rw [h1, h2, h3, h4, h5, h6, h7]
/-- a copy of n places between rows -/
def cpF (f g : Nat → Int32) (o1 o2 n : Nat) : Nat → Int32 := fun j => if o2 ≤ j ∧ j < o2 + n then f (o1 + (j - o2)) else g j
theorem cpF_0 (f g : Nat → Int32) (o1 o2 : Nat) : cpF f g o1 o2 0 = g := by funext j; unfold cpF; rw [if_neg (by omega)]
theorem cpF_s (f g : Nat → Int32) (o1 o2 n : Nat) : upd (cpF f g o1 o2 n) (o2 + n) (f (o1 + n)) = cpF f g o1 o2 (n + 1) := by
  funext j
  by_cases h : j = o2 + n
  · subst h; rw [upd_at]; unfold cpF; rw [if_pos (by omega), show o2 + n - o2 = n by omega]
  · rw [upd_no h]; unfold cpF
    by_cases h2 : o2 ≤ j ∧ j < o2 + n
    · rw [if_pos h2, if_pos (by omega)]
    · rw [if_neg h2, if_neg (by omega)]
theorem cpF_in {f g : Nat → Int32} {o1 o2 n j : Nat} (h : o2 ≤ j) (h2 : j < o2 + n) : cpF f g o1 o2 n j = f (o1 + (j - o2)) := if_pos ⟨h, h2⟩
theorem cpF_out {f g : Nat → Int32} {o1 o2 n j : Nat} (h : j < o2 ∨ o2 + n ≤ j) : cpF f g o1 o2 n j = g j := if_neg (by omega)
/-- the rows of arcs, two at once -/
theorem X9_keep_63_sp {o : Nat} {M : Mem} {X K : Mem → Prop} (ho : o + 172 ≤ 2064) (h : X (sA M 10 (cpF (M.1 2) (cpF (M.1 1) (M.1 10) 0 o 80) 0 (o + 80) 80))) : ∃ n, L_X9_keep_63 (nI o) X K n 0 M := by
  have e0 : M = sA M 10 (cpF (M.1 2) (cpF (M.1 1) (M.1 10) 0 o 0) 0 (o + 80) 0) := by rw [cpF_0, cpF_0, sA_id]
  have key : ∃ n, L_X9_keep_63 (nI o) X K n (nI 0) (sA M 10 (cpF (M.1 2) (cpF (M.1 1) (M.1 10) 0 o 0) 0 (o + 80) 0)) := by
    refine upT (fun n j => L_X9_keep_63 (nI o) X K n (nI j) (sA M 10 (cpF (M.1 2) (cpF (M.1 1) (M.1 10) 0 o j) 0 (o + 80) j))) 0 80 (by omega) (fun n => ?_) (fun j _ hj n ih => ?_)
    · rw [L_X9_keep_63]
      exact ⟨fun _ => h, fun q => absurd (by rw [l_80, nI_LE (by omega) (by omega)]; exact Nat.le_refl _) q⟩
    · rw [L_X9_keep_63, nI_add, l_80, nI_add, nI_add]
      refine ⟨fun q => absurd q (by rw [nI_LE (by omega) (by omega)]; omega), fun _ => ⟨(vp_nI (by omega) (by omega)).mpr (by omega), (vp_nI (by omega) (by omega)).mpr (by omega), fun M1 e1 => ⟨(vp_nI (by omega) (by omega)).mpr (by omega), fun M2 e2 => ?_⟩⟩⟩
      rw [gI, nI_CL (by omega), nI_CL (by omega), sA_ne (by decide), wI_of_sA] at e1
      rw [gI, nI_CL (by omega), nI_CL (by omega), e1, sA_ne (by decide), wI_of_sA] at e2
      have e3 : upd (upd (cpF (M.1 2) (cpF (M.1 1) (M.1 10) 0 o j) 0 (o + 80) j) (o + j) (M.1 1 j)) (o + 80 + j) (M.1 2 j) = cpF (M.1 2) (cpF (M.1 1) (M.1 10) 0 o (j + 1)) 0 (o + 80) (j + 1) := by
        funext i
        by_cases h1 : i = o + 80 + j
        · subst h1; rw [upd_at, cpF_in (by omega) (by omega)]; exact at_eq (by omega)
        · rw [upd_no h1]
          by_cases h2 : i = o + j
          · subst h2; rw [upd_at, cpF_out (by omega), cpF_in (by omega) (by omega)]; exact at_eq (by omega)
          · rw [upd_no h2]
            by_cases h3 : o + 80 ≤ i ∧ i < o + 80 + j
            · rw [cpF_in h3.1 h3.2, cpF_in h3.1 (by omega)]
            · rw [cpF_out (by omega), cpF_out (n := j + 1) (by omega)]
              by_cases h4 : o ≤ i ∧ i < o + j
              · rw [cpF_in h4.1 h4.2, cpF_in h4.1 (by omega)]
              · rw [cpF_out (by omega), cpF_out (by omega)]
      rw [e2, e3, l_1, nI_add]
      exact ih
  rw [← e0] at key
  exact key
theorem X9_keep_108_sp {o : Nat} {M : Mem} {X K : Mem → Prop} (ho : o + 172 ≤ 2064) (h : X (sA M 10 (cpF (M.1 3) (M.1 10) 0 (o + 160) 10))) : ∃ n, L_X9_keep_108 (nI o) X K n 0 M := by
  have e0 : M = sA M 10 (cpF (M.1 3) (M.1 10) 0 (o + 160) 0) := by rw [cpF_0, sA_id]
  have key : ∃ n, L_X9_keep_108 (nI o) X K n (nI 0) (sA M 10 (cpF (M.1 3) (M.1 10) 0 (o + 160) 0)) := by
    refine upT (fun n j => L_X9_keep_108 (nI o) X K n (nI j) (sA M 10 (cpF (M.1 3) (M.1 10) 0 (o + 160) j))) 0 10 (by omega) (fun n => ?_) (fun j _ hj n ih => ?_)
    · rw [L_X9_keep_108]
      exact ⟨fun _ => h, fun q => absurd (by rw [l_10, nI_LE (by omega) (by omega)]; exact Nat.le_refl _) q⟩
    · rw [L_X9_keep_108, l_160, nI_add, nI_add]
      refine ⟨fun q => absurd q (by rw [l_10, nI_LE (by omega) (by omega)]; omega), fun _ => ⟨(vp_nI (by omega) (by omega)).mpr (by omega), (vp_nI (by omega) (by omega)).mpr (by omega), fun M1 e1 => ?_⟩⟩
      have es := cpF_s (M.1 3) (M.1 10) 0 (o + 160) j
      rw [Nat.zero_add] at es
      rw [gI, nI_CL (by omega), nI_CL (by omega), sA_ne (by decide), wI_of_sA, es] at e1
      rw [e1, l_1, nI_add]
      exact ih
  rw [← e0] at key
  exact key
theorem X9_keep_13_sp {M : Mem} {X K : Mem → Prop} (h : X (sA M 10 (cpF (M.1 10) (M.1 10) 172 0 1892))) : ∃ n, L_X9_keep_13 X K n 172 M := by
  have e0 : M = sA M 10 (cpF (M.1 10) (M.1 10) 172 0 (172 - 172)) := by rw [Nat.sub_self, cpF_0, sA_id]
  have key : ∃ n, L_X9_keep_13 X K n (nI 172) (sA M 10 (cpF (M.1 10) (M.1 10) 172 0 (172 - 172))) := by
    refine upT (fun n j => L_X9_keep_13 X K n (nI j) (sA M 10 (cpF (M.1 10) (M.1 10) 172 0 (j - 172)))) 172 2064 (by omega) (fun n => ?_) (fun j hj0 hj n ih => ?_)
    · rw [L_X9_keep_13]
      exact ⟨fun _ => h, fun q => absurd (by rw [l_2064, nI_LE (by omega) (by omega)]; exact Nat.le_refl _) q⟩
    · rw [L_X9_keep_13, l_172, pk_sub hj0]
      refine ⟨fun q => absurd q (by rw [l_2064, nI_LE (by omega) (by omega)]; omega), fun _ => ⟨(vp_nI (by omega) (by omega)).mpr (by omega), (vp_nI (by omega) (by omega)).mpr (by omega), fun M1 e1 => ?_⟩⟩
      have es := cpF_s (M.1 10) (M.1 10) 172 0 (j - 172)
      have er : cpF (M.1 10) (M.1 10) 172 0 (j - 172) j = M.1 10 (172 + (j - 172)) := by rw [cpF_out (by omega)]; exact at_eq (by omega)
      rw [gI, nI_CL (by omega), nI_CL (by omega), sA_eq, wI_of_sA, er] at e1
      rw [Nat.zero_add] at es
      rw [es] at e1
      rw [e1, l_1, nI_add, show j - 172 + 1 = j + 1 - 172 by omega]
      exact ih
  rw [← e0] at key
  exact key
theorem X9_keep_sp {M : Mem} {K : Mem → Prop} {k : Nat} (hk : M.1 0 26 = nI k) (hk12 : k ≤ 12)
    (h : ∀ (M' : Mem) (k' : Nat), k' = (if k = 12 then 12 else k + 1) → M'.1 0 = upd (M.1 0) 26 (nI k') → kb M' (k' - 1) = rt M 0 → (∀ i, i < k' - 1 → kb M' i = kb M (if k = 12 then i + 1 else i)) →
      (∀ b, b ≠ 0 → b ≠ 10 → M'.1 b = M.1 b) → M'.2 = M.2 → K M') : f_X9_keep M K := by
  have go : ∀ (M1 : Mem) (k1 : Nat), k1 + 1 = (if k = 12 then 12 else k + 1) → M1.1 0 26 = nI k1 → (∀ j, j ≠ 26 → M1.1 0 j = M.1 0 j) → (∀ i, i < k1 → kb M1 i = kb M (if k = 12 then i + 1 else i)) → (∀ b, b ≠ 0 → b ≠ 10 → M1.1 b = M.1 b) → M1.2 = M.2 →
      ∀ x1 : Int32, x1 = (172 : Int32) * (M1.1 0 26) → (∃ k63 : Nat, L_X9_keep_63 x1 (fun  (M_8 : Mem) => (∃ k108 : Nat, L_X9_keep_108 x1 (fun  (M_10 : Mem) => vp_in (x1 + (170 : Int32)) 2064 ∧ ∀ M_11 : Mem, M_11 = wI M_10 10 (x1 + (170 : Int32)).toNatClampNeg (gI M_10 4 (0 : Int32)) → vp_in (x1 + (171 : Int32)) 2064 ∧ ∀ M_12 : Mem, M_12 = wI M_11 10 (x1 + (171 : Int32)).toNatClampNeg (gI M_11 5 (0 : Int32)) → ∀ M_13 : Mem, M_13 = wI M_12 0 26 ((M_12.1 0 26) + (1 : Int32)) → K M_13) K k108 (0 : Int32) M_8)) K k63 (0 : Int32) M1) := by
    intro M1 k1 ek hk1 h0 hkb hb h2 x1 e1
    have hk1' : k1 ≤ 11 := by split at ek <;> omega
    rw [hk1, l_172, pk_mul] at e1
    subst e1
    refine X9_keep_63_sp (by omega) (X9_keep_108_sp (by omega) ⟨?_, fun M3 e3 => ⟨?_, fun M4 e4 M5 e5 => ?_⟩⟩)
    · rw [l_170, nI_add]; exact (vp_nI (by omega) (by omega)).mpr (by omega)
    · rw [l_171, nI_add]; exact (vp_nI (by omega) (by omega)).mpr (by omega)
    · rw [l_170, nI_add, nI_CL (by omega), gI, show (0 : Int32).toNatClampNeg = 0 from rfl, sA_ne (show (4 : Nat) ≠ 10 by decide), sA_ne (show (4 : Nat) ≠ 10 by decide), sA_ne (show (3 : Nat) ≠ 10 by decide), sA_eq, sA_sA, wI_of_sA, hb 4 (by decide) (by decide), hb 3 (by decide) (by decide), hb 2 (by decide) (by decide), hb 1 (by decide) (by decide)] at e3
      rw [l_171, nI_add, nI_CL (by omega), gI, show (0 : Int32).toNatClampNeg = 0 from rfl, e3, sA_ne (show (5 : Nat) ≠ 10 by decide), wI_of_sA, hb 5 (by decide) (by decide)] at e4
      obtain ⟨F, hF⟩ : ∃ F, F = upd (upd (cpF (M.1 3) (cpF (M.1 2) (cpF (M.1 1) (M1.1 10) 0 (172 * k1) 80) 0 (172 * k1 + 80) 80) 0 (172 * k1 + 160) 10) (172 * k1 + 170) (M.1 4 0)) (172 * k1 + 171) (M.1 5 0) := ⟨_, rfl⟩
      rw [← hF] at e4
      have eF : M5.1 10 = F := by rw [e5, w1_ne (by decide), e4, sA_eq]
      have f1 : ∀ j, j < 80 → F (172 * k1 + j) = M.1 1 j := fun j hj => by rw [hF, upd_no (by omega), upd_no (by omega), cpF_out (by omega), cpF_out (by omega), cpF_in (by omega) (by omega)]; exact at_eq (by omega)
      have f2 : ∀ j, j < 80 → F (172 * k1 + 80 + j) = M.1 2 j := fun j hj => by rw [hF, upd_no (by omega), upd_no (by omega), cpF_out (by omega), cpF_in (by omega) (by omega)]; exact at_eq (by omega)
      have f3 : ∀ j, j < 10 → F (172 * k1 + 160 + j) = M.1 3 j := fun j hj => by rw [hF, upd_no (by omega), upd_no (by omega), cpF_in (by omega) (by omega)]; exact at_eq (by omega)
      have f4 : F (172 * k1 + 170) = M.1 4 0 := by rw [hF, upd_no (by omega), upd_at]
      have f5 : F (172 * k1 + 171) = M.1 5 0 := by rw [hF, upd_at]
      have f6 : ∀ j, j < 172 * k1 → F j = M1.1 10 j := fun j hj => by rw [hF, upd_no (by omega), upd_no (by omega), cpF_out (by omega), cpF_out (by omega), cpF_out (by omega)]
      refine h M5 (k1 + 1) ek ?_ ?_ ?_ ?_ ?_
      · funext j
        by_cases hj : j = 26
        · subst hj; rw [upd_at, e5, w1_at, e4, sA_ne (by decide), hk1, l_1, nI_add]
        · rw [upd_no hj, e5, w1_no hj, e4, sA_ne (by decide), h0 j hj]
      · unfold kb rt
        rw [eF, Nat.add_sub_cancel]
        exact r5 (tr_eq fun i hi => by rw [f1 i hi, Nat.mul_zero, Nat.zero_add]) (tr_eq fun i hi => by rw [f2 i hi, Nat.mul_zero, Nat.zero_add]) (tr_eq fun i hi => by rw [f3 i hi, Nat.mul_zero, Nat.zero_add]) f4 f5
      · intro i hi
        rw [Nat.add_sub_cancel] at hi
        rw [← hkb i hi]
        unfold kb
        rw [eF]
        exact r5 (tr_eq fun j hj => f6 _ (by omega)) (tr_eq fun j hj => f6 _ (by omega)) (tr_eq fun j hj => f6 _ (by omega)) (f6 _ (by omega)) (f6 _ (by omega))
      · intro b hb1 hb2
        rw [e5, w1_ne hb1, e4, sA_ne hb2, hb b hb1 hb2]
      · rw [e5, w1_2, e4, sA_2, h2]
  unfold f_X9_keep S_X9_keep_6
  refine ⟨fun q => ?_, fun q => X9_keep_13_sp (fun M2 e2 => ?_)⟩
  · have hk2 : k ≠ 12 := fun e => q (by rw [hk, e, l_12])
    exact go M k (by rw [if_neg hk2]) hk (fun _ _ => rfl) (fun i hi => by rw [if_neg hk2]) (fun _ _ _ => rfl) rfl
  · have hk2 : k = 12 := by rw [hk, l_12, nI_EQ (by omega) (by omega)] at q; exact q
    refine go M2 11 (by rw [if_pos hk2]) ?_ ?_ ?_ ?_ ?_
    · rw [e2, w1_at, sA_ne (by decide), hk, hk2]; rfl
    · intro j hj
      rw [e2, w1_no hj, sA_ne (by decide)]
    · intro i hi
      have e3 : M2.1 10 = cpF (M.1 10) (M.1 10) 172 0 1892 := by rw [e2, w1_ne (by decide), sA_eq]
      have e4 : ∀ j, j < 1892 → M2.1 10 j = M.1 10 (172 + j) := fun j hj => by rw [e3, cpF_in (by omega) (by omega), Nat.sub_zero]
      rw [if_pos hk2]
      unfold kb
      exact r5 (tr_eq fun j hj => (e4 _ (by omega)).trans (at_eq (by omega))) (tr_eq fun j hj => (e4 _ (by omega)).trans (at_eq (by omega))) (tr_eq fun j hj => (e4 _ (by omega)).trans (at_eq (by omega))) ((e4 _ (by omega)).trans (at_eq (by omega))) ((e4 _ (by omega)).trans (at_eq (by omega)))
    · intro b hb1 hb2
      rw [e2, w1_ne hb1, sA_ne hb2]
    · rw [e2, w1_2, sA_2]
