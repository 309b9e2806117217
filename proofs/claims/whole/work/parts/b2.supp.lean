/-! support, siphon: the class, that may throw -/
noncomputable def f_X8_support (v1 : Int32) (v2 : Int32) (M : Mem) (K : Int32 → Mem → Prop) (Kx : Mem → Prop) : Prop := f_X8_isOneOfTwo v1 M (fun r M_2 => ((¬ r = 0 → f_X8_weights v1 M_2 (fun r_2 M_3 => isX7 r_2 ∧ ((v2 < 0 → Kx M_3) ∧ (¬ v2 < 0 → ((v2 < M_3.1 r_2 5 → vp_in v2 256 ∧ K (gI M_3 (r_2 + 3) v2) M_3) ∧ (¬ v2 < M_3.1 r_2 5 → Kx M_3)))))) ∧ (r = 0 → Kx M_2)))
abbrev rm_X8_support : Room := { frames := 30, cells := 1, slots := 6, locals := 700 }
theorem m_X8_support (l : Launch) (hl : l.stackTraces = false) {v1 v2 : Int32} {M : Mem} {K : Int32 → Mem → Prop} {Kx : Mem → Prop} (h : f_X8_support v1 v2 M K Kx) : CTx l yX8_support cX8_support 4 (some .int) rm_X8_support (fun ad => [.ref (ad 41), .int v1, .int v2]) M K Kx := by
  refine rw_entx (by decide +kernel) (fun ad => Nat.le_of_ble_eq_true rfl) (fun p e s m args below meth c D cy ad C hx ho => ?_)
  change rw_W p l e _ s m args below meth c D cy ad 4 0 0 _ 0 [(0, .ref (ad 41)), (1, .int v1), (2, .int v2)] [] M
  unfold f_X8_support at h
  refine r_iload_n C 1 dX8_support_0 rfl rfl ?_
  refine cX8_199 C (m_X8_isOneOfTwo l h) ⟨Nat.le_of_ble_eq_true rfl, Nat.le_of_ble_eq_true rfl⟩ (Nat.le_of_ble_eq_true rfl) ⟨Nat.zero_le _, Nat.zero_le _⟩ dX8_support_1 (fun r M_2 h => ?_)
  refine r_if_ne C 17 dX8_support_4 (by decide) (fun hc => ?_) (fun hc => ?_)
  · replace h := h.1 hc
    refine r_aload_n C 0 dX8_support_17 rfl rfl ?_
    refine r_iload_n C 1 dX8_support_18 rfl rfl ?_
    refine cX8_202 C (m_X8_weights l h) ⟨Nat.le_of_ble_eq_true rfl, Nat.le_of_ble_eq_true rfl⟩ (Nat.le_of_ble_eq_true rfl) ⟨Nat.zero_le _, Nat.zero_le _⟩ dX8_support_19 (fun r_2 M_3 h => ?_)
    obtain ⟨q, h⟩ := h
    refine r_astore_n C [(3, .ref (ad r_2)), (0, .ref (ad 41)), (1, .int v1), (2, .int v2)] dX8_support_22 rfl (by decide) rfl ?_
    refine r_iload_n C 3 dX8_support_23 rfl rfl ?_
    refine r_if_lt C 35 dX8_support_24 (by decide) (fun hc => ?_) (fun hc => ?_)
    · exact r_nse C hl hx ho hx.2.2.2.2.1 dX8_support_35 dX8_support_38 dX8_support_39 dX8_support_41 dX8_support_44 ⟨by decide, by decide, by decide, by decide⟩ (h.1 hc)
    · replace h := h.2 hc
      refine r_iload_n C 3 dX8_support_27 rfl rfl ?_
      refine r_aload_n C 0 dX8_support_28 rfl rfl ?_
      refine gX8_206 C q dX8_support_29 ?_
      refine r_icmp_lt C 45 dX8_support_32 (by decide) (fun hc => ?_) (fun hc => ?_)
      · replace h := h.1 hc
        refine r_aload_n C 0 dX8_support_45 rfl rfl ?_
        refine gX8_221 C q dX8_support_46 ?_
        refine r_iload_n C 3 dX8_support_49 rfl rfl ?_
        refine r_iald C (isX7_A3 q) h.1 dX8_support_50 ?_
        exact r_iretX C dX8_support_51 h.2
      · exact r_nse C hl hx ho hx.2.2.2.2.1 dX8_support_35 dX8_support_38 dX8_support_39 dX8_support_41 dX8_support_44 ⟨by decide, by decide, by decide, by decide⟩ (h.2 hc)
  · replace h := h.2 hc
    exact r_nse C hl hx ho hx.2.2.2.1 dX8_support_7 dX8_support_10 dX8_support_11 dX8_support_13 dX8_support_16 ⟨by decide, by decide, by decide, by decide⟩ h
noncomputable def f_X8_siphon (v1 : Int32) (v2 : Int32) (M : Mem) (K : Int32 → Mem → Prop) (Kx : Mem → Prop) : Prop := f_X8_isOneOfTwo v1 M (fun r M_2 => ((¬ r = 0 → f_X8_leastSets v1 M_2 (fun r_2 M_3 => isX3 r_2 ∧ ((v2 < 0 → Kx M_3) ∧ (¬ v2 < 0 → ((v2 < M_3.1 r_2 5 → vp_in v2 256 ∧ K (gI M_3 (r_2 + 3) v2) M_3) ∧ (¬ v2 < M_3.1 r_2 5 → Kx M_3)))))) ∧ (r = 0 → Kx M_2)))
abbrev rm_X8_siphon : Room := { frames := 30, cells := 1, slots := 6, locals := 700 }
theorem m_X8_siphon (l : Launch) (hl : l.stackTraces = false) {v1 v2 : Int32} {M : Mem} {K : Int32 → Mem → Prop} {Kx : Mem → Prop} (h : f_X8_siphon v1 v2 M K Kx) : CTx l yX8_siphon cX8_siphon 4 (some .int) rm_X8_siphon (fun ad => [.ref (ad 41), .int v1, .int v2]) M K Kx := by
  refine rw_entx (by decide +kernel) (fun ad => Nat.le_of_ble_eq_true rfl) (fun p e s m args below meth c D cy ad C hx ho => ?_)
  change rw_W p l e _ s m args below meth c D cy ad 4 0 0 _ 0 [(0, .ref (ad 41)), (1, .int v1), (2, .int v2)] [] M
  unfold f_X8_siphon at h
  refine r_iload_n C 1 dX8_siphon_0 rfl rfl ?_
  refine cX8_199 C (m_X8_isOneOfTwo l h) ⟨Nat.le_of_ble_eq_true rfl, Nat.le_of_ble_eq_true rfl⟩ (Nat.le_of_ble_eq_true rfl) ⟨Nat.zero_le _, Nat.zero_le _⟩ dX8_siphon_1 (fun r M_2 h => ?_)
  refine r_if_ne C 17 dX8_siphon_4 (by decide) (fun hc => ?_) (fun hc => ?_)
  · replace h := h.1 hc
    refine r_aload_n C 0 dX8_siphon_17 rfl rfl ?_
    refine r_iload_n C 1 dX8_siphon_18 rfl rfl ?_
    refine cX8_236 C (m_X8_leastSets l h) ⟨Nat.le_of_ble_eq_true rfl, Nat.le_of_ble_eq_true rfl⟩ (Nat.le_of_ble_eq_true rfl) ⟨Nat.zero_le _, Nat.zero_le _⟩ dX8_siphon_19 (fun r_2 M_3 h => ?_)
    obtain ⟨q, h⟩ := h
    refine r_astore_n C [(3, .ref (ad r_2)), (0, .ref (ad 41)), (1, .int v1), (2, .int v2)] dX8_siphon_22 rfl (by decide) rfl ?_
    refine r_iload_n C 3 dX8_siphon_23 rfl rfl ?_
    refine r_if_lt C 35 dX8_siphon_24 (by decide) (fun hc => ?_) (fun hc => ?_)
    · exact r_nse C hl hx ho hx.2.2.2.2.2 dX8_siphon_35 dX8_siphon_38 dX8_siphon_39 dX8_siphon_41 dX8_siphon_44 ⟨by decide, by decide, by decide, by decide⟩ (h.1 hc)
    · replace h := h.2 hc
      refine r_iload_n C 3 dX8_siphon_27 rfl rfl ?_
      refine r_aload_n C 0 dX8_siphon_28 rfl rfl ?_
      refine gX8_240 C q dX8_siphon_29 ?_
      refine r_icmp_lt C 45 dX8_siphon_32 (by decide) (fun hc => ?_) (fun hc => ?_)
      · replace h := h.1 hc
        refine r_aload_n C 0 dX8_siphon_45 rfl rfl ?_
        refine gX8_243 C q dX8_siphon_46 ?_
        refine r_iload_n C 3 dX8_siphon_49 rfl rfl ?_
        refine r_iald C (isX3_A3 q) h.1 dX8_siphon_50 ?_
        exact r_iretX C dX8_siphon_51 h.2
      · exact r_nse C hl hx ho hx.2.2.2.2.2 dX8_siphon_35 dX8_siphon_38 dX8_siphon_39 dX8_siphon_41 dX8_siphon_44 ⟨by decide, by decide, by decide, by decide⟩ (h.2 hc)
  · replace h := h.2 hc
    exact r_nse C hl hx ho hx.2.2.2.1 dX8_siphon_7 dX8_siphon_10 dX8_siphon_11 dX8_siphon_13 dX8_siphon_16 ⟨by decide, by decide, by decide, by decide⟩ h
theorem C_support {c : Nat} {v1 v2 : Int32} {M : Mem} {z : ZS} {K : Int32 → Mem → Prop} {Kx : Mem → Prop} (hc : c < 100000) (h : IvC c M z) (k0 : isSm (zsN z) v1 v2 = false → ∀ M', IvC c M' z → loC M M' → Kx M') (k1 : isSm (zsN z) v1 v2 = true → ∀ M', IvC c M' z → loC M M' → K (nI (nthB (gNw (zsN z) (wbv v1)) v2.toNatClampNeg)) M') : f_X8_support v1 v2 M K Kx := by
  unfold f_X8_support
  refine X8_isOneOfTwo_sp ⟨fun q => ?_, fun q => ?_⟩
  · have q := of_decide_eq_true (b_ofn q)
    refine X8_weights_sp hc (is01 q) h (fun M' a b lo => ⟨isX7_wt _, ?_⟩)
    have c2 := cNw_le (zsN z) (wbv v1)
    have ei : isSm (zsN z) v1 v2 = decide (0 ≤ v2 ∧ v2 < nI (cNw (zsN z) (wbv v1))) := by unfold isSm; rw [decide_eq_true q, Bool.true_and]
    rw [ei] at k0 k1
    rw [b.1]
    refine ⟨fun y => k0 (decide_eq_false (fun t => i_nlt.mpr t.1 y)) M' a lo, fun y => ⟨fun y2 => ?_, fun y2 => k0 (decide_eq_false (fun t => y2 t.2)) M' a lo⟩⟩
    have k := k1 (decide_eq_true ⟨i_nlt.mp y, y2⟩) M' a lo
    obtain ⟨j, j1, j2⟩ := nn_of y
    have y2 : v2 < nI (cNw (zsN z) (wbv v1)) := y2
    rw [j2, nI_LT (by omega) (by omega)] at y2
    rw [j2, nI_CL (by omega)] at k
    rw [j2, gI, nI_CL (by omega), (lsW_k b y2).1]
    exact ⟨(vp_nI (by omega) (by omega)).mpr (by omega), k⟩
  · have q := of_decide_eq_false (b_of0 q)
    exact k0 (by unfold isSm; rw [decide_eq_false q, Bool.false_and]) M h (loC_rf M)
theorem C_siphon {c : Nat} {v1 v2 : Int32} {M : Mem} {z : ZS} {K : Int32 → Mem → Prop} {Kx : Mem → Prop} (hc : c < 100000) (h : IvC c M z) (k0 : isSn (zsN z) v1 v2 = false → ∀ M', IvC c M' z → loC M M' → Kx M') (k1 : isSn (zsN z) v1 v2 = true → ∀ M', IvC c M' z → loC M M' → K (nI (nthB (lsN (zsN z) (wbv v1)) v2.toNatClampNeg)) M') : f_X8_siphon v1 v2 M K Kx := by
  unfold f_X8_siphon
  refine X8_isOneOfTwo_sp ⟨fun q => ?_, fun q => ?_⟩
  · have q := of_decide_eq_true (b_ofn q)
    refine X8_leastSets_sp hc (is01 q) h (fun M' a _ b lo => ⟨isX3_ps _, ?_⟩)
    have lo := loC_ps lo
    have c2 := cLw_le (zsN z) (wbv v1)
    have ei : isSn (zsN z) v1 v2 = decide (0 ≤ v2 ∧ v2 < nI (cLw (zsN z) (wbv v1))) := by unfold isSn; rw [decide_eq_true q, Bool.true_and]
    rw [ei] at k0 k1
    rw [b.1]
    refine ⟨fun y => k0 (decide_eq_false (fun t => i_nlt.mpr t.1 y)) M' a lo, fun y => ⟨fun y2 => ?_, fun y2 => k0 (decide_eq_false (fun t => y2 t.2)) M' a lo⟩⟩
    have k := k1 (decide_eq_true ⟨i_nlt.mp y, y2⟩) M' a lo
    obtain ⟨j, j1, j2⟩ := nn_of y
    have y2 : v2 < nI (cLw (zsN z) (wbv v1)) := y2
    rw [j2, nI_LT (by omega) (by omega)] at y2
    rw [j2, nI_CL (by omega)] at k
    have ek := enum_k b y2
    rw [Nat.zero_add] at ek
    rw [j2, gI, nI_CL (by omega), ek]
    exact ⟨(vp_nI (by omega) (by omega)).mpr (by omega), k⟩
  · have q := of_decide_eq_false (b_of0 q)
    exact k0 (by unfold isSn; rw [decide_eq_false q, Bool.false_and]) M h (loC_rf M)
/-- what the law sees of it -/
def KLs (fR : Mem → (Int32 → Mem → Prop) → Prop) (cn : Nat) (k : Int32) (M1 : Mem) : Prop := fR M1 (fun b M2 => f_X9_thrown M2 (fun t M3 => t = k ∧ (k = 0 → gL M3 40 0 = b.toInt64) ∧ Inv (cn + 1) M3))
theorem IvC_1 {c : Nat} {M M' : Mem} {z : ZS} (h : IvC c M z) (e : M'.1 = M.1) : IvC c M' z := by
  obtain ⟨S, st, h⟩ := h
  exact IvC_c h (fun b _ _ => by rw [e]) (fun b _ _ => by rw [e]) (iCa_f h.2.2.2.2.2 (fun b _ => by rw [e]))
theorem P_support {c : Nat} {v1 v2 : Int32} {M : Mem} (hc : c < 100000) (H : Inv c M) : f_X8_support v1 v2 M (fun r M1 => KLs (f_X9_support v1 v2) c 0 (wL M1 40 0 r.toInt64)) (fun M1 => KLs (f_X9_support v1 v2) c 1 M1) := by
  obtain ⟨z, h, h'⟩ := H
  refine C_support hc h (fun n M1 i lo => ?_) (fun y M1 i lo => ?_)
  · exact R_support (IvR_lo h' lo) (fun _ M2 i2 hi e => ⟨e, fun t => absurd t (by decide), z, IvC_up (IvC_hi i hi) (Nat.le_succ _), i2⟩) (fun y => absurd y (by rw [n]; decide))
  · refine R_support (IvR_lo (M := M1) (IvR_lo h' lo) (fun b _ => rfl)) (fun n => absurd n (by rw [y]; decide)) (fun _ M2 i2 hi e => ⟨e, fun _ => ?_, z, IvC_up (IvC_hi (IvC_1 (M' := wL M1 40 0 _) i rfl) hi) (Nat.le_succ _), i2⟩)
    rw [gL, (hi 40 (Nat.le_refl _)).2]
    exact wL_at
theorem P_siphon {c : Nat} {v1 v2 : Int32} {M : Mem} (hc : c < 100000) (H : Inv c M) : f_X8_siphon v1 v2 M (fun r M1 => KLs (f_X9_siphon v1 v2) c 0 (wL M1 40 0 r.toInt64)) (fun M1 => KLs (f_X9_siphon v1 v2) c 1 M1) := by
  obtain ⟨z, h, h'⟩ := H
  refine C_siphon hc h (fun n M1 i lo => ?_) (fun y M1 i lo => ?_)
  · exact R_siphon (IvR_lo h' lo) (fun _ M2 i2 hi e => ⟨e, fun t => absurd t (by decide), z, IvC_up (IvC_hi i hi) (Nat.le_succ _), i2⟩) (fun y => absurd y (by rw [n]; decide))
  · refine R_siphon (IvR_lo (M := M1) (IvR_lo h' lo) (fun b _ => rfl)) (fun n => absurd n (by rw [y]; decide)) (fun _ M2 i2 hi e => ⟨e, fun _ => ?_, z, IvC_up (IvC_hi (IvC_1 (M' := wL M1 40 0 _) i rfl) hi) (Nat.le_succ _), i2⟩)
    rw [gL, (hi 40 (Nat.le_refl _)).2]
    exact wL_at
