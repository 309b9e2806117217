section MG
variable {p : Program} {l : Launch} {e : Env} {R : Room} {s : State} {m : MethodId} {args : Array Value} {below : List Frame} {meth : Method} {c : Code} {D : va_G} {cy : Nat → ClassId} {ad : Nat → Nat}
def L_X1_onlyStepWith_5 (v0 : Nat) (v1 : Nat) (v2 : Int32) (X45 : Int32 → Mem → Prop) (K : Int32 → Mem → Prop) : Nat → Int32 → Int32 → Mem → Prop
  | 0, _, _, _ => False
  | n + 1, v3, v4, M => (((M.1 v0 4) ≤ v4 → X45 v3 M) ∧ (¬ (M.1 v0 4) ≤ v4 → vp_in ((v4 * (10 : Int32)) + v2) (alen v1) ∧ ((¬ (gI M v1 ((v4 * (10 : Int32)) + v2)) = 0 → ((v3 = (-1 : Int32) → L_X1_onlyStepWith_5 v0 v1 v2 X45 K n v4 (v4 + (1 : Int32)) M) ∧ (¬ v3 = (-1 : Int32) → K (-1 : Int32) M))) ∧ ((gI M v1 ((v4 * (10 : Int32)) + v2)) = 0 → L_X1_onlyStepWith_5 v0 v1 v2 X45 K n v3 (v4 + (1 : Int32)) M))))

set_option maxHeartbeats 1000000 in
set_option maxRecDepth 10000 in
theorem mL_X1_onlyStepWith_5 (C : rw_C p s m meth c cX1_onlyStepWith 5 RX1 (some .int) D cy ad) {v0 : Nat} {v1 : Nat} {v2 : Int32} (h_v0 : isX1 v0) (h_v1 : isA v1 0 (alen v1)) {X45 : Int32 → Mem → Prop} {K : Int32 → Mem → Prop} (hX45 : ∀ (u3 : Int32) (M : Mem), X45 u3 M → rw_W p l e rm_X1_onlyStepWith s m args below meth c D cy ad 5 0 0 (rw_Qi below args s D cy ad K) 45 [(3, .int u3)] [] M) : ∀ (n : Nat) (v3 : Int32) (v4 : Int32) (M : Mem), L_X1_onlyStepWith_5 v0 v1 v2 X45 K n v3 v4 M → rw_W p l e rm_X1_onlyStepWith s m args below meth c D cy ad 5 0 0 (rw_Qi below args s D cy ad K) 5 [(0, .ref (ad v0)), (1, .ref (ad v1)), (2, .int v2), (3, .int v3), (4, .int v4)] [] M := by
  intro n
  induction n with
  | zero => intro v3 v4 M h; exact h.elim
  | succ n ih =>
    intro v3 v4 M h
    refine r_iload C 4 dX1_onlyStepWith_5 rfl ?_
    refine r_aload_n C 0 dX1_onlyStepWith_7 rfl rfl ?_
    refine gX1_25 C h_v0 dX1_onlyStepWith_8 ?_
    refine r_icmp_ge C 45 dX1_onlyStepWith_11 (by decide) (fun hc => ?_) (fun hc => ?_)
    · replace h := h.1 hc
      exact r_sub [3] rfl (hX45 _ _ h)
    · replace h := h.2 hc
      refine r_aload_n C 1 dX1_onlyStepWith_14 rfl rfl ?_
      refine r_iload C 4 dX1_onlyStepWith_15 rfl ?_
      refine r_bipush (v := (10 : Int32)) C dX1_onlyStepWith_17 rfl ?_
      refine r_imul C dX1_onlyStepWith_19 ?_
      refine r_iload_n C 2 dX1_onlyStepWith_20 rfl rfl ?_
      refine r_iadd C dX1_onlyStepWith_21 ?_
      obtain ⟨q, h⟩ := h
      refine r_iald C h_v1 q dX1_onlyStepWith_22 ?_
      refine r_if_ne C 29 dX1_onlyStepWith_23 (by decide) (fun hc => ?_) (fun hc => ?_)
      · replace h := h.1 hc
        refine r_iload_n C 3 dX1_onlyStepWith_29 rfl rfl ?_
        refine r_iconst (v := (-1 : Int32)) C dX1_onlyStepWith_30 rfl ?_
        refine r_icmp_eq C 36 dX1_onlyStepWith_31 (by decide) (fun hc => ?_) (fun hc => ?_)
        · replace h := h.1 hc
          refine r_iload C 4 dX1_onlyStepWith_36 rfl ?_
          refine r_istore_n C [(3, .int _), (0, .ref _), (1, .ref _), (2, .int _), (4, .int _)] dX1_onlyStepWith_38 rfl (by decide) rfl ?_
          refine r_iinc C 4 (v := _) [(4, .int _), (3, .int _), (0, .ref _), (1, .ref _), (2, .int _)] dX1_onlyStepWith_39 rfl rfl (by decide) rfl ?_
          refine r_goto C 5 dX1_onlyStepWith_42 (by decide) ?_
          exact r_sub [2, 3, 4, 1, 0] rfl (ih _ _ _ h)
        · replace h := h.2 hc
          refine r_iconst (v := (-1 : Int32)) C dX1_onlyStepWith_34 rfl ?_
          exact r_iret C dX1_onlyStepWith_35 h
      · replace h := h.2 hc
        refine r_goto C 39 dX1_onlyStepWith_26 (by decide) ?_
        refine r_iinc C 4 (v := _) [(4, .int _), (0, .ref _), (1, .ref _), (2, .int _), (3, .int _)] dX1_onlyStepWith_39 rfl rfl (by decide) rfl ?_
        refine r_goto C 5 dX1_onlyStepWith_42 (by decide) ?_
        exact r_sub [1, 2, 3, 4, 0] rfl (ih _ _ _ h)

def f_X1_onlyStepWith (v0 : Nat) (v1 : Nat) (v2 : Int32) (M : Mem) (K : Int32 → Mem → Prop) : Prop := (∃ k5 : Nat, L_X1_onlyStepWith_5 v0 v1 v2 (fun (v3_2 : Int32) (M_2 : Mem) => K v3_2 M_2) K k5 (-1 : Int32) (0 : Int32) M)

set_option maxHeartbeats 1000000 in
set_option maxRecDepth 10000 in
theorem m_X1_onlyStepWith (l : Launch) {v0 : Nat} {v1 : Nat} {v2 : Int32} (h_v0 : isX1 v0) (h_v1 : isI v1) {M : Mem} {K : Int32 → Mem → Prop} (h : f_X1_onlyStepWith v0 v1 v2 M K) : CTi l yX1_onlyStepWith cX1_onlyStepWith 5 (some .int) rm_X1_onlyStepWith (fun ad => [.ref (ad v0), .ref (ad v1), .int v2]) M K := by
  refine rw_enti (by decide +kernel) (fun ad => Nat.le_of_ble_eq_true rfl) (fun p e s m args below meth c D cy ad C => ?_)
  change rw_W p l e _ s m args below meth c D cy ad 5 0 0 _ 0 [(0, .ref (ad v0)), (1, .ref (ad v1)), (2, .int v2)] [] M
  unfold f_X1_onlyStepWith at h
  refine r_iconst (v := (-1 : Int32)) C dX1_onlyStepWith_0 rfl ?_
  refine r_istore_n C [(3, .int _), (0, .ref _), (1, .ref _), (2, .int _)] dX1_onlyStepWith_1 rfl (by decide) rfl ?_
  refine r_iconst (v := (0 : Int32)) C dX1_onlyStepWith_2 rfl ?_
  refine r_istore C [(4, .int _), (3, .int _), (0, .ref _), (1, .ref _), (2, .int _)] dX1_onlyStepWith_3 (by decide) rfl ?_
  obtain ⟨n5, h⟩ := h
  refine r_sub [2, 3, 4, 1, 0] rfl (mL_X1_onlyStepWith_5 C h_v0 h_v1 (fun v3_2 M_2 h => ?_) n5 _ _ _ h)
  refine r_iload_n C 0 dX1_onlyStepWith_45 rfl rfl ?_
  exact r_iret C dX1_onlyStepWith_46 h
def f_X2_forget (M : Mem) (K : Mem → Prop) : Prop := ∀ M_2 : Mem, M_2 = wI M 54 2 (0 : Int32) → K M_2

set_option maxHeartbeats 1000000 in
set_option maxRecDepth 10000 in
theorem m_X2_forget (l : Launch)   {M : Mem} {K : Mem → Prop} (h : f_X2_forget M K) : CTv l yX2_forget cX2_forget 1 none rm_X2_forget (fun ad => [.ref (ad 54)]) M K := by
  refine rw_entv (by decide +kernel) (fun ad => Nat.le_of_ble_eq_true rfl) (fun p e s m args below meth c D cy ad C => ?_)
  change rw_W p l e _ s m args below meth c D cy ad 1 0 0 _ 0 [(0, .ref (ad 54))] [] M
  unfold f_X2_forget at h
  refine r_aload_n C 0 dX2_forget_0 rfl rfl ?_
  refine r_iconst (v := (0 : Int32)) C dX2_forget_1 rfl ?_
  refine pX2_21 C dX2_forget_2 ?_
  replace h := h _ rfl
  exact r_vret C dX2_forget_5 h
def S_X2_keep_6 (v1 : Nat) (o0 : Int32) (o1 : Int32) (X35 : Mem → Prop) (K : Mem → Prop) (M : Mem) : Prop := (¬ o1 = o0 → ∀ M_2 : Mem, M_2 = wI M 54 2 ((M.1 54 2) + (1 : Int32)) → X35 M_2) ∧ (o1 = o0 → ∀ M_3 : Mem, M_3 = wI M 54 1 (irem ((M.1 54 1) + (1 : Int32)) (12 : Int32)) → X35 M_3)

set_option maxHeartbeats 1000000 in
set_option maxRecDepth 10000 in
theorem mS_X2_keep_6 (C : rw_C p s m meth c cX2_keep 2 RX2 none D cy ad) {v1 : Nat} {o0 : Int32} {o1 : Int32} (h_v1 : isX1 v1) {X35 : Mem → Prop} {K : Mem → Prop} {M : Mem} (hX35 : ∀  (M : Mem), X35 M → rw_W p l e rm_X2_keep s m args below meth c D cy ad 2 0 0 (rw_Qv below args s D cy ad K) 35 [(0, .ref (ad 54)), (1, .ref (ad v1))] [] M) (h : S_X2_keep_6 v1 o0 o1 X35 K M) : rw_W p l e rm_X2_keep s m args below meth c D cy ad 2 0 0 (rw_Qv below args s D cy ad K) 6 [(0, .ref (ad 54)), (1, .ref (ad v1))] [.int o0, .int o1] M := by
  refine r_icmp_ne C 25 dX2_keep_6 (by decide) (fun hc => ?_) (fun hc => ?_)
  · replace h := h.1 hc
    refine r_aload_n C 0 dX2_keep_25 rfl rfl ?_
    refine r_dup C dX2_keep_26 rfl ?_
    refine gX2_21 C dX2_keep_27 ?_
    refine r_iconst (v := (1 : Int32)) C dX2_keep_30 rfl ?_
    refine r_iadd C dX2_keep_31 ?_
    refine pX2_21 C dX2_keep_32 ?_
    replace h := h _ rfl
    exact hX35 _ h
  · replace h := h.2 hc
    refine r_aload_n C 0 dX2_keep_9 rfl rfl ?_
    refine r_aload_n C 0 dX2_keep_10 rfl rfl ?_
    refine gX2_17 C dX2_keep_11 ?_
    refine r_iconst (v := (1 : Int32)) C dX2_keep_14 rfl ?_
    refine r_iadd C dX2_keep_15 ?_
    refine r_bipush (v := (12 : Int32)) C dX2_keep_16 rfl ?_
    refine r_irem C dX2_keep_18 (by decide) ?_
    refine pX2_17 C dX2_keep_19 ?_
    replace h := h _ rfl
    refine r_goto C 35 dX2_keep_22 (by decide) ?_
    exact hX35 _ h

def f_X2_keep (v1 : Nat) (M : Mem) (K : Mem → Prop) : Prop := (S_X2_keep_6 v1 (12 : Int32) (M.1 54 2) (fun  (M_4 : Mem) => vp_in (irem (((M_4.1 54 1) + (M_4.1 54 2)) - (1 : Int32)) (12 : Int32)) 12 ∧ f_X1_copyFrom (55 + 1 + 4 * (irem (((M_4.1 54 1) + (M_4.1 54 2)) - (1 : Int32)) (12 : Int32)).toNatClampNeg) v1 M_4 (fun (M_5 : Mem) => K M_5)) K M)

set_option maxHeartbeats 1000000 in
set_option maxRecDepth 10000 in
theorem m_X2_keep (l : Launch) {v1 : Nat} (h_v1 : isX1 v1) {M : Mem} {K : Mem → Prop} (h : f_X2_keep v1 M K) : CTv l yX2_keep cX2_keep 2 none rm_X2_keep (fun ad => [.ref (ad 54), .ref (ad v1)]) M K := by
  refine rw_entv (by decide +kernel) (fun ad => Nat.le_of_ble_eq_true rfl) (fun p e s m args below meth c D cy ad C => ?_)
  change rw_W p l e _ s m args below meth c D cy ad 2 0 0 _ 0 [(0, .ref (ad 54)), (1, .ref (ad v1))] [] M
  unfold f_X2_keep at h
  refine r_aload_n C 0 dX2_keep_0 rfl rfl ?_
  refine gX2_21 C dX2_keep_1 ?_
  refine r_bipush (v := (12 : Int32)) C dX2_keep_4 rfl ?_
  refine mS_X2_keep_6 C h_v1 (fun M_4 h => ?_) h
  refine r_aload_n C 0 dX2_keep_35 rfl rfl ?_
  refine gX2_11 C dX2_keep_36 ?_
  refine r_aload_n C 0 dX2_keep_39 rfl rfl ?_
  refine gX2_17 C dX2_keep_40 ?_
  refine r_aload_n C 0 dX2_keep_43 rfl rfl ?_
  refine gX2_21 C dX2_keep_44 ?_
  refine r_iadd C dX2_keep_47 ?_
  refine r_iconst (v := (1 : Int32)) C dX2_keep_48 rfl ?_
  refine r_isub C dX2_keep_49 ?_
  refine r_bipush (v := (12 : Int32)) C dX2_keep_50 rfl ?_
  refine r_irem C dX2_keep_52 (by decide) ?_
  obtain ⟨q, h⟩ := h
  refine r_aald C sh_55 q dX2_keep_53 ?_
  refine r_aload_n C 1 dX2_keep_54 rfl rfl ?_
  refine cX2_25 C (nets_ok q) (m_X1_copyFrom l (nets_ok q) h_v1 h) ⟨Nat.le_of_ble_eq_true rfl, Nat.le_of_ble_eq_true rfl⟩ (Nat.le_of_ble_eq_true rfl) ⟨Nat.le_refl 0, Nat.le_refl 0⟩ dX2_keep_55 (fun M_5 h => ?_)
  exact r_vret C dX2_keep_58 h
def f_X2_restore (v1 : Nat) (M : Mem) (K : Int32 → Mem → Prop) : Prop := ((¬ (M.1 54 2) = 0 → vp_in (irem (((M.1 54 1) + (M.1 54 2)) - (1 : Int32)) (12 : Int32)) 12 ∧ f_X1_copyFrom v1 (55 + 1 + 4 * (irem (((M.1 54 1) + (M.1 54 2)) - (1 : Int32)) (12 : Int32)).toNatClampNeg) M (fun (M_2 : Mem) => ∀ M_3 : Mem, M_3 = wI M_2 54 2 ((M_2.1 54 2) - (1 : Int32)) → K (1 : Int32) M_3)) ∧ ((M.1 54 2) = 0 → K (0 : Int32) M))

set_option maxHeartbeats 1000000 in
set_option maxRecDepth 10000 in
theorem m_X2_restore (l : Launch) {v1 : Nat} (h_v1 : isX1 v1) {M : Mem} {K : Int32 → Mem → Prop} (h : f_X2_restore v1 M K) : CTi l yX2_restore cX2_restore 2 (some .boolean) rm_X2_restore (fun ad => [.ref (ad 54), .ref (ad v1)]) M K := by
  refine rw_enti (by decide +kernel) (fun ad => Nat.le_of_ble_eq_true rfl) (fun p e s m args below meth c D cy ad C => ?_)
  change rw_W p l e _ s m args below meth c D cy ad 2 0 0 _ 0 [(0, .ref (ad 54)), (1, .ref (ad v1))] [] M
  unfold f_X2_restore at h
  refine r_aload_n C 0 dX2_restore_0 rfl rfl ?_
  refine gX2_21 C dX2_restore_1 ?_
  refine r_if_ne C 9 dX2_restore_4 (by decide) (fun hc => ?_) (fun hc => ?_)
  · replace h := h.1 hc
    refine r_aload_n C 1 dX2_restore_9 rfl rfl ?_
    refine r_aload_n C 0 dX2_restore_10 rfl rfl ?_
    refine gX2_11 C dX2_restore_11 ?_
    refine r_aload_n C 0 dX2_restore_14 rfl rfl ?_
    refine gX2_17 C dX2_restore_15 ?_
    refine r_aload_n C 0 dX2_restore_18 rfl rfl ?_
    refine gX2_21 C dX2_restore_19 ?_
    refine r_iadd C dX2_restore_22 ?_
    refine r_iconst (v := (1 : Int32)) C dX2_restore_23 rfl ?_
    refine r_isub C dX2_restore_24 ?_
    refine r_bipush (v := (12 : Int32)) C dX2_restore_25 rfl ?_
    refine r_irem C dX2_restore_27 (by decide) ?_
    obtain ⟨q, h⟩ := h
    refine r_aald C sh_55 q dX2_restore_28 ?_
    refine cX2_25 C h_v1 (m_X1_copyFrom l h_v1 (nets_ok q) h) ⟨Nat.le_of_ble_eq_true rfl, Nat.le_of_ble_eq_true rfl⟩ (Nat.le_of_ble_eq_true rfl) ⟨Nat.le_refl 0, Nat.le_refl 0⟩ dX2_restore_29 (fun M_2 h => ?_)
    refine r_aload_n C 0 dX2_restore_32 rfl rfl ?_
    refine r_dup C dX2_restore_33 rfl ?_
    refine gX2_21 C dX2_restore_34 ?_
    refine r_iconst (v := (1 : Int32)) C dX2_restore_37 rfl ?_
    refine r_isub C dX2_restore_38 ?_
    refine pX2_21 C dX2_restore_39 ?_
    replace h := h _ rfl
    refine r_iconst (v := (1 : Int32)) C dX2_restore_42 rfl ?_
    exact r_zret C (by decide) dX2_restore_43 h
  · replace h := h.2 hc
    refine r_iconst (v := (0 : Int32)) C dX2_restore_7 rfl ?_
    exact r_zret C (by decide) dX2_restore_8 h
def S_X3_lookAt_42 (v0 : Nat) (v1 : Nat) (v2 : Int32) (o0 : Int32) (b0 : Int32) (b1 : Nat) (X58 : Int32 → Mem → Prop) (K : Mem → Prop) (M : Mem) : Prop := (o0 = 0 → f_X1_givenTo v1 v2 M (fun (r : Int32) (M_4 : Mem) => X58 r M_4)) ∧ (¬ o0 = 0 → f_X1_takenFrom v1 v2 M (fun (r_2 : Int32) (M_5 : Mem) => X58 r_2 M_5))

set_option maxHeartbeats 1000000 in
set_option maxRecDepth 10000 in
theorem mS_X3_lookAt_42 (C : rw_C p s m meth c cX3_lookAt 3 RX3 none D cy ad) {v0 : Nat} {v1 : Nat} {v2 : Int32} {o0 : Int32} {b0 : Int32} {b1 : Nat} (h_v0 : isX3 v0) (h_v1 : isX1 v1) (h_b1 : isA b1 0 8) {X58 : Int32 → Mem → Prop} {K : Mem → Prop} {M : Mem} (hX58 : ∀  (w0 : Int32) (M : Mem), X58 w0 M → rw_W p l e rm_X3_lookAt s m args below meth c D cy ad 3 0 0 (rw_Qv below args s D cy ad K) 58 [(0, .ref (ad v0)), (1, .ref (ad v1)), (2, .int v2)] [.int w0, .int b0, .ref (ad b1)] M) (h : S_X3_lookAt_42 v0 v1 v2 o0 b0 b1 X58 K M) : rw_W p l e rm_X3_lookAt s m args below meth c D cy ad 3 0 0 (rw_Qv below args s D cy ad K) 42 [(0, .ref (ad v0)), (1, .ref (ad v1)), (2, .int v2)] [.int o0, .int b0, .ref (ad b1)] M := by
  refine r_if_eq C 53 dX3_lookAt_42 (by decide) (fun hc => ?_) (fun hc => ?_)
  · replace h := h.1 hc
    refine r_aload_n C 1 dX3_lookAt_53 rfl rfl ?_
    refine r_iload_n C 2 dX3_lookAt_54 rfl rfl ?_
    refine cX3_46 C h_v1 (m_X1_givenTo l h_v1 h) ⟨Nat.le_of_ble_eq_true rfl, Nat.le_of_ble_eq_true rfl⟩ (Nat.le_of_ble_eq_true rfl) ⟨Nat.le_refl 0, Nat.le_refl 0⟩ dX3_lookAt_55 (fun r M_4 h => ?_)
    exact hX58 _ _ h
  · replace h := h.2 hc
    refine r_aload_n C 1 dX3_lookAt_45 rfl rfl ?_
    refine r_iload_n C 2 dX3_lookAt_46 rfl rfl ?_
    refine cX3_42 C h_v1 (m_X1_takenFrom l h_v1 h) ⟨Nat.le_of_ble_eq_true rfl, Nat.le_of_ble_eq_true rfl⟩ (Nat.le_of_ble_eq_true rfl) ⟨Nat.le_refl 0, Nat.le_refl 0⟩ dX3_lookAt_47 (fun r_2 M_5 h => ?_)
    refine r_goto C 58 dX3_lookAt_50 (by decide) ?_
    exact hX58 _ _ h

def S_X3_lookAt_68 (v0 : Nat) (v1 : Nat) (v2 : Int32) (o0 : Int32) (b0 : Int32) (b1 : Nat) (X84 : Int32 → Mem → Prop) (K : Mem → Prop) (M : Mem) : Prop := (o0 = 0 → f_X1_takenFrom v1 v2 M (fun (r_3 : Int32) (M_8 : Mem) => X84 r_3 M_8)) ∧ (¬ o0 = 0 → f_X1_givenTo v1 v2 M (fun (r_4 : Int32) (M_9 : Mem) => X84 r_4 M_9))

set_option maxHeartbeats 1000000 in
set_option maxRecDepth 10000 in
theorem mS_X3_lookAt_68 (C : rw_C p s m meth c cX3_lookAt 3 RX3 none D cy ad) {v0 : Nat} {v1 : Nat} {v2 : Int32} {o0 : Int32} {b0 : Int32} {b1 : Nat} (h_v0 : isX3 v0) (h_v1 : isX1 v1) (h_b1 : isA b1 0 8) {X84 : Int32 → Mem → Prop} {K : Mem → Prop} {M : Mem} (hX84 : ∀  (w0 : Int32) (M : Mem), X84 w0 M → rw_W p l e rm_X3_lookAt s m args below meth c D cy ad 3 0 0 (rw_Qv below args s D cy ad K) 84 [(0, .ref (ad v0)), (1, .ref (ad v1)), (2, .int v2)] [.int w0, .int b0, .ref (ad b1)] M) (h : S_X3_lookAt_68 v0 v1 v2 o0 b0 b1 X84 K M) : rw_W p l e rm_X3_lookAt s m args below meth c D cy ad 3 0 0 (rw_Qv below args s D cy ad K) 68 [(0, .ref (ad v0)), (1, .ref (ad v1)), (2, .int v2)] [.int o0, .int b0, .ref (ad b1)] M := by
  refine r_if_eq C 79 dX3_lookAt_68 (by decide) (fun hc => ?_) (fun hc => ?_)
  · replace h := h.1 hc
    refine r_aload_n C 1 dX3_lookAt_79 rfl rfl ?_
    refine r_iload_n C 2 dX3_lookAt_80 rfl rfl ?_
    refine cX3_42 C h_v1 (m_X1_takenFrom l h_v1 h) ⟨Nat.le_of_ble_eq_true rfl, Nat.le_of_ble_eq_true rfl⟩ (Nat.le_of_ble_eq_true rfl) ⟨Nat.le_refl 0, Nat.le_refl 0⟩ dX3_lookAt_81 (fun r_3 M_8 h => ?_)
    exact hX84 _ _ h
  · replace h := h.2 hc
    refine r_aload_n C 1 dX3_lookAt_71 rfl rfl ?_
    refine r_iload_n C 2 dX3_lookAt_72 rfl rfl ?_
    refine cX3_46 C h_v1 (m_X1_givenTo l h_v1 h) ⟨Nat.le_of_ble_eq_true rfl, Nat.le_of_ble_eq_true rfl⟩ (Nat.le_of_ble_eq_true rfl) ⟨Nat.le_refl 0, Nat.le_refl 0⟩ dX3_lookAt_73 (fun r_4 M_9 h => ?_)
    refine r_goto C 84 dX3_lookAt_76 (by decide) ?_
    exact hX84 _ _ h

def L_X3_lookAt_27 (v0 : Nat) (v1 : Nat) (X91 : Mem → Prop) (K : Mem → Prop) : Nat → Int32 → Mem → Prop
  | 0, _, _ => False
  | n + 1, v2, M => (((8 : Int32) ≤ v2 → X91 M) ∧ (¬ (8 : Int32) ≤ v2 → (S_X3_lookAt_42 v0 v1 v2 (M.1 v0 0) v2 (v0 + 1) (fun (w : Int32) (M_6 : Mem) => vp_in v2 8 ∧ ∀ M_7 : Mem, M_7 = wI M_6 (v0 + 1) v2.toNatClampNeg w → (S_X3_lookAt_68 v0 v1 v2 (M_7.1 v0 0) v2 (v0 + 2) (fun (w_2 : Int32) (M_10 : Mem) => vp_in v2 8 ∧ ∀ M_11 : Mem, M_11 = wI M_10 (v0 + 2) v2.toNatClampNeg w_2 → L_X3_lookAt_27 v0 v1 X91 K n (v2 + (1 : Int32)) M_11) K M_7)) K M)))

set_option maxHeartbeats 1000000 in
set_option maxRecDepth 10000 in
theorem mL_X3_lookAt_27 (C : rw_C p s m meth c cX3_lookAt 3 RX3 none D cy ad) {v0 : Nat} {v1 : Nat} (h_v0 : isX3 v0) (h_v1 : isX1 v1) {X91 : Mem → Prop} {K : Mem → Prop} (hX91 : ∀  (M : Mem), X91 M → rw_W p l e rm_X3_lookAt s m args below meth c D cy ad 3 0 0 (rw_Qv below args s D cy ad K) 91 [] [] M) : ∀ (n : Nat) (v2 : Int32) (M : Mem), L_X3_lookAt_27 v0 v1 X91 K n v2 M → rw_W p l e rm_X3_lookAt s m args below meth c D cy ad 3 0 0 (rw_Qv below args s D cy ad K) 27 [(0, .ref (ad v0)), (1, .ref (ad v1)), (2, .int v2)] [] M := by
  intro n
  induction n with
  | zero => intro v2 M h; exact h.elim
  | succ n ih =>
    intro v2 M h
    refine r_iload_n C 2 dX3_lookAt_27 rfl rfl ?_
    refine r_bipush (v := (8 : Int32)) C dX3_lookAt_28 rfl ?_
    refine r_icmp_ge C 91 dX3_lookAt_30 (by decide) (fun hc => ?_) (fun hc => ?_)
    · replace h := h.1 hc
      exact r_sub [] rfl (hX91 _ h)
    · replace h := h.2 hc
      refine r_aload_n C 0 dX3_lookAt_33 rfl rfl ?_
      refine gX3_9 C h_v0 dX3_lookAt_34 ?_
      refine r_iload_n C 2 dX3_lookAt_37 rfl rfl ?_
      refine r_aload_n C 0 dX3_lookAt_38 rfl rfl ?_
      refine gX3_36 C h_v0 dX3_lookAt_39 ?_
      refine mS_X3_lookAt_42 C h_v0 h_v1 (isX3_A1 h_v0) (fun w M_6 h => ?_) h
      obtain ⟨q, h⟩ := h
      refine r_iast C (isX3_A1 h_v0) q dX3_lookAt_58 ?_
      replace h := h _ rfl
      refine r_aload_n C 0 dX3_lookAt_59 rfl rfl ?_
      refine gX3_15 C h_v0 dX3_lookAt_60 ?_
      refine r_iload_n C 2 dX3_lookAt_63 rfl rfl ?_
      refine r_aload_n C 0 dX3_lookAt_64 rfl rfl ?_
      refine gX3_36 C h_v0 dX3_lookAt_65 ?_
      refine mS_X3_lookAt_68 C h_v0 h_v1 (isX3_A2 h_v0) (fun w_2 M_10 h => ?_) h
      obtain ⟨q_2, h⟩ := h
      refine r_iast C (isX3_A2 h_v0) q_2 dX3_lookAt_84 ?_
      replace h := h _ rfl
      refine r_iinc C 2 (v := _) [(2, .int _), (0, .ref _), (1, .ref _)] dX3_lookAt_85 rfl rfl (by decide) rfl ?_
      refine r_goto C 27 dX3_lookAt_88 (by decide) ?_
      exact r_sub [1, 2, 0] rfl (ih _ _ h)

def f_X3_lookAt (v0 : Nat) (v1 : Nat) (M : Mem) (K : Mem → Prop) : Prop := ((¬ (M.1 v0 6) = (M.1 v1 7) → ∀ M_2 : Mem, M_2 = wI M v0 6 (M.1 v1 7) → ∀ M_3 : Mem, M_3 = wI M_2 v0 7 (0 : Int32) → (∃ k27 : Nat, L_X3_lookAt_27 v0 v1 (fun  (M_12 : Mem) => K M_12) K k27 (0 : Int32) M_3)) ∧ ((M.1 v0 6) = (M.1 v1 7) → K M))

set_option maxHeartbeats 1000000 in
set_option maxRecDepth 10000 in
theorem m_X3_lookAt (l : Launch) {v0 : Nat} {v1 : Nat} (h_v0 : isX3 v0) (h_v1 : isX1 v1) {M : Mem} {K : Mem → Prop} (h : f_X3_lookAt v0 v1 M K) : CTv l yX3_lookAt cX3_lookAt 3 none rm_X3_lookAt (fun ad => [.ref (ad v0), .ref (ad v1)]) M K := by
  refine rw_entv (by decide +kernel) (fun ad => Nat.le_of_ble_eq_true rfl) (fun p e s m args below meth c D cy ad C => ?_)
  change rw_W p l e _ s m args below meth c D cy ad 3 0 0 _ 0 [(0, .ref (ad v0)), (1, .ref (ad v1))] [] M
  unfold f_X3_lookAt at h
  refine r_aload_n C 0 dX3_lookAt_0 rfl rfl ?_
  refine gX3_29 C h_v0 dX3_lookAt_1 ?_
  refine r_aload_n C 1 dX3_lookAt_4 rfl rfl ?_
  refine gX3_39 C h_v1 dX3_lookAt_5 ?_
  refine r_icmp_ne C 12 dX3_lookAt_8 (by decide) (fun hc => ?_) (fun hc => ?_)
  · replace h := h.1 hc
    refine r_aload_n C 0 dX3_lookAt_12 rfl rfl ?_
    refine r_aload_n C 1 dX3_lookAt_13 rfl rfl ?_
    refine gX3_39 C h_v1 dX3_lookAt_14 ?_
    refine pX3_29 C h_v0 dX3_lookAt_17 ?_
    replace h := h _ rfl
    refine r_aload_n C 0 dX3_lookAt_20 rfl rfl ?_
    refine r_iconst (v := (0 : Int32)) C dX3_lookAt_21 rfl ?_
    refine pX3_32 C h_v0 (by decide) dX3_lookAt_22 ?_
    replace h := h _ rfl
    refine r_iconst (v := (0 : Int32)) C dX3_lookAt_25 rfl ?_
    refine r_istore_n C [(2, .int _), (0, .ref _), (1, .ref _)] dX3_lookAt_26 rfl (by decide) rfl ?_
    obtain ⟨n27, h⟩ := h
    refine r_sub [1, 2, 0] rfl (mL_X3_lookAt_27 C h_v0 h_v1 (fun M_12 h => ?_) n27 _ _ h)
    exact r_vret C dX3_lookAt_91 h
  · replace h := h.2 hc
    exact r_vret C dX3_lookAt_11 h
def L_X3_holdsSmaller_2 (v0 : Nat) (v1 : Int32) (X41 : Mem → Prop) (K : Int32 → Mem → Prop) : Nat → Int32 → Mem → Prop
  | 0, _, _ => False
  | n + 1, v2, M => (((10 : Int32) ≤ v2 → X41 M) ∧ (¬ (10 : Int32) ≤ v2 → ((¬ ((v1 >>> (v2 &&& 31)) &&& (1 : Int32)) = (1 : Int32) → L_X3_holdsSmaller_2 v0 v1 X41 K n (v2 + (1 : Int32)) M) ∧ (((v1 >>> (v2 &&& 31)) &&& (1 : Int32)) = (1 : Int32) → vp_in (v1 &&& (((1 : Int32) <<< (v2 &&& 31)) ^^^ (-1 : Int32))) 1024 ∧ ((¬ (gI M (v0 + 4) (v1 &&& (((1 : Int32) <<< (v2 &&& 31)) ^^^ (-1 : Int32)))) = (1 : Int32) → L_X3_holdsSmaller_2 v0 v1 X41 K n (v2 + (1 : Int32)) M) ∧ ((gI M (v0 + 4) (v1 &&& (((1 : Int32) <<< (v2 &&& 31)) ^^^ (-1 : Int32)))) = (1 : Int32) → K (1 : Int32) M))))))

set_option maxHeartbeats 1000000 in
set_option maxRecDepth 10000 in
theorem mL_X3_holdsSmaller_2 (C : rw_C p s m meth c cX3_holdsSmaller 3 RX3 (some .boolean) D cy ad) {v0 : Nat} {v1 : Int32} (h_v0 : isX3 v0) {X41 : Mem → Prop} {K : Int32 → Mem → Prop} (hX41 : ∀  (M : Mem), X41 M → rw_W p l e rm_X3_holdsSmaller s m args below meth c D cy ad 3 0 0 (rw_Qi below args s D cy ad K) 41 [] [] M) : ∀ (n : Nat) (v2 : Int32) (M : Mem), L_X3_holdsSmaller_2 v0 v1 X41 K n v2 M → rw_W p l e rm_X3_holdsSmaller s m args below meth c D cy ad 3 0 0 (rw_Qi below args s D cy ad K) 2 [(0, .ref (ad v0)), (1, .int v1), (2, .int v2)] [] M := by
  intro n
  induction n with
  | zero => intro v2 M h; exact h.elim
  | succ n ih =>
    intro v2 M h
    refine r_iload_n C 2 dX3_holdsSmaller_2 rfl rfl ?_
    refine r_bipush (v := (10 : Int32)) C dX3_holdsSmaller_3 rfl ?_
    refine r_icmp_ge C 41 dX3_holdsSmaller_5 (by decide) (fun hc => ?_) (fun hc => ?_)
    · replace h := h.1 hc
      exact r_sub [] rfl (hX41 _ h)
    · replace h := h.2 hc
      refine r_iload_n C 1 dX3_holdsSmaller_8 rfl rfl ?_
      refine r_iload_n C 2 dX3_holdsSmaller_9 rfl rfl ?_
      refine r_ishr C dX3_holdsSmaller_10 ?_
      refine r_iconst (v := (1 : Int32)) C dX3_holdsSmaller_11 rfl ?_
      refine r_iand C dX3_holdsSmaller_12 ?_
      refine r_iconst (v := (1 : Int32)) C dX3_holdsSmaller_13 rfl ?_
      refine r_icmp_ne C 35 dX3_holdsSmaller_14 (by decide) (fun hc => ?_) (fun hc => ?_)
      · replace h := h.1 hc
        refine r_iinc C 2 (v := _) [(2, .int _), (0, .ref _), (1, .int _)] dX3_holdsSmaller_35 rfl rfl (by decide) rfl ?_
        refine r_goto C 2 dX3_holdsSmaller_38 (by decide) ?_
        exact r_sub [1, 2, 0] rfl (ih _ _ h)
      · replace h := h.2 hc
        refine r_aload_n C 0 dX3_holdsSmaller_17 rfl rfl ?_
        refine gX3_21 C h_v0 dX3_holdsSmaller_18 ?_
        refine r_iload_n C 1 dX3_holdsSmaller_21 rfl rfl ?_
        refine r_iconst (v := (1 : Int32)) C dX3_holdsSmaller_22 rfl ?_
        refine r_iload_n C 2 dX3_holdsSmaller_23 rfl rfl ?_
        refine r_ishl C dX3_holdsSmaller_24 ?_
        refine r_iconst (v := (-1 : Int32)) C dX3_holdsSmaller_25 rfl ?_
        refine r_ixor C dX3_holdsSmaller_26 ?_
        refine r_iand C dX3_holdsSmaller_27 ?_
        obtain ⟨q, h⟩ := h
        refine r_bald C (isX3_A4 h_v0) q dX3_holdsSmaller_28 ?_
        refine r_iconst (v := (1 : Int32)) C dX3_holdsSmaller_29 rfl ?_
        refine r_icmp_ne C 35 dX3_holdsSmaller_30 (by decide) (fun hc => ?_) (fun hc => ?_)
        · replace h := h.1 hc
          refine r_iinc C 2 (v := _) [(2, .int _), (0, .ref _), (1, .int _)] dX3_holdsSmaller_35 rfl rfl (by decide) rfl ?_
          refine r_goto C 2 dX3_holdsSmaller_38 (by decide) ?_
          exact r_sub [1, 2, 0] rfl (ih _ _ h)
        · replace h := h.2 hc
          refine r_iconst (v := (1 : Int32)) C dX3_holdsSmaller_33 rfl ?_
          exact r_zret C (by decide) dX3_holdsSmaller_34 h

def f_X3_holdsSmaller (v0 : Nat) (v1 : Int32) (M : Mem) (K : Int32 → Mem → Prop) : Prop := (∃ k2 : Nat, L_X3_holdsSmaller_2 v0 v1 (fun  (M_2 : Mem) => K (0 : Int32) M_2) K k2 (0 : Int32) M)

set_option maxHeartbeats 1000000 in
set_option maxRecDepth 10000 in
theorem m_X3_holdsSmaller (l : Launch) {v0 : Nat} {v1 : Int32} (h_v0 : isX3 v0) {M : Mem} {K : Int32 → Mem → Prop} (h : f_X3_holdsSmaller v0 v1 M K) : CTi l yX3_holdsSmaller cX3_holdsSmaller 3 (some .boolean) rm_X3_holdsSmaller (fun ad => [.ref (ad v0), .int v1]) M K := by
  refine rw_enti (by decide +kernel) (fun ad => Nat.le_of_ble_eq_true rfl) (fun p e s m args below meth c D cy ad C => ?_)
  change rw_W p l e _ s m args below meth c D cy ad 3 0 0 _ 0 [(0, .ref (ad v0)), (1, .int v1)] [] M
  unfold f_X3_holdsSmaller at h
  refine r_iconst (v := (0 : Int32)) C dX3_holdsSmaller_0 rfl ?_
  refine r_istore_n C [(2, .int _), (0, .ref _), (1, .int _)] dX3_holdsSmaller_1 rfl (by decide) rfl ?_
  obtain ⟨n2, h⟩ := h
  refine r_sub [1, 2, 0] rfl (mL_X3_holdsSmaller_2 C h_v0 (fun M_2 h => ?_) n2 _ _ h)
  refine r_iconst (v := (0 : Int32)) C dX3_holdsSmaller_41 rfl ?_
  exact r_zret C (by decide) dX3_holdsSmaller_42 h
def L_X3_isClosed_2 (v0 : Nat) (v1 : Int32) (X38 : Mem → Prop) (K : Int32 → Mem → Prop) : Nat → Int32 → Mem → Prop
  | 0, _, _ => False
  | n + 1, v2, M => (((8 : Int32) ≤ v2 → X38 M) ∧ (¬ (8 : Int32) ≤ v2 → vp_in v2 8 ∧ ((((gI M (v0 + 1) v2) &&& v1) = 0 → L_X3_isClosed_2 v0 v1 X38 K n (v2 + (1 : Int32)) M) ∧ (¬ ((gI M (v0 + 1) v2) &&& v1) = 0 → ((¬ ((gI M (v0 + 2) v2) &&& v1) = 0 → L_X3_isClosed_2 v0 v1 X38 K n (v2 + (1 : Int32)) M) ∧ (((gI M (v0 + 2) v2) &&& v1) = 0 → K (0 : Int32) M))))))

set_option maxHeartbeats 1000000 in
set_option maxRecDepth 10000 in
theorem mL_X3_isClosed_2 (C : rw_C p s m meth c cX3_isClosed 3 RX3 (some .boolean) D cy ad) {v0 : Nat} {v1 : Int32} (h_v0 : isX3 v0) {X38 : Mem → Prop} {K : Int32 → Mem → Prop} (hX38 : ∀  (M : Mem), X38 M → rw_W p l e rm_X3_isClosed s m args below meth c D cy ad 3 0 0 (rw_Qi below args s D cy ad K) 38 [] [] M) : ∀ (n : Nat) (v2 : Int32) (M : Mem), L_X3_isClosed_2 v0 v1 X38 K n v2 M → rw_W p l e rm_X3_isClosed s m args below meth c D cy ad 3 0 0 (rw_Qi below args s D cy ad K) 2 [(0, .ref (ad v0)), (1, .int v1), (2, .int v2)] [] M := by
  intro n
  induction n with
  | zero => intro v2 M h; exact h.elim
  | succ n ih =>
    intro v2 M h
    refine r_iload_n C 2 dX3_isClosed_2 rfl rfl ?_
    refine r_bipush (v := (8 : Int32)) C dX3_isClosed_3 rfl ?_
    refine r_icmp_ge C 38 dX3_isClosed_5 (by decide) (fun hc => ?_) (fun hc => ?_)
    · replace h := h.1 hc
      exact r_sub [] rfl (hX38 _ h)
    · replace h := h.2 hc
      refine r_aload_n C 0 dX3_isClosed_8 rfl rfl ?_
      refine gX3_9 C h_v0 dX3_isClosed_9 ?_
      refine r_iload_n C 2 dX3_isClosed_12 rfl rfl ?_
      obtain ⟨q, h⟩ := h
      refine r_iald C (isX3_A1 h_v0) q dX3_isClosed_13 ?_
      refine r_iload_n C 1 dX3_isClosed_14 rfl rfl ?_
      refine r_iand C dX3_isClosed_15 ?_
      refine r_if_eq C 32 dX3_isClosed_16 (by decide) (fun hc => ?_) (fun hc => ?_)
      · replace h := h.1 hc
        refine r_iinc C 2 (v := _) [(2, .int _), (0, .ref _), (1, .int _)] dX3_isClosed_32 rfl rfl (by decide) rfl ?_
        refine r_goto C 2 dX3_isClosed_35 (by decide) ?_
        exact r_sub [1, 2, 0] rfl (ih _ _ h)
      · replace h := h.2 hc
        refine r_aload_n C 0 dX3_isClosed_19 rfl rfl ?_
        refine gX3_15 C h_v0 dX3_isClosed_20 ?_
        refine r_iload_n C 2 dX3_isClosed_23 rfl rfl ?_
        refine r_iald C (isX3_A2 h_v0) q dX3_isClosed_24 ?_
        refine r_iload_n C 1 dX3_isClosed_25 rfl rfl ?_
        refine r_iand C dX3_isClosed_26 ?_
        refine r_if_ne C 32 dX3_isClosed_27 (by decide) (fun hc => ?_) (fun hc => ?_)
        · replace h := h.1 hc
          refine r_iinc C 2 (v := _) [(2, .int _), (0, .ref _), (1, .int _)] dX3_isClosed_32 rfl rfl (by decide) rfl ?_
          refine r_goto C 2 dX3_isClosed_35 (by decide) ?_
          exact r_sub [1, 2, 0] rfl (ih _ _ h)
        · replace h := h.2 hc
          refine r_iconst (v := (0 : Int32)) C dX3_isClosed_30 rfl ?_
          exact r_zret C (by decide) dX3_isClosed_31 h

def f_X3_isClosed (v0 : Nat) (v1 : Int32) (M : Mem) (K : Int32 → Mem → Prop) : Prop := (∃ k2 : Nat, L_X3_isClosed_2 v0 v1 (fun  (M_2 : Mem) => K (1 : Int32) M_2) K k2 (0 : Int32) M)

set_option maxHeartbeats 1000000 in
set_option maxRecDepth 10000 in
theorem m_X3_isClosed (l : Launch) {v0 : Nat} {v1 : Int32} (h_v0 : isX3 v0) {M : Mem} {K : Int32 → Mem → Prop} (h : f_X3_isClosed v0 v1 M K) : CTi l yX3_isClosed cX3_isClosed 3 (some .boolean) rm_X3_isClosed (fun ad => [.ref (ad v0), .int v1]) M K := by
  refine rw_enti (by decide +kernel) (fun ad => Nat.le_of_ble_eq_true rfl) (fun p e s m args below meth c D cy ad C => ?_)
  change rw_W p l e _ s m args below meth c D cy ad 3 0 0 _ 0 [(0, .ref (ad v0)), (1, .int v1)] [] M
  unfold f_X3_isClosed at h
  refine r_iconst (v := (0 : Int32)) C dX3_isClosed_0 rfl ?_
  refine r_istore_n C [(2, .int _), (0, .ref _), (1, .int _)] dX3_isClosed_1 rfl (by decide) rfl ?_
  obtain ⟨n2, h⟩ := h
  refine r_sub [1, 2, 0] rfl (mL_X3_isClosed_2 C h_v0 (fun M_2 h => ?_) n2 _ _ h)
  refine r_iconst (v := (1 : Int32)) C dX3_isClosed_38 rfl ?_
  exact r_zret C (by decide) dX3_isClosed_39 h
def L_X3_findLeast_27 (v0 : Nat) (v1 : Int32) (X121 : Mem → Prop) (K : Mem → Prop) : Nat → Int32 → Mem → Prop
  | 0, _, _ => False
  | n + 1, v2, M => (((1024 : Int32) ≤ v2 → X121 M) ∧ (¬ (1024 : Int32) ≤ v2 → vp_in v2 1024 ∧ ∀ M_5 : Mem, M_5 = wI M (v0 + 4) v2.toNatClampNeg (0 : Int32).toInt8.toInt32 → (((v2 &&& (v1 ^^^ (-1 : Int32))) = 0 → f_X3_holdsSmaller v0 v2 M_5 (fun (r : Int32) (M_6 : Mem) => ((r = 0 → f_X3_isClosed v0 v2 M_6 (fun (r_2 : Int32) (M_7 : Mem) => ((r_2 = 0 → L_X3_findLeast_27 v0 v1 X121 K n (v2 + (1 : Int32)) M_7) ∧ (¬ r_2 = 0 → (((256 : Int32) ≤ (M_7.1 v0 5) → L_X3_findLeast_27 v0 v1 X121 K n (v2 + (1 : Int32)) M_7) ∧ (¬ (256 : Int32) ≤ (M_7.1 v0 5) → ∀ M_8 : Mem, M_8 = wI M_7 (v0 + 4) v2.toNatClampNeg (1 : Int32).toInt8.toInt32 → vp_in (M_8.1 v0 5) 256 ∧ ∀ M_9 : Mem, M_9 = wI M_8 (v0 + 3) (M_8.1 v0 5).toNatClampNeg v2 → ∀ M_10 : Mem, M_10 = wI M_9 v0 5 ((M_9.1 v0 5) + (1 : Int32)) → L_X3_findLeast_27 v0 v1 X121 K n (v2 + (1 : Int32)) M_10)))))) ∧ (¬ r = 0 → ∀ M_11 : Mem, M_11 = wI M_6 (v0 + 4) v2.toNatClampNeg (1 : Int32).toInt8.toInt32 → L_X3_findLeast_27 v0 v1 X121 K n (v2 + (1 : Int32)) M_11)))) ∧ (¬ (v2 &&& (v1 ^^^ (-1 : Int32))) = 0 → L_X3_findLeast_27 v0 v1 X121 K n (v2 + (1 : Int32)) M_5))))

set_option maxHeartbeats 1000000 in
set_option maxRecDepth 10000 in
theorem mL_X3_findLeast_27 (C : rw_C p s m meth c cX3_findLeast 3 RX3 none D cy ad) {v0 : Nat} {v1 : Int32} (h_v0 : isX3 v0) {X121 : Mem → Prop} {K : Mem → Prop} (hX121 : ∀  (M : Mem), X121 M → rw_W p l e rm_X3_findLeast s m args below meth c D cy ad 3 0 0 (rw_Qv below args s D cy ad K) 121 [] [] M) : ∀ (n : Nat) (v2 : Int32) (M : Mem), L_X3_findLeast_27 v0 v1 X121 K n v2 M → rw_W p l e rm_X3_findLeast s m args below meth c D cy ad 3 0 0 (rw_Qv below args s D cy ad K) 27 [(0, .ref (ad v0)), (1, .int v1), (2, .int v2)] [] M := by
  intro n
  induction n with
  | zero => intro v2 M h; exact h.elim
  | succ n ih =>
    intro v2 M h
    refine r_iload_n C 2 dX3_findLeast_27 rfl rfl ?_
    refine r_sipush (v := (1024 : Int32)) C dX3_findLeast_28 rfl ?_
    refine r_icmp_ge C 121 dX3_findLeast_31 (by decide) (fun hc => ?_) (fun hc => ?_)
    · replace h := h.1 hc
      exact r_sub [] rfl (hX121 _ h)
    · replace h := h.2 hc
      refine r_aload_n C 0 dX3_findLeast_34 rfl rfl ?_
      refine gX3_21 C h_v0 dX3_findLeast_35 ?_
      refine r_iload_n C 2 dX3_findLeast_38 rfl rfl ?_
      refine r_iconst (v := (0 : Int32)) C dX3_findLeast_39 rfl ?_
      obtain ⟨q, h⟩ := h
      refine r_bast C (isX3_A4 h_v0) q dX3_findLeast_40 ?_
      replace h := h _ rfl
      refine r_iload_n C 2 dX3_findLeast_41 rfl rfl ?_
      refine r_iload_n C 1 dX3_findLeast_42 rfl rfl ?_
      refine r_iconst (v := (-1 : Int32)) C dX3_findLeast_43 rfl ?_
      refine r_ixor C dX3_findLeast_44 ?_
      refine r_iand C dX3_findLeast_45 ?_
      refine r_if_eq C 52 dX3_findLeast_46 (by decide) (fun hc => ?_) (fun hc => ?_)
      · replace h := h.1 hc
        refine r_aload_n C 0 dX3_findLeast_52 rfl rfl ?_
        refine r_iload_n C 2 dX3_findLeast_53 rfl rfl ?_
        refine cX3_49 C h_v0 (m_X3_holdsSmaller l h_v0 h) ⟨Nat.le_of_ble_eq_true rfl, Nat.le_of_ble_eq_true rfl⟩ (Nat.le_of_ble_eq_true rfl) ⟨Nat.le_refl 0, Nat.le_refl 0⟩ dX3_findLeast_54 (fun r M_6 h => ?_)
        refine r_if_eq C 70 dX3_findLeast_57 (by decide) (fun hc => ?_) (fun hc => ?_)
        · replace h := h.1 hc
          refine r_aload_n C 0 dX3_findLeast_70 rfl rfl ?_
          refine r_iload_n C 2 dX3_findLeast_71 rfl rfl ?_
          refine cX3_53 C h_v0 (m_X3_isClosed l h_v0 h) ⟨Nat.le_of_ble_eq_true rfl, Nat.le_of_ble_eq_true rfl⟩ (Nat.le_of_ble_eq_true rfl) ⟨Nat.le_refl 0, Nat.le_refl 0⟩ dX3_findLeast_72 (fun r_2 M_7 h => ?_)
          refine r_if_eq C 115 dX3_findLeast_75 (by decide) (fun hc => ?_) (fun hc => ?_)
          · replace h := h.1 hc
            refine r_iinc C 2 (v := _) [(2, .int _), (0, .ref _), (1, .int _)] dX3_findLeast_115 rfl rfl (by decide) rfl ?_
            refine r_goto C 27 dX3_findLeast_118 (by decide) ?_
            exact r_sub [1, 2, 0] rfl (ih _ _ h)
          · replace h := h.2 hc
            refine r_aload_n C 0 dX3_findLeast_78 rfl rfl ?_
            refine gX3_25 C h_v0 dX3_findLeast_79 ?_
            refine r_sipush (v := (256 : Int32)) C dX3_findLeast_82 rfl ?_
            refine r_icmp_ge C 115 dX3_findLeast_85 (by decide) (fun hc => ?_) (fun hc => ?_)
            · replace h := h.1 hc
              refine r_iinc C 2 (v := _) [(2, .int _), (0, .ref _), (1, .int _)] dX3_findLeast_115 rfl rfl (by decide) rfl ?_
              refine r_goto C 27 dX3_findLeast_118 (by decide) ?_
              exact r_sub [1, 2, 0] rfl (ih _ _ h)
            · replace h := h.2 hc
              refine r_aload_n C 0 dX3_findLeast_88 rfl rfl ?_
              refine gX3_21 C h_v0 dX3_findLeast_89 ?_
              refine r_iload_n C 2 dX3_findLeast_92 rfl rfl ?_
              refine r_iconst (v := (1 : Int32)) C dX3_findLeast_93 rfl ?_
              refine r_bast C (isX3_A4 h_v0) q dX3_findLeast_94 ?_
              replace h := h _ rfl
              refine r_aload_n C 0 dX3_findLeast_95 rfl rfl ?_
              refine gX3_18 C h_v0 dX3_findLeast_96 ?_
              refine r_aload_n C 0 dX3_findLeast_99 rfl rfl ?_
              refine gX3_25 C h_v0 dX3_findLeast_100 ?_
              refine r_iload_n C 2 dX3_findLeast_103 rfl rfl ?_
              obtain ⟨q_2, h⟩ := h
              refine r_iast C (isX3_A3 h_v0) q_2 dX3_findLeast_104 ?_
              replace h := h _ rfl
              refine r_aload_n C 0 dX3_findLeast_105 rfl rfl ?_
              refine r_dup C dX3_findLeast_106 rfl ?_
              refine gX3_25 C h_v0 dX3_findLeast_107 ?_
              refine r_iconst (v := (1 : Int32)) C dX3_findLeast_110 rfl ?_
              refine r_iadd C dX3_findLeast_111 ?_
              refine pX3_25 C h_v0 dX3_findLeast_112 ?_
              replace h := h _ rfl
              refine r_iinc C 2 (v := _) [(2, .int _), (0, .ref _), (1, .int _)] dX3_findLeast_115 rfl rfl (by decide) rfl ?_
              refine r_goto C 27 dX3_findLeast_118 (by decide) ?_
              exact r_sub [1, 2, 0] rfl (ih _ _ h)
        · replace h := h.2 hc
          refine r_aload_n C 0 dX3_findLeast_60 rfl rfl ?_
          refine gX3_21 C h_v0 dX3_findLeast_61 ?_
          refine r_iload_n C 2 dX3_findLeast_64 rfl rfl ?_
          refine r_iconst (v := (1 : Int32)) C dX3_findLeast_65 rfl ?_
          refine r_bast C (isX3_A4 h_v0) q dX3_findLeast_66 ?_
          replace h := h _ rfl
          refine r_goto C 115 dX3_findLeast_67 (by decide) ?_
          refine r_iinc C 2 (v := _) [(2, .int _), (0, .ref _), (1, .int _)] dX3_findLeast_115 rfl rfl (by decide) rfl ?_
          refine r_goto C 27 dX3_findLeast_118 (by decide) ?_
          exact r_sub [1, 2, 0] rfl (ih _ _ h)
      · replace h := h.2 hc
        refine r_goto C 115 dX3_findLeast_49 (by decide) ?_
        refine r_iinc C 2 (v := _) [(2, .int _), (0, .ref _), (1, .int _)] dX3_findLeast_115 rfl rfl (by decide) rfl ?_
        refine r_goto C 27 dX3_findLeast_118 (by decide) ?_
        exact r_sub [1, 2, 0] rfl (ih _ _ h)

def f_X3_findLeast (v0 : Nat) (v1 : Int32) (M : Mem) (K : Mem → Prop) : Prop := (((M.1 v0 7) = 0 → ∀ M_2 : Mem, M_2 = wI M v0 7 (1 : Int32) → ∀ M_3 : Mem, M_3 = wI M_2 v0 5 (0 : Int32) → ∀ M_4 : Mem, M_4 = wI M_3 (v0 + 4) (0 : Int32).toNatClampNeg (0 : Int32).toInt8.toInt32 → (∃ k27 : Nat, L_X3_findLeast_27 v0 v1 (fun  (M_12 : Mem) => K M_12) K k27 (1 : Int32) M_4)) ∧ (¬ (M.1 v0 7) = 0 → K M))

set_option maxHeartbeats 1000000 in
set_option maxRecDepth 10000 in
theorem m_X3_findLeast (l : Launch) {v0 : Nat} {v1 : Int32} (h_v0 : isX3 v0) {M : Mem} {K : Mem → Prop} (h : f_X3_findLeast v0 v1 M K) : CTv l yX3_findLeast cX3_findLeast 3 none rm_X3_findLeast (fun ad => [.ref (ad v0), .int v1]) M K := by
  refine rw_entv (by decide +kernel) (fun ad => Nat.le_of_ble_eq_true rfl) (fun p e s m args below meth c D cy ad C => ?_)
  change rw_W p l e _ s m args below meth c D cy ad 3 0 0 _ 0 [(0, .ref (ad v0)), (1, .int v1)] [] M
  unfold f_X3_findLeast at h
  refine r_aload_n C 0 dX3_findLeast_0 rfl rfl ?_
  refine gX3_32 C h_v0 dX3_findLeast_1 ?_
  refine r_if_eq C 8 dX3_findLeast_4 (by decide) (fun hc => ?_) (fun hc => ?_)
  · replace h := h.1 hc
    refine r_aload_n C 0 dX3_findLeast_8 rfl rfl ?_
    refine r_iconst (v := (1 : Int32)) C dX3_findLeast_9 rfl ?_
    refine pX3_32 C h_v0 (by decide) dX3_findLeast_10 ?_
    replace h := h _ rfl
    refine r_aload_n C 0 dX3_findLeast_13 rfl rfl ?_
    refine r_iconst (v := (0 : Int32)) C dX3_findLeast_14 rfl ?_
    refine pX3_25 C h_v0 dX3_findLeast_15 ?_
    replace h := h _ rfl
    refine r_aload_n C 0 dX3_findLeast_18 rfl rfl ?_
    refine gX3_21 C h_v0 dX3_findLeast_19 ?_
    refine r_iconst (v := (0 : Int32)) C dX3_findLeast_22 rfl ?_
    refine r_iconst (v := (0 : Int32)) C dX3_findLeast_23 rfl ?_
    refine r_bast C (isX3_A4 h_v0) (vpd (i := (0 : Int32)) (n := 1024) (by decide +kernel)) dX3_findLeast_24 ?_
    replace h := h _ rfl
    refine r_iconst (v := (1 : Int32)) C dX3_findLeast_25 rfl ?_
    refine r_istore_n C [(2, .int _), (0, .ref _), (1, .int _)] dX3_findLeast_26 rfl (by decide) rfl ?_
    obtain ⟨n27, h⟩ := h
    refine r_sub [1, 2, 0] rfl (mL_X3_findLeast_27 C h_v0 (fun M_12 h => ?_) n27 _ _ h)
    exact r_vret C dX3_findLeast_121 h
  · replace h := h.2 hc
    exact r_vret C dX3_findLeast_7 h
def L_X3_largestWithin_16 (v0 : Nat) (v3 : Int32) (v4 : Int32) (X65 : Int32 → Mem → Prop) (K : Int32 → Mem → Prop) : Nat → Int32 → Int32 → Mem → Prop
  | 0, _, _, _ => False
  | n + 1, v2, v5, M => (((8 : Int32) ≤ v5 → X65 v2 M) ∧ (¬ (8 : Int32) ≤ v5 → vp_in v5 8 ∧ ((((gI M (v0 + 1) v5) &&& v2) = 0 → L_X3_largestWithin_16 v0 v3 v4 X65 K n v2 (v5 + (1 : Int32)) M) ∧ (¬ ((gI M (v0 + 1) v5) &&& v2) = 0 → ((¬ ((gI M (v0 + 2) v5) &&& v2) = 0 → L_X3_largestWithin_16 v0 v3 v4 X65 K n v2 (v5 + (1 : Int32)) M) ∧ (((gI M (v0 + 2) v5) &&& v2) = 0 → ∀ x2 : Int32, x2 = v2 &&& ((gI M (v0 + 1) v5) ^^^ (-1 : Int32)) → L_X3_largestWithin_16 v0 v3 v4 X65 K n x2 (v5 + (1 : Int32)) M))))))

set_option maxHeartbeats 1000000 in
set_option maxRecDepth 10000 in
theorem mL_X3_largestWithin_16 (C : rw_C p s m meth c cX3_largestWithin 6 RX3 (some .int) D cy ad) {v0 : Nat} {v3 : Int32} {v4 : Int32} (h_v0 : isX3 v0) {X65 : Int32 → Mem → Prop} {K : Int32 → Mem → Prop} (hX65 : ∀ (u2 : Int32) (M : Mem), X65 u2 M → rw_W p l e rm_X3_largestWithin s m args below meth c D cy ad 6 0 0 (rw_Qi below args s D cy ad K) 65 [(0, .ref (ad v0)), (2, .int u2), (3, .int v3), (4, .int v4)] [] M) : ∀ (n : Nat) (v2 : Int32) (v5 : Int32) (M : Mem), L_X3_largestWithin_16 v0 v3 v4 X65 K n v2 v5 M → rw_W p l e rm_X3_largestWithin s m args below meth c D cy ad 6 0 0 (rw_Qi below args s D cy ad K) 16 [(0, .ref (ad v0)), (2, .int v2), (3, .int v3), (4, .int v4), (5, .int v5)] [] M := by
  intro n
  induction n with
  | zero => intro v2 v5 M h; exact h.elim
  | succ n ih =>
    intro v2 v5 M h
    refine r_iload C 4 dX3_largestWithin_16 rfl ?_
    refine r_bipush (v := (8 : Int32)) C dX3_largestWithin_18 rfl ?_
    refine r_icmp_ge C 65 dX3_largestWithin_20 (by decide) (fun hc => ?_) (fun hc => ?_)
    · replace h := h.1 hc
      exact r_sub [0, 1, 2, 3] rfl (hX65 _ _ h)
    · replace h := h.2 hc
      refine r_aload_n C 0 dX3_largestWithin_23 rfl rfl ?_
      refine gX3_9 C h_v0 dX3_largestWithin_24 ?_
      refine r_iload C 4 dX3_largestWithin_27 rfl ?_
      obtain ⟨q, h⟩ := h
      refine r_iald C (isX3_A1 h_v0) q dX3_largestWithin_29 ?_
      refine r_iload_n C 1 dX3_largestWithin_30 rfl rfl ?_
      refine r_iand C dX3_largestWithin_31 ?_
      refine r_if_eq C 59 dX3_largestWithin_32 (by decide) (fun hc => ?_) (fun hc => ?_)
      · replace h := h.1 hc
        refine r_iinc C 4 (v := _) [(5, .int _), (0, .ref _), (2, .int _), (3, .int _), (4, .int _)] dX3_largestWithin_59 rfl rfl (by decide) rfl ?_
        refine r_goto C 16 dX3_largestWithin_62 (by decide) ?_
        exact r_sub [1, 2, 3, 4, 0] rfl (ih _ _ _ h)
      · replace h := h.2 hc
        refine r_aload_n C 0 dX3_largestWithin_35 rfl rfl ?_
        refine gX3_15 C h_v0 dX3_largestWithin_36 ?_
        refine r_iload C 4 dX3_largestWithin_39 rfl ?_
        refine r_iald C (isX3_A2 h_v0) q dX3_largestWithin_41 ?_
        refine r_iload_n C 1 dX3_largestWithin_42 rfl rfl ?_
        refine r_iand C dX3_largestWithin_43 ?_
        refine r_if_ne C 59 dX3_largestWithin_44 (by decide) (fun hc => ?_) (fun hc => ?_)
        · replace h := h.1 hc
          refine r_iinc C 4 (v := _) [(5, .int _), (0, .ref _), (2, .int _), (3, .int _), (4, .int _)] dX3_largestWithin_59 rfl rfl (by decide) rfl ?_
          refine r_goto C 16 dX3_largestWithin_62 (by decide) ?_
          exact r_sub [1, 2, 3, 4, 0] rfl (ih _ _ _ h)
        · replace h := h.2 hc
          refine r_iload_n C 1 dX3_largestWithin_47 rfl rfl ?_
          refine r_aload_n C 0 dX3_largestWithin_48 rfl rfl ?_
          refine gX3_9 C h_v0 dX3_largestWithin_49 ?_
          refine r_iload C 4 dX3_largestWithin_52 rfl ?_
          refine r_iald C (isX3_A1 h_v0) q dX3_largestWithin_54 ?_
          refine r_iconst (v := (-1 : Int32)) C dX3_largestWithin_55 rfl ?_
          refine r_ixor C dX3_largestWithin_56 ?_
          refine r_iand C dX3_largestWithin_57 ?_
          refine r_istore_n C [(2, .int _), (0, .ref _), (3, .int _), (4, .int _), (5, .int _)] dX3_largestWithin_58 rfl (by decide) rfl ?_
          replace h := h _ rfl
          refine r_iinc C 4 (v := _) [(5, .int _), (2, .int _), (0, .ref _), (3, .int _), (4, .int _)] dX3_largestWithin_59 rfl rfl (by decide) rfl ?_
          refine r_goto C 16 dX3_largestWithin_62 (by decide) ?_
          exact r_sub [2, 1, 3, 4, 0] rfl (ih _ _ _ h)

def L_X3_largestWithin_4 (v0 : Nat) (X80 : Int32 → Mem → Prop) (K : Int32 → Mem → Prop) : Nat → Int32 → Int32 → Mem → Prop
  | 0, _, _, _ => False
  | n + 1, v2, v3, M => (((10 : Int32) < v3 → X80 v2 M) ∧ (¬ (10 : Int32) < v3 → (∃ k16 : Nat, L_X3_largestWithin_16 v0 v3 v2 (fun (v2_2 : Int32) (M_2 : Mem) => ((¬ v2_2 = v2 → L_X3_largestWithin_4 v0 X80 K n v2_2 (v3 + (1 : Int32)) M_2) ∧ (v2_2 = v2 → X80 v2_2 M_2))) K k16 v2 (0 : Int32) M)))

set_option maxHeartbeats 1000000 in
set_option maxRecDepth 10000 in
theorem mL_X3_largestWithin_4 (C : rw_C p s m meth c cX3_largestWithin 6 RX3 (some .int) D cy ad) {v0 : Nat} (h_v0 : isX3 v0) {X80 : Int32 → Mem → Prop} {K : Int32 → Mem → Prop} (hX80 : ∀ (u2 : Int32) (M : Mem), X80 u2 M → rw_W p l e rm_X3_largestWithin s m args below meth c D cy ad 6 0 0 (rw_Qi below args s D cy ad K) 80 [(2, .int u2)] [] M) : ∀ (n : Nat) (v2 : Int32) (v3 : Int32) (M : Mem), L_X3_largestWithin_4 v0 X80 K n v2 v3 M → rw_W p l e rm_X3_largestWithin s m args below meth c D cy ad 6 0 0 (rw_Qi below args s D cy ad K) 4 [(0, .ref (ad v0)), (2, .int v2), (3, .int v3)] [] M := by
  intro n
  induction n with
  | zero => intro v2 v3 M h; exact h.elim
  | succ n ih =>
    intro v2 v3 M h
    refine r_iload_n C 2 dX3_largestWithin_4 rfl rfl ?_
    refine r_bipush (v := (10 : Int32)) C dX3_largestWithin_5 rfl ?_
    refine r_icmp_gt C 80 dX3_largestWithin_7 (by decide) (fun hc => ?_) (fun hc => ?_)
    · replace h := h.1 hc
      exact r_sub [1] rfl (hX80 _ _ h)
    · replace h := h.2 hc
      refine r_iload_n C 1 dX3_largestWithin_10 rfl rfl ?_
      refine r_istore C [(4, .int _), (0, .ref _), (2, .int _), (3, .int _)] dX3_largestWithin_11 (by decide) rfl ?_
      refine r_iconst (v := (0 : Int32)) C dX3_largestWithin_13 rfl ?_
      refine r_istore C [(5, .int _), (4, .int _), (0, .ref _), (2, .int _), (3, .int _)] dX3_largestWithin_14 (by decide) rfl ?_
      obtain ⟨n16, h⟩ := h
      refine r_sub [2, 3, 4, 1, 0] rfl (mL_X3_largestWithin_16 C h_v0 (fun v2_2 M_2 h => ?_) n16 _ _ _ h)
      refine r_iload_n C 1 dX3_largestWithin_65 rfl rfl ?_
      refine r_iload C 3 dX3_largestWithin_66 rfl ?_
      refine r_icmp_ne C 74 dX3_largestWithin_68 (by decide) (fun hc => ?_) (fun hc => ?_)
      · replace h := h.1 hc
        refine r_iinc C 2 (v := _) [(3, .int _), (0, .ref _), (2, .int _), (4, .int _)] dX3_largestWithin_74 rfl rfl (by decide) rfl ?_
        refine r_goto C 4 dX3_largestWithin_77 (by decide) ?_
        exact r_sub [1, 2, 0] rfl (ih _ _ _ h)
      · replace h := h.2 hc
        refine r_goto C 80 dX3_largestWithin_71 (by decide) ?_
        exact r_sub [1] rfl (hX80 _ _ h)

def f_X3_largestWithin (v0 : Nat) (v1 : Int32) (M : Mem) (K : Int32 → Mem → Prop) : Prop := (∃ k4 : Nat, L_X3_largestWithin_4 v0 (fun (v2_3 : Int32) (M_3 : Mem) => K v2_3 M_3) K k4 v1 (0 : Int32) M)

set_option maxHeartbeats 1000000 in
set_option maxRecDepth 10000 in
theorem m_X3_largestWithin (l : Launch) {v0 : Nat} {v1 : Int32} (h_v0 : isX3 v0) {M : Mem} {K : Int32 → Mem → Prop} (h : f_X3_largestWithin v0 v1 M K) : CTi l yX3_largestWithin cX3_largestWithin 6 (some .int) rm_X3_largestWithin (fun ad => [.ref (ad v0), .int v1]) M K := by
  refine rw_enti (by decide +kernel) (fun ad => Nat.le_of_ble_eq_true rfl) (fun p e s m args below meth c D cy ad C => ?_)
  change rw_W p l e _ s m args below meth c D cy ad 6 0 0 _ 0 [(0, .ref (ad v0)), (1, .int v1)] [] M
  unfold f_X3_largestWithin at h
  refine r_iload_n C 1 dX3_largestWithin_0 rfl rfl ?_
  refine r_istore_n C [(2, .int _), (0, .ref _), (1, .int _)] dX3_largestWithin_1 rfl (by decide) rfl ?_
  refine r_iconst (v := (0 : Int32)) C dX3_largestWithin_2 rfl ?_
  refine r_istore_n C [(3, .int _), (2, .int _), (0, .ref _), (1, .int _)] dX3_largestWithin_3 rfl (by decide) rfl ?_
  obtain ⟨n4, h⟩ := h
  refine r_sub [2, 1, 0] rfl (mL_X3_largestWithin_4 C h_v0 (fun v2_3 M_3 h => ?_) n4 _ _ _ h)
  refine r_iload_n C 0 dX3_largestWithin_80 rfl rfl ?_
  exact r_iret C dX3_largestWithin_81 h
def L_X4_append_3 (v1 : Int32) (X49 : Mem → Prop) (K : Mem → Prop) : Nat → Int32 → Mem → Prop
  | 0, _, _ => False
  | n + 1, v2, M => ((v2 < 0 → X49 M) ∧ (¬ v2 < 0 → (((900 : Int32) ≤ (M.1 42 3) → X49 M) ∧ (¬ (900 : Int32) ≤ (M.1 42 3) → vp_in (M.1 42 3) 900 ∧ ∀ M_2 : Mem, M_2 = wI M 43 (M.1 42 3).toNatClampNeg ((ushr v1 v2) &&& (255 : Int32)) → ∀ M_3 : Mem, M_3 = wI M_2 42 3 ((M_2.1 42 3) + (1 : Int32)) → L_X4_append_3 v1 X49 K n (v2 + (-8 : Int32)) M_3))))

set_option maxHeartbeats 1000000 in
set_option maxRecDepth 10000 in
theorem mL_X4_append_3 (C : rw_C p s m meth c cX4_append 3 RX4 none D cy ad) {v1 : Int32} {X49 : Mem → Prop} {K : Mem → Prop} (hX49 : ∀  (M : Mem), X49 M → rw_W p l e rm_X4_append s m args below meth c D cy ad 3 0 0 (rw_Qv below args s D cy ad K) 49 [] [] M) : ∀ (n : Nat) (v2 : Int32) (M : Mem), L_X4_append_3 v1 X49 K n v2 M → rw_W p l e rm_X4_append s m args below meth c D cy ad 3 0 0 (rw_Qv below args s D cy ad K) 3 [(0, .ref (ad 42)), (1, .int v1), (2, .int v2)] [] M := by
  intro n
  induction n with
  | zero => intro v2 M h; exact h.elim
  | succ n ih =>
    intro v2 M h
    refine r_iload_n C 2 dX4_append_3 rfl rfl ?_
    refine r_if_lt C 49 dX4_append_4 (by decide) (fun hc => ?_) (fun hc => ?_)
    · replace h := h.1 hc
      exact r_sub [] rfl (hX49 _ h)
    · replace h := h.2 hc
      refine r_aload_n C 0 dX4_append_7 rfl rfl ?_
      refine gX4_21 C dX4_append_8 ?_
      refine r_sipush (v := (900 : Int32)) C dX4_append_11 rfl ?_
      refine r_icmp_ge C 49 dX4_append_14 (by decide) (fun hc => ?_) (fun hc => ?_)
      · replace h := h.1 hc
        exact r_sub [] rfl (hX49 _ h)
      · replace h := h.2 hc
        refine r_aload_n C 0 dX4_append_17 rfl rfl ?_
        refine gX4_9 C dX4_append_18 ?_
        refine r_aload_n C 0 dX4_append_21 rfl rfl ?_
        refine gX4_21 C dX4_append_22 ?_
        refine r_iload_n C 1 dX4_append_25 rfl rfl ?_
        refine r_iload_n C 2 dX4_append_26 rfl rfl ?_
        refine r_iushr C dX4_append_27 ?_
        refine r_sipush (v := (255 : Int32)) C dX4_append_28 rfl ?_
        refine r_iand C dX4_append_31 ?_
        obtain ⟨q, h⟩ := h
        refine r_iast C sh_43 q dX4_append_32 ?_
        replace h := h _ rfl
        refine r_aload_n C 0 dX4_append_33 rfl rfl ?_
        refine r_dup C dX4_append_34 rfl ?_
        refine gX4_21 C dX4_append_35 ?_
        refine r_iconst (v := (1 : Int32)) C dX4_append_38 rfl ?_
        refine r_iadd C dX4_append_39 ?_
        refine pX4_21 C dX4_append_40 ?_
        replace h := h _ rfl
        refine r_iinc C 2 (v := _) [(2, .int _), (0, .ref _), (1, .int _)] dX4_append_43 rfl rfl (by decide) rfl ?_
        refine r_goto C 3 dX4_append_46 (by decide) ?_
        exact r_sub [1, 2, 0] rfl (ih _ _ h)

def f_X4_append (v1 : Int32) (M : Mem) (K : Mem → Prop) : Prop := (∃ k3 : Nat, L_X4_append_3 v1 (fun  (M_4 : Mem) => K M_4) K k3 (24 : Int32) M)

set_option maxHeartbeats 1000000 in
set_option maxRecDepth 10000 in
theorem m_X4_append (l : Launch) {v1 : Int32}  {M : Mem} {K : Mem → Prop} (h : f_X4_append v1 M K) : CTv l yX4_append cX4_append 3 none rm_X4_append (fun ad => [.ref (ad 42), .int v1]) M K := by
  refine rw_entv (by decide +kernel) (fun ad => Nat.le_of_ble_eq_true rfl) (fun p e s m args below meth c D cy ad C => ?_)
  change rw_W p l e _ s m args below meth c D cy ad 3 0 0 _ 0 [(0, .ref (ad 42)), (1, .int v1)] [] M
  unfold f_X4_append at h
  refine r_bipush (v := (24 : Int32)) C dX4_append_0 rfl ?_
  refine r_istore_n C [(2, .int _), (0, .ref _), (1, .int _)] dX4_append_2 rfl (by decide) rfl ?_
  obtain ⟨n3, h⟩ := h
  refine r_sub [1, 2, 0] rfl (mL_X4_append_3 C (fun M_4 h => ?_) n3 _ _ h)
  exact r_vret C dX4_append_49 h
def f_X4_isBlank (v1 : Int32) (M : Mem) (K : Int32 → Mem → Prop) : Prop := vp_in v1 900 ∧ (((gI M 43 v1) = (32 : Int32) → K (1 : Int32) M) ∧ (¬ (gI M 43 v1) = (32 : Int32) → ((¬ (gI M 43 v1) = (10 : Int32) → K (0 : Int32) M) ∧ ((gI M 43 v1) = (10 : Int32) → K (1 : Int32) M))))

set_option maxHeartbeats 1000000 in
set_option maxRecDepth 10000 in
theorem m_X4_isBlank (l : Launch) {v1 : Int32}  {M : Mem} {K : Int32 → Mem → Prop} (h : f_X4_isBlank v1 M K) : CTi l yX4_isBlank cX4_isBlank 2 (some .boolean) rm_X4_isBlank (fun ad => [.ref (ad 42), .int v1]) M K := by
  refine rw_enti (by decide +kernel) (fun ad => Nat.le_of_ble_eq_true rfl) (fun p e s m args below meth c D cy ad C => ?_)
  change rw_W p l e _ s m args below meth c D cy ad 2 0 0 _ 0 [(0, .ref (ad 42)), (1, .int v1)] [] M
  unfold f_X4_isBlank at h
  refine r_aload_n C 0 dX4_isBlank_0 rfl rfl ?_
  refine gX4_9 C dX4_isBlank_1 ?_
  refine r_iload_n C 1 dX4_isBlank_4 rfl rfl ?_
  obtain ⟨q, h⟩ := h
  refine r_iald C sh_43 q dX4_isBlank_5 ?_
  refine r_bipush (v := (32 : Int32)) C dX4_isBlank_6 rfl ?_
  refine r_icmp_eq C 22 dX4_isBlank_8 (by decide) (fun hc => ?_) (fun hc => ?_)
  · replace h := h.1 hc
    refine r_iconst (v := (1 : Int32)) C dX4_isBlank_22 rfl ?_
    refine r_goto C 27 dX4_isBlank_23 (by decide) ?_
    exact r_zret C (by decide) dX4_isBlank_27 h
  · replace h := h.2 hc
    refine r_aload_n C 0 dX4_isBlank_11 rfl rfl ?_
    refine gX4_9 C dX4_isBlank_12 ?_
    refine r_iload_n C 1 dX4_isBlank_15 rfl rfl ?_
    refine r_iald C sh_43 q dX4_isBlank_16 ?_
    refine r_bipush (v := (10 : Int32)) C dX4_isBlank_17 rfl ?_
    refine r_icmp_ne C 26 dX4_isBlank_19 (by decide) (fun hc => ?_) (fun hc => ?_)
    · replace h := h.1 hc
      refine r_iconst (v := (0 : Int32)) C dX4_isBlank_26 rfl ?_
      exact r_zret C (by decide) dX4_isBlank_27 h
    · replace h := h.2 hc
      refine r_iconst (v := (1 : Int32)) C dX4_isBlank_22 rfl ?_
      refine r_goto C 27 dX4_isBlank_23 (by decide) ?_
      exact r_zret C (by decide) dX4_isBlank_27 h
def f_X4_isLetter (v1 : Int32) (M : Mem) (K : Int32 → Mem → Prop) : Prop := vp_in v1 900 ∧ (((gI M 43 v1) < (97 : Int32) → K (0 : Int32) M) ∧ (¬ (gI M 43 v1) < (97 : Int32) → (((122 : Int32) < (gI M 43 v1) → K (0 : Int32) M) ∧ (¬ (122 : Int32) < (gI M 43 v1) → K (1 : Int32) M))))

set_option maxHeartbeats 1000000 in
set_option maxRecDepth 10000 in
theorem m_X4_isLetter (l : Launch) {v1 : Int32}  {M : Mem} {K : Int32 → Mem → Prop} (h : f_X4_isLetter v1 M K) : CTi l yX4_isLetter cX4_isLetter 2 (some .boolean) rm_X4_isLetter (fun ad => [.ref (ad 42), .int v1]) M K := by
  refine rw_enti (by decide +kernel) (fun ad => Nat.le_of_ble_eq_true rfl) (fun p e s m args below meth c D cy ad C => ?_)
  change rw_W p l e _ s m args below meth c D cy ad 2 0 0 _ 0 [(0, .ref (ad 42)), (1, .int v1)] [] M
  unfold f_X4_isLetter at h
  refine r_aload_n C 0 dX4_isLetter_0 rfl rfl ?_
  refine gX4_9 C dX4_isLetter_1 ?_
  refine r_iload_n C 1 dX4_isLetter_4 rfl rfl ?_
  obtain ⟨q, h⟩ := h
  refine r_iald C sh_43 q dX4_isLetter_5 ?_
  refine r_bipush (v := (97 : Int32)) C dX4_isLetter_6 rfl ?_
  refine r_icmp_lt C 26 dX4_isLetter_8 (by decide) (fun hc => ?_) (fun hc => ?_)
  · replace h := h.1 hc
    refine r_iconst (v := (0 : Int32)) C dX4_isLetter_26 rfl ?_
    exact r_zret C (by decide) dX4_isLetter_27 h
  · replace h := h.2 hc
    refine r_aload_n C 0 dX4_isLetter_11 rfl rfl ?_
    refine gX4_9 C dX4_isLetter_12 ?_
    refine r_iload_n C 1 dX4_isLetter_15 rfl rfl ?_
    refine r_iald C sh_43 q dX4_isLetter_16 ?_
    refine r_bipush (v := (122 : Int32)) C dX4_isLetter_17 rfl ?_
    refine r_icmp_gt C 26 dX4_isLetter_19 (by decide) (fun hc => ?_) (fun hc => ?_)
    · replace h := h.1 hc
      refine r_iconst (v := (0 : Int32)) C dX4_isLetter_26 rfl ?_
      exact r_zret C (by decide) dX4_isLetter_27 h
    · replace h := h.2 hc
      refine r_iconst (v := (1 : Int32)) C dX4_isLetter_22 rfl ?_
      refine r_goto C 27 dX4_isLetter_23 (by decide) ?_
      exact r_zret C (by decide) dX4_isLetter_27 h
def L_X4_readWord_10 (X62 : Mem → Prop) (K : Mem → Prop) : Nat → Int32 → Mem → Prop
  | 0, _, _ => False
  | n + 1, v1, M => (((M.1 42 3) ≤ v1 → X62 M) ∧ (¬ (M.1 42 3) ≤ v1 → f_X4_isLetter v1 M (fun (r : Int32) (M_3 : Mem) => ((r = 0 → X62 M_3) ∧ (¬ r = 0 → vp_in v1 900 ∧ ∀ M_4 : Mem, M_4 = wI M_3 42 9 (((M_3.1 42 9) * (27 : Int32)) + (((gI M_3 43 v1) - (97 : Int32)) + (1 : Int32))) → ∀ M_5 : Mem, M_5 = wI M_4 42 6 (v1 + (1 : Int32)) → L_X4_readWord_10 X62 K n (v1 + (1 : Int32)) M_5)))))

set_option maxHeartbeats 1000000 in
set_option maxRecDepth 10000 in
theorem mL_X4_readWord_10 (C : rw_C p s m meth c cX4_readWord 2 RX4 none D cy ad) {X62 : Mem → Prop} {K : Mem → Prop} (hX62 : ∀  (M : Mem), X62 M → rw_W p l e rm_X4_readWord s m args below meth c D cy ad 2 0 0 (rw_Qv below args s D cy ad K) 62 [(0, .ref (ad 42))] [] M) : ∀ (n : Nat) (v1 : Int32) (M : Mem), L_X4_readWord_10 X62 K n v1 M → rw_W p l e rm_X4_readWord s m args below meth c D cy ad 2 0 0 (rw_Qv below args s D cy ad K) 10 [(0, .ref (ad 42)), (1, .int v1)] [] M := by
  intro n
  induction n with
  | zero => intro v1 M h; exact h.elim
  | succ n ih =>
    intro v1 M h
    refine r_iload_n C 1 dX4_readWord_10 rfl rfl ?_
    refine r_aload_n C 0 dX4_readWord_11 rfl rfl ?_
    refine gX4_21 C dX4_readWord_12 ?_
    refine r_icmp_ge C 62 dX4_readWord_15 (by decide) (fun hc => ?_) (fun hc => ?_)
    · replace h := h.1 hc
      exact r_sub [0] rfl (hX62 _ h)
    · replace h := h.2 hc
      refine r_aload_n C 0 dX4_readWord_18 rfl rfl ?_
      refine r_iload_n C 1 dX4_readWord_19 rfl rfl ?_
      refine cX4_113 C (m_X4_isLetter l h) ⟨Nat.le_of_ble_eq_true rfl, Nat.le_of_ble_eq_true rfl⟩ (Nat.le_of_ble_eq_true rfl) ⟨Nat.le_refl 0, Nat.le_refl 0⟩ dX4_readWord_20 (fun r M_3 h => ?_)
      refine r_if_eq C 62 dX4_readWord_23 (by decide) (fun hc => ?_) (fun hc => ?_)
      · replace h := h.1 hc
        exact r_sub [0] rfl (hX62 _ h)
      · replace h := h.2 hc
        refine r_aload_n C 0 dX4_readWord_26 rfl rfl ?_
        refine r_aload_n C 0 dX4_readWord_27 rfl rfl ?_
        refine gX4_40 C dX4_readWord_28 ?_
        refine r_bipush (v := (27 : Int32)) C dX4_readWord_31 rfl ?_
        refine r_imul C dX4_readWord_33 ?_
        refine r_aload_n C 0 dX4_readWord_34 rfl rfl ?_
        refine gX4_9 C dX4_readWord_35 ?_
        refine r_iload_n C 1 dX4_readWord_38 rfl rfl ?_
        obtain ⟨q, h⟩ := h
        refine r_iald C sh_43 q dX4_readWord_39 ?_
        refine r_bipush (v := (97 : Int32)) C dX4_readWord_40 rfl ?_
        refine r_isub C dX4_readWord_42 ?_
        refine r_iconst (v := (1 : Int32)) C dX4_readWord_43 rfl ?_
        refine r_iadd C dX4_readWord_44 ?_
        refine r_iadd C dX4_readWord_45 ?_
        refine pX4_40 C dX4_readWord_46 ?_
        replace h := h _ rfl
        refine r_aload_n C 0 dX4_readWord_49 rfl rfl ?_
        refine r_iload_n C 1 dX4_readWord_50 rfl rfl ?_
        refine r_iconst (v := (1 : Int32)) C dX4_readWord_51 rfl ?_
        refine r_iadd C dX4_readWord_52 ?_
        refine pX4_31 C dX4_readWord_53 ?_
        replace h := h _ rfl
        refine r_iinc C 1 (v := _) [(1, .int _), (0, .ref _)] dX4_readWord_56 rfl rfl (by decide) rfl ?_
        refine r_goto C 10 dX4_readWord_59 (by decide) ?_
        exact r_sub [1, 0] rfl (ih _ _ h)

set_option maxHeartbeats 1000000 in
set_option maxRecDepth 10000 in
theorem mD_X4_readWord_74 (C : rw_C p s m meth c cX4_readWord 2 RX4 none D cy ad) {Q : State → Prop} {st : List Value} {M : Mem} {o0 : Int32} {o1 : Int32} (kk : rw_W p l e R s m args below meth c D cy ad 2 0 0 Q 82 [(0, .ref (ad 42))] (.int (if o0 < o1 then (0 : Int32) else (2 : Int32)) :: st) M) : rw_W p l e R s m args below meth c D cy ad 2 0 0 Q 74 [(0, .ref (ad 42))] (.int o0 :: .int o1 :: st) M := by
  refine r_icmp_gt C 81 dX4_readWord_74 (by decide) (fun z0 => ?_) (fun z0 => ?_)
  · skip
    refine r_iconst (v := (0 : Int32)) C dX4_readWord_81 rfl ?_
    first | rw [if_pos z0] at kk | rw [if_neg (fun q9 => q9 z0)] at kk
    exact kk
  · skip
    refine r_iconst (v := (2 : Int32)) C dX4_readWord_77 rfl ?_
    refine r_goto C 82 dX4_readWord_78 (by decide) ?_
    first | rw [if_neg z0] at kk | rw [if_neg (fun q9 => q9 z0)] at kk
    exact kk

def f_X4_readWord (M : Mem) (K : Mem → Prop) : Prop := ∀ M_2 : Mem, M_2 = wI M 42 9 (0 : Int32) → ∀ x1 : Int32, x1 = M_2.1 42 8 → (∃ k10 : Nat, L_X4_readWord_10 (fun  (M_6 : Mem) => ∀ M_7 : Mem, M_7 = wI M_6 42 7 (if (6 : Int32) < ((M_6.1 42 6) - (M_6.1 42 8)) then (0 : Int32) else (2 : Int32)) → K M_7) K k10 x1 M_2)

set_option maxHeartbeats 1000000 in
set_option maxRecDepth 10000 in
theorem m_X4_readWord (l : Launch)   {M : Mem} {K : Mem → Prop} (h : f_X4_readWord M K) : CTv l yX4_readWord cX4_readWord 2 none rm_X4_readWord (fun ad => [.ref (ad 42)]) M K := by
  refine rw_entv (by decide +kernel) (fun ad => Nat.le_of_ble_eq_true rfl) (fun p e s m args below meth c D cy ad C => ?_)
  change rw_W p l e _ s m args below meth c D cy ad 2 0 0 _ 0 [(0, .ref (ad 42))] [] M
  unfold f_X4_readWord at h
  refine r_aload_n C 0 dX4_readWord_0 rfl rfl ?_
  refine r_iconst (v := (0 : Int32)) C dX4_readWord_1 rfl ?_
  refine pX4_40 C dX4_readWord_2 ?_
  replace h := h _ rfl
  refine r_aload_n C 0 dX4_readWord_5 rfl rfl ?_
  refine gX4_37 C dX4_readWord_6 ?_
  refine r_istore_n C [(1, .int _), (0, .ref _)] dX4_readWord_9 rfl (by decide) rfl ?_
  replace h := h _ rfl
  obtain ⟨n10, h⟩ := h
  refine r_sub [1, 0] rfl (mL_X4_readWord_10 C (fun M_6 h => ?_) n10 _ _ h)
  refine r_aload_n C 0 dX4_readWord_62 rfl rfl ?_
  refine r_aload_n C 0 dX4_readWord_63 rfl rfl ?_
  refine gX4_31 C dX4_readWord_64 ?_
  refine r_aload_n C 0 dX4_readWord_67 rfl rfl ?_
  refine gX4_37 C dX4_readWord_68 ?_
  refine r_isub C dX4_readWord_71 ?_
  refine r_bipush (v := (6 : Int32)) C dX4_readWord_72 rfl ?_
  refine mD_X4_readWord_74 C ?_
  refine pX4_34 C dX4_readWord_82 ?_
  replace h := h _ rfl
  exact r_vret C dX4_readWord_85 h
def f_X4_isDigit (v1 : Int32) (M : Mem) (K : Int32 → Mem → Prop) : Prop := vp_in v1 900 ∧ (((gI M 43 v1) < (48 : Int32) → K (0 : Int32) M) ∧ (¬ (gI M 43 v1) < (48 : Int32) → (((57 : Int32) < (gI M 43 v1) → K (0 : Int32) M) ∧ (¬ (57 : Int32) < (gI M 43 v1) → K (1 : Int32) M))))

set_option maxHeartbeats 1000000 in
set_option maxRecDepth 10000 in
theorem m_X4_isDigit (l : Launch) {v1 : Int32}  {M : Mem} {K : Int32 → Mem → Prop} (h : f_X4_isDigit v1 M K) : CTi l yX4_isDigit cX4_isDigit 2 (some .boolean) rm_X4_isDigit (fun ad => [.ref (ad 42), .int v1]) M K := by
  refine rw_enti (by decide +kernel) (fun ad => Nat.le_of_ble_eq_true rfl) (fun p e s m args below meth c D cy ad C => ?_)
  change rw_W p l e _ s m args below meth c D cy ad 2 0 0 _ 0 [(0, .ref (ad 42)), (1, .int v1)] [] M
  unfold f_X4_isDigit at h
  refine r_aload_n C 0 dX4_isDigit_0 rfl rfl ?_
  refine gX4_9 C dX4_isDigit_1 ?_
  refine r_iload_n C 1 dX4_isDigit_4 rfl rfl ?_
  obtain ⟨q, h⟩ := h
  refine r_iald C sh_43 q dX4_isDigit_5 ?_
  refine r_bipush (v := (48 : Int32)) C dX4_isDigit_6 rfl ?_
  refine r_icmp_lt C 26 dX4_isDigit_8 (by decide) (fun hc => ?_) (fun hc => ?_)
  · replace h := h.1 hc
    refine r_iconst (v := (0 : Int32)) C dX4_isDigit_26 rfl ?_
    exact r_zret C (by decide) dX4_isDigit_27 h
  · replace h := h.2 hc
    refine r_aload_n C 0 dX4_isDigit_11 rfl rfl ?_
    refine gX4_9 C dX4_isDigit_12 ?_
    refine r_iload_n C 1 dX4_isDigit_15 rfl rfl ?_
    refine r_iald C sh_43 q dX4_isDigit_16 ?_
    refine r_bipush (v := (57 : Int32)) C dX4_isDigit_17 rfl ?_
    refine r_icmp_gt C 26 dX4_isDigit_19 (by decide) (fun hc => ?_) (fun hc => ?_)
    · replace h := h.1 hc
      refine r_iconst (v := (0 : Int32)) C dX4_isDigit_26 rfl ?_
      exact r_zret C (by decide) dX4_isDigit_27 h
    · replace h := h.2 hc
      refine r_iconst (v := (1 : Int32)) C dX4_isDigit_22 rfl ?_
      refine r_goto C 27 dX4_isDigit_23 (by decide) ?_
      exact r_zret C (by decide) dX4_isDigit_27 h
def L_X4_readNumber_10 (X60 : Mem → Prop) (K : Mem → Prop) : Nat → Int32 → Mem → Prop
  | 0, _, _ => False
  | n + 1, v1, M => (((M.1 42 3) ≤ v1 → X60 M) ∧ (¬ (M.1 42 3) ≤ v1 → f_X4_isDigit v1 M (fun (r : Int32) (M_3 : Mem) => ((r = 0 → X60 M_3) ∧ (¬ r = 0 → vp_in v1 900 ∧ ∀ M_4 : Mem, M_4 = wI M_3 42 10 (((M_3.1 42 10) * (10 : Int32)) + ((gI M_3 43 v1) - (48 : Int32))) → ∀ M_5 : Mem, M_5 = wI M_4 42 6 (v1 + (1 : Int32)) → L_X4_readNumber_10 X60 K n (v1 + (1 : Int32)) M_5)))))

set_option maxHeartbeats 1000000 in
set_option maxRecDepth 10000 in
theorem mL_X4_readNumber_10 (C : rw_C p s m meth c cX4_readNumber 2 RX4 none D cy ad) {X60 : Mem → Prop} {K : Mem → Prop} (hX60 : ∀  (M : Mem), X60 M → rw_W p l e rm_X4_readNumber s m args below meth c D cy ad 2 0 0 (rw_Qv below args s D cy ad K) 60 [(0, .ref (ad 42))] [] M) : ∀ (n : Nat) (v1 : Int32) (M : Mem), L_X4_readNumber_10 X60 K n v1 M → rw_W p l e rm_X4_readNumber s m args below meth c D cy ad 2 0 0 (rw_Qv below args s D cy ad K) 10 [(0, .ref (ad 42)), (1, .int v1)] [] M := by
  intro n
  induction n with
  | zero => intro v1 M h; exact h.elim
  | succ n ih =>
    intro v1 M h
    refine r_iload_n C 1 dX4_readNumber_10 rfl rfl ?_
    refine r_aload_n C 0 dX4_readNumber_11 rfl rfl ?_
    refine gX4_21 C dX4_readNumber_12 ?_
    refine r_icmp_ge C 60 dX4_readNumber_15 (by decide) (fun hc => ?_) (fun hc => ?_)
    · replace h := h.1 hc
      exact r_sub [0] rfl (hX60 _ h)
    · replace h := h.2 hc
      refine r_aload_n C 0 dX4_readNumber_18 rfl rfl ?_
      refine r_iload_n C 1 dX4_readNumber_19 rfl rfl ?_
      refine cX4_119 C (m_X4_isDigit l h) ⟨Nat.le_of_ble_eq_true rfl, Nat.le_of_ble_eq_true rfl⟩ (Nat.le_of_ble_eq_true rfl) ⟨Nat.le_refl 0, Nat.le_refl 0⟩ dX4_readNumber_20 (fun r M_3 h => ?_)
      refine r_if_eq C 60 dX4_readNumber_23 (by decide) (fun hc => ?_) (fun hc => ?_)
      · replace h := h.1 hc
        exact r_sub [0] rfl (hX60 _ h)
      · replace h := h.2 hc
        refine r_aload_n C 0 dX4_readNumber_26 rfl rfl ?_
        refine r_aload_n C 0 dX4_readNumber_27 rfl rfl ?_
        refine gX4_43 C dX4_readNumber_28 ?_
        refine r_bipush (v := (10 : Int32)) C dX4_readNumber_31 rfl ?_
        refine r_imul C dX4_readNumber_33 ?_
        refine r_aload_n C 0 dX4_readNumber_34 rfl rfl ?_
        refine gX4_9 C dX4_readNumber_35 ?_
        refine r_iload_n C 1 dX4_readNumber_38 rfl rfl ?_
        obtain ⟨q, h⟩ := h
        refine r_iald C sh_43 q dX4_readNumber_39 ?_
        refine r_bipush (v := (48 : Int32)) C dX4_readNumber_40 rfl ?_
        refine r_isub C dX4_readNumber_42 ?_
        refine r_iadd C dX4_readNumber_43 ?_
        refine pX4_43 C dX4_readNumber_44 ?_
        replace h := h _ rfl
        refine r_aload_n C 0 dX4_readNumber_47 rfl rfl ?_
        refine r_iload_n C 1 dX4_readNumber_48 rfl rfl ?_
        refine r_iconst (v := (1 : Int32)) C dX4_readNumber_49 rfl ?_
        refine r_iadd C dX4_readNumber_50 ?_
        refine pX4_31 C dX4_readNumber_51 ?_
        replace h := h _ rfl
        refine r_iinc C 1 (v := _) [(1, .int _), (0, .ref _)] dX4_readNumber_54 rfl rfl (by decide) rfl ?_
        refine r_goto C 10 dX4_readNumber_57 (by decide) ?_
        exact r_sub [1, 0] rfl (ih _ _ h)

def S_X4_readNumber_68 (o0 : Int32) (o1 : Int32) (X87 : Int32 → Mem → Prop) (K : Mem → Prop) (M : Mem) : Prop := (o0 ≤ o1 → X87 (0 : Int32) M) ∧ (¬ o0 ≤ o1 → f_X4_isLetter (M.1 42 6) M (fun (r_2 : Int32) (M_7 : Mem) => ((r_2 = 0 → X87 (0 : Int32) M_7) ∧ (¬ r_2 = 0 → X87 (1 : Int32) M_7))))

set_option maxHeartbeats 1000000 in
set_option maxRecDepth 10000 in
theorem mS_X4_readNumber_68 (C : rw_C p s m meth c cX4_readNumber 2 RX4 none D cy ad) {o0 : Int32} {o1 : Int32} {X87 : Int32 → Mem → Prop} {K : Mem → Prop} {M : Mem} (hX87 : ∀  (w0 : Int32) (M : Mem), X87 w0 M → rw_W p l e rm_X4_readNumber s m args below meth c D cy ad 2 0 0 (rw_Qv below args s D cy ad K) 87 [(0, .ref (ad 42))] [.int w0] M) (h : S_X4_readNumber_68 o0 o1 X87 K M) : rw_W p l e rm_X4_readNumber s m args below meth c D cy ad 2 0 0 (rw_Qv below args s D cy ad K) 68 [(0, .ref (ad 42))] [.int o0, .int o1] M := by
  refine r_icmp_ge C 86 dX4_readNumber_68 (by decide) (fun hc => ?_) (fun hc => ?_)
  · replace h := h.1 hc
    refine r_iconst (v := (0 : Int32)) C dX4_readNumber_86 rfl ?_
    exact hX87 _ _ h
  · replace h := h.2 hc
    refine r_aload_n C 0 dX4_readNumber_71 rfl rfl ?_
    refine r_aload_n C 0 dX4_readNumber_72 rfl rfl ?_
    refine gX4_31 C dX4_readNumber_73 ?_
    refine cX4_113 C (m_X4_isLetter l h) ⟨Nat.le_of_ble_eq_true rfl, Nat.le_of_ble_eq_true rfl⟩ (Nat.le_of_ble_eq_true rfl) ⟨Nat.le_refl 0, Nat.le_refl 0⟩ dX4_readNumber_76 (fun r_2 M_7 h => ?_)
    refine r_if_eq C 86 dX4_readNumber_79 (by decide) (fun hc => ?_) (fun hc => ?_)
    · replace h := h.1 hc
      refine r_iconst (v := (0 : Int32)) C dX4_readNumber_86 rfl ?_
      exact hX87 _ _ h
    · replace h := h.2 hc
      refine r_iconst (v := (1 : Int32)) C dX4_readNumber_82 rfl ?_
      refine r_goto C 87 dX4_readNumber_83 (by decide) ?_
      exact hX87 _ _ h

set_option maxHeartbeats 1000000 in
set_option maxRecDepth 10000 in
theorem mD_X4_readNumber_99 (C : rw_C p s m meth c cX4_readNumber 2 RX4 none D cy ad) {Q : State → Prop} {st : List Value} {M : Mem} {v1 : Int32} {o0 : Int32} {o1 : Int32} (kk : rw_W p l e R s m args below meth c D cy ad 2 0 0 Q 111 [(1, .int v1), (0, .ref (ad 42))] (.int (if o0 < o1 then (0 : Int32) else (if ¬ v1 = 0 then (0 : Int32) else (3 : Int32))) :: st) M) : rw_W p l e R s m args below meth c D cy ad 2 0 0 Q 99 [(1, .int v1), (0, .ref (ad 42))] (.int o0 :: .int o1 :: st) M := by
  refine r_icmp_gt C 110 dX4_readNumber_99 (by decide) (fun z0 => ?_) (fun z0 => ?_)
  · skip
    refine r_iconst (v := (0 : Int32)) C dX4_readNumber_110 rfl ?_
    first | rw [if_pos z0] at kk | rw [if_neg (fun q9 => q9 z0)] at kk
    exact kk
  · skip
    refine r_iload_n C 0 dX4_readNumber_102 rfl rfl ?_
    refine r_if_ne C 110 dX4_readNumber_103 (by decide) (fun z1 => ?_) (fun z1 => ?_)
    · skip
      refine r_iconst (v := (0 : Int32)) C dX4_readNumber_110 rfl ?_
      first | rw [if_neg z0] at kk | rw [if_neg (fun q9 => q9 z0)] at kk
      first | rw [if_pos z1] at kk | rw [if_neg (fun q9 => q9 z1)] at kk
      exact kk
    · skip
      refine r_iconst (v := (3 : Int32)) C dX4_readNumber_106 rfl ?_
      refine r_goto C 111 dX4_readNumber_107 (by decide) ?_
      first | rw [if_neg z0] at kk | rw [if_neg (fun q9 => q9 z0)] at kk
      first | rw [if_neg z1] at kk | rw [if_neg (fun q9 => q9 z1)] at kk
      exact kk

def f_X4_readNumber (M : Mem) (K : Mem → Prop) : Prop := ∀ M_2 : Mem, M_2 = wI M 42 10 (0 : Int32) → ∀ x1 : Int32, x1 = M_2.1 42 8 → (∃ k10 : Nat, L_X4_readNumber_10 (fun  (M_6 : Mem) => (S_X4_readNumber_68 (M_6.1 42 3) (M_6.1 42 6) (fun (w : Int32) (M_8 : Mem) => ∀ M_9 : Mem, M_9 = wI M_8 42 7 (if (3 : Int32) < ((M_8.1 42 6) - (M_8.1 42 8)) then (0 : Int32) else (if ¬ w = 0 then (0 : Int32) else (3 : Int32))) → K M_9) K M_6)) K k10 x1 M_2)

set_option maxHeartbeats 1000000 in
set_option maxRecDepth 10000 in
theorem m_X4_readNumber (l : Launch)   {M : Mem} {K : Mem → Prop} (h : f_X4_readNumber M K) : CTv l yX4_readNumber cX4_readNumber 2 none rm_X4_readNumber (fun ad => [.ref (ad 42)]) M K := by
  refine rw_entv (by decide +kernel) (fun ad => Nat.le_of_ble_eq_true rfl) (fun p e s m args below meth c D cy ad C => ?_)
  change rw_W p l e _ s m args below meth c D cy ad 2 0 0 _ 0 [(0, .ref (ad 42))] [] M
  unfold f_X4_readNumber at h
  refine r_aload_n C 0 dX4_readNumber_0 rfl rfl ?_
  refine r_iconst (v := (0 : Int32)) C dX4_readNumber_1 rfl ?_
  refine pX4_43 C dX4_readNumber_2 ?_
  replace h := h _ rfl
  refine r_aload_n C 0 dX4_readNumber_5 rfl rfl ?_
  refine gX4_37 C dX4_readNumber_6 ?_
  refine r_istore_n C [(1, .int _), (0, .ref _)] dX4_readNumber_9 rfl (by decide) rfl ?_
  replace h := h _ rfl
  obtain ⟨n10, h⟩ := h
  refine r_sub [1, 0] rfl (mL_X4_readNumber_10 C (fun M_6 h => ?_) n10 _ _ h)
  refine r_aload_n C 0 dX4_readNumber_60 rfl rfl ?_
  refine gX4_31 C dX4_readNumber_61 ?_
  refine r_aload_n C 0 dX4_readNumber_64 rfl rfl ?_
  refine gX4_21 C dX4_readNumber_65 ?_
  refine mS_X4_readNumber_68 C (fun w M_8 h => ?_) h
  refine r_istore_n C [(1, .int _), (0, .ref _)] dX4_readNumber_87 rfl (by decide) rfl ?_
  refine r_aload_n C 1 dX4_readNumber_88 rfl rfl ?_
  refine r_aload_n C 1 dX4_readNumber_89 rfl rfl ?_
  refine gX4_31 C dX4_readNumber_90 ?_
  refine r_aload_n C 1 dX4_readNumber_93 rfl rfl ?_
  refine gX4_37 C dX4_readNumber_94 ?_
  refine r_isub C dX4_readNumber_97 ?_
  refine r_iconst (v := (3 : Int32)) C dX4_readNumber_98 rfl ?_
  refine mD_X4_readNumber_99 C ?_
  refine pX4_34 C dX4_readNumber_111 ?_
  replace h := h _ rfl
  exact r_vret C dX4_readNumber_114 h
def L_X4_advance_5 (X34 : Mem → Prop) (K : Mem → Prop) : Nat → Int32 → Mem → Prop
  | 0, _, _ => False
  | n + 1, v1, M => (((M.1 42 3) ≤ v1 → X34 M) ∧ (¬ (M.1 42 3) ≤ v1 → f_X4_isBlank v1 M (fun (r : Int32) (M_2 : Mem) => ((r = 0 → X34 M_2) ∧ (¬ r = 0 → ∀ M_3 : Mem, M_3 = wI M_2 42 6 (v1 + (1 : Int32)) → L_X4_advance_5 X34 K n (v1 + (1 : Int32)) M_3)))))

set_option maxHeartbeats 1000000 in
set_option maxRecDepth 10000 in
theorem mL_X4_advance_5 (C : rw_C p s m meth c cX4_advance 2 RX4 none D cy ad) {X34 : Mem → Prop} {K : Mem → Prop} (hX34 : ∀  (M : Mem), X34 M → rw_W p l e rm_X4_advance s m args below meth c D cy ad 2 0 0 (rw_Qv below args s D cy ad K) 34 [(0, .ref (ad 42))] [] M) : ∀ (n : Nat) (v1 : Int32) (M : Mem), L_X4_advance_5 X34 K n v1 M → rw_W p l e rm_X4_advance s m args below meth c D cy ad 2 0 0 (rw_Qv below args s D cy ad K) 5 [(0, .ref (ad 42)), (1, .int v1)] [] M := by
  intro n
  induction n with
  | zero => intro v1 M h; exact h.elim
  | succ n ih =>
    intro v1 M h
    refine r_iload_n C 1 dX4_advance_5 rfl rfl ?_
    refine r_aload_n C 0 dX4_advance_6 rfl rfl ?_
    refine gX4_21 C dX4_advance_7 ?_
    refine r_icmp_ge C 34 dX4_advance_10 (by decide) (fun hc => ?_) (fun hc => ?_)
    · replace h := h.1 hc
      exact r_sub [0] rfl (hX34 _ h)
    · replace h := h.2 hc
      refine r_aload_n C 0 dX4_advance_13 rfl rfl ?_
      refine r_iload_n C 1 dX4_advance_14 rfl rfl ?_
      refine cX4_110 C (m_X4_isBlank l h) ⟨Nat.le_of_ble_eq_true rfl, Nat.le_of_ble_eq_true rfl⟩ (Nat.le_of_ble_eq_true rfl) ⟨Nat.le_refl 0, Nat.le_refl 0⟩ dX4_advance_15 (fun r M_2 h => ?_)
      refine r_if_eq C 34 dX4_advance_18 (by decide) (fun hc => ?_) (fun hc => ?_)
      · replace h := h.1 hc
        exact r_sub [0] rfl (hX34 _ h)
      · replace h := h.2 hc
        refine r_aload_n C 0 dX4_advance_21 rfl rfl ?_
        refine r_iload_n C 1 dX4_advance_22 rfl rfl ?_
        refine r_iconst (v := (1 : Int32)) C dX4_advance_23 rfl ?_
        refine r_iadd C dX4_advance_24 ?_
        refine pX4_31 C dX4_advance_25 ?_
        replace h := h _ rfl
        refine r_iinc C 1 (v := _) [(1, .int _), (0, .ref _)] dX4_advance_28 rfl rfl (by decide) rfl ?_
        refine r_goto C 5 dX4_advance_31 (by decide) ?_
        exact r_sub [1, 0] rfl (ih _ _ h)

set_option maxHeartbeats 1000000 in
set_option maxRecDepth 10000 in
theorem mD_X4_advance_109 (C : rw_C p s m meth c cX4_advance 2 RX4 none D cy ad) {Q : State → Prop} {st : List Value} {M : Mem} {o0 : Int32} {o1 : Int32} (kk : rw_W p l e R s m args below meth c D cy ad 2 0 0 Q 117 [(0, .ref (ad 42))] (.int (if ¬ o1 = o0 then (0 : Int32) else (4 : Int32)) :: st) M) : rw_W p l e R s m args below meth c D cy ad 2 0 0 Q 109 [(0, .ref (ad 42))] (.int o0 :: .int o1 :: st) M := by
  refine r_icmp_ne C 116 dX4_advance_109 (by decide) (fun z0 => ?_) (fun z0 => ?_)
  · skip
    refine r_iconst (v := (0 : Int32)) C dX4_advance_116 rfl ?_
    first | rw [if_pos z0] at kk | rw [if_neg (fun q9 => q9 z0)] at kk
    exact kk
  · skip
    refine r_iconst (v := (4 : Int32)) C dX4_advance_112 rfl ?_
    refine r_goto C 117 dX4_advance_113 (by decide) ?_
    first | rw [if_neg z0] at kk | rw [if_neg (fun q9 => q9 z0)] at kk
    exact kk

def f_X4_advance (M : Mem) (K : Mem → Prop) : Prop := ∀ x1 : Int32, x1 = M.1 42 6 → (∃ k5 : Nat, L_X4_advance_5 (fun  (M_4 : Mem) => ∀ M_5 : Mem, M_5 = wI M_4 42 8 (M_4.1 42 6) → (((M_5.1 42 6) < (M_5.1 42 3) → f_X4_isLetter (M_5.1 42 6) M_5 (fun (r_2 : Int32) (M_6 : Mem) => ((r_2 = 0 → f_X4_isDigit (M_6.1 42 6) M_6 (fun (r_3 : Int32) (M_7 : Mem) => ((r_3 = 0 → vp_in (M_7.1 42 6) 900 ∧ ∀ M_8 : Mem, M_8 = wI M_7 42 7 (if ¬ (gI M_7 43 (M_7.1 42 6)) = (59 : Int32) then (0 : Int32) else (4 : Int32)) → ∀ M_9 : Mem, M_9 = wI M_8 42 6 ((M_8.1 42 6) + (1 : Int32)) → K M_9) ∧ (¬ r_3 = 0 → f_X4_readNumber  M_7 (fun (M_10 : Mem) => K M_10))))) ∧ (¬ r_2 = 0 → f_X4_readWord  M_6 (fun (M_11 : Mem) => K M_11))))) ∧ (¬ (M_5.1 42 6) < (M_5.1 42 3) → ∀ M_12 : Mem, M_12 = wI M_5 42 7 (1 : Int32) → K M_12))) K k5 x1 M)

set_option maxHeartbeats 1000000 in
set_option maxRecDepth 10000 in
theorem m_X4_advance (l : Launch)   {M : Mem} {K : Mem → Prop} (h : f_X4_advance M K) : CTv l yX4_advance cX4_advance 2 none rm_X4_advance (fun ad => [.ref (ad 42)]) M K := by
  refine rw_entv (by decide +kernel) (fun ad => Nat.le_of_ble_eq_true rfl) (fun p e s m args below meth c D cy ad C => ?_)
  change rw_W p l e _ s m args below meth c D cy ad 2 0 0 _ 0 [(0, .ref (ad 42))] [] M
  unfold f_X4_advance at h
  refine r_aload_n C 0 dX4_advance_0 rfl rfl ?_
  refine gX4_31 C dX4_advance_1 ?_
  refine r_istore_n C [(1, .int _), (0, .ref _)] dX4_advance_4 rfl (by decide) rfl ?_
  replace h := h _ rfl
  obtain ⟨n5, h⟩ := h
  refine r_sub [1, 0] rfl (mL_X4_advance_5 C (fun M_4 h => ?_) n5 _ _ h)
  refine r_aload_n C 0 dX4_advance_34 rfl rfl ?_
  refine r_aload_n C 0 dX4_advance_35 rfl rfl ?_
  refine gX4_31 C dX4_advance_36 ?_
  refine pX4_37 C dX4_advance_39 ?_
  replace h := h _ rfl
  refine r_aload_n C 0 dX4_advance_42 rfl rfl ?_
  refine gX4_31 C dX4_advance_43 ?_
  refine r_aload_n C 0 dX4_advance_46 rfl rfl ?_
  refine gX4_21 C dX4_advance_47 ?_
  refine r_icmp_lt C 61 dX4_advance_50 (by decide) (fun hc => ?_) (fun hc => ?_)
  · replace h := h.1 hc
    refine r_aload_n C 0 dX4_advance_61 rfl rfl ?_
    refine r_aload_n C 0 dX4_advance_62 rfl rfl ?_
    refine gX4_31 C dX4_advance_63 ?_
    refine cX4_113 C (m_X4_isLetter l h) ⟨Nat.le_of_ble_eq_true rfl, Nat.le_of_ble_eq_true rfl⟩ (Nat.le_of_ble_eq_true rfl) ⟨Nat.le_refl 0, Nat.le_refl 0⟩ dX4_advance_66 (fun r_2 M_6 h => ?_)
    refine r_if_eq C 79 dX4_advance_69 (by decide) (fun hc => ?_) (fun hc => ?_)
    · replace h := h.1 hc
      refine r_aload_n C 0 dX4_advance_79 rfl rfl ?_
      refine r_aload_n C 0 dX4_advance_80 rfl rfl ?_
      refine gX4_31 C dX4_advance_81 ?_
      refine cX4_119 C (m_X4_isDigit l h) ⟨Nat.le_of_ble_eq_true rfl, Nat.le_of_ble_eq_true rfl⟩ (Nat.le_of_ble_eq_true rfl) ⟨Nat.le_refl 0, Nat.le_refl 0⟩ dX4_advance_84 (fun r_3 M_7 h => ?_)
      refine r_if_eq C 97 dX4_advance_87 (by decide) (fun hc => ?_) (fun hc => ?_)
      · replace h := h.1 hc
        refine r_aload_n C 0 dX4_advance_97 rfl rfl ?_
        refine r_aload_n C 0 dX4_advance_98 rfl rfl ?_
        refine gX4_9 C dX4_advance_99 ?_
        refine r_aload_n C 0 dX4_advance_102 rfl rfl ?_
        refine gX4_31 C dX4_advance_103 ?_
        obtain ⟨q, h⟩ := h
        refine r_iald C sh_43 q dX4_advance_106 ?_
        refine r_bipush (v := (59 : Int32)) C dX4_advance_107 rfl ?_
        refine mD_X4_advance_109 C ?_
        refine pX4_34 C dX4_advance_117 ?_
        replace h := h _ rfl
        refine r_aload_n C 0 dX4_advance_120 rfl rfl ?_
        refine r_dup C dX4_advance_121 rfl ?_
        refine gX4_31 C dX4_advance_122 ?_
        refine r_iconst (v := (1 : Int32)) C dX4_advance_125 rfl ?_
        refine r_iadd C dX4_advance_126 ?_
        refine pX4_31 C dX4_advance_127 ?_
        replace h := h _ rfl
        exact r_vret C dX4_advance_130 h
      · replace h := h.2 hc
        refine r_aload_n C 0 dX4_advance_90 rfl rfl ?_
        refine cX4_122 C (m_X4_readNumber l h) ⟨Nat.le_of_ble_eq_true rfl, Nat.le_of_ble_eq_true rfl⟩ (Nat.le_of_ble_eq_true rfl) ⟨Nat.le_refl 0, Nat.le_refl 0⟩ dX4_advance_91 (fun M_10 h => ?_)
        refine r_goto C 130 dX4_advance_94 (by decide) ?_
        exact r_vret C dX4_advance_130 h
    · replace h := h.2 hc
      refine r_aload_n C 0 dX4_advance_72 rfl rfl ?_
      refine cX4_116 C (m_X4_readWord l h) ⟨Nat.le_of_ble_eq_true rfl, Nat.le_of_ble_eq_true rfl⟩ (Nat.le_of_ble_eq_true rfl) ⟨Nat.le_refl 0, Nat.le_refl 0⟩ dX4_advance_73 (fun M_11 h => ?_)
      refine r_goto C 130 dX4_advance_76 (by decide) ?_
      exact r_vret C dX4_advance_130 h
  · replace h := h.2 hc
    refine r_aload_n C 0 dX4_advance_53 rfl rfl ?_
    refine r_iconst (v := (1 : Int32)) C dX4_advance_54 rfl ?_
    refine pX4_34 C dX4_advance_55 ?_
    replace h := h _ rfl
    refine r_goto C 130 dX4_advance_58 (by decide) ?_
    exact r_vret C dX4_advance_130 h
def f_X4_refuseAt (v1 : Int32) (v2 : Int32) (M : Mem) (K : Int32 → Mem → Prop) : Prop := ∀ M_2 : Mem, M_2 = wI M 42 4 v1 → ∀ M_3 : Mem, M_3 = wI M_2 42 5 v2 → K (0 : Int32) M_3

set_option maxHeartbeats 1000000 in
set_option maxRecDepth 10000 in
theorem m_X4_refuseAt (l : Launch) {v1 : Int32} {v2 : Int32}  {M : Mem} {K : Int32 → Mem → Prop} (h : f_X4_refuseAt v1 v2 M K) : CTi l yX4_refuseAt cX4_refuseAt 3 (some .boolean) rm_X4_refuseAt (fun ad => [.ref (ad 42), .int v1, .int v2]) M K := by
  refine rw_enti (by decide +kernel) (fun ad => Nat.le_of_ble_eq_true rfl) (fun p e s m args below meth c D cy ad C => ?_)
  change rw_W p l e _ s m args below meth c D cy ad 3 0 0 _ 0 [(0, .ref (ad 42)), (1, .int v1), (2, .int v2)] [] M
  unfold f_X4_refuseAt at h
  refine r_aload_n C 0 dX4_refuseAt_0 rfl rfl ?_
  refine r_iload_n C 1 dX4_refuseAt_1 rfl rfl ?_
  refine pX4_25 C dX4_refuseAt_2 ?_
  replace h := h _ rfl
  refine r_aload_n C 0 dX4_refuseAt_5 rfl rfl ?_
  refine r_iload_n C 2 dX4_refuseAt_6 rfl rfl ?_
  refine pX4_28 C dX4_refuseAt_7 ?_
  replace h := h _ rfl
  refine r_iconst (v := (0 : Int32)) C dX4_refuseAt_10 rfl ?_
  exact r_zret C (by decide) dX4_refuseAt_11 h
set_option maxHeartbeats 1000000 in
set_option maxRecDepth 10000 in
theorem mD_X4_refuse_5 (C : rw_C p s m meth c cX4_refuse 2 RX4 (some .boolean) D cy ad) {Q : State → Prop} {st : List Value} {M : Mem} {v1 : Int32} {o0 : Int32} (kk : rw_W p l e R s m args below meth c D cy ad 2 0 0 Q 13 [(0, .ref (ad 42)), (1, .int v1)] (.int (if ¬ o0 = 0 then v1 else (1 : Int32)) :: st) M) : rw_W p l e R s m args below meth c D cy ad 2 0 0 Q 5 [(0, .ref (ad 42)), (1, .int v1)] (.int o0 :: st) M := by
  refine r_if_ne C 12 dX4_refuse_5 (by decide) (fun z0 => ?_) (fun z0 => ?_)
  · skip
    refine r_iload_n C 1 dX4_refuse_12 rfl rfl ?_
    first | rw [if_pos z0] at kk | rw [if_neg (fun q9 => q9 z0)] at kk
    exact kk
  · skip
    refine r_iconst (v := (1 : Int32)) C dX4_refuse_8 rfl ?_
    refine r_goto C 13 dX4_refuse_9 (by decide) ?_
    first | rw [if_neg z0] at kk | rw [if_neg (fun q9 => q9 z0)] at kk
    exact kk

def f_X4_refuse (v1 : Int32) (M : Mem) (K : Int32 → Mem → Prop) : Prop := f_X4_refuseAt (if ¬ (M.1 42 7) = 0 then v1 else (1 : Int32)) (M.1 42 8) M (fun (r : Int32) (M_2 : Mem) => (r &&& 1 = r) ∧ K r M_2)

set_option maxHeartbeats 1000000 in
set_option maxRecDepth 10000 in
theorem m_X4_refuse (l : Launch) {v1 : Int32}  {M : Mem} {K : Int32 → Mem → Prop} (h : f_X4_refuse v1 M K) : CTi l yX4_refuse cX4_refuse 2 (some .boolean) rm_X4_refuse (fun ad => [.ref (ad 42), .int v1]) M K := by
  refine rw_enti (by decide +kernel) (fun ad => Nat.le_of_ble_eq_true rfl) (fun p e s m args below meth c D cy ad C => ?_)
  change rw_W p l e _ s m args below meth c D cy ad 2 0 0 _ 0 [(0, .ref (ad 42)), (1, .int v1)] [] M
  unfold f_X4_refuse at h
  refine r_aload_n C 0 dX4_refuse_0 rfl rfl ?_
  refine r_aload_n C 0 dX4_refuse_1 rfl rfl ?_
  refine gX4_34 C dX4_refuse_2 ?_
  refine mD_X4_refuse_5 C ?_
  refine r_aload_n C 0 dX4_refuse_13 rfl rfl ?_
  refine gX4_37 C dX4_refuse_14 ?_
  refine cX4_106 C (m_X4_refuseAt l h) ⟨Nat.le_of_ble_eq_true rfl, Nat.le_of_ble_eq_true rfl⟩ (Nat.le_of_ble_eq_true rfl) ⟨Nat.le_refl 0, Nat.le_refl 0⟩ dX4_refuse_17 (fun r M_2 h => ?_)
  exact r_zret C h.1 dX4_refuse_20 h.2
def f_X4_isName (M : Mem) (K : Int32 → Mem → Prop) : Prop := ((¬ (M.1 42 7) = (2 : Int32) → K (0 : Int32) M) ∧ ((M.1 42 7) = (2 : Int32) → (((M.1 42 9) = (8740067 : Int32) → K (0 : Int32) M) ∧ (¬ (M.1 42 9) = (8740067 : Int32) → (((M.1 42 9) = (388708 : Int32) → K (0 : Int32) M) ∧ (¬ (M.1 42 9) = (388708 : Int32) → (((M.1 42 9) = (10656676 : Int32) → K (0 : Int32) M) ∧ (¬ (M.1 42 9) = (10656676 : Int32) → (((M.1 42 9) = (3913426 : Int32) → K (0 : Int32) M) ∧ (¬ (M.1 42 9) = (3913426 : Int32) → K (1 : Int32) M))))))))))

set_option maxHeartbeats 1000000 in
set_option maxRecDepth 10000 in
theorem m_X4_isName (l : Launch)   {M : Mem} {K : Int32 → Mem → Prop} (h : f_X4_isName M K) : CTi l yX4_isName cX4_isName 1 (some .boolean) rm_X4_isName (fun ad => [.ref (ad 42)]) M K := by
  refine rw_enti (by decide +kernel) (fun ad => Nat.le_of_ble_eq_true rfl) (fun p e s m args below meth c D cy ad C => ?_)
  change rw_W p l e _ s m args below meth c D cy ad 1 0 0 _ 0 [(0, .ref (ad 42))] [] M
  unfold f_X4_isName at h
  refine r_aload_n C 0 dX4_isName_0 rfl rfl ?_
  refine gX4_34 C dX4_isName_1 ?_
  refine r_iconst (v := (2 : Int32)) C dX4_isName_4 rfl ?_
  refine r_icmp_ne C 48 dX4_isName_5 (by decide) (fun hc => ?_) (fun hc => ?_)
  · replace h := h.1 hc
    refine r_iconst (v := (0 : Int32)) C dX4_isName_48 rfl ?_
    exact r_zret C (by decide) dX4_isName_49 h
  · replace h := h.2 hc
    refine r_aload_n C 0 dX4_isName_8 rfl rfl ?_
    refine gX4_40 C dX4_isName_9 ?_
    refine kX4_54 C dX4_isName_12 ?_
    refine r_icmp_eq C 48 dX4_isName_14 (by decide) (fun hc => ?_) (fun hc => ?_)
    · replace h := h.1 hc
      refine r_iconst (v := (0 : Int32)) C dX4_isName_48 rfl ?_
      exact r_zret C (by decide) dX4_isName_49 h
    · replace h := h.2 hc
      refine r_aload_n C 0 dX4_isName_17 rfl rfl ?_
      refine gX4_40 C dX4_isName_18 ?_
      refine kX4_59 C dX4_isName_21 ?_
      refine r_icmp_eq C 48 dX4_isName_23 (by decide) (fun hc => ?_) (fun hc => ?_)
      · replace h := h.1 hc
        refine r_iconst (v := (0 : Int32)) C dX4_isName_48 rfl ?_
        exact r_zret C (by decide) dX4_isName_49 h
      · replace h := h.2 hc
        refine r_aload_n C 0 dX4_isName_26 rfl rfl ?_
        refine gX4_40 C dX4_isName_27 ?_
        refine kX4_87 C dX4_isName_30 ?_
        refine r_icmp_eq C 48 dX4_isName_32 (by decide) (fun hc => ?_) (fun hc => ?_)
        · replace h := h.1 hc
          refine r_iconst (v := (0 : Int32)) C dX4_isName_48 rfl ?_
          exact r_zret C (by decide) dX4_isName_49 h
        · replace h := h.2 hc
          refine r_aload_n C 0 dX4_isName_35 rfl rfl ?_
          refine gX4_40 C dX4_isName_36 ?_
          refine kX4_88 C dX4_isName_39 ?_
          refine r_icmp_eq C 48 dX4_isName_41 (by decide) (fun hc => ?_) (fun hc => ?_)
          · replace h := h.1 hc
            refine r_iconst (v := (0 : Int32)) C dX4_isName_48 rfl ?_
            exact r_zret C (by decide) dX4_isName_49 h
          · replace h := h.2 hc
            refine r_iconst (v := (1 : Int32)) C dX4_isName_44 rfl ?_
            refine r_goto C 49 dX4_isName_45 (by decide) ?_
            exact r_zret C (by decide) dX4_isName_49 h
def L_X4_indexOf_2 (v1 : Nat) (v2 : Int32) (X31 : Mem → Prop) (K : Int32 → Mem → Prop) : Nat → Int32 → Mem → Prop
  | 0, _, _ => False
  | n + 1, v3, M => ((v2 ≤ v3 → X31 M) ∧ (¬ v2 ≤ v3 → (((nI (alen v1)) ≤ v3 → X31 M) ∧ (¬ (nI (alen v1)) ≤ v3 → vp_in v3 (alen v1) ∧ ((¬ (gI M v1 v3) = (M.1 42 9) → L_X4_indexOf_2 v1 v2 X31 K n (v3 + (1 : Int32)) M) ∧ ((gI M v1 v3) = (M.1 42 9) → K v3 M))))))

set_option maxHeartbeats 1000000 in
set_option maxRecDepth 10000 in
theorem mL_X4_indexOf_2 (C : rw_C p s m meth c cX4_indexOf 4 RX4 (some .int) D cy ad) {v1 : Nat} {v2 : Int32} (h_v1 : isA v1 0 (alen v1)) {X31 : Mem → Prop} {K : Int32 → Mem → Prop} (hX31 : ∀  (M : Mem), X31 M → rw_W p l e rm_X4_indexOf s m args below meth c D cy ad 4 0 0 (rw_Qi below args s D cy ad K) 31 [] [] M) : ∀ (n : Nat) (v3 : Int32) (M : Mem), L_X4_indexOf_2 v1 v2 X31 K n v3 M → rw_W p l e rm_X4_indexOf s m args below meth c D cy ad 4 0 0 (rw_Qi below args s D cy ad K) 2 [(0, .ref (ad 42)), (1, .ref (ad v1)), (2, .int v2), (3, .int v3)] [] M := by
  intro n
  induction n with
  | zero => intro v3 M h; exact h.elim
  | succ n ih =>
    intro v3 M h
    refine r_iload_n C 3 dX4_indexOf_2 rfl rfl ?_
    refine r_iload_n C 2 dX4_indexOf_3 rfl rfl ?_
    refine r_icmp_ge C 31 dX4_indexOf_4 (by decide) (fun hc => ?_) (fun hc => ?_)
    · replace h := h.1 hc
      exact r_sub [] rfl (hX31 _ h)
    · replace h := h.2 hc
      refine r_iload_n C 3 dX4_indexOf_7 rfl rfl ?_
      refine r_aload_n C 1 dX4_indexOf_8 rfl rfl ?_
      refine r_alen C h_v1 (by decide) dX4_indexOf_9 ?_
      refine r_icmp_ge C 31 dX4_indexOf_10 (by decide) (fun hc => ?_) (fun hc => ?_)
      · replace h := h.1 hc
        exact r_sub [] rfl (hX31 _ h)
      · replace h := h.2 hc
        refine r_aload_n C 1 dX4_indexOf_13 rfl rfl ?_
        refine r_iload_n C 3 dX4_indexOf_14 rfl rfl ?_
        obtain ⟨q, h⟩ := h
        refine r_iald C h_v1 q dX4_indexOf_15 ?_
        refine r_aload_n C 0 dX4_indexOf_16 rfl rfl ?_
        refine gX4_40 C dX4_indexOf_17 ?_
        refine r_icmp_ne C 25 dX4_indexOf_20 (by decide) (fun hc => ?_) (fun hc => ?_)
        · replace h := h.1 hc
          refine r_iinc C 3 (v := _) [(3, .int _), (0, .ref _), (1, .ref _), (2, .int _)] dX4_indexOf_25 rfl rfl (by decide) rfl ?_
          refine r_goto C 2 dX4_indexOf_28 (by decide) ?_
          exact r_sub [1, 2, 3, 0] rfl (ih _ _ h)
        · replace h := h.2 hc
          refine r_iload_n C 3 dX4_indexOf_23 rfl rfl ?_
          exact r_iret C dX4_indexOf_24 h

def f_X4_indexOf (v1 : Nat) (v2 : Int32) (M : Mem) (K : Int32 → Mem → Prop) : Prop := (∃ k2 : Nat, L_X4_indexOf_2 v1 v2 (fun  (M_2 : Mem) => K (-1 : Int32) M_2) K k2 (0 : Int32) M)

set_option maxHeartbeats 1000000 in
set_option maxRecDepth 10000 in
theorem m_X4_indexOf (l : Launch) {v1 : Nat} {v2 : Int32} (h_v1 : isI v1) {M : Mem} {K : Int32 → Mem → Prop} (h : f_X4_indexOf v1 v2 M K) : CTi l yX4_indexOf cX4_indexOf 4 (some .int) rm_X4_indexOf (fun ad => [.ref (ad 42), .ref (ad v1), .int v2]) M K := by
  refine rw_enti (by decide +kernel) (fun ad => Nat.le_of_ble_eq_true rfl) (fun p e s m args below meth c D cy ad C => ?_)
  change rw_W p l e _ s m args below meth c D cy ad 4 0 0 _ 0 [(0, .ref (ad 42)), (1, .ref (ad v1)), (2, .int v2)] [] M
  unfold f_X4_indexOf at h
  refine r_iconst (v := (0 : Int32)) C dX4_indexOf_0 rfl ?_
  refine r_istore_n C [(3, .int _), (0, .ref _), (1, .ref _), (2, .int _)] dX4_indexOf_1 rfl (by decide) rfl ?_
  obtain ⟨n2, h⟩ := h
  refine r_sub [1, 2, 3, 0] rfl (mL_X4_indexOf_2 C h_v1 (fun M_2 h => ?_) n2 _ _ h)
  refine r_iconst (v := (-1 : Int32)) C dX4_indexOf_31 rfl ?_
  exact r_iret C dX4_indexOf_32 h
def S_X4_readNewName_26 (v1 : Nat) (o0 : Int32) (o1 : Int32) (X50 : Int32 → Mem → Prop) (K : Int32 → Mem → Prop) (M : Mem) : Prop := (¬ o1 = o0 → X50 (1 : Int32) M) ∧ (o1 = o0 → f_X4_indexOf 45 (M.1 v1 4) M (fun (r_3 : Int32) (M_4 : Mem) => ((r_3 = (-1 : Int32) → X50 (0 : Int32) M_4) ∧ (¬ r_3 = (-1 : Int32) → X50 (1 : Int32) M_4))))

set_option maxHeartbeats 1000000 in
set_option maxRecDepth 10000 in
theorem mS_X4_readNewName_26 (C : rw_C p s m meth c cX4_readNewName 3 RX4 (some .boolean) D cy ad) {v1 : Nat} {o0 : Int32} {o1 : Int32} (h_v1 : isX1 v1) {X50 : Int32 → Mem → Prop} {K : Int32 → Mem → Prop} {M : Mem} (hX50 : ∀  (w0 : Int32) (M : Mem), X50 w0 M → rw_W p l e rm_X4_readNewName s m args below meth c D cy ad 3 0 0 (rw_Qi below args s D cy ad K) 50 [(0, .ref (ad 42))] [.int w0] M) (h : S_X4_readNewName_26 v1 o0 o1 X50 K M) : rw_W p l e rm_X4_readNewName s m args below meth c D cy ad 3 0 0 (rw_Qi below args s D cy ad K) 26 [(0, .ref (ad 42)), (1, .ref (ad v1))] [.int o0, .int o1] M := by
  refine r_icmp_ne C 45 dX4_readNewName_26 (by decide) (fun hc => ?_) (fun hc => ?_)
  · replace h := h.1 hc
    refine r_iconst (v := (1 : Int32)) C dX4_readNewName_45 rfl ?_
    refine r_goto C 50 dX4_readNewName_46 (by decide) ?_
    exact r_sub [0] rfl (hX50 _ _ h)
  · replace h := h.2 hc
    refine r_aload_n C 0 dX4_readNewName_29 rfl rfl ?_
    refine r_aload_n C 0 dX4_readNewName_30 rfl rfl ?_
    refine gX4_18 C dX4_readNewName_31 ?_
    refine r_aload_n C 1 dX4_readNewName_34 rfl rfl ?_
    refine gX4_81 C h_v1 dX4_readNewName_35 ?_
    refine cX4_102 C (m_X4_indexOf l (isI_of sh_45) h) ⟨Nat.le_of_ble_eq_true rfl, Nat.le_of_ble_eq_true rfl⟩ (Nat.le_of_ble_eq_true rfl) ⟨Nat.le_refl 0, Nat.le_refl 0⟩ dX4_readNewName_38 (fun r_3 M_4 h => ?_)
    refine r_iconst (v := (-1 : Int32)) C dX4_readNewName_41 rfl ?_
    refine r_icmp_eq C 49 dX4_readNewName_42 (by decide) (fun hc => ?_) (fun hc => ?_)
    · replace h := h.1 hc
      refine r_iconst (v := (0 : Int32)) C dX4_readNewName_49 rfl ?_
      exact r_sub [0] rfl (hX50 _ _ h)
    · replace h := h.2 hc
      refine r_iconst (v := (1 : Int32)) C dX4_readNewName_45 rfl ?_
      refine r_goto C 50 dX4_readNewName_46 (by decide) ?_
      exact r_sub [0] rfl (hX50 _ _ h)

def f_X4_readNewName (v1 : Nat) (M : Mem) (K : Int32 → Mem → Prop) : Prop := f_X4_isName  M (fun (r : Int32) (M_2 : Mem) => ((¬ r = 0 → f_X4_indexOf 44 (M_2.1 v1 3) M_2 (fun (r_2 : Int32) (M_3 : Mem) => (S_X4_readNewName_26 v1 (-1 : Int32) r_2 (fun (w : Int32) (M_5 : Mem) => ((w = 0 → K (1 : Int32) M_5) ∧ (¬ w = 0 → f_X4_refuse (3 : Int32) M_5 (fun (r_4 : Int32) (M_6 : Mem) => (r_4 &&& 1 = r_4) ∧ K r_4 M_6)))) K M_3))) ∧ (r = 0 → f_X4_refuse (2 : Int32) M_2 (fun (r_5 : Int32) (M_7 : Mem) => (r_5 &&& 1 = r_5) ∧ K r_5 M_7))))

set_option maxHeartbeats 1000000 in
set_option maxRecDepth 10000 in
theorem m_X4_readNewName (l : Launch) {v1 : Nat} (h_v1 : isX1 v1) {M : Mem} {K : Int32 → Mem → Prop} (h : f_X4_readNewName v1 M K) : CTi l yX4_readNewName cX4_readNewName 3 (some .boolean) rm_X4_readNewName (fun ad => [.ref (ad 42), .ref (ad v1)]) M K := by
  refine rw_enti (by decide +kernel) (fun ad => Nat.le_of_ble_eq_true rfl) (fun p e s m args below meth c D cy ad C => ?_)
  change rw_W p l e _ s m args below meth c D cy ad 3 0 0 _ 0 [(0, .ref (ad 42)), (1, .ref (ad v1))] [] M
  unfold f_X4_readNewName at h
  refine r_aload_n C 0 dX4_readNewName_0 rfl rfl ?_
  refine cX4_99 C (m_X4_isName l h) ⟨Nat.le_of_ble_eq_true rfl, Nat.le_of_ble_eq_true rfl⟩ (Nat.le_of_ble_eq_true rfl) ⟨Nat.le_refl 0, Nat.le_refl 0⟩ dX4_readNewName_1 (fun r M_2 h => ?_)
  refine r_if_ne C 13 dX4_readNewName_4 (by decide) (fun hc => ?_) (fun hc => ?_)
  · replace h := h.1 hc
    refine r_aload_n C 0 dX4_readNewName_13 rfl rfl ?_
    refine r_aload_n C 0 dX4_readNewName_14 rfl rfl ?_
    refine gX4_15 C dX4_readNewName_15 ?_
    refine r_aload_n C 1 dX4_readNewName_18 rfl rfl ?_
    refine gX4_67 C h_v1 dX4_readNewName_19 ?_
    refine cX4_102 C (m_X4_indexOf l (isI_of sh_44) h) ⟨Nat.le_of_ble_eq_true rfl, Nat.le_of_ble_eq_true rfl⟩ (Nat.le_of_ble_eq_true rfl) ⟨Nat.le_refl 0, Nat.le_refl 0⟩ dX4_readNewName_22 (fun r_2 M_3 h => ?_)
    refine r_iconst (v := (-1 : Int32)) C dX4_readNewName_25 rfl ?_
    refine mS_X4_readNewName_26 C h_v1 (fun w M_5 h => ?_) h
    refine r_istore_n C [(2, .int _), (0, .ref _)] dX4_readNewName_50 rfl (by decide) rfl ?_
    refine r_iload_n C 0 dX4_readNewName_51 rfl rfl ?_
    refine r_if_eq C 63 dX4_readNewName_52 (by decide) (fun hc => ?_) (fun hc => ?_)
    · replace h := h.1 hc
      refine r_iconst (v := (1 : Int32)) C dX4_readNewName_63 rfl ?_
      exact r_zret C (by decide) dX4_readNewName_64 h
    · replace h := h.2 hc
      refine r_aload_n C 1 dX4_readNewName_55 rfl rfl ?_
      refine r_iconst (v := (3 : Int32)) C dX4_readNewName_56 rfl ?_
      refine cX4_63 C (m_X4_refuse l h) ⟨Nat.le_of_ble_eq_true rfl, Nat.le_of_ble_eq_true rfl⟩ (Nat.le_of_ble_eq_true rfl) ⟨Nat.le_refl 0, Nat.le_refl 0⟩ dX4_readNewName_57 (fun r_4 M_6 h => ?_)
      refine r_goto C 64 dX4_readNewName_60 (by decide) ?_
      exact r_zret C h.1 dX4_readNewName_64 h.2
  · replace h := h.2 hc
    refine r_aload_n C 0 dX4_readNewName_7 rfl rfl ?_
    refine r_iconst (v := (2 : Int32)) C dX4_readNewName_8 rfl ?_
    refine cX4_63 C (m_X4_refuse l h) ⟨Nat.le_of_ble_eq_true rfl, Nat.le_of_ble_eq_true rfl⟩ (Nat.le_of_ble_eq_true rfl) ⟨Nat.le_refl 0, Nat.le_refl 0⟩ dX4_readNewName_9 (fun r_5 M_7 h => ?_)
    exact r_zret C h.1 dX4_readNewName_12 h.2
def f_X4_readClose (M : Mem) (K : Int32 → Mem → Prop) : Prop := (((M.1 42 7) = (4 : Int32) → f_X4_advance  M (fun (M_2 : Mem) => K (1 : Int32) M_2)) ∧ (¬ (M.1 42 7) = (4 : Int32) → f_X4_refuse (2 : Int32) M (fun (r_2 : Int32) (M_3 : Mem) => (r_2 &&& 1 = r_2) ∧ K r_2 M_3)))

set_option maxHeartbeats 1000000 in
set_option maxRecDepth 10000 in
theorem m_X4_readClose (l : Launch)   {M : Mem} {K : Int32 → Mem → Prop} (h : f_X4_readClose M K) : CTi l yX4_readClose cX4_readClose 1 (some .boolean) rm_X4_readClose (fun ad => [.ref (ad 42)]) M K := by
  refine rw_enti (by decide +kernel) (fun ad => Nat.le_of_ble_eq_true rfl) (fun p e s m args below meth c D cy ad C => ?_)
  change rw_W p l e _ s m args below meth c D cy ad 1 0 0 _ 0 [(0, .ref (ad 42))] [] M
  unfold f_X4_readClose at h
  refine r_aload_n C 0 dX4_readClose_0 rfl rfl ?_
  refine gX4_34 C dX4_readClose_1 ?_
  refine r_iconst (v := (4 : Int32)) C dX4_readClose_4 rfl ?_
  refine r_icmp_eq C 14 dX4_readClose_5 (by decide) (fun hc => ?_) (fun hc => ?_)
  · replace h := h.1 hc
    refine r_aload_n C 0 dX4_readClose_14 rfl rfl ?_
    refine cX4_51 C (m_X4_advance l h) ⟨Nat.le_of_ble_eq_true rfl, Nat.le_of_ble_eq_true rfl⟩ (Nat.le_of_ble_eq_true rfl) ⟨Nat.le_refl 0, Nat.le_refl 0⟩ dX4_readClose_15 (fun M_2 h => ?_)
    refine r_iconst (v := (1 : Int32)) C dX4_readClose_18 rfl ?_
    exact r_zret C (by decide) dX4_readClose_19 h
  · replace h := h.2 hc
    refine r_aload_n C 0 dX4_readClose_8 rfl rfl ?_
    refine r_iconst (v := (2 : Int32)) C dX4_readClose_9 rfl ?_
    refine cX4_63 C (m_X4_refuse l h) ⟨Nat.le_of_ble_eq_true rfl, Nat.le_of_ble_eq_true rfl⟩ (Nat.le_of_ble_eq_true rfl) ⟨Nat.le_refl 0, Nat.le_refl 0⟩ dX4_readClose_10 (fun r_2 M_3 h => ?_)
    exact r_zret C h.1 dX4_readClose_13 h.2
end MG
