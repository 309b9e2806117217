section MG
variable {p : Program} {l : Launch} {e : Env} {R : Room} {s : State} {m : MethodId} {args : Array Value} {below : List Frame} {meth : Method} {c : Code} {D : va_G} {cy : Nat → ClassId} {ad : Nat → Nat}
def L_X0_slotOf_4 (v0 : Nat) (v1 : Int32) (X30 : Int32 → Mem → Prop) (K : Int32 → Mem → Prop) : Nat → Int32 → Int32 → Mem → Prop
  | 0, _, _, _ => False
  | n + 1, v2, v3, M => (((10 : Int32) ≤ v3 → X30 v2 M) ∧ (¬ (10 : Int32) ≤ v3 → vp_in (v1 + v3) 3010 ∧ ∀ x2 : Int32, x2 = (v2 * (31 : Int32)) + (gI M (v0 + 1) (v1 + v3)) → L_X0_slotOf_4 v0 v1 X30 K n x2 (v3 + (1 : Int32)) M))

set_option maxHeartbeats 1000000 in
set_option maxRecDepth 10000 in
theorem mL_X0_slotOf_4 (C : rw_C p s m meth c cX0_slotOf 4 RX0 (some .int) D cy ad) {v0 : Nat} {v1 : Int32} (h_v0 : isX0 v0) {X30 : Int32 → Mem → Prop} {K : Int32 → Mem → Prop} (hX30 : ∀ (u2 : Int32) (M : Mem), X30 u2 M → rw_W p l e rm_X0_slotOf s m args below meth c D cy ad 4 0 0 (rw_Qi below args s D cy ad K) 30 [(2, .int u2)] [] M) : ∀ (n : Nat) (v2 : Int32) (v3 : Int32) (M : Mem), L_X0_slotOf_4 v0 v1 X30 K n v2 v3 M → rw_W p l e rm_X0_slotOf s m args below meth c D cy ad 4 0 0 (rw_Qi below args s D cy ad K) 4 [(0, .ref (ad v0)), (1, .int v1), (2, .int v2), (3, .int v3)] [] M := by
  intro n
  induction n with
  | zero => intro v2 v3 M h; exact h.elim
  | succ n ih =>
    intro v2 v3 M h
    refine r_iload_n C 3 dX0_slotOf_4 rfl rfl ?_
    refine r_bipush (v := (10 : Int32)) C dX0_slotOf_5 rfl ?_
    refine r_icmp_ge C 30 dX0_slotOf_7 (by decide) (fun hc => ?_) (fun hc => ?_)
    · replace h := h.1 hc
      exact r_sub [2] rfl (hX30 _ _ h)
    · replace h := h.2 hc
      refine r_iload_n C 2 dX0_slotOf_10 rfl rfl ?_
      refine r_bipush (v := (31 : Int32)) C dX0_slotOf_11 rfl ?_
      refine r_imul C dX0_slotOf_13 ?_
      refine r_aload_n C 0 dX0_slotOf_14 rfl rfl ?_
      refine gX0_9 C h_v0 dX0_slotOf_15 ?_
      refine r_iload_n C 1 dX0_slotOf_18 rfl rfl ?_
      refine r_iload_n C 3 dX0_slotOf_19 rfl rfl ?_
      refine r_iadd C dX0_slotOf_20 ?_
      obtain ⟨q, h⟩ := h
      refine r_iald C (isX0_A1 h_v0) q dX0_slotOf_21 ?_
      refine r_iadd C dX0_slotOf_22 ?_
      refine r_istore_n C [(2, .int _), (0, .ref _), (1, .int _), (3, .int _)] dX0_slotOf_23 rfl (by decide) rfl ?_
      replace h := h _ rfl
      refine r_iinc C 3 (v := _) [(3, .int _), (2, .int _), (0, .ref _), (1, .int _)] dX0_slotOf_24 rfl rfl (by decide) rfl ?_
      refine r_goto C 4 dX0_slotOf_27 (by decide) ?_
      exact r_sub [2, 3, 1, 0] rfl (ih _ _ _ h)

def f_X0_slotOf (v0 : Nat) (v1 : Int32) (M : Mem) (K : Int32 → Mem → Prop) : Prop := (∃ k4 : Nat, L_X0_slotOf_4 v0 v1 (fun (v2_2 : Int32) (M_2 : Mem) => K (((v2_2 ^^^ (ushr v2_2 (10 : Int32))) ^^^ (ushr v2_2 (20 : Int32))) &&& (1023 : Int32)) M_2) K k4 (0 : Int32) (0 : Int32) M)

set_option maxHeartbeats 1000000 in
set_option maxRecDepth 10000 in
theorem m_X0_slotOf (l : Launch) {v0 : Nat} {v1 : Int32} (h_v0 : isX0 v0) {M : Mem} {K : Int32 → Mem → Prop} (h : f_X0_slotOf v0 v1 M K) : CTi l yX0_slotOf cX0_slotOf 4 (some .int) rm_X0_slotOf (fun ad => [.ref (ad v0), .int v1]) M K := by
  refine rw_enti (by decide +kernel) (fun ad => Nat.le_of_ble_eq_true rfl) (fun p e s m args below meth c D cy ad C => ?_)
  change rw_W p l e _ s m args below meth c D cy ad 4 0 0 _ 0 [(0, .ref (ad v0)), (1, .int v1)] [] M
  unfold f_X0_slotOf at h
  refine r_iconst (v := (0 : Int32)) C dX0_slotOf_0 rfl ?_
  refine r_istore_n C [(2, .int _), (0, .ref _), (1, .int _)] dX0_slotOf_1 rfl (by decide) rfl ?_
  refine r_iconst (v := (0 : Int32)) C dX0_slotOf_2 rfl ?_
  refine r_istore_n C [(3, .int _), (2, .int _), (0, .ref _), (1, .int _)] dX0_slotOf_3 rfl (by decide) rfl ?_
  obtain ⟨n4, h⟩ := h
  refine r_sub [2, 3, 1, 0] rfl (mL_X0_slotOf_4 C h_v0 (fun v2_2 M_2 h => ?_) n4 _ _ _ h)
  refine r_iload_n C 0 dX0_slotOf_30 rfl rfl ?_
  refine r_iload_n C 0 dX0_slotOf_31 rfl rfl ?_
  refine r_bipush (v := (10 : Int32)) C dX0_slotOf_32 rfl ?_
  refine r_iushr C dX0_slotOf_34 ?_
  refine r_ixor C dX0_slotOf_35 ?_
  refine r_iload_n C 0 dX0_slotOf_36 rfl rfl ?_
  refine r_bipush (v := (20 : Int32)) C dX0_slotOf_37 rfl ?_
  refine r_iushr C dX0_slotOf_39 ?_
  refine r_ixor C dX0_slotOf_40 ?_
  refine r_sipush (v := (1023 : Int32)) C dX0_slotOf_41 rfl ?_
  refine r_iand C dX0_slotOf_44 ?_
  exact r_iret C dX0_slotOf_45 h
def L_X0_isSame_2 (v0 : Nat) (v1 : Int32) (X44 : Mem → Prop) (K : Int32 → Mem → Prop) : Nat → Int32 → Mem → Prop
  | 0, _, _ => False
  | n + 1, v2, M => (((10 : Int32) ≤ v2 → X44 M) ∧ (¬ (10 : Int32) ≤ v2 → vp_in ((v1 * (10 : Int32)) + v2) 3010 ∧ vp_in (((M.1 v0 12) * (10 : Int32)) + v2) 3010 ∧ (((gI M (v0 + 1) ((v1 * (10 : Int32)) + v2)) = (gI M (v0 + 1) (((M.1 v0 12) * (10 : Int32)) + v2)) → L_X0_isSame_2 v0 v1 X44 K n (v2 + (1 : Int32)) M) ∧ (¬ (gI M (v0 + 1) ((v1 * (10 : Int32)) + v2)) = (gI M (v0 + 1) (((M.1 v0 12) * (10 : Int32)) + v2)) → K (0 : Int32) M))))

set_option maxHeartbeats 1000000 in
set_option maxRecDepth 10000 in
theorem mL_X0_isSame_2 (C : rw_C p s m meth c cX0_isSame 3 RX0 (some .boolean) D cy ad) {v0 : Nat} {v1 : Int32} (h_v0 : isX0 v0) {X44 : Mem → Prop} {K : Int32 → Mem → Prop} (hX44 : ∀  (M : Mem), X44 M → rw_W p l e rm_X0_isSame s m args below meth c D cy ad 3 0 0 (rw_Qi below args s D cy ad K) 44 [] [] M) : ∀ (n : Nat) (v2 : Int32) (M : Mem), L_X0_isSame_2 v0 v1 X44 K n v2 M → rw_W p l e rm_X0_isSame s m args below meth c D cy ad 3 0 0 (rw_Qi below args s D cy ad K) 2 [(0, .ref (ad v0)), (1, .int v1), (2, .int v2)] [] M := by
  intro n
  induction n with
  | zero => intro v2 M h; exact h.elim
  | succ n ih =>
    intro v2 M h
    refine r_iload_n C 2 dX0_isSame_2 rfl rfl ?_
    refine r_bipush (v := (10 : Int32)) C dX0_isSame_3 rfl ?_
    refine r_icmp_ge C 44 dX0_isSame_5 (by decide) (fun hc => ?_) (fun hc => ?_)
    · replace h := h.1 hc
      exact r_sub [] rfl (hX44 _ h)
    · replace h := h.2 hc
      refine r_aload_n C 0 dX0_isSame_8 rfl rfl ?_
      refine gX0_9 C h_v0 dX0_isSame_9 ?_
      refine r_iload_n C 1 dX0_isSame_12 rfl rfl ?_
      refine r_bipush (v := (10 : Int32)) C dX0_isSame_13 rfl ?_
      refine r_imul C dX0_isSame_15 ?_
      refine r_iload_n C 2 dX0_isSame_16 rfl rfl ?_
      refine r_iadd C dX0_isSame_17 ?_
      obtain ⟨q, h⟩ := h
      refine r_iald C (isX0_A1 h_v0) q dX0_isSame_18 ?_
      refine r_aload_n C 0 dX0_isSame_19 rfl rfl ?_
      refine gX0_9 C h_v0 dX0_isSame_20 ?_
      refine r_aload_n C 0 dX0_isSame_23 rfl rfl ?_
      refine gX0_49 C h_v0 dX0_isSame_24 ?_
      refine r_bipush (v := (10 : Int32)) C dX0_isSame_27 rfl ?_
      refine r_imul C dX0_isSame_29 ?_
      refine r_iload_n C 2 dX0_isSame_30 rfl rfl ?_
      refine r_iadd C dX0_isSame_31 ?_
      obtain ⟨q_2, h⟩ := h
      refine r_iald C (isX0_A1 h_v0) q_2 dX0_isSame_32 ?_
      refine r_icmp_eq C 38 dX0_isSame_33 (by decide) (fun hc => ?_) (fun hc => ?_)
      · replace h := h.1 hc
        refine r_iinc C 2 (v := _) [(2, .int _), (0, .ref _), (1, .int _)] dX0_isSame_38 rfl rfl (by decide) rfl ?_
        refine r_goto C 2 dX0_isSame_41 (by decide) ?_
        exact r_sub [1, 2, 0] rfl (ih _ _ h)
      · replace h := h.2 hc
        refine r_iconst (v := (0 : Int32)) C dX0_isSame_36 rfl ?_
        exact r_zret C (by decide) dX0_isSame_37 h

def f_X0_isSame (v0 : Nat) (v1 : Int32) (M : Mem) (K : Int32 → Mem → Prop) : Prop := (∃ k2 : Nat, L_X0_isSame_2 v0 v1 (fun  (M_2 : Mem) => K (1 : Int32) M_2) K k2 (0 : Int32) M)

set_option maxHeartbeats 1000000 in
set_option maxRecDepth 10000 in
theorem m_X0_isSame (l : Launch) {v0 : Nat} {v1 : Int32} (h_v0 : isX0 v0) {M : Mem} {K : Int32 → Mem → Prop} (h : f_X0_isSame v0 v1 M K) : CTi l yX0_isSame cX0_isSame 3 (some .boolean) rm_X0_isSame (fun ad => [.ref (ad v0), .int v1]) M K := by
  refine rw_enti (by decide +kernel) (fun ad => Nat.le_of_ble_eq_true rfl) (fun p e s m args below meth c D cy ad C => ?_)
  change rw_W p l e _ s m args below meth c D cy ad 3 0 0 _ 0 [(0, .ref (ad v0)), (1, .int v1)] [] M
  unfold f_X0_isSame at h
  refine r_iconst (v := (0 : Int32)) C dX0_isSame_0 rfl ?_
  refine r_istore_n C [(2, .int _), (0, .ref _), (1, .int _)] dX0_isSame_1 rfl (by decide) rfl ?_
  obtain ⟨n2, h⟩ := h
  refine r_sub [1, 2, 0] rfl (mL_X0_isSame_2 C h_v0 (fun M_2 h => ?_) n2 _ _ h)
  refine r_iconst (v := (1 : Int32)) C dX0_isSame_44 rfl ?_
  exact r_zret C (by decide) dX0_isSame_45 h
def L_X0_findOrAdd_15 (v0 : Nat) (v1 : Int32) (v2 : Int32) (X67 : Int32 → Mem → Prop) (K : Int32 → Mem → Prop) : Nat → Int32 → Int32 → Mem → Prop
  | 0, _, _, _ => False
  | n + 1, v3, v4, M => (((1024 : Int32) ≤ v4 → X67 v3 M) ∧ (¬ (1024 : Int32) ≤ v4 → vp_in v3 1024 ∧ (((gI M (v0 + 6) v3) = (-1 : Int32) → X67 v3 M) ∧ (¬ (gI M (v0 + 6) v3) = (-1 : Int32) → f_X0_isSame v0 (gI M (v0 + 6) v3) M (fun (r_2 : Int32) (M_3 : Mem) => ((r_2 = 0 → ∀ x3 : Int32, x3 = (v3 + (1 : Int32)) &&& (1023 : Int32) → L_X0_findOrAdd_15 v0 v1 v2 X67 K n x3 (v4 + (1 : Int32)) M_3) ∧ (¬ r_2 = 0 → K (gI M_3 (v0 + 6) v3) M_3)))))))

set_option maxHeartbeats 1000000 in
set_option maxRecDepth 10000 in
theorem mL_X0_findOrAdd_15 (C : rw_C p s m meth c cX0_findOrAdd 5 RX0 (some .int) D cy ad) {v0 : Nat} {v1 : Int32} {v2 : Int32} (h_v0 : isX0 v0) {X67 : Int32 → Mem → Prop} {K : Int32 → Mem → Prop} (hX67 : ∀ (u3 : Int32) (M : Mem), X67 u3 M → rw_W p l e rm_X0_findOrAdd s m args below meth c D cy ad 5 0 0 (rw_Qi below args s D cy ad K) 67 [(0, .ref (ad v0)), (1, .int v1), (2, .int v2), (3, .int u3)] [] M) : ∀ (n : Nat) (v3 : Int32) (v4 : Int32) (M : Mem), L_X0_findOrAdd_15 v0 v1 v2 X67 K n v3 v4 M → rw_W p l e rm_X0_findOrAdd s m args below meth c D cy ad 5 0 0 (rw_Qi below args s D cy ad K) 15 [(0, .ref (ad v0)), (1, .int v1), (2, .int v2), (3, .int v3), (4, .int v4)] [] M := by
  intro n
  induction n with
  | zero => intro v3 v4 M h; exact h.elim
  | succ n ih =>
    intro v3 v4 M h
    refine r_iload C 4 dX0_findOrAdd_15 rfl ?_
    refine r_sipush (v := (1024 : Int32)) C dX0_findOrAdd_17 rfl ?_
    refine r_icmp_ge C 67 dX0_findOrAdd_20 (by decide) (fun hc => ?_) (fun hc => ?_)
    · replace h := h.1 hc
      exact r_sub [0, 1, 2, 3] rfl (hX67 _ _ h)
    · replace h := h.2 hc
      refine r_aload_n C 0 dX0_findOrAdd_23 rfl rfl ?_
      refine gX0_27 C h_v0 dX0_findOrAdd_24 ?_
      refine r_iload_n C 3 dX0_findOrAdd_27 rfl rfl ?_
      obtain ⟨q, h⟩ := h
      refine r_iald C (isX0_A6 h_v0) q dX0_findOrAdd_28 ?_
      refine r_iconst (v := (-1 : Int32)) C dX0_findOrAdd_29 rfl ?_
      refine r_icmp_eq C 67 dX0_findOrAdd_30 (by decide) (fun hc => ?_) (fun hc => ?_)
      · replace h := h.1 hc
        exact r_sub [0, 1, 2, 3] rfl (hX67 _ _ h)
      · replace h := h.2 hc
        refine r_aload_n C 0 dX0_findOrAdd_33 rfl rfl ?_
        refine r_aload_n C 0 dX0_findOrAdd_34 rfl rfl ?_
        refine gX0_27 C h_v0 dX0_findOrAdd_35 ?_
        refine r_iload_n C 3 dX0_findOrAdd_38 rfl rfl ?_
        refine r_iald C (isX0_A6 h_v0) q dX0_findOrAdd_39 ?_
        refine cX0_105 C h_v0 (m_X0_isSame l h_v0 h) ⟨Nat.le_of_ble_eq_true rfl, Nat.le_of_ble_eq_true rfl⟩ (Nat.le_of_ble_eq_true rfl) ⟨Nat.le_refl 0, Nat.le_refl 0⟩ dX0_findOrAdd_40 (fun r_2 M_3 h => ?_)
        refine r_if_eq C 53 dX0_findOrAdd_43 (by decide) (fun hc => ?_) (fun hc => ?_)
        · replace h := h.1 hc
          refine r_iload_n C 3 dX0_findOrAdd_53 rfl rfl ?_
          refine r_iconst (v := (1 : Int32)) C dX0_findOrAdd_54 rfl ?_
          refine r_iadd C dX0_findOrAdd_55 ?_
          refine r_sipush (v := (1023 : Int32)) C dX0_findOrAdd_56 rfl ?_
          refine r_iand C dX0_findOrAdd_59 ?_
          refine r_istore_n C [(3, .int _), (0, .ref _), (1, .int _), (2, .int _), (4, .int _)] dX0_findOrAdd_60 rfl (by decide) rfl ?_
          replace h := h _ rfl
          refine r_iinc C 4 (v := _) [(4, .int _), (3, .int _), (0, .ref _), (1, .int _), (2, .int _)] dX0_findOrAdd_61 rfl rfl (by decide) rfl ?_
          refine r_goto C 15 dX0_findOrAdd_64 (by decide) ?_
          exact r_sub [2, 3, 4, 1, 0] rfl (ih _ _ _ h)
        · replace h := h.2 hc
          refine r_aload_n C 0 dX0_findOrAdd_46 rfl rfl ?_
          refine gX0_27 C h_v0 dX0_findOrAdd_47 ?_
          refine r_iload_n C 3 dX0_findOrAdd_50 rfl rfl ?_
          refine r_iald C (isX0_A6 h_v0) q dX0_findOrAdd_51 ?_
          exact r_iret C dX0_findOrAdd_52 h

def f_X0_findOrAdd (v0 : Nat) (v1 : Int32) (v2 : Int32) (M : Mem) (K : Int32 → Mem → Prop) : Prop := f_X0_slotOf v0 ((M.1 v0 12) * (10 : Int32)) M (fun (r : Int32) (M_2 : Mem) => (∃ k15 : Nat, L_X0_findOrAdd_15 v0 v1 v2 (fun (v3_2 : Int32) (M_4 : Mem) => (((M_4.1 v0 12) < (300 : Int32) → vp_in v3_2 1024 ∧ ∀ M_5 : Mem, M_5 = wI M_4 (v0 + 6) v3_2.toNatClampNeg (M_4.1 v0 12) → vp_in (M_5.1 v0 12) 300 ∧ ∀ M_6 : Mem, M_6 = wI M_5 (v0 + 2) (M_5.1 v0 12).toNatClampNeg v1 → vp_in (M_6.1 v0 12) 300 ∧ ∀ M_7 : Mem, M_7 = wI M_6 (v0 + 3) (M_6.1 v0 12).toNatClampNeg v2 → ∀ M_8 : Mem, M_8 = wI M_7 v0 12 ((M_7.1 v0 12) + (1 : Int32)) → K ((M_8.1 v0 12) - (1 : Int32)) M_8) ∧ (¬ (M_4.1 v0 12) < (300 : Int32) → ∀ M_9 : Mem, M_9 = wI M_4 v0 13 (1 : Int32) → K (-1 : Int32) M_9))) K k15 r (0 : Int32) M_2))

set_option maxHeartbeats 1000000 in
set_option maxRecDepth 10000 in
theorem m_X0_findOrAdd (l : Launch) {v0 : Nat} {v1 : Int32} {v2 : Int32} (h_v0 : isX0 v0) {M : Mem} {K : Int32 → Mem → Prop} (h : f_X0_findOrAdd v0 v1 v2 M K) : CTi l yX0_findOrAdd cX0_findOrAdd 5 (some .int) rm_X0_findOrAdd (fun ad => [.ref (ad v0), .int v1, .int v2]) M K := by
  refine rw_enti (by decide +kernel) (fun ad => Nat.le_of_ble_eq_true rfl) (fun p e s m args below meth c D cy ad C => ?_)
  change rw_W p l e _ s m args below meth c D cy ad 5 0 0 _ 0 [(0, .ref (ad v0)), (1, .int v1), (2, .int v2)] [] M
  unfold f_X0_findOrAdd at h
  refine r_aload_n C 0 dX0_findOrAdd_0 rfl rfl ?_
  refine r_aload_n C 0 dX0_findOrAdd_1 rfl rfl ?_
  refine gX0_49 C h_v0 dX0_findOrAdd_2 ?_
  refine r_bipush (v := (10 : Int32)) C dX0_findOrAdd_5 rfl ?_
  refine r_imul C dX0_findOrAdd_7 ?_
  refine cX0_101 C h_v0 (m_X0_slotOf l h_v0 h) ⟨Nat.le_of_ble_eq_true rfl, Nat.le_of_ble_eq_true rfl⟩ (Nat.le_of_ble_eq_true rfl) ⟨Nat.le_refl 0, Nat.le_refl 0⟩ dX0_findOrAdd_8 (fun r M_2 h => ?_)
  refine r_istore_n C [(3, .int _), (0, .ref _), (1, .int _), (2, .int _)] dX0_findOrAdd_11 rfl (by decide) rfl ?_
  refine r_iconst (v := (0 : Int32)) C dX0_findOrAdd_12 rfl ?_
  refine r_istore C [(4, .int _), (3, .int _), (0, .ref _), (1, .int _), (2, .int _)] dX0_findOrAdd_13 (by decide) rfl ?_
  obtain ⟨n15, h⟩ := h
  refine r_sub [2, 3, 4, 1, 0] rfl (mL_X0_findOrAdd_15 C h_v0 (fun v3_2 M_4 h => ?_) n15 _ _ _ h)
  refine r_aload_n C 0 dX0_findOrAdd_67 rfl rfl ?_
  refine gX0_49 C h_v0 dX0_findOrAdd_68 ?_
  refine r_sipush (v := (300 : Int32)) C dX0_findOrAdd_71 rfl ?_
  refine r_icmp_lt C 84 dX0_findOrAdd_74 (by decide) (fun hc => ?_) (fun hc => ?_)
  · replace h := h.1 hc
    refine r_aload_n C 0 dX0_findOrAdd_84 rfl rfl ?_
    refine gX0_27 C h_v0 dX0_findOrAdd_85 ?_
    refine r_iload_n C 3 dX0_findOrAdd_88 rfl rfl ?_
    refine r_aload_n C 0 dX0_findOrAdd_89 rfl rfl ?_
    refine gX0_49 C h_v0 dX0_findOrAdd_90 ?_
    obtain ⟨q_2, h⟩ := h
    refine r_iast C (isX0_A6 h_v0) q_2 dX0_findOrAdd_93 ?_
    replace h := h _ rfl
    refine r_aload_n C 0 dX0_findOrAdd_94 rfl rfl ?_
    refine gX0_15 C h_v0 dX0_findOrAdd_95 ?_
    refine r_aload_n C 0 dX0_findOrAdd_98 rfl rfl ?_
    refine gX0_49 C h_v0 dX0_findOrAdd_99 ?_
    refine r_iload_n C 1 dX0_findOrAdd_102 rfl rfl ?_
    obtain ⟨q_3, h⟩ := h
    refine r_iast C (isX0_A2 h_v0) q_3 dX0_findOrAdd_103 ?_
    replace h := h _ rfl
    refine r_aload_n C 0 dX0_findOrAdd_104 rfl rfl ?_
    refine gX0_18 C h_v0 dX0_findOrAdd_105 ?_
    refine r_aload_n C 0 dX0_findOrAdd_108 rfl rfl ?_
    refine gX0_49 C h_v0 dX0_findOrAdd_109 ?_
    refine r_iload_n C 2 dX0_findOrAdd_112 rfl rfl ?_
    obtain ⟨q_4, h⟩ := h
    refine r_iast C (isX0_A3 h_v0) q_4 dX0_findOrAdd_113 ?_
    replace h := h _ rfl
    refine r_aload_n C 0 dX0_findOrAdd_114 rfl rfl ?_
    refine r_dup C dX0_findOrAdd_115 rfl ?_
    refine gX0_49 C h_v0 dX0_findOrAdd_116 ?_
    refine r_iconst (v := (1 : Int32)) C dX0_findOrAdd_119 rfl ?_
    refine r_iadd C dX0_findOrAdd_120 ?_
    refine pX0_49 C h_v0 dX0_findOrAdd_121 ?_
    replace h := h _ rfl
    refine r_aload_n C 0 dX0_findOrAdd_124 rfl rfl ?_
    refine gX0_49 C h_v0 dX0_findOrAdd_125 ?_
    refine r_iconst (v := (1 : Int32)) C dX0_findOrAdd_128 rfl ?_
    refine r_isub C dX0_findOrAdd_129 ?_
    exact r_iret C dX0_findOrAdd_130 h
  · replace h := h.2 hc
    refine r_aload_n C 0 dX0_findOrAdd_77 rfl rfl ?_
    refine r_iconst (v := (1 : Int32)) C dX0_findOrAdd_78 rfl ?_
    refine pX0_52 C h_v0 (by decide) dX0_findOrAdd_79 ?_
    replace h := h _ rfl
    refine r_iconst (v := (-1 : Int32)) C dX0_findOrAdd_82 rfl ?_
    exact r_iret C dX0_findOrAdd_83 h
def f_X1_hasStep (v0 : Nat) (v1 : Int32) (M : Mem) (K : Int32 → Mem → Prop) : Prop := ((v1 < 0 → K (0 : Int32) M) ∧ (¬ v1 < 0 → (((8 : Int32) ≤ v1 → K (0 : Int32) M) ∧ (¬ (8 : Int32) ≤ v1 → ((¬ (((M.1 v0 6) >>> (v1 &&& 31)) &&& (1 : Int32)) = (1 : Int32) → K (0 : Int32) M) ∧ ((((M.1 v0 6) >>> (v1 &&& 31)) &&& (1 : Int32)) = (1 : Int32) → K (1 : Int32) M))))))

set_option maxHeartbeats 1000000 in
set_option maxRecDepth 10000 in
theorem m_X1_hasStep (l : Launch) {v0 : Nat} {v1 : Int32} (h_v0 : isX1 v0) {M : Mem} {K : Int32 → Mem → Prop} (h : f_X1_hasStep v0 v1 M K) : CTi l yX1_hasStep cX1_hasStep 2 (some .boolean) rm_X1_hasStep (fun ad => [.ref (ad v0), .int v1]) M K := by
  refine rw_enti (by decide +kernel) (fun ad => Nat.le_of_ble_eq_true rfl) (fun p e s m args below meth c D cy ad C => ?_)
  change rw_W p l e _ s m args below meth c D cy ad 2 0 0 _ 0 [(0, .ref (ad v0)), (1, .int v1)] [] M
  unfold f_X1_hasStep at h
  refine r_iload_n C 1 dX1_hasStep_0 rfl rfl ?_
  refine r_if_lt C 26 dX1_hasStep_1 (by decide) (fun hc => ?_) (fun hc => ?_)
  · replace h := h.1 hc
    refine r_iconst (v := (0 : Int32)) C dX1_hasStep_26 rfl ?_
    exact r_zret C (by decide) dX1_hasStep_27 h
  · replace h := h.2 hc
    refine r_iload_n C 1 dX1_hasStep_4 rfl rfl ?_
    refine r_bipush (v := (8 : Int32)) C dX1_hasStep_5 rfl ?_
    refine r_icmp_ge C 26 dX1_hasStep_7 (by decide) (fun hc => ?_) (fun hc => ?_)
    · replace h := h.1 hc
      refine r_iconst (v := (0 : Int32)) C dX1_hasStep_26 rfl ?_
      exact r_zret C (by decide) dX1_hasStep_27 h
    · replace h := h.2 hc
      refine r_aload_n C 0 dX1_hasStep_10 rfl rfl ?_
      refine gX1_31 C h_v0 dX1_hasStep_11 ?_
      refine r_iload_n C 1 dX1_hasStep_14 rfl rfl ?_
      refine r_ishr C dX1_hasStep_15 ?_
      refine r_iconst (v := (1 : Int32)) C dX1_hasStep_16 rfl ?_
      refine r_iand C dX1_hasStep_17 ?_
      refine r_iconst (v := (1 : Int32)) C dX1_hasStep_18 rfl ?_
      refine r_icmp_ne C 26 dX1_hasStep_19 (by decide) (fun hc => ?_) (fun hc => ?_)
      · replace h := h.1 hc
        refine r_iconst (v := (0 : Int32)) C dX1_hasStep_26 rfl ?_
        exact r_zret C (by decide) dX1_hasStep_27 h
      · replace h := h.2 hc
        refine r_iconst (v := (1 : Int32)) C dX1_hasStep_22 rfl ?_
        refine r_goto C 27 dX1_hasStep_23 (by decide) ?_
        exact r_zret C (by decide) dX1_hasStep_27 h
def L_X1_allows_19 (v0 : Nat) (v2 : Nat) (v3 : Int32) (v4 : Int32) (X79 : Mem → Prop) (K : Int32 → Mem → Prop) : Nat → Int32 → Mem → Prop
  | 0, _, _ => False
  | n + 1, v5, M => (((M.1 v0 3) ≤ v5 → X79 M) ∧ (¬ (M.1 v0 3) ≤ v5 → vp_in (v3 + v5) (alen v2) ∧ vp_in (v4 + v5) 80 ∧ ∀ x6 : Int32, x6 = (gI M v2 (v3 + v5)) - (gI M (v0 + 1) (v4 + v5)) → ((x6 < 0 → K (0 : Int32) M) ∧ (¬ x6 < 0 → (((x6 + (gI M (v0 + 2) (v4 + v5))) ≤ (999 : Int32) → L_X1_allows_19 v0 v2 v3 v4 X79 K n (v5 + (1 : Int32)) M) ∧ (¬ (x6 + (gI M (v0 + 2) (v4 + v5))) ≤ (999 : Int32) → K (0 : Int32) M))))))

set_option maxHeartbeats 1000000 in
set_option maxRecDepth 10000 in
theorem mL_X1_allows_19 (C : rw_C p s m meth c cX1_allows 7 RX1 (some .boolean) D cy ad) {v0 : Nat} {v2 : Nat} {v3 : Int32} {v4 : Int32} (h_v0 : isX1 v0) (h_v2 : isA v2 0 (alen v2)) {X79 : Mem → Prop} {K : Int32 → Mem → Prop} (hX79 : ∀  (M : Mem), X79 M → rw_W p l e rm_X1_allows s m args below meth c D cy ad 7 0 0 (rw_Qi below args s D cy ad K) 79 [] [] M) : ∀ (n : Nat) (v5 : Int32) (M : Mem), L_X1_allows_19 v0 v2 v3 v4 X79 K n v5 M → rw_W p l e rm_X1_allows s m args below meth c D cy ad 7 0 0 (rw_Qi below args s D cy ad K) 19 [(0, .ref (ad v0)), (2, .ref (ad v2)), (3, .int v3), (4, .int v4), (5, .int v5)] [] M := by
  intro n
  induction n with
  | zero => intro v5 M h; exact h.elim
  | succ n ih =>
    intro v5 M h
    refine r_iload C 4 dX1_allows_19 rfl ?_
    refine r_aload_n C 0 dX1_allows_21 rfl rfl ?_
    refine gX1_21 C h_v0 dX1_allows_22 ?_
    refine r_icmp_ge C 79 dX1_allows_25 (by decide) (fun hc => ?_) (fun hc => ?_)
    · replace h := h.1 hc
      exact r_sub [] rfl (hX79 _ h)
    · replace h := h.2 hc
      refine r_aload_n C 1 dX1_allows_28 rfl rfl ?_
      refine r_iload_n C 2 dX1_allows_29 rfl rfl ?_
      refine r_iload C 4 dX1_allows_30 rfl ?_
      refine r_iadd C dX1_allows_32 ?_
      obtain ⟨q, h⟩ := h
      refine r_iald C h_v2 q dX1_allows_33 ?_
      refine r_aload_n C 0 dX1_allows_34 rfl rfl ?_
      refine gX1_9 C h_v0 dX1_allows_35 ?_
      refine r_iload C 3 dX1_allows_38 rfl ?_
      refine r_iload C 4 dX1_allows_40 rfl ?_
      refine r_iadd C dX1_allows_42 ?_
      obtain ⟨q_2, h⟩ := h
      refine r_iald C (isX1_A1 h_v0) q_2 dX1_allows_43 ?_
      refine r_isub C dX1_allows_44 ?_
      refine r_istore C [(6, .int _), (0, .ref _), (2, .ref _), (3, .int _), (4, .int _), (5, .int _)] dX1_allows_45 (by decide) rfl ?_
      replace h := h _ rfl
      refine r_iload C 0 dX1_allows_47 rfl ?_
      refine r_if_lt C 71 dX1_allows_49 (by decide) (fun hc => ?_) (fun hc => ?_)
      · replace h := h.1 hc
        refine r_iconst (v := (0 : Int32)) C dX1_allows_71 rfl ?_
        exact r_zret C (by decide) dX1_allows_72 h
      · replace h := h.2 hc
        refine r_iload C 0 dX1_allows_52 rfl ?_
        refine r_aload_n C 1 dX1_allows_54 rfl rfl ?_
        refine gX1_15 C h_v0 dX1_allows_55 ?_
        refine r_iload C 4 dX1_allows_58 rfl ?_
        refine r_iload C 5 dX1_allows_60 rfl ?_
        refine r_iadd C dX1_allows_62 ?_
        refine r_iald C (isX1_A2 h_v0) q_2 dX1_allows_63 ?_
        refine r_iadd C dX1_allows_64 ?_
        refine r_sipush (v := (999 : Int32)) C dX1_allows_65 rfl ?_
        refine r_icmp_le C 73 dX1_allows_68 (by decide) (fun hc => ?_) (fun hc => ?_)
        · replace h := h.1 hc
          refine r_iinc C 5 (v := _) [(5, .int _), (6, .int _), (0, .ref _), (2, .ref _), (3, .int _), (4, .int _)] dX1_allows_73 rfl rfl (by decide) rfl ?_
          refine r_goto C 19 dX1_allows_76 (by decide) ?_
          exact r_sub [2, 3, 4, 5, 0] rfl (ih _ _ h)
        · replace h := h.2 hc
          refine r_iconst (v := (0 : Int32)) C dX1_allows_71 rfl ?_
          exact r_zret C (by decide) dX1_allows_72 h

def f_X1_allows (v0 : Nat) (v1 : Int32) (v2 : Nat) (v3 : Int32) (M : Mem) (K : Int32 → Mem → Prop) : Prop := f_X1_hasStep v0 v1 M (fun (r : Int32) (M_2 : Mem) => ((¬ r = 0 → ∀ x4 : Int32, x4 = v1 * (10 : Int32) → (∃ k19 : Nat, L_X1_allows_19 v0 v2 v3 x4 (fun  (M_3 : Mem) => K (1 : Int32) M_3) K k19 (0 : Int32) M_2)) ∧ (r = 0 → K (0 : Int32) M_2)))

set_option maxHeartbeats 1000000 in
set_option maxRecDepth 10000 in
theorem m_X1_allows (l : Launch) {v0 : Nat} {v1 : Int32} {v2 : Nat} {v3 : Int32} (h_v0 : isX1 v0) (h_v2 : isI v2) {M : Mem} {K : Int32 → Mem → Prop} (h : f_X1_allows v0 v1 v2 v3 M K) : CTi l yX1_allows cX1_allows 7 (some .boolean) rm_X1_allows (fun ad => [.ref (ad v0), .int v1, .ref (ad v2), .int v3]) M K := by
  refine rw_enti (by decide +kernel) (fun ad => Nat.le_of_ble_eq_true rfl) (fun p e s m args below meth c D cy ad C => ?_)
  change rw_W p l e _ s m args below meth c D cy ad 7 0 0 _ 0 [(0, .ref (ad v0)), (1, .int v1), (2, .ref (ad v2)), (3, .int v3)] [] M
  unfold f_X1_allows at h
  refine r_aload_n C 0 dX1_allows_0 rfl rfl ?_
  refine r_iload_n C 1 dX1_allows_1 rfl rfl ?_
  refine cX1_60 C h_v0 (m_X1_hasStep l h_v0 h) ⟨Nat.le_of_ble_eq_true rfl, Nat.le_of_ble_eq_true rfl⟩ (Nat.le_of_ble_eq_true rfl) ⟨Nat.le_refl 0, Nat.le_refl 0⟩ dX1_allows_2 (fun r M_2 h => ?_)
  refine r_if_ne C 10 dX1_allows_5 (by decide) (fun hc => ?_) (fun hc => ?_)
  · replace h := h.1 hc
    refine r_iload_n C 1 dX1_allows_10 rfl rfl ?_
    refine r_bipush (v := (10 : Int32)) C dX1_allows_11 rfl ?_
    refine r_imul C dX1_allows_13 ?_
    refine r_istore C [(4, .int _), (0, .ref _), (1, .int _), (2, .ref _), (3, .int _)] dX1_allows_14 (by decide) rfl ?_
    replace h := h _ rfl
    refine r_iconst (v := (0 : Int32)) C dX1_allows_16 rfl ?_
    refine r_istore C [(5, .int _), (4, .int _), (0, .ref _), (1, .int _), (2, .ref _), (3, .int _)] dX1_allows_17 (by decide) rfl ?_
    obtain ⟨n19, h⟩ := h
    refine r_sub [2, 4, 5, 1, 0] rfl (mL_X1_allows_19 C h_v0 h_v2 (fun M_3 h => ?_) n19 _ _ h)
    refine r_iconst (v := (1 : Int32)) C dX1_allows_79 rfl ?_
    exact r_zret C (by decide) dX1_allows_80 h
  · replace h := h.2 hc
    refine r_iconst (v := (0 : Int32)) C dX1_allows_8 rfl ?_
    exact r_zret C (by decide) dX1_allows_9 h
def f_X1_change (v0 : Nat) (v1 : Int32) (v2 : Int32) (M : Mem) (K : Int32 → Mem → Prop) : Prop := ∀ x3 : Int32, x3 = (v1 * (10 : Int32)) + v2 → vp_in x3 80 ∧ K ((gI M (v0 + 2) x3) - (gI M (v0 + 1) x3)) M

set_option maxHeartbeats 1000000 in
set_option maxRecDepth 10000 in
theorem m_X1_change (l : Launch) {v0 : Nat} {v1 : Int32} {v2 : Int32} (h_v0 : isX1 v0) {M : Mem} {K : Int32 → Mem → Prop} (h : f_X1_change v0 v1 v2 M K) : CTi l yX1_change cX1_change 4 (some .int) rm_X1_change (fun ad => [.ref (ad v0), .int v1, .int v2]) M K := by
  refine rw_enti (by decide +kernel) (fun ad => Nat.le_of_ble_eq_true rfl) (fun p e s m args below meth c D cy ad C => ?_)
  change rw_W p l e _ s m args below meth c D cy ad 4 0 0 _ 0 [(0, .ref (ad v0)), (1, .int v1), (2, .int v2)] [] M
  unfold f_X1_change at h
  refine r_iload_n C 1 dX1_change_0 rfl rfl ?_
  refine r_bipush (v := (10 : Int32)) C dX1_change_1 rfl ?_
  refine r_imul C dX1_change_3 ?_
  refine r_iload_n C 2 dX1_change_4 rfl rfl ?_
  refine r_iadd C dX1_change_5 ?_
  refine r_istore_n C [(3, .int _), (0, .ref _), (1, .int _), (2, .int _)] dX1_change_6 rfl (by decide) rfl ?_
  replace h := h _ rfl
  refine r_aload_n C 1 dX1_change_7 rfl rfl ?_
  refine gX1_15 C h_v0 dX1_change_8 ?_
  refine r_iload_n C 0 dX1_change_11 rfl rfl ?_
  obtain ⟨q, h⟩ := h
  refine r_iald C (isX1_A2 h_v0) q dX1_change_12 ?_
  refine r_aload_n C 1 dX1_change_13 rfl rfl ?_
  refine gX1_9 C h_v0 dX1_change_14 ?_
  refine r_iload_n C 0 dX1_change_17 rfl rfl ?_
  refine r_iald C (isX1_A1 h_v0) q dX1_change_18 ?_
  refine r_isub C dX1_change_19 ?_
  exact r_iret C dX1_change_20 h
def L_X1_move_12 (v0 : Nat) (v1 : Int32) (v2 : Nat) (v3 : Int32) (v4 : Int32) (X46 : Mem → Prop) (K : Mem → Prop) : Nat → Int32 → Mem → Prop
  | 0, _, _ => False
  | n + 1, v5, M => (((10 : Int32) ≤ v5 → X46 M) ∧ (¬ (10 : Int32) ≤ v5 → vp_in (v3 + v5) (alen v2) ∧ f_X1_change v0 v1 v5 M (fun (r_2 : Int32) (M_3 : Mem) => vp_in (v4 + v5) (alen v2) ∧ ∀ M_4 : Mem, M_4 = wI M_3 v2 (v4 + v5).toNatClampNeg ((gI M v2 (v3 + v5)) + r_2) → L_X1_move_12 v0 v1 v2 v3 v4 X46 K n (v5 + (1 : Int32)) M_4)))

set_option maxHeartbeats 1000000 in
set_option maxRecDepth 10000 in
theorem mL_X1_move_12 (C : rw_C p s m meth c cX1_move 6 RX1 none D cy ad) {v0 : Nat} {v1 : Int32} {v2 : Nat} {v3 : Int32} {v4 : Int32} (h_v0 : isX1 v0) (h_v2 : isA v2 0 (alen v2)) {X46 : Mem → Prop} {K : Mem → Prop} (hX46 : ∀  (M : Mem), X46 M → rw_W p l e rm_X1_move s m args below meth c D cy ad 6 0 0 (rw_Qv below args s D cy ad K) 46 [] [] M) : ∀ (n : Nat) (v5 : Int32) (M : Mem), L_X1_move_12 v0 v1 v2 v3 v4 X46 K n v5 M → rw_W p l e rm_X1_move s m args below meth c D cy ad 6 0 0 (rw_Qv below args s D cy ad K) 12 [(0, .ref (ad v0)), (1, .int v1), (2, .ref (ad v2)), (3, .int v3), (4, .int v4), (5, .int v5)] [] M := by
  intro n
  induction n with
  | zero => intro v5 M h; exact h.elim
  | succ n ih =>
    intro v5 M h
    refine r_iload C 5 dX1_move_12 rfl ?_
    refine r_bipush (v := (10 : Int32)) C dX1_move_14 rfl ?_
    refine r_icmp_ge C 46 dX1_move_16 (by decide) (fun hc => ?_) (fun hc => ?_)
    · replace h := h.1 hc
      exact r_sub [] rfl (hX46 _ h)
    · replace h := h.2 hc
      refine r_aload_n C 2 dX1_move_19 rfl rfl ?_
      refine r_iload C 4 dX1_move_20 rfl ?_
      refine r_iload C 5 dX1_move_22 rfl ?_
      refine r_iadd C dX1_move_24 ?_
      refine r_aload_n C 2 dX1_move_25 rfl rfl ?_
      refine r_iload_n C 3 dX1_move_26 rfl rfl ?_
      refine r_iload C 5 dX1_move_27 rfl ?_
      refine r_iadd C dX1_move_29 ?_
      obtain ⟨q, h⟩ := h
      refine r_iald C h_v2 q dX1_move_30 ?_
      refine r_aload_n C 0 dX1_move_31 rfl rfl ?_
      refine r_iload_n C 1 dX1_move_32 rfl rfl ?_
      refine r_iload C 5 dX1_move_33 rfl ?_
      refine cX1_52 C h_v0 (m_X1_change l h_v0 h) ⟨Nat.le_of_ble_eq_true rfl, Nat.le_of_ble_eq_true rfl⟩ (Nat.le_of_ble_eq_true rfl) ⟨Nat.le_refl 0, Nat.le_refl 0⟩ dX1_move_35 (fun r_2 M_3 h => ?_)
      refine r_iadd C dX1_move_38 ?_
      obtain ⟨q_2, h⟩ := h
      refine r_iast C h_v2 q_2 dX1_move_39 ?_
      replace h := h _ rfl
      refine r_iinc C 5 (v := _) [(5, .int _), (0, .ref _), (1, .int _), (2, .ref _), (3, .int _), (4, .int _)] dX1_move_40 rfl rfl (by decide) rfl ?_
      refine r_goto C 12 dX1_move_43 (by decide) ?_
      exact r_sub [1, 2, 3, 4, 5, 0] rfl (ih _ _ h)

def f_X1_move (v0 : Nat) (v1 : Int32) (v2 : Nat) (v3 : Int32) (v4 : Int32) (M : Mem) (K : Mem → Prop) : Prop := f_X1_hasStep v0 v1 M (fun (r : Int32) (M_2 : Mem) => ((¬ r = 0 → (∃ k12 : Nat, L_X1_move_12 v0 v1 v2 v3 v4 (fun  (M_5 : Mem) => K M_5) K k12 (0 : Int32) M_2)) ∧ (r = 0 → K M_2)))

set_option maxHeartbeats 1000000 in
set_option maxRecDepth 10000 in
theorem m_X1_move (l : Launch) {v0 : Nat} {v1 : Int32} {v2 : Nat} {v3 : Int32} {v4 : Int32} (h_v0 : isX1 v0) (h_v2 : isI v2) {M : Mem} {K : Mem → Prop} (h : f_X1_move v0 v1 v2 v3 v4 M K) : CTv l yX1_move cX1_move 6 none rm_X1_move (fun ad => [.ref (ad v0), .int v1, .ref (ad v2), .int v3, .int v4]) M K := by
  refine rw_entv (by decide +kernel) (fun ad => Nat.le_of_ble_eq_true rfl) (fun p e s m args below meth c D cy ad C => ?_)
  change rw_W p l e _ s m args below meth c D cy ad 6 0 0 _ 0 [(0, .ref (ad v0)), (1, .int v1), (2, .ref (ad v2)), (3, .int v3), (4, .int v4)] [] M
  unfold f_X1_move at h
  refine r_aload_n C 0 dX1_move_0 rfl rfl ?_
  refine r_iload_n C 1 dX1_move_1 rfl rfl ?_
  refine cX1_60 C h_v0 (m_X1_hasStep l h_v0 h) ⟨Nat.le_of_ble_eq_true rfl, Nat.le_of_ble_eq_true rfl⟩ (Nat.le_of_ble_eq_true rfl) ⟨Nat.le_refl 0, Nat.le_refl 0⟩ dX1_move_2 (fun r M_2 h => ?_)
  refine r_if_ne C 9 dX1_move_5 (by decide) (fun hc => ?_) (fun hc => ?_)
  · replace h := h.1 hc
    refine r_iconst (v := (0 : Int32)) C dX1_move_9 rfl ?_
    refine r_istore C [(5, .int _), (0, .ref _), (1, .int _), (2, .ref _), (3, .int _), (4, .int _)] dX1_move_10 (by decide) rfl ?_
    obtain ⟨n12, h⟩ := h
    refine r_sub [1, 2, 3, 4, 5, 0] rfl (mL_X1_move_12 C h_v0 h_v2 (fun M_5 h => ?_) n12 _ _ h)
    exact r_vret C dX1_move_46 h
  · replace h := h.2 hc
    exact r_vret C dX1_move_8 h
def S_X0_goFrom_31 (v0 : Nat) (v1 : Nat) (v2 : Int32) (v3 : Int32) (v4 : Int32) (o0 : Int32) (X74 : Int32 → Mem → Prop) (K : Mem → Prop) (M : Mem) : Prop := (o0 = 0 → X74 v4 M) ∧ (¬ o0 = 0 → vp_in v2 300 ∧ ∀ M_4 : Mem, M_4 = wI M (v0 + 4) v2.toNatClampNeg ((gI M (v0 + 4) v2) ||| ((1 : Int32) <<< (v3 &&& 31))) → f_X1_move v1 v3 (v0 + 1) (v2 * (10 : Int32)) ((M_4.1 v0 12) * (10 : Int32)) M_4 (fun (M_5 : Mem) => f_X0_findOrAdd v0 v2 v3 M_5 (fun (r_3 : Int32) (M_6 : Mem) => X74 r_3 M_6)))

set_option maxHeartbeats 1000000 in
set_option maxRecDepth 10000 in
theorem mS_X0_goFrom_31 (C : rw_C p s m meth c cX0_goFrom 5 RX0 none D cy ad) {v0 : Nat} {v1 : Nat} {v2 : Int32} {v3 : Int32} {v4 : Int32} {o0 : Int32} (h_v0 : isX0 v0) (h_v1 : isX1 v1) {X74 : Int32 → Mem → Prop} {K : Mem → Prop} {M : Mem} (hX74 : ∀ (u4 : Int32) (M : Mem), X74 u4 M → rw_W p l e rm_X0_goFrom s m args below meth c D cy ad 5 0 0 (rw_Qv below args s D cy ad K) 74 [(0, .ref (ad v0)), (1, .ref (ad v1)), (2, .int v2), (3, .int v3), (4, .int u4)] [] M) (h : S_X0_goFrom_31 v0 v1 v2 v3 v4 o0 X74 K M) : rw_W p l e rm_X0_goFrom s m args below meth c D cy ad 5 0 0 (rw_Qv below args s D cy ad K) 31 [(0, .ref (ad v0)), (1, .ref (ad v1)), (2, .int v2), (3, .int v3), (4, .int v4)] [.int o0] M := by
  refine r_if_eq C 74 dX0_goFrom_31 (by decide) (fun hc => ?_) (fun hc => ?_)
  · replace h := h.1 hc
    exact hX74 _ _ h
  · replace h := h.2 hc
    refine r_aload_n C 0 dX0_goFrom_34 rfl rfl ?_
    refine gX0_21 C h_v0 dX0_goFrom_35 ?_
    refine r_iload_n C 2 dX0_goFrom_38 rfl rfl ?_
    refine r_dup2_11 C dX0_goFrom_39 rfl rfl ?_
    obtain ⟨q_2, h⟩ := h
    refine r_iald C (isX0_A4 h_v0) q_2 dX0_goFrom_40 ?_
    refine r_iconst (v := (1 : Int32)) C dX0_goFrom_41 rfl ?_
    refine r_iload_n C 3 dX0_goFrom_42 rfl rfl ?_
    refine r_ishl C dX0_goFrom_43 ?_
    refine r_ior C dX0_goFrom_44 ?_
    refine r_iast C (isX0_A4 h_v0) q_2 dX0_goFrom_45 ?_
    replace h := h _ rfl
    refine r_aload_n C 1 dX0_goFrom_46 rfl rfl ?_
    refine r_iload_n C 3 dX0_goFrom_47 rfl rfl ?_
    refine r_aload_n C 0 dX0_goFrom_48 rfl rfl ?_
    refine gX0_9 C h_v0 dX0_goFrom_49 ?_
    refine r_iload_n C 2 dX0_goFrom_52 rfl rfl ?_
    refine r_bipush (v := (10 : Int32)) C dX0_goFrom_53 rfl ?_
    refine r_imul C dX0_goFrom_55 ?_
    refine r_aload_n C 0 dX0_goFrom_56 rfl rfl ?_
    refine gX0_49 C h_v0 dX0_goFrom_57 ?_
    refine r_bipush (v := (10 : Int32)) C dX0_goFrom_60 rfl ?_
    refine r_imul C dX0_goFrom_62 ?_
    refine cX0_97 C h_v1 (m_X1_move l h_v1 (isI_of (isX0_A1 h_v0)) h) ⟨Nat.le_of_ble_eq_true rfl, Nat.le_of_ble_eq_true rfl⟩ (Nat.le_of_ble_eq_true rfl) ⟨Nat.le_refl 0, Nat.le_refl 0⟩ dX0_goFrom_63 (fun M_5 h => ?_)
    refine r_aload_n C 0 dX0_goFrom_66 rfl rfl ?_
    refine r_iload_n C 2 dX0_goFrom_67 rfl rfl ?_
    refine r_iload_n C 3 dX0_goFrom_68 rfl rfl ?_
    refine cX0_85 C h_v0 (m_X0_findOrAdd l h_v0 h) ⟨Nat.le_of_ble_eq_true rfl, Nat.le_of_ble_eq_true rfl⟩ (Nat.le_of_ble_eq_true rfl) ⟨Nat.le_refl 0, Nat.le_refl 0⟩ dX0_goFrom_69 (fun r_3 M_6 h => ?_)
    refine r_istore C [(4, .int _), (0, .ref _), (1, .ref _), (2, .int _), (3, .int _)] dX0_goFrom_72 (by decide) rfl ?_
    exact r_sub [1, 2, 3, 4, 0] rfl (hX74 _ _ h)

def L_X0_goFrom_9 (v0 : Nat) (v1 : Nat) (v2 : Int32) (X93 : Mem → Prop) (K : Mem → Prop) : Nat → Int32 → Mem → Prop
  | 0, _, _ => False
  | n + 1, v3, M => (((8 : Int32) ≤ v3 → X93 M) ∧ (¬ (8 : Int32) ≤ v3 → f_X1_allows v1 v3 (v0 + 1) (v2 * (10 : Int32)) M (fun (r : Int32) (M_3 : Mem) => (S_X0_goFrom_31 v0 v1 v2 v3 (-1 : Int32) r (fun (v4_2 : Int32) (M_7 : Mem) => vp_in ((v2 * (8 : Int32)) + v3) 2400 ∧ ∀ M_8 : Mem, M_8 = wI M_7 (v0 + 5) ((v2 * (8 : Int32)) + v3).toNatClampNeg v4_2 → L_X0_goFrom_9 v0 v1 v2 X93 K n (v3 + (1 : Int32)) M_8) K M_3))))

set_option maxHeartbeats 1000000 in
set_option maxRecDepth 10000 in
theorem mL_X0_goFrom_9 (C : rw_C p s m meth c cX0_goFrom 5 RX0 none D cy ad) {v0 : Nat} {v1 : Nat} {v2 : Int32} (h_v0 : isX0 v0) (h_v1 : isX1 v1) {X93 : Mem → Prop} {K : Mem → Prop} (hX93 : ∀  (M : Mem), X93 M → rw_W p l e rm_X0_goFrom s m args below meth c D cy ad 5 0 0 (rw_Qv below args s D cy ad K) 93 [] [] M) : ∀ (n : Nat) (v3 : Int32) (M : Mem), L_X0_goFrom_9 v0 v1 v2 X93 K n v3 M → rw_W p l e rm_X0_goFrom s m args below meth c D cy ad 5 0 0 (rw_Qv below args s D cy ad K) 9 [(0, .ref (ad v0)), (1, .ref (ad v1)), (2, .int v2), (3, .int v3)] [] M := by
  intro n
  induction n with
  | zero => intro v3 M h; exact h.elim
  | succ n ih =>
    intro v3 M h
    refine r_iload_n C 3 dX0_goFrom_9 rfl rfl ?_
    refine r_bipush (v := (8 : Int32)) C dX0_goFrom_10 rfl ?_
    refine r_icmp_ge C 93 dX0_goFrom_12 (by decide) (fun hc => ?_) (fun hc => ?_)
    · replace h := h.1 hc
      exact r_sub [] rfl (hX93 _ h)
    · replace h := h.2 hc
      refine r_iconst (v := (-1 : Int32)) C dX0_goFrom_15 rfl ?_
      refine r_istore C [(4, .int _), (0, .ref _), (1, .ref _), (2, .int _), (3, .int _)] dX0_goFrom_16 (by decide) rfl ?_
      refine r_aload_n C 2 dX0_goFrom_18 rfl rfl ?_
      refine r_iload_n C 4 dX0_goFrom_19 rfl rfl ?_
      refine r_aload_n C 1 dX0_goFrom_20 rfl rfl ?_
      refine gX0_9 C h_v0 dX0_goFrom_21 ?_
      refine r_iload_n C 3 dX0_goFrom_24 rfl rfl ?_
      refine r_bipush (v := (10 : Int32)) C dX0_goFrom_25 rfl ?_
      refine r_imul C dX0_goFrom_27 ?_
      refine cX0_93 C h_v1 (m_X1_allows l h_v1 (isI_of (isX0_A1 h_v0)) h) ⟨Nat.le_of_ble_eq_true rfl, Nat.le_of_ble_eq_true rfl⟩ (Nat.le_of_ble_eq_true rfl) ⟨Nat.le_refl 0, Nat.le_refl 0⟩ dX0_goFrom_28 (fun r M_3 h => ?_)
      refine r_sub [1, 2, 3, 4, 0] rfl (mS_X0_goFrom_31 C h_v0 h_v1 (fun v4_2 M_7 h => ?_) h)
      refine r_aload_n C 0 dX0_goFrom_74 rfl rfl ?_
      refine gX0_24 C h_v0 dX0_goFrom_75 ?_
      refine r_iload_n C 2 dX0_goFrom_78 rfl rfl ?_
      refine r_bipush (v := (8 : Int32)) C dX0_goFrom_79 rfl ?_
      refine r_imul C dX0_goFrom_81 ?_
      refine r_iload_n C 3 dX0_goFrom_82 rfl rfl ?_
      refine r_iadd C dX0_goFrom_83 ?_
      refine r_iload C 4 dX0_goFrom_84 rfl ?_
      obtain ⟨q_3, h⟩ := h
      refine r_iast C (isX0_A5 h_v0) q_3 dX0_goFrom_86 ?_
      replace h := h _ rfl
      refine r_iinc C 3 (v := _) [(3, .int _), (0, .ref _), (1, .ref _), (2, .int _), (4, .int _)] dX0_goFrom_87 rfl rfl (by decide) rfl ?_
      refine r_goto C 9 dX0_goFrom_90 (by decide) ?_
      exact r_sub [1, 2, 3, 0] rfl (ih _ _ h)

def f_X0_goFrom (v0 : Nat) (v1 : Nat) (v2 : Int32) (M : Mem) (K : Mem → Prop) : Prop := vp_in v2 300 ∧ ∀ M_2 : Mem, M_2 = wI M (v0 + 4) v2.toNatClampNeg (0 : Int32) → (∃ k9 : Nat, L_X0_goFrom_9 v0 v1 v2 (fun  (M_9 : Mem) => K M_9) K k9 (0 : Int32) M_2)

set_option maxHeartbeats 1000000 in
set_option maxRecDepth 10000 in
theorem m_X0_goFrom (l : Launch) {v0 : Nat} {v1 : Nat} {v2 : Int32} (h_v0 : isX0 v0) (h_v1 : isX1 v1) {M : Mem} {K : Mem → Prop} (h : f_X0_goFrom v0 v1 v2 M K) : CTv l yX0_goFrom cX0_goFrom 5 none rm_X0_goFrom (fun ad => [.ref (ad v0), .ref (ad v1), .int v2]) M K := by
  refine rw_entv (by decide +kernel) (fun ad => Nat.le_of_ble_eq_true rfl) (fun p e s m args below meth c D cy ad C => ?_)
  change rw_W p l e _ s m args below meth c D cy ad 5 0 0 _ 0 [(0, .ref (ad v0)), (1, .ref (ad v1)), (2, .int v2)] [] M
  unfold f_X0_goFrom at h
  refine r_aload_n C 0 dX0_goFrom_0 rfl rfl ?_
  refine gX0_21 C h_v0 dX0_goFrom_1 ?_
  refine r_iload_n C 2 dX0_goFrom_4 rfl rfl ?_
  refine r_iconst (v := (0 : Int32)) C dX0_goFrom_5 rfl ?_
  obtain ⟨q, h⟩ := h
  refine r_iast C (isX0_A4 h_v0) q dX0_goFrom_6 ?_
  replace h := h _ rfl
  refine r_iconst (v := (0 : Int32)) C dX0_goFrom_7 rfl ?_
  refine r_istore_n C [(3, .int _), (0, .ref _), (1, .ref _), (2, .int _)] dX0_goFrom_8 rfl (by decide) rfl ?_
  obtain ⟨n9, h⟩ := h
  refine r_sub [1, 2, 3, 0] rfl (mL_X0_goFrom_9 C h_v0 h_v1 (fun M_9 h => ?_) n9 _ _ h)
  exact r_vret C dX0_goFrom_93 h
def L_X0_grow_71 (v0 : Nat) (v1 : Nat) (X98 : Mem → Prop) (K : Mem → Prop) : Nat → Int32 → Mem → Prop
  | 0, _, _ => False
  | n + 1, v3, M => (((M.1 v0 12) ≤ v3 → X98 M) ∧ (¬ (M.1 v0 12) ≤ v3 → (((300 : Int32) ≤ v3 → X98 M) ∧ (¬ (300 : Int32) ≤ v3 → f_X0_goFrom v0 v1 v3 M (fun (M_11 : Mem) => L_X0_grow_71 v0 v1 X98 K n (v3 + (1 : Int32)) M_11)))))

set_option maxHeartbeats 1000000 in
set_option maxRecDepth 10000 in
theorem mL_X0_grow_71 (C : rw_C p s m meth c cX0_grow 4 RX0 none D cy ad) {v0 : Nat} {v1 : Nat} (h_v0 : isX0 v0) (h_v1 : isX1 v1) {X98 : Mem → Prop} {K : Mem → Prop} (hX98 : ∀  (M : Mem), X98 M → rw_W p l e rm_X0_grow s m args below meth c D cy ad 4 0 0 (rw_Qv below args s D cy ad K) 98 [] [] M) : ∀ (n : Nat) (v3 : Int32) (M : Mem), L_X0_grow_71 v0 v1 X98 K n v3 M → rw_W p l e rm_X0_grow s m args below meth c D cy ad 4 0 0 (rw_Qv below args s D cy ad K) 71 [(0, .ref (ad v0)), (1, .ref (ad v1)), (3, .int v3)] [] M := by
  intro n
  induction n with
  | zero => intro v3 M h; exact h.elim
  | succ n ih =>
    intro v3 M h
    refine r_iload_n C 2 dX0_grow_71 rfl rfl ?_
    refine r_aload_n C 0 dX0_grow_72 rfl rfl ?_
    refine gX0_49 C h_v0 dX0_grow_73 ?_
    refine r_icmp_ge C 98 dX0_grow_76 (by decide) (fun hc => ?_) (fun hc => ?_)
    · replace h := h.1 hc
      exact r_sub [] rfl (hX98 _ h)
    · replace h := h.2 hc
      refine r_iload_n C 2 dX0_grow_79 rfl rfl ?_
      refine r_sipush (v := (300 : Int32)) C dX0_grow_80 rfl ?_
      refine r_icmp_ge C 98 dX0_grow_83 (by decide) (fun hc => ?_) (fun hc => ?_)
      · replace h := h.1 hc
        exact r_sub [] rfl (hX98 _ h)
      · replace h := h.2 hc
        refine r_aload_n C 0 dX0_grow_86 rfl rfl ?_
        refine r_aload_n C 1 dX0_grow_87 rfl rfl ?_
        refine r_iload_n C 2 dX0_grow_88 rfl rfl ?_
        refine cX0_89 C h_v0 (m_X0_goFrom l h_v0 h_v1 h) ⟨Nat.le_of_ble_eq_true rfl, Nat.le_of_ble_eq_true rfl⟩ (Nat.le_of_ble_eq_true rfl) ⟨Nat.le_refl 0, Nat.le_refl 0⟩ dX0_grow_89 (fun M_11 h => ?_)
        refine r_iinc C 2 (v := _) [(3, .int _), (0, .ref _), (1, .ref _)] dX0_grow_92 rfl rfl (by decide) rfl ?_
        refine r_goto C 71 dX0_grow_95 (by decide) ?_
        exact r_sub [1, 2, 0] rfl (ih _ _ h)

def f_X0_grow (v0 : Nat) (v1 : Nat) (v2 : Int32) (M : Mem) (K : Mem → Prop) : Prop := ((¬ (M.1 v0 11) = v2 → ∀ M_2 : Mem, M_2 = wI M v0 11 v2 → ∀ M_3 : Mem, M_3 = wI M_2 v0 12 (0 : Int32) → ∀ M_4 : Mem, M_4 = wI M_3 v0 13 (0 : Int32) → ∀ M_5 : Mem, M_5 = wI M_4 v0 15 (0 : Int32) → ∀ M_6 : Mem, M_6 = wI M_5 v0 16 (-1 : Int32) → ∀ M_7 : Mem, M_7 = wI M_6 v0 17 (-1 : Int32) → f_J7_fill_53178 (v0 + 6) (-1 : Int32) M_7 (fun (M_8 : Mem) => ∀ M_9 : Mem, M_9 = wC M_8 (v1 + 3) (v0 + 1) (0 : Int32).toNatClampNeg (0 : Int32).toNatClampNeg (10 : Int32).toNatClampNeg → f_X0_findOrAdd v0 (-1 : Int32) (-1 : Int32) M_9 (fun (r_2 : Int32) (M_10 : Mem) => (∃ k71 : Nat, L_X0_grow_71 v0 v1 (fun  (M_12 : Mem) => K M_12) K k71 (0 : Int32) M_10)))) ∧ ((M.1 v0 11) = v2 → K M))

set_option maxHeartbeats 1000000 in
set_option maxRecDepth 10000 in
theorem m_X0_grow (l : Launch) {v0 : Nat} {v1 : Nat} {v2 : Int32} (h_v0 : isX0 v0) (h_v1 : isX1 v1) {M : Mem} {K : Mem → Prop} (h : f_X0_grow v0 v1 v2 M K) : CTv l yX0_grow cX0_grow 4 none rm_X0_grow (fun ad => [.ref (ad v0), .ref (ad v1), .int v2]) M K := by
  refine rw_entv (by decide +kernel) (fun ad => Nat.le_of_ble_eq_true rfl) (fun p e s m args below meth c D cy ad C => ?_)
  change rw_W p l e _ s m args below meth c D cy ad 4 0 0 _ 0 [(0, .ref (ad v0)), (1, .ref (ad v1)), (2, .int v2)] [] M
  unfold f_X0_grow at h
  refine r_aload_n C 0 dX0_grow_0 rfl rfl ?_
  refine gX0_45 C h_v0 dX0_grow_1 ?_
  refine r_iload_n C 2 dX0_grow_4 rfl rfl ?_
  refine r_icmp_ne C 9 dX0_grow_5 (by decide) (fun hc => ?_) (fun hc => ?_)
  · replace h := h.1 hc
    refine r_aload_n C 0 dX0_grow_9 rfl rfl ?_
    refine r_iload_n C 2 dX0_grow_10 rfl rfl ?_
    refine pX0_45 C h_v0 dX0_grow_11 ?_
    replace h := h _ rfl
    refine r_aload_n C 0 dX0_grow_14 rfl rfl ?_
    refine r_iconst (v := (0 : Int32)) C dX0_grow_15 rfl ?_
    refine pX0_49 C h_v0 dX0_grow_16 ?_
    replace h := h _ rfl
    refine r_aload_n C 0 dX0_grow_19 rfl rfl ?_
    refine r_iconst (v := (0 : Int32)) C dX0_grow_20 rfl ?_
    refine pX0_52 C h_v0 (by decide) dX0_grow_21 ?_
    replace h := h _ rfl
    refine r_aload_n C 0 dX0_grow_24 rfl rfl ?_
    refine r_iconst (v := (0 : Int32)) C dX0_grow_25 rfl ?_
    refine pX0_59 C h_v0 (by decide) dX0_grow_26 ?_
    replace h := h _ rfl
    refine r_aload_n C 0 dX0_grow_29 rfl rfl ?_
    refine r_iconst (v := (-1 : Int32)) C dX0_grow_30 rfl ?_
    refine pX0_62 C h_v0 dX0_grow_31 ?_
    replace h := h _ rfl
    refine r_aload_n C 0 dX0_grow_34 rfl rfl ?_
    refine r_iconst (v := (-1 : Int32)) C dX0_grow_35 rfl ?_
    refine pX0_65 C h_v0 dX0_grow_36 ?_
    replace h := h _ rfl
    refine r_aload_n C 0 dX0_grow_39 rfl rfl ?_
    refine gX0_27 C h_v0 dX0_grow_40 ?_
    refine r_iconst (v := (-1 : Int32)) C dX0_grow_43 rfl ?_
    refine cX0_68 C (m_J7_fill_53178 l (isI_of (isX0_A6 h_v0)) h) ⟨Nat.le_of_ble_eq_true rfl, Nat.le_of_ble_eq_true rfl⟩ (Nat.le_of_ble_eq_true rfl) ⟨Nat.le_refl 0, Nat.le_refl 0⟩ dX0_grow_44 (fun M_8 h => ?_)
    refine r_aload_n C 1 dX0_grow_47 rfl rfl ?_
    refine gX0_74 C h_v1 dX0_grow_48 ?_
    refine r_iconst (v := (0 : Int32)) C dX0_grow_51 rfl ?_
    refine r_aload_n C 0 dX0_grow_52 rfl rfl ?_
    refine gX0_9 C h_v0 dX0_grow_53 ?_
    refine r_iconst (v := (0 : Int32)) C dX0_grow_56 rfl ?_
    refine r_bipush (v := (10 : Int32)) C dX0_grow_57 rfl ?_
    refine cX0_79 C (isX1_A3 h_v1) (isX0_A1 h_v0) (by decide +kernel) (by decide +kernel) (by decide +kernel) (by decide +kernel) (by decide +kernel) ⟨Nat.le_of_ble_eq_true rfl, by decide +kernel⟩ dX0_grow_59 ?_
    replace h := h _ rfl
    refine r_aload_n C 0 dX0_grow_62 rfl rfl ?_
    refine r_iconst (v := (-1 : Int32)) C dX0_grow_63 rfl ?_
    refine r_iconst (v := (-1 : Int32)) C dX0_grow_64 rfl ?_
    refine cX0_85 C h_v0 (m_X0_findOrAdd l h_v0 h) ⟨Nat.le_of_ble_eq_true rfl, Nat.le_of_ble_eq_true rfl⟩ (Nat.le_of_ble_eq_true rfl) ⟨Nat.le_refl 0, Nat.le_refl 0⟩ dX0_grow_65 (fun r_2 M_10 h => ?_)
    refine r_pop C dX0_grow_68 rfl ?_
    refine r_iconst (v := (0 : Int32)) C dX0_grow_69 rfl ?_
    refine r_istore_n C [(3, .int _), (0, .ref _), (1, .ref _), (2, .int _)] dX0_grow_70 rfl (by decide) rfl ?_
    obtain ⟨n71, h⟩ := h
    refine r_sub [1, 2, 0] rfl (mL_X0_grow_71 C h_v0 h_v1 (fun M_12 h => ?_) n71 _ _ h)
    exact r_vret C dX0_grow_98 h
  · replace h := h.2 hc
    exact r_vret C dX0_grow_8 h
def L_X0_depthOf_9 (v0 : Nat) (X34 : Int32 → Mem → Prop) (K : Int32 → Mem → Prop) : Nat → Int32 → Int32 → Mem → Prop
  | 0, _, _, _ => False
  | n + 1, v2, v3, M => ((v3 = (-1 : Int32) → X34 v2 M) ∧ (¬ v3 = (-1 : Int32) → (((300 : Int32) ≤ v2 → X34 v2 M) ∧ (¬ (300 : Int32) ≤ v2 → vp_in v3 300 ∧ ∀ x3_2 : Int32, x3_2 = gI M (v0 + 2) v3 → L_X0_depthOf_9 v0 X34 K n (v2 + (1 : Int32)) x3_2 M))))

set_option maxHeartbeats 1000000 in
set_option maxRecDepth 10000 in
theorem mL_X0_depthOf_9 (C : rw_C p s m meth c cX0_depthOf 4 RX0 (some .int) D cy ad) {v0 : Nat} (h_v0 : isX0 v0) {X34 : Int32 → Mem → Prop} {K : Int32 → Mem → Prop} (hX34 : ∀ (u2 : Int32) (M : Mem), X34 u2 M → rw_W p l e rm_X0_depthOf s m args below meth c D cy ad 4 0 0 (rw_Qi below args s D cy ad K) 34 [(2, .int u2)] [] M) : ∀ (n : Nat) (v2 : Int32) (v3 : Int32) (M : Mem), L_X0_depthOf_9 v0 X34 K n v2 v3 M → rw_W p l e rm_X0_depthOf s m args below meth c D cy ad 4 0 0 (rw_Qi below args s D cy ad K) 9 [(0, .ref (ad v0)), (2, .int v2), (3, .int v3)] [] M := by
  intro n
  induction n with
  | zero => intro v2 v3 M h; exact h.elim
  | succ n ih =>
    intro v2 v3 M h
    refine r_iload_n C 2 dX0_depthOf_9 rfl rfl ?_
    refine r_iconst (v := (-1 : Int32)) C dX0_depthOf_10 rfl ?_
    refine r_icmp_eq C 34 dX0_depthOf_11 (by decide) (fun hc => ?_) (fun hc => ?_)
    · replace h := h.1 hc
      exact r_sub [1] rfl (hX34 _ _ h)
    · replace h := h.2 hc
      refine r_iload_n C 1 dX0_depthOf_14 rfl rfl ?_
      refine r_sipush (v := (300 : Int32)) C dX0_depthOf_15 rfl ?_
      refine r_icmp_ge C 34 dX0_depthOf_18 (by decide) (fun hc => ?_) (fun hc => ?_)
      · replace h := h.1 hc
        exact r_sub [1] rfl (hX34 _ _ h)
      · replace h := h.2 hc
        refine r_iinc C 1 (v := _) [(2, .int _), (0, .ref _), (3, .int _)] dX0_depthOf_21 rfl rfl (by decide) rfl ?_
        refine r_aload_n C 1 dX0_depthOf_24 rfl rfl ?_
        refine gX0_15 C h_v0 dX0_depthOf_25 ?_
        refine r_iload_n C 2 dX0_depthOf_28 rfl rfl ?_
        obtain ⟨q_2, h⟩ := h
        refine r_iald C (isX0_A2 h_v0) q_2 dX0_depthOf_29 ?_
        refine r_istore_n C [(3, .int _), (2, .int _), (0, .ref _)] dX0_depthOf_30 rfl (by decide) rfl ?_
        replace h := h _ rfl
        refine r_goto C 9 dX0_depthOf_31 (by decide) ?_
        exact r_sub [2, 1, 0] rfl (ih _ _ _ h)

def f_X0_depthOf (v0 : Nat) (v1 : Int32) (M : Mem) (K : Int32 → Mem → Prop) : Prop := vp_in v1 300 ∧ ∀ x3 : Int32, x3 = gI M (v0 + 2) v1 → (∃ k9 : Nat, L_X0_depthOf_9 v0 (fun (v2_2 : Int32) (M_2 : Mem) => K v2_2 M_2) K k9 (0 : Int32) x3 M)

set_option maxHeartbeats 1000000 in
set_option maxRecDepth 10000 in
theorem m_X0_depthOf (l : Launch) {v0 : Nat} {v1 : Int32} (h_v0 : isX0 v0) {M : Mem} {K : Int32 → Mem → Prop} (h : f_X0_depthOf v0 v1 M K) : CTi l yX0_depthOf cX0_depthOf 4 (some .int) rm_X0_depthOf (fun ad => [.ref (ad v0), .int v1]) M K := by
  refine rw_enti (by decide +kernel) (fun ad => Nat.le_of_ble_eq_true rfl) (fun p e s m args below meth c D cy ad C => ?_)
  change rw_W p l e _ s m args below meth c D cy ad 4 0 0 _ 0 [(0, .ref (ad v0)), (1, .int v1)] [] M
  unfold f_X0_depthOf at h
  refine r_iconst (v := (0 : Int32)) C dX0_depthOf_0 rfl ?_
  refine r_istore_n C [(2, .int _), (0, .ref _), (1, .int _)] dX0_depthOf_1 rfl (by decide) rfl ?_
  refine r_aload_n C 1 dX0_depthOf_2 rfl rfl ?_
  refine gX0_15 C h_v0 dX0_depthOf_3 ?_
  refine r_iload_n C 2 dX0_depthOf_6 rfl rfl ?_
  obtain ⟨q, h⟩ := h
  refine r_iald C (isX0_A2 h_v0) q dX0_depthOf_7 ?_
  refine r_istore_n C [(3, .int _), (2, .int _), (0, .ref _), (1, .int _)] dX0_depthOf_8 rfl (by decide) rfl ?_
  replace h := h _ rfl
  obtain ⟨n9, h⟩ := h
  refine r_sub [2, 1, 0] rfl (mL_X0_depthOf_9 C h_v0 (fun v2_2 M_2 h => ?_) n9 _ _ _ h)
  refine r_iload_n C 0 dX0_depthOf_34 rfl rfl ?_
  exact r_iret C dX0_depthOf_35 h
def L_X0_deadOnes_4 (v0 : Nat) (X30 : Int32 → Mem → Prop) (K : Int32 → Mem → Prop) : Nat → Int32 → Int32 → Mem → Prop
  | 0, _, _, _ => False
  | n + 1, v1, v2, M => (((M.1 v0 12) ≤ v2 → X30 v1 M) ∧ (¬ (M.1 v0 12) ≤ v2 → vp_in v2 300 ∧ ((¬ (gI M (v0 + 4) v2) = 0 → L_X0_deadOnes_4 v0 X30 K n v1 (v2 + (1 : Int32)) M) ∧ ((gI M (v0 + 4) v2) = 0 → L_X0_deadOnes_4 v0 X30 K n (v1 + (1 : Int32)) (v2 + (1 : Int32)) M))))

set_option maxHeartbeats 1000000 in
set_option maxRecDepth 10000 in
theorem mL_X0_deadOnes_4 (C : rw_C p s m meth c cX0_deadOnes 3 RX0 (some .int) D cy ad) {v0 : Nat} (h_v0 : isX0 v0) {X30 : Int32 → Mem → Prop} {K : Int32 → Mem → Prop} (hX30 : ∀ (u1 : Int32) (M : Mem), X30 u1 M → rw_W p l e rm_X0_deadOnes s m args below meth c D cy ad 3 0 0 (rw_Qi below args s D cy ad K) 30 [(1, .int u1)] [] M) : ∀ (n : Nat) (v1 : Int32) (v2 : Int32) (M : Mem), L_X0_deadOnes_4 v0 X30 K n v1 v2 M → rw_W p l e rm_X0_deadOnes s m args below meth c D cy ad 3 0 0 (rw_Qi below args s D cy ad K) 4 [(0, .ref (ad v0)), (1, .int v1), (2, .int v2)] [] M := by
  intro n
  induction n with
  | zero => intro v1 v2 M h; exact h.elim
  | succ n ih =>
    intro v1 v2 M h
    refine r_iload_n C 2 dX0_deadOnes_4 rfl rfl ?_
    refine r_aload_n C 0 dX0_deadOnes_5 rfl rfl ?_
    refine gX0_49 C h_v0 dX0_deadOnes_6 ?_
    refine r_icmp_ge C 30 dX0_deadOnes_9 (by decide) (fun hc => ?_) (fun hc => ?_)
    · replace h := h.1 hc
      exact r_sub [1] rfl (hX30 _ _ h)
    · replace h := h.2 hc
      refine r_aload_n C 0 dX0_deadOnes_12 rfl rfl ?_
      refine gX0_21 C h_v0 dX0_deadOnes_13 ?_
      refine r_iload_n C 2 dX0_deadOnes_16 rfl rfl ?_
      obtain ⟨q, h⟩ := h
      refine r_iald C (isX0_A4 h_v0) q dX0_deadOnes_17 ?_
      refine r_if_ne C 24 dX0_deadOnes_18 (by decide) (fun hc => ?_) (fun hc => ?_)
      · replace h := h.1 hc
        refine r_iinc C 2 (v := _) [(2, .int _), (0, .ref _), (1, .int _)] dX0_deadOnes_24 rfl rfl (by decide) rfl ?_
        refine r_goto C 4 dX0_deadOnes_27 (by decide) ?_
        exact r_sub [1, 2, 0] rfl (ih _ _ _ h)
      · replace h := h.2 hc
        refine r_iinc C 1 (v := _) [(1, .int _), (0, .ref _), (2, .int _)] dX0_deadOnes_21 rfl rfl (by decide) rfl ?_
        refine r_iinc C 2 (v := _) [(2, .int _), (1, .int _), (0, .ref _)] dX0_deadOnes_24 rfl rfl (by decide) rfl ?_
        refine r_goto C 4 dX0_deadOnes_27 (by decide) ?_
        exact r_sub [2, 1, 0] rfl (ih _ _ _ h)

def f_X0_deadOnes (v0 : Nat) (M : Mem) (K : Int32 → Mem → Prop) : Prop := (∃ k4 : Nat, L_X0_deadOnes_4 v0 (fun (v1_2 : Int32) (M_2 : Mem) => K v1_2 M_2) K k4 (0 : Int32) (0 : Int32) M)

set_option maxHeartbeats 1000000 in
set_option maxRecDepth 10000 in
theorem m_X0_deadOnes (l : Launch) {v0 : Nat} (h_v0 : isX0 v0) {M : Mem} {K : Int32 → Mem → Prop} (h : f_X0_deadOnes v0 M K) : CTi l yX0_deadOnes cX0_deadOnes 3 (some .int) rm_X0_deadOnes (fun ad => [.ref (ad v0)]) M K := by
  refine rw_enti (by decide +kernel) (fun ad => Nat.le_of_ble_eq_true rfl) (fun p e s m args below meth c D cy ad C => ?_)
  change rw_W p l e _ s m args below meth c D cy ad 3 0 0 _ 0 [(0, .ref (ad v0))] [] M
  unfold f_X0_deadOnes at h
  refine r_iconst (v := (0 : Int32)) C dX0_deadOnes_0 rfl ?_
  refine r_istore_n C [(1, .int _), (0, .ref _)] dX0_deadOnes_1 rfl (by decide) rfl ?_
  refine r_iconst (v := (0 : Int32)) C dX0_deadOnes_2 rfl ?_
  refine r_istore_n C [(2, .int _), (1, .int _), (0, .ref _)] dX0_deadOnes_3 rfl (by decide) rfl ?_
  obtain ⟨n4, h⟩ := h
  refine r_sub [2, 1, 0] rfl (mL_X0_deadOnes_4 C h_v0 (fun v1_2 M_2 h => ?_) n4 _ _ _ h)
  refine r_iload_n C 0 dX0_deadOnes_30 rfl rfl ?_
  exact r_iret C dX0_deadOnes_31 h
def L_X0_firstDead_2 (v0 : Nat) (X27 : Mem → Prop) (K : Int32 → Mem → Prop) : Nat → Int32 → Mem → Prop
  | 0, _, _ => False
  | n + 1, v1, M => (((M.1 v0 12) ≤ v1 → X27 M) ∧ (¬ (M.1 v0 12) ≤ v1 → vp_in v1 300 ∧ ((¬ (gI M (v0 + 4) v1) = 0 → L_X0_firstDead_2 v0 X27 K n (v1 + (1 : Int32)) M) ∧ ((gI M (v0 + 4) v1) = 0 → K v1 M))))

set_option maxHeartbeats 1000000 in
set_option maxRecDepth 10000 in
theorem mL_X0_firstDead_2 (C : rw_C p s m meth c cX0_firstDead 2 RX0 (some .int) D cy ad) {v0 : Nat} (h_v0 : isX0 v0) {X27 : Mem → Prop} {K : Int32 → Mem → Prop} (hX27 : ∀  (M : Mem), X27 M → rw_W p l e rm_X0_firstDead s m args below meth c D cy ad 2 0 0 (rw_Qi below args s D cy ad K) 27 [] [] M) : ∀ (n : Nat) (v1 : Int32) (M : Mem), L_X0_firstDead_2 v0 X27 K n v1 M → rw_W p l e rm_X0_firstDead s m args below meth c D cy ad 2 0 0 (rw_Qi below args s D cy ad K) 2 [(0, .ref (ad v0)), (1, .int v1)] [] M := by
  intro n
  induction n with
  | zero => intro v1 M h; exact h.elim
  | succ n ih =>
    intro v1 M h
    refine r_iload_n C 1 dX0_firstDead_2 rfl rfl ?_
    refine r_aload_n C 0 dX0_firstDead_3 rfl rfl ?_
    refine gX0_49 C h_v0 dX0_firstDead_4 ?_
    refine r_icmp_ge C 27 dX0_firstDead_7 (by decide) (fun hc => ?_) (fun hc => ?_)
    · replace h := h.1 hc
      exact r_sub [] rfl (hX27 _ h)
    · replace h := h.2 hc
      refine r_aload_n C 0 dX0_firstDead_10 rfl rfl ?_
      refine gX0_21 C h_v0 dX0_firstDead_11 ?_
      refine r_iload_n C 1 dX0_firstDead_14 rfl rfl ?_
      obtain ⟨q, h⟩ := h
      refine r_iald C (isX0_A4 h_v0) q dX0_firstDead_15 ?_
      refine r_if_ne C 21 dX0_firstDead_16 (by decide) (fun hc => ?_) (fun hc => ?_)
      · replace h := h.1 hc
        refine r_iinc C 1 (v := _) [(1, .int _), (0, .ref _)] dX0_firstDead_21 rfl rfl (by decide) rfl ?_
        refine r_goto C 2 dX0_firstDead_24 (by decide) ?_
        exact r_sub [1, 0] rfl (ih _ _ h)
      · replace h := h.2 hc
        refine r_iload_n C 1 dX0_firstDead_19 rfl rfl ?_
        exact r_iret C dX0_firstDead_20 h

def f_X0_firstDead (v0 : Nat) (M : Mem) (K : Int32 → Mem → Prop) : Prop := (∃ k2 : Nat, L_X0_firstDead_2 v0 (fun  (M_2 : Mem) => K (-1 : Int32) M_2) K k2 (0 : Int32) M)

set_option maxHeartbeats 1000000 in
set_option maxRecDepth 10000 in
theorem m_X0_firstDead (l : Launch) {v0 : Nat} (h_v0 : isX0 v0) {M : Mem} {K : Int32 → Mem → Prop} (h : f_X0_firstDead v0 M K) : CTi l yX0_firstDead cX0_firstDead 2 (some .int) rm_X0_firstDead (fun ad => [.ref (ad v0)]) M K := by
  refine rw_enti (by decide +kernel) (fun ad => Nat.le_of_ble_eq_true rfl) (fun p e s m args below meth c D cy ad C => ?_)
  change rw_W p l e _ s m args below meth c D cy ad 2 0 0 _ 0 [(0, .ref (ad v0))] [] M
  unfold f_X0_firstDead at h
  refine r_iconst (v := (0 : Int32)) C dX0_firstDead_0 rfl ?_
  refine r_istore_n C [(1, .int _), (0, .ref _)] dX0_firstDead_1 rfl (by decide) rfl ?_
  obtain ⟨n2, h⟩ := h
  refine r_sub [1, 0] rfl (mL_X0_firstDead_2 C h_v0 (fun M_2 h => ?_) n2 _ _ h)
  refine r_iconst (v := (-1 : Int32)) C dX0_firstDead_27 rfl ?_
  exact r_iret C dX0_firstDead_28 h
def L_X0_mostIn_4 (v0 : Nat) (v1 : Int32) (X34 : Int32 → Mem → Prop) (K : Int32 → Mem → Prop) : Nat → Int32 → Int32 → Mem → Prop
  | 0, _, _, _ => False
  | n + 1, v2, v3, M => (((M.1 v0 12) ≤ v3 → X34 v2 M) ∧ (¬ (M.1 v0 12) ≤ v3 → vp_in ((v3 * (10 : Int32)) + v1) 3010 ∧ ∀ x2 : Int32, x2 = (if v2 < (gI M (v0 + 1) ((v3 * (10 : Int32)) + v1)) then (gI M (v0 + 1) ((v3 * (10 : Int32)) + v1)) else v2) → L_X0_mostIn_4 v0 v1 X34 K n x2 (v3 + (1 : Int32)) M))

set_option maxHeartbeats 1000000 in
set_option maxRecDepth 10000 in
theorem mL_X0_mostIn_4 (C : rw_C p s m meth c cX0_mostIn 4 RX0 (some .int) D cy ad) {v0 : Nat} {v1 : Int32} (h_v0 : isX0 v0) {X34 : Int32 → Mem → Prop} {K : Int32 → Mem → Prop} (hX34 : ∀ (u2 : Int32) (M : Mem), X34 u2 M → rw_W p l e rm_X0_mostIn s m args below meth c D cy ad 4 0 0 (rw_Qi below args s D cy ad K) 34 [(2, .int u2)] [] M) : ∀ (n : Nat) (v2 : Int32) (v3 : Int32) (M : Mem), L_X0_mostIn_4 v0 v1 X34 K n v2 v3 M → rw_W p l e rm_X0_mostIn s m args below meth c D cy ad 4 0 0 (rw_Qi below args s D cy ad K) 4 [(0, .ref (ad v0)), (1, .int v1), (2, .int v2), (3, .int v3)] [] M := by
  intro n
  induction n with
  | zero => intro v2 v3 M h; exact h.elim
  | succ n ih =>
    intro v2 v3 M h
    refine r_iload_n C 3 dX0_mostIn_4 rfl rfl ?_
    refine r_aload_n C 0 dX0_mostIn_5 rfl rfl ?_
    refine gX0_49 C h_v0 dX0_mostIn_6 ?_
    refine r_icmp_ge C 34 dX0_mostIn_9 (by decide) (fun hc => ?_) (fun hc => ?_)
    · replace h := h.1 hc
      exact r_sub [2] rfl (hX34 _ _ h)
    · replace h := h.2 hc
      refine r_iload_n C 2 dX0_mostIn_12 rfl rfl ?_
      refine r_aload_n C 0 dX0_mostIn_13 rfl rfl ?_
      refine gX0_9 C h_v0 dX0_mostIn_14 ?_
      refine r_iload_n C 3 dX0_mostIn_17 rfl rfl ?_
      refine r_bipush (v := (10 : Int32)) C dX0_mostIn_18 rfl ?_
      refine r_imul C dX0_mostIn_20 ?_
      refine r_iload_n C 1 dX0_mostIn_21 rfl rfl ?_
      refine r_iadd C dX0_mostIn_22 ?_
      obtain ⟨q, h⟩ := h
      refine r_iald C (isX0_A1 h_v0) q dX0_mostIn_23 ?_
      refine cX0_109 C ⟨Nat.le_of_ble_eq_true rfl, Nat.le_of_ble_eq_true rfl⟩ (Nat.le_refl 0) (Nat.le_refl 0) dX0_mostIn_24 ?_
      refine r_istore_n C [(2, .int _), (0, .ref _), (1, .int _), (3, .int _)] dX0_mostIn_27 rfl (by decide) rfl ?_
      replace h := h _ rfl
      refine r_iinc C 3 (v := _) [(3, .int _), (2, .int _), (0, .ref _), (1, .int _)] dX0_mostIn_28 rfl rfl (by decide) rfl ?_
      refine r_goto C 4 dX0_mostIn_31 (by decide) ?_
      exact r_sub [2, 3, 1, 0] rfl (ih _ _ _ h)

def f_X0_mostIn (v0 : Nat) (v1 : Int32) (M : Mem) (K : Int32 → Mem → Prop) : Prop := (∃ k4 : Nat, L_X0_mostIn_4 v0 v1 (fun (v2_2 : Int32) (M_2 : Mem) => K v2_2 M_2) K k4 (0 : Int32) (0 : Int32) M)

set_option maxHeartbeats 1000000 in
set_option maxRecDepth 10000 in
theorem m_X0_mostIn (l : Launch) {v0 : Nat} {v1 : Int32} (h_v0 : isX0 v0) {M : Mem} {K : Int32 → Mem → Prop} (h : f_X0_mostIn v0 v1 M K) : CTi l yX0_mostIn cX0_mostIn 4 (some .int) rm_X0_mostIn (fun ad => [.ref (ad v0), .int v1]) M K := by
  refine rw_enti (by decide +kernel) (fun ad => Nat.le_of_ble_eq_true rfl) (fun p e s m args below meth c D cy ad C => ?_)
  change rw_W p l e _ s m args below meth c D cy ad 4 0 0 _ 0 [(0, .ref (ad v0)), (1, .int v1)] [] M
  unfold f_X0_mostIn at h
  refine r_iconst (v := (0 : Int32)) C dX0_mostIn_0 rfl ?_
  refine r_istore_n C [(2, .int _), (0, .ref _), (1, .int _)] dX0_mostIn_1 rfl (by decide) rfl ?_
  refine r_iconst (v := (0 : Int32)) C dX0_mostIn_2 rfl ?_
  refine r_istore_n C [(3, .int _), (2, .int _), (0, .ref _), (1, .int _)] dX0_mostIn_3 rfl (by decide) rfl ?_
  obtain ⟨n4, h⟩ := h
  refine r_sub [2, 3, 1, 0] rfl (mL_X0_mostIn_4 C h_v0 (fun v2_2 M_2 h => ?_) n4 _ _ _ h)
  refine r_iload_n C 0 dX0_mostIn_34 rfl rfl ?_
  exact r_iret C dX0_mostIn_35 h
def L_X0_linkBack_23 (v0 : Nat) (X65 : Mem → Prop) (K : Mem → Prop) : Nat → Int32 → Mem → Prop
  | 0, _, _ => False
  | n + 1, v1, M => ((((M.1 v0 12) * (8 : Int32)) ≤ v1 → X65 M) ∧ (¬ ((M.1 v0 12) * (8 : Int32)) ≤ v1 → vp_in v1 2400 ∧ (((gI M (v0 + 5) v1) = (-1 : Int32) → L_X0_linkBack_23 v0 X65 K n (v1 + (1 : Int32)) M) ∧ (¬ (gI M (v0 + 5) v1) = (-1 : Int32) → vp_in (gI M (v0 + 5) v1) 301 ∧ ∀ M_4 : Mem, M_4 = wI M (v0 + 7) (gI M (v0 + 5) v1).toNatClampNeg ((gI M (v0 + 7) (gI M (v0 + 5) v1)) + (1 : Int32)) → L_X0_linkBack_23 v0 X65 K n (v1 + (1 : Int32)) M_4))))

set_option maxHeartbeats 1000000 in
set_option maxRecDepth 10000 in
theorem mL_X0_linkBack_23 (C : rw_C p s m meth c cX0_linkBack 3 RX0 none D cy ad) {v0 : Nat} (h_v0 : isX0 v0) {X65 : Mem → Prop} {K : Mem → Prop} (hX65 : ∀  (M : Mem), X65 M → rw_W p l e rm_X0_linkBack s m args below meth c D cy ad 3 0 0 (rw_Qv below args s D cy ad K) 65 [(0, .ref (ad v0))] [] M) : ∀ (n : Nat) (v1 : Int32) (M : Mem), L_X0_linkBack_23 v0 X65 K n v1 M → rw_W p l e rm_X0_linkBack s m args below meth c D cy ad 3 0 0 (rw_Qv below args s D cy ad K) 23 [(0, .ref (ad v0)), (1, .int v1)] [] M := by
  intro n
  induction n with
  | zero => intro v1 M h; exact h.elim
  | succ n ih =>
    intro v1 M h
    refine r_iload_n C 1 dX0_linkBack_23 rfl rfl ?_
    refine r_aload_n C 0 dX0_linkBack_24 rfl rfl ?_
    refine gX0_49 C h_v0 dX0_linkBack_25 ?_
    refine r_bipush (v := (8 : Int32)) C dX0_linkBack_28 rfl ?_
    refine r_imul C dX0_linkBack_30 ?_
    refine r_icmp_ge C 65 dX0_linkBack_31 (by decide) (fun hc => ?_) (fun hc => ?_)
    · replace h := h.1 hc
      exact r_sub [0] rfl (hX65 _ h)
    · replace h := h.2 hc
      refine r_aload_n C 0 dX0_linkBack_34 rfl rfl ?_
      refine gX0_24 C h_v0 dX0_linkBack_35 ?_
      refine r_iload_n C 1 dX0_linkBack_38 rfl rfl ?_
      obtain ⟨q, h⟩ := h
      refine r_iald C (isX0_A5 h_v0) q dX0_linkBack_39 ?_
      refine r_iconst (v := (-1 : Int32)) C dX0_linkBack_40 rfl ?_
      refine r_icmp_eq C 59 dX0_linkBack_41 (by decide) (fun hc => ?_) (fun hc => ?_)
      · replace h := h.1 hc
        refine r_iinc C 1 (v := _) [(1, .int _), (0, .ref _)] dX0_linkBack_59 rfl rfl (by decide) rfl ?_
        refine r_goto C 23 dX0_linkBack_62 (by decide) ?_
        exact r_sub [1, 0] rfl (ih _ _ h)
      · replace h := h.2 hc
        refine r_aload_n C 0 dX0_linkBack_44 rfl rfl ?_
        refine gX0_30 C h_v0 dX0_linkBack_45 ?_
        refine r_aload_n C 0 dX0_linkBack_48 rfl rfl ?_
        refine gX0_24 C h_v0 dX0_linkBack_49 ?_
        refine r_iload_n C 1 dX0_linkBack_52 rfl rfl ?_
        refine r_iald C (isX0_A5 h_v0) q dX0_linkBack_53 ?_
        refine r_dup2_11 C dX0_linkBack_54 rfl rfl ?_
        obtain ⟨q_2, h⟩ := h
        refine r_iald C (isX0_A7 h_v0) q_2 dX0_linkBack_55 ?_
        refine r_iconst (v := (1 : Int32)) C dX0_linkBack_56 rfl ?_
        refine r_iadd C dX0_linkBack_57 ?_
        refine r_iast C (isX0_A7 h_v0) q_2 dX0_linkBack_58 ?_
        replace h := h _ rfl
        refine r_iinc C 1 (v := _) [(1, .int _), (0, .ref _)] dX0_linkBack_59 rfl rfl (by decide) rfl ?_
        refine r_goto C 23 dX0_linkBack_62 (by decide) ?_
        exact r_sub [1, 0] rfl (ih _ _ h)

def L_X0_linkBack_69 (v0 : Nat) (X99 : Mem → Prop) (K : Mem → Prop) : Nat → Int32 → Int32 → Mem → Prop
  | 0, _, _, _ => False
  | n + 1, v1, v2, M => (((M.1 v0 12) < v2 → X99 M) ∧ (¬ (M.1 v0 12) < v2 → vp_in v2 301 ∧ ∀ x1 : Int32, x1 = v1 + (gI M (v0 + 7) v2) → ∀ M_6 : Mem, M_6 = wI M (v0 + 7) v2.toNatClampNeg x1 → L_X0_linkBack_69 v0 X99 K n x1 (v2 + (1 : Int32)) M_6))

set_option maxHeartbeats 1000000 in
set_option maxRecDepth 10000 in
theorem mL_X0_linkBack_69 (C : rw_C p s m meth c cX0_linkBack 3 RX0 none D cy ad) {v0 : Nat} (h_v0 : isX0 v0) {X99 : Mem → Prop} {K : Mem → Prop} (hX99 : ∀  (M : Mem), X99 M → rw_W p l e rm_X0_linkBack s m args below meth c D cy ad 3 0 0 (rw_Qv below args s D cy ad K) 99 [(0, .ref (ad v0))] [] M) : ∀ (n : Nat) (v1 : Int32) (v2 : Int32) (M : Mem), L_X0_linkBack_69 v0 X99 K n v1 v2 M → rw_W p l e rm_X0_linkBack s m args below meth c D cy ad 3 0 0 (rw_Qv below args s D cy ad K) 69 [(0, .ref (ad v0)), (1, .int v1), (2, .int v2)] [] M := by
  intro n
  induction n with
  | zero => intro v1 v2 M h; exact h.elim
  | succ n ih =>
    intro v1 v2 M h
    refine r_iload_n C 2 dX0_linkBack_69 rfl rfl ?_
    refine r_aload_n C 0 dX0_linkBack_70 rfl rfl ?_
    refine gX0_49 C h_v0 dX0_linkBack_71 ?_
    refine r_icmp_gt C 99 dX0_linkBack_74 (by decide) (fun hc => ?_) (fun hc => ?_)
    · replace h := h.1 hc
      exact r_sub [0] rfl (hX99 _ h)
    · replace h := h.2 hc
      refine r_iload_n C 1 dX0_linkBack_77 rfl rfl ?_
      refine r_aload_n C 0 dX0_linkBack_78 rfl rfl ?_
      refine gX0_30 C h_v0 dX0_linkBack_79 ?_
      refine r_iload_n C 2 dX0_linkBack_82 rfl rfl ?_
      obtain ⟨q_3, h⟩ := h
      refine r_iald C (isX0_A7 h_v0) q_3 dX0_linkBack_83 ?_
      refine r_iadd C dX0_linkBack_84 ?_
      refine r_istore_n C [(1, .int _), (0, .ref _), (2, .int _)] dX0_linkBack_85 rfl (by decide) rfl ?_
      replace h := h _ rfl
      refine r_aload_n C 1 dX0_linkBack_86 rfl rfl ?_
      refine gX0_30 C h_v0 dX0_linkBack_87 ?_
      refine r_iload_n C 2 dX0_linkBack_90 rfl rfl ?_
      refine r_iload_n C 0 dX0_linkBack_91 rfl rfl ?_
      refine r_iast C (isX0_A7 h_v0) q_3 dX0_linkBack_92 ?_
      replace h := h _ rfl
      refine r_iinc C 2 (v := _) [(2, .int _), (1, .int _), (0, .ref _)] dX0_linkBack_93 rfl rfl (by decide) rfl ?_
      refine r_goto C 69 dX0_linkBack_96 (by decide) ?_
      exact r_sub [2, 1, 0] rfl (ih _ _ _ h)

def L_X0_linkBack_101 (v0 : Nat) (X163 : Mem → Prop) (K : Mem → Prop) : Nat → Int32 → Mem → Prop
  | 0, _, _ => False
  | n + 1, v2, M => ((((M.1 v0 12) * (8 : Int32)) ≤ v2 → X163 M) ∧ (¬ ((M.1 v0 12) * (8 : Int32)) ≤ v2 → vp_in v2 2400 ∧ (((gI M (v0 + 5) v2) = (-1 : Int32) → L_X0_linkBack_101 v0 X163 K n (v2 + (1 : Int32)) M) ∧ (¬ (gI M (v0 + 5) v2) = (-1 : Int32) → vp_in (gI M (v0 + 5) v2) 301 ∧ ∀ M_8 : Mem, M_8 = wI M (v0 + 7) (gI M (v0 + 5) v2).toNatClampNeg ((gI M (v0 + 7) (gI M (v0 + 5) v2)) - (1 : Int32)) → vp_in (gI M_8 (v0 + 5) v2) 301 ∧ vp_in (gI M_8 (v0 + 7) (gI M_8 (v0 + 5) v2)) 2400 ∧ ∀ M_9 : Mem, M_9 = wI M_8 (v0 + 8) (gI M_8 (v0 + 7) (gI M_8 (v0 + 5) v2)).toNatClampNeg (v2 / (8 : Int32)) → L_X0_linkBack_101 v0 X163 K n (v2 + (1 : Int32)) M_9))))

set_option maxHeartbeats 1000000 in
set_option maxRecDepth 10000 in
theorem mL_X0_linkBack_101 (C : rw_C p s m meth c cX0_linkBack 3 RX0 none D cy ad) {v0 : Nat} (h_v0 : isX0 v0) {X163 : Mem → Prop} {K : Mem → Prop} (hX163 : ∀  (M : Mem), X163 M → rw_W p l e rm_X0_linkBack s m args below meth c D cy ad 3 0 0 (rw_Qv below args s D cy ad K) 163 [] [] M) : ∀ (n : Nat) (v2 : Int32) (M : Mem), L_X0_linkBack_101 v0 X163 K n v2 M → rw_W p l e rm_X0_linkBack s m args below meth c D cy ad 3 0 0 (rw_Qv below args s D cy ad K) 101 [(0, .ref (ad v0)), (2, .int v2)] [] M := by
  intro n
  induction n with
  | zero => intro v2 M h; exact h.elim
  | succ n ih =>
    intro v2 M h
    refine r_iload_n C 1 dX0_linkBack_101 rfl rfl ?_
    refine r_aload_n C 0 dX0_linkBack_102 rfl rfl ?_
    refine gX0_49 C h_v0 dX0_linkBack_103 ?_
    refine r_bipush (v := (8 : Int32)) C dX0_linkBack_106 rfl ?_
    refine r_imul C dX0_linkBack_108 ?_
    refine r_icmp_ge C 163 dX0_linkBack_109 (by decide) (fun hc => ?_) (fun hc => ?_)
    · replace h := h.1 hc
      exact r_sub [] rfl (hX163 _ h)
    · replace h := h.2 hc
      refine r_aload_n C 0 dX0_linkBack_112 rfl rfl ?_
      refine gX0_24 C h_v0 dX0_linkBack_113 ?_
      refine r_iload_n C 1 dX0_linkBack_116 rfl rfl ?_
      obtain ⟨q_4, h⟩ := h
      refine r_iald C (isX0_A5 h_v0) q_4 dX0_linkBack_117 ?_
      refine r_iconst (v := (-1 : Int32)) C dX0_linkBack_118 rfl ?_
      refine r_icmp_eq C 157 dX0_linkBack_119 (by decide) (fun hc => ?_) (fun hc => ?_)
      · replace h := h.1 hc
        refine r_iinc C 1 (v := _) [(2, .int _), (0, .ref _)] dX0_linkBack_157 rfl rfl (by decide) rfl ?_
        refine r_goto C 101 dX0_linkBack_160 (by decide) ?_
        exact r_sub [1, 0] rfl (ih _ _ h)
      · replace h := h.2 hc
        refine r_aload_n C 0 dX0_linkBack_122 rfl rfl ?_
        refine gX0_30 C h_v0 dX0_linkBack_123 ?_
        refine r_aload_n C 0 dX0_linkBack_126 rfl rfl ?_
        refine gX0_24 C h_v0 dX0_linkBack_127 ?_
        refine r_iload_n C 1 dX0_linkBack_130 rfl rfl ?_
        refine r_iald C (isX0_A5 h_v0) q_4 dX0_linkBack_131 ?_
        refine r_dup2_11 C dX0_linkBack_132 rfl rfl ?_
        obtain ⟨q_5, h⟩ := h
        refine r_iald C (isX0_A7 h_v0) q_5 dX0_linkBack_133 ?_
        refine r_iconst (v := (1 : Int32)) C dX0_linkBack_134 rfl ?_
        refine r_isub C dX0_linkBack_135 ?_
        refine r_iast C (isX0_A7 h_v0) q_5 dX0_linkBack_136 ?_
        replace h := h _ rfl
        refine r_aload_n C 0 dX0_linkBack_137 rfl rfl ?_
        refine gX0_33 C h_v0 dX0_linkBack_138 ?_
        refine r_aload_n C 0 dX0_linkBack_141 rfl rfl ?_
        refine gX0_30 C h_v0 dX0_linkBack_142 ?_
        refine r_aload_n C 0 dX0_linkBack_145 rfl rfl ?_
        refine gX0_24 C h_v0 dX0_linkBack_146 ?_
        refine r_iload_n C 1 dX0_linkBack_149 rfl rfl ?_
        refine r_iald C (isX0_A5 h_v0) q_4 dX0_linkBack_150 ?_
        obtain ⟨q_6, h⟩ := h
        refine r_iald C (isX0_A7 h_v0) q_6 dX0_linkBack_151 ?_
        refine r_iload_n C 1 dX0_linkBack_152 rfl rfl ?_
        refine r_bipush (v := (8 : Int32)) C dX0_linkBack_153 rfl ?_
        refine r_idiv C dX0_linkBack_155 (by decide) ?_
        obtain ⟨q_7, h⟩ := h
        refine r_iast C (isX0_A8 h_v0) q_7 dX0_linkBack_156 ?_
        replace h := h _ rfl
        refine r_iinc C 1 (v := _) [(2, .int _), (0, .ref _)] dX0_linkBack_157 rfl rfl (by decide) rfl ?_
        refine r_goto C 101 dX0_linkBack_160 (by decide) ?_
        exact r_sub [1, 0] rfl (ih _ _ h)

def f_X0_linkBack (v0 : Nat) (M : Mem) (K : Mem → Prop) : Prop := (((M.1 v0 15) = 0 → ∀ M_2 : Mem, M_2 = wI M v0 15 (1 : Int32) → f_J7_fill_53178 (v0 + 7) (0 : Int32) M_2 (fun (M_3 : Mem) => (∃ k23 : Nat, L_X0_linkBack_23 v0 (fun  (M_5 : Mem) => (∃ k69 : Nat, L_X0_linkBack_69 v0 (fun  (M_7 : Mem) => (∃ k101 : Nat, L_X0_linkBack_101 v0 (fun  (M_10 : Mem) => K M_10) K k101 (0 : Int32) M_7)) K k69 (0 : Int32) (0 : Int32) M_5)) K k23 (0 : Int32) M_3))) ∧ (¬ (M.1 v0 15) = 0 → K M))

set_option maxHeartbeats 1000000 in
set_option maxRecDepth 10000 in
theorem m_X0_linkBack (l : Launch) {v0 : Nat} (h_v0 : isX0 v0) {M : Mem} {K : Mem → Prop} (h : f_X0_linkBack v0 M K) : CTv l yX0_linkBack cX0_linkBack 3 none rm_X0_linkBack (fun ad => [.ref (ad v0)]) M K := by
  refine rw_entv (by decide +kernel) (fun ad => Nat.le_of_ble_eq_true rfl) (fun p e s m args below meth c D cy ad C => ?_)
  change rw_W p l e _ s m args below meth c D cy ad 3 0 0 _ 0 [(0, .ref (ad v0))] [] M
  unfold f_X0_linkBack at h
  refine r_aload_n C 0 dX0_linkBack_0 rfl rfl ?_
  refine gX0_59 C h_v0 dX0_linkBack_1 ?_
  refine r_if_eq C 8 dX0_linkBack_4 (by decide) (fun hc => ?_) (fun hc => ?_)
  · replace h := h.1 hc
    refine r_aload_n C 0 dX0_linkBack_8 rfl rfl ?_
    refine r_iconst (v := (1 : Int32)) C dX0_linkBack_9 rfl ?_
    refine pX0_59 C h_v0 (by decide) dX0_linkBack_10 ?_
    replace h := h _ rfl
    refine r_aload_n C 0 dX0_linkBack_13 rfl rfl ?_
    refine gX0_30 C h_v0 dX0_linkBack_14 ?_
    refine r_iconst (v := (0 : Int32)) C dX0_linkBack_17 rfl ?_
    refine cX0_68 C (m_J7_fill_53178 l (isI_of (isX0_A7 h_v0)) h) ⟨Nat.le_of_ble_eq_true rfl, Nat.le_of_ble_eq_true rfl⟩ (Nat.le_of_ble_eq_true rfl) ⟨Nat.le_refl 0, Nat.le_refl 0⟩ dX0_linkBack_18 (fun M_3 h => ?_)
    refine r_iconst (v := (0 : Int32)) C dX0_linkBack_21 rfl ?_
    refine r_istore_n C [(1, .int _), (0, .ref _)] dX0_linkBack_22 rfl (by decide) rfl ?_
    obtain ⟨n23, h⟩ := h
    refine r_sub [1, 0] rfl (mL_X0_linkBack_23 C h_v0 (fun M_5 h => ?_) n23 _ _ h)
    refine r_iconst (v := (0 : Int32)) C dX0_linkBack_65 rfl ?_
    refine r_istore_n C [(1, .int _), (0, .ref _)] dX0_linkBack_66 rfl (by decide) rfl ?_
    refine r_iconst (v := (0 : Int32)) C dX0_linkBack_67 rfl ?_
    refine r_istore_n C [(2, .int _), (1, .int _), (0, .ref _)] dX0_linkBack_68 rfl (by decide) rfl ?_
    obtain ⟨n69, h⟩ := h
    refine r_sub [2, 1, 0] rfl (mL_X0_linkBack_69 C h_v0 (fun M_7 h => ?_) n69 _ _ _ h)
    refine r_iconst (v := (0 : Int32)) C dX0_linkBack_99 rfl ?_
    refine r_istore_n C [(2, .int _), (0, .ref _)] dX0_linkBack_100 rfl (by decide) rfl ?_
    obtain ⟨n101, h⟩ := h
    refine r_sub [1, 0] rfl (mL_X0_linkBack_101 C h_v0 (fun M_10 h => ?_) n101 _ _ h)
    exact r_vret C dX0_linkBack_163 h
  · replace h := h.2 hc
    exact r_vret C dX0_linkBack_7 h
def f_X0_forgetSeen (v0 : Nat) (M : Mem) (K : Mem → Prop) : Prop := ∀ M_2 : Mem, M_2 = wI M v0 14 (0 : Int32) → f_J7_fill_53178 (v0 + 9) (0 : Int32) M_2 (fun (M_3 : Mem) => K M_3)

set_option maxHeartbeats 1000000 in
set_option maxRecDepth 10000 in
theorem m_X0_forgetSeen (l : Launch) {v0 : Nat} (h_v0 : isX0 v0) {M : Mem} {K : Mem → Prop} (h : f_X0_forgetSeen v0 M K) : CTv l yX0_forgetSeen cX0_forgetSeen 1 none rm_X0_forgetSeen (fun ad => [.ref (ad v0)]) M K := by
  refine rw_entv (by decide +kernel) (fun ad => Nat.le_of_ble_eq_true rfl) (fun p e s m args below meth c D cy ad C => ?_)
  change rw_W p l e _ s m args below meth c D cy ad 1 0 0 _ 0 [(0, .ref (ad v0))] [] M
  unfold f_X0_forgetSeen at h
  refine r_aload_n C 0 dX0_forgetSeen_0 rfl rfl ?_
  refine r_iconst (v := (0 : Int32)) C dX0_forgetSeen_1 rfl ?_
  refine pX0_56 C h_v0 dX0_forgetSeen_2 ?_
  replace h := h _ rfl
  refine r_aload_n C 0 dX0_forgetSeen_5 rfl rfl ?_
  refine gX0_36 C h_v0 dX0_forgetSeen_6 ?_
  refine r_iconst (v := (0 : Int32)) C dX0_forgetSeen_9 rfl ?_
  refine cX0_68 C (m_J7_fill_53178 l (isI_of (isX0_A9 h_v0)) h) ⟨Nat.le_of_ble_eq_true rfl, Nat.le_of_ble_eq_true rfl⟩ (Nat.le_of_ble_eq_true rfl) ⟨Nat.le_refl 0, Nat.le_refl 0⟩ dX0_forgetSeen_10 (fun M_3 h => ?_)
  exact r_vret C dX0_forgetSeen_13 h
def f_X0_see (v0 : Nat) (v1 : Int32) (M : Mem) (K : Mem → Prop) : Prop := vp_in v1 300 ∧ ((¬ (gI M (v0 + 9) v1) = 0 → K M) ∧ ((gI M (v0 + 9) v1) = 0 → (((300 : Int32) ≤ (M.1 v0 14) → K M) ∧ (¬ (300 : Int32) ≤ (M.1 v0 14) → ∀ M_2 : Mem, M_2 = wI M (v0 + 9) v1.toNatClampNeg (1 : Int32) → vp_in (M_2.1 v0 14) 300 ∧ ∀ M_3 : Mem, M_3 = wI M_2 (v0 + 10) (M_2.1 v0 14).toNatClampNeg v1 → ∀ M_4 : Mem, M_4 = wI M_3 v0 14 ((M_3.1 v0 14) + (1 : Int32)) → K M_4))))

set_option maxHeartbeats 1000000 in
set_option maxRecDepth 10000 in
theorem m_X0_see (l : Launch) {v0 : Nat} {v1 : Int32} (h_v0 : isX0 v0) {M : Mem} {K : Mem → Prop} (h : f_X0_see v0 v1 M K) : CTv l yX0_see cX0_see 2 none rm_X0_see (fun ad => [.ref (ad v0), .int v1]) M K := by
  refine rw_entv (by decide +kernel) (fun ad => Nat.le_of_ble_eq_true rfl) (fun p e s m args below meth c D cy ad C => ?_)
  change rw_W p l e _ s m args below meth c D cy ad 2 0 0 _ 0 [(0, .ref (ad v0)), (1, .int v1)] [] M
  unfold f_X0_see at h
  refine r_aload_n C 0 dX0_see_0 rfl rfl ?_
  refine gX0_36 C h_v0 dX0_see_1 ?_
  refine r_iload_n C 1 dX0_see_4 rfl rfl ?_
  obtain ⟨q, h⟩ := h
  refine r_iald C (isX0_A9 h_v0) q dX0_see_5 ?_
  refine r_if_ne C 46 dX0_see_6 (by decide) (fun hc => ?_) (fun hc => ?_)
  · replace h := h.1 hc
    exact r_vret C dX0_see_46 h
  · replace h := h.2 hc
    refine r_aload_n C 0 dX0_see_9 rfl rfl ?_
    refine gX0_56 C h_v0 dX0_see_10 ?_
    refine r_sipush (v := (300 : Int32)) C dX0_see_13 rfl ?_
    refine r_icmp_ge C 46 dX0_see_16 (by decide) (fun hc => ?_) (fun hc => ?_)
    · replace h := h.1 hc
      exact r_vret C dX0_see_46 h
    · replace h := h.2 hc
      refine r_aload_n C 0 dX0_see_19 rfl rfl ?_
      refine gX0_36 C h_v0 dX0_see_20 ?_
      refine r_iload_n C 1 dX0_see_23 rfl rfl ?_
      refine r_iconst (v := (1 : Int32)) C dX0_see_24 rfl ?_
      refine r_iast C (isX0_A9 h_v0) q dX0_see_25 ?_
      replace h := h _ rfl
      refine r_aload_n C 0 dX0_see_26 rfl rfl ?_
      refine gX0_39 C h_v0 dX0_see_27 ?_
      refine r_aload_n C 0 dX0_see_30 rfl rfl ?_
      refine gX0_56 C h_v0 dX0_see_31 ?_
      refine r_iload_n C 1 dX0_see_34 rfl rfl ?_
      obtain ⟨q_2, h⟩ := h
      refine r_iast C (isX0_A10 h_v0) q_2 dX0_see_35 ?_
      replace h := h _ rfl
      refine r_aload_n C 0 dX0_see_36 rfl rfl ?_
      refine r_dup C dX0_see_37 rfl ?_
      refine gX0_56 C h_v0 dX0_see_38 ?_
      refine r_iconst (v := (1 : Int32)) C dX0_see_41 rfl ?_
      refine r_iadd C dX0_see_42 ?_
      refine pX0_56 C h_v0 dX0_see_43 ?_
      replace h := h _ rfl
      exact r_vret C dX0_see_46 h
def L_X0_spreadBack_32 (v0 : Nat) (v2 : Int32) (v3 : Int32) (X62 : Mem → Prop) (K : Mem → Prop) : Nat → Int32 → Mem → Prop
  | 0, _, _ => False
  | n + 1, v4, M => vp_in (v3 + (1 : Int32)) 301 ∧ (((gI M (v0 + 7) (v3 + (1 : Int32))) ≤ v4 → X62 M) ∧ (¬ (gI M (v0 + 7) (v3 + (1 : Int32))) ≤ v4 → vp_in v4 2400 ∧ f_X0_see v0 (gI M (v0 + 8) v4) M (fun (M_2 : Mem) => L_X0_spreadBack_32 v0 v2 v3 X62 K n (v4 + (1 : Int32)) M_2)))

set_option maxHeartbeats 1000000 in
set_option maxRecDepth 10000 in
theorem mL_X0_spreadBack_32 (C : rw_C p s m meth c cX0_spreadBack 5 RX0 none D cy ad) {v0 : Nat} {v2 : Int32} {v3 : Int32} (h_v0 : isX0 v0) {X62 : Mem → Prop} {K : Mem → Prop} (hX62 : ∀  (M : Mem), X62 M → rw_W p l e rm_X0_spreadBack s m args below meth c D cy ad 5 0 0 (rw_Qv below args s D cy ad K) 62 [(0, .ref (ad v0)), (2, .int v2)] [] M) : ∀ (n : Nat) (v4 : Int32) (M : Mem), L_X0_spreadBack_32 v0 v2 v3 X62 K n v4 M → rw_W p l e rm_X0_spreadBack s m args below meth c D cy ad 5 0 0 (rw_Qv below args s D cy ad K) 32 [(0, .ref (ad v0)), (2, .int v2), (3, .int v3), (4, .int v4)] [] M := by
  intro n
  induction n with
  | zero => intro v4 M h; exact h.elim
  | succ n ih =>
    intro v4 M h
    refine r_iload C 3 dX0_spreadBack_32 rfl ?_
    refine r_aload_n C 0 dX0_spreadBack_34 rfl rfl ?_
    refine gX0_30 C h_v0 dX0_spreadBack_35 ?_
    refine r_iload_n C 2 dX0_spreadBack_38 rfl rfl ?_
    refine r_iconst (v := (1 : Int32)) C dX0_spreadBack_39 rfl ?_
    refine r_iadd C dX0_spreadBack_40 ?_
    obtain ⟨q_3, h⟩ := h
    refine r_iald C (isX0_A7 h_v0) q_3 dX0_spreadBack_41 ?_
    refine r_icmp_ge C 62 dX0_spreadBack_42 (by decide) (fun hc => ?_) (fun hc => ?_)
    · replace h := h.1 hc
      exact r_sub [0, 1] rfl (hX62 _ h)
    · replace h := h.2 hc
      refine r_aload_n C 0 dX0_spreadBack_45 rfl rfl ?_
      refine r_aload_n C 0 dX0_spreadBack_46 rfl rfl ?_
      refine gX0_33 C h_v0 dX0_spreadBack_47 ?_
      refine r_iload C 3 dX0_spreadBack_50 rfl ?_
      obtain ⟨q_4, h⟩ := h
      refine r_iald C (isX0_A8 h_v0) q_4 dX0_spreadBack_52 ?_
      refine cX0_126 C h_v0 (m_X0_see l h_v0 h) ⟨Nat.le_of_ble_eq_true rfl, Nat.le_of_ble_eq_true rfl⟩ (Nat.le_of_ble_eq_true rfl) ⟨Nat.le_refl 0, Nat.le_refl 0⟩ dX0_spreadBack_53 (fun M_2 h => ?_)
      refine r_iinc C 3 (v := _) [(4, .int _), (0, .ref _), (2, .int _), (3, .int _)] dX0_spreadBack_56 rfl rfl (by decide) rfl ?_
      refine r_goto C 32 dX0_spreadBack_59 (by decide) ?_
      exact r_sub [1, 2, 3, 0] rfl (ih _ _ h)

def L_X0_spreadBack_2 (v0 : Nat) (X68 : Mem → Prop) (K : Mem → Prop) : Nat → Int32 → Mem → Prop
  | 0, _, _ => False
  | n + 1, v2, M => (((M.1 v0 14) ≤ v2 → X68 M) ∧ (¬ (M.1 v0 14) ≤ v2 → (((300 : Int32) ≤ v2 → X68 M) ∧ (¬ (300 : Int32) ≤ v2 → vp_in v2 300 ∧ ∀ x3 : Int32, x3 = gI M (v0 + 10) v2 → vp_in x3 301 ∧ ∀ x4 : Int32, x4 = gI M (v0 + 7) x3 → (∃ k32 : Nat, L_X0_spreadBack_32 v0 v2 x3 (fun  (M_3 : Mem) => L_X0_spreadBack_2 v0 X68 K n (v2 + (1 : Int32)) M_3) K k32 x4 M)))))

set_option maxHeartbeats 1000000 in
set_option maxRecDepth 10000 in
theorem mL_X0_spreadBack_2 (C : rw_C p s m meth c cX0_spreadBack 5 RX0 none D cy ad) {v0 : Nat} (h_v0 : isX0 v0) {X68 : Mem → Prop} {K : Mem → Prop} (hX68 : ∀  (M : Mem), X68 M → rw_W p l e rm_X0_spreadBack s m args below meth c D cy ad 5 0 0 (rw_Qv below args s D cy ad K) 68 [] [] M) : ∀ (n : Nat) (v2 : Int32) (M : Mem), L_X0_spreadBack_2 v0 X68 K n v2 M → rw_W p l e rm_X0_spreadBack s m args below meth c D cy ad 5 0 0 (rw_Qv below args s D cy ad K) 2 [(0, .ref (ad v0)), (2, .int v2)] [] M := by
  intro n
  induction n with
  | zero => intro v2 M h; exact h.elim
  | succ n ih =>
    intro v2 M h
    refine r_iload_n C 1 dX0_spreadBack_2 rfl rfl ?_
    refine r_aload_n C 0 dX0_spreadBack_3 rfl rfl ?_
    refine gX0_56 C h_v0 dX0_spreadBack_4 ?_
    refine r_icmp_ge C 68 dX0_spreadBack_7 (by decide) (fun hc => ?_) (fun hc => ?_)
    · replace h := h.1 hc
      exact r_sub [] rfl (hX68 _ h)
    · replace h := h.2 hc
      refine r_iload_n C 1 dX0_spreadBack_10 rfl rfl ?_
      refine r_sipush (v := (300 : Int32)) C dX0_spreadBack_11 rfl ?_
      refine r_icmp_ge C 68 dX0_spreadBack_14 (by decide) (fun hc => ?_) (fun hc => ?_)
      · replace h := h.1 hc
        exact r_sub [] rfl (hX68 _ h)
      · replace h := h.2 hc
        refine r_aload_n C 0 dX0_spreadBack_17 rfl rfl ?_
        refine gX0_39 C h_v0 dX0_spreadBack_18 ?_
        refine r_iload_n C 1 dX0_spreadBack_21 rfl rfl ?_
        obtain ⟨q, h⟩ := h
        refine r_iald C (isX0_A10 h_v0) q dX0_spreadBack_22 ?_
        refine r_istore_n C [(3, .int _), (0, .ref _), (2, .int _)] dX0_spreadBack_23 rfl (by decide) rfl ?_
        replace h := h _ rfl
        refine r_aload_n C 1 dX0_spreadBack_24 rfl rfl ?_
        refine gX0_30 C h_v0 dX0_spreadBack_25 ?_
        refine r_iload_n C 0 dX0_spreadBack_28 rfl rfl ?_
        obtain ⟨q_2, h⟩ := h
        refine r_iald C (isX0_A7 h_v0) q_2 dX0_spreadBack_29 ?_
        refine r_istore C [(4, .int _), (3, .int _), (0, .ref _), (2, .int _)] dX0_spreadBack_30 (by decide) rfl ?_
        replace h := h _ rfl
        obtain ⟨n32, h⟩ := h
        refine r_sub [2, 3, 1, 0] rfl (mL_X0_spreadBack_32 C h_v0 (fun M_3 h => ?_) n32 _ _ h)
        refine r_iinc C 1 (v := _) [(2, .int _), (0, .ref _)] dX0_spreadBack_62 rfl rfl (by decide) rfl ?_
        refine r_goto C 2 dX0_spreadBack_65 (by decide) ?_
        exact r_sub [1, 0] rfl (ih _ _ h)

def f_X0_spreadBack (v0 : Nat) (v1 : Int32) (M : Mem) (K : Mem → Prop) : Prop := (∃ k2 : Nat, L_X0_spreadBack_2 v0 (fun  (M_4 : Mem) => K M_4) K k2 v1 M)

set_option maxHeartbeats 1000000 in
set_option maxRecDepth 10000 in
theorem m_X0_spreadBack (l : Launch) {v0 : Nat} {v1 : Int32} (h_v0 : isX0 v0) {M : Mem} {K : Mem → Prop} (h : f_X0_spreadBack v0 v1 M K) : CTv l yX0_spreadBack cX0_spreadBack 5 none rm_X0_spreadBack (fun ad => [.ref (ad v0), .int v1]) M K := by
  refine rw_entv (by decide +kernel) (fun ad => Nat.le_of_ble_eq_true rfl) (fun p e s m args below meth c D cy ad C => ?_)
  change rw_W p l e _ s m args below meth c D cy ad 5 0 0 _ 0 [(0, .ref (ad v0)), (1, .int v1)] [] M
  unfold f_X0_spreadBack at h
  refine r_iload_n C 1 dX0_spreadBack_0 rfl rfl ?_
  refine r_istore_n C [(2, .int _), (0, .ref _), (1, .int _)] dX0_spreadBack_1 rfl (by decide) rfl ?_
  obtain ⟨n2, h⟩ := h
  refine r_sub [1, 0] rfl (mL_X0_spreadBack_2 C h_v0 (fun M_4 h => ?_) n2 _ _ h)
  exact r_vret C dX0_spreadBack_68 h
def L_X0_comesFromAll_6 (v0 : Nat) (v1 : Int32) (X39 : Mem → Prop) (K : Int32 → Mem → Prop) : Nat → Int32 → Mem → Prop
  | 0, _, _ => False
  | n + 1, v2, M => (((M.1 v0 12) ≤ v2 → X39 M) ∧ (¬ (M.1 v0 12) ≤ v2 → vp_in v2 300 ∧ ((¬ (((gI M (v0 + 4) v2) >>> (v1 &&& 31)) &&& (1 : Int32)) = (1 : Int32) → L_X0_comesFromAll_6 v0 v1 X39 K n (v2 + (1 : Int32)) M) ∧ ((((gI M (v0 + 4) v2) >>> (v1 &&& 31)) &&& (1 : Int32)) = (1 : Int32) → f_X0_see v0 v2 M (fun (M_3 : Mem) => L_X0_comesFromAll_6 v0 v1 X39 K n (v2 + (1 : Int32)) M_3)))))

set_option maxHeartbeats 1000000 in
set_option maxRecDepth 10000 in
theorem mL_X0_comesFromAll_6 (C : rw_C p s m meth c cX0_comesFromAll 3 RX0 (some .boolean) D cy ad) {v0 : Nat} {v1 : Int32} (h_v0 : isX0 v0) {X39 : Mem → Prop} {K : Int32 → Mem → Prop} (hX39 : ∀  (M : Mem), X39 M → rw_W p l e rm_X0_comesFromAll s m args below meth c D cy ad 3 0 0 (rw_Qi below args s D cy ad K) 39 [(0, .ref (ad v0))] [] M) : ∀ (n : Nat) (v2 : Int32) (M : Mem), L_X0_comesFromAll_6 v0 v1 X39 K n v2 M → rw_W p l e rm_X0_comesFromAll s m args below meth c D cy ad 3 0 0 (rw_Qi below args s D cy ad K) 6 [(0, .ref (ad v0)), (1, .int v1), (2, .int v2)] [] M := by
  intro n
  induction n with
  | zero => intro v2 M h; exact h.elim
  | succ n ih =>
    intro v2 M h
    refine r_iload_n C 2 dX0_comesFromAll_6 rfl rfl ?_
    refine r_aload_n C 0 dX0_comesFromAll_7 rfl rfl ?_
    refine gX0_49 C h_v0 dX0_comesFromAll_8 ?_
    refine r_icmp_ge C 39 dX0_comesFromAll_11 (by decide) (fun hc => ?_) (fun hc => ?_)
    · replace h := h.1 hc
      exact r_sub [0] rfl (hX39 _ h)
    · replace h := h.2 hc
      refine r_aload_n C 0 dX0_comesFromAll_14 rfl rfl ?_
      refine gX0_21 C h_v0 dX0_comesFromAll_15 ?_
      refine r_iload_n C 2 dX0_comesFromAll_18 rfl rfl ?_
      obtain ⟨q, h⟩ := h
      refine r_iald C (isX0_A4 h_v0) q dX0_comesFromAll_19 ?_
      refine r_iload_n C 1 dX0_comesFromAll_20 rfl rfl ?_
      refine r_ishr C dX0_comesFromAll_21 ?_
      refine r_iconst (v := (1 : Int32)) C dX0_comesFromAll_22 rfl ?_
      refine r_iand C dX0_comesFromAll_23 ?_
      refine r_iconst (v := (1 : Int32)) C dX0_comesFromAll_24 rfl ?_
      refine r_icmp_ne C 33 dX0_comesFromAll_25 (by decide) (fun hc => ?_) (fun hc => ?_)
      · replace h := h.1 hc
        refine r_iinc C 2 (v := _) [(2, .int _), (0, .ref _), (1, .int _)] dX0_comesFromAll_33 rfl rfl (by decide) rfl ?_
        refine r_goto C 6 dX0_comesFromAll_36 (by decide) ?_
        exact r_sub [1, 2, 0] rfl (ih _ _ h)
      · replace h := h.2 hc
        refine r_aload_n C 0 dX0_comesFromAll_28 rfl rfl ?_
        refine r_iload_n C 2 dX0_comesFromAll_29 rfl rfl ?_
        refine cX0_126 C h_v0 (m_X0_see l h_v0 h) ⟨Nat.le_of_ble_eq_true rfl, Nat.le_of_ble_eq_true rfl⟩ (Nat.le_of_ble_eq_true rfl) ⟨Nat.le_refl 0, Nat.le_refl 0⟩ dX0_comesFromAll_30 (fun M_3 h => ?_)
        refine r_iinc C 2 (v := _) [(2, .int _), (0, .ref _), (1, .int _)] dX0_comesFromAll_33 rfl rfl (by decide) rfl ?_
        refine r_goto C 6 dX0_comesFromAll_36 (by decide) ?_
        exact r_sub [1, 2, 0] rfl (ih _ _ h)

def f_X0_comesFromAll (v0 : Nat) (v1 : Int32) (M : Mem) (K : Int32 → Mem → Prop) : Prop := f_X0_forgetSeen v0 M (fun (M_2 : Mem) => (∃ k6 : Nat, L_X0_comesFromAll_6 v0 v1 (fun  (M_4 : Mem) => f_X0_spreadBack v0 (0 : Int32) M_4 (fun (M_5 : Mem) => ((¬ (M_5.1 v0 14) = (M_5.1 v0 12) → K (0 : Int32) M_5) ∧ ((M_5.1 v0 14) = (M_5.1 v0 12) → K (1 : Int32) M_5)))) K k6 (0 : Int32) M_2))

set_option maxHeartbeats 1000000 in
set_option maxRecDepth 10000 in
theorem m_X0_comesFromAll (l : Launch) {v0 : Nat} {v1 : Int32} (h_v0 : isX0 v0) {M : Mem} {K : Int32 → Mem → Prop} (h : f_X0_comesFromAll v0 v1 M K) : CTi l yX0_comesFromAll cX0_comesFromAll 3 (some .boolean) rm_X0_comesFromAll (fun ad => [.ref (ad v0), .int v1]) M K := by
  refine rw_enti (by decide +kernel) (fun ad => Nat.le_of_ble_eq_true rfl) (fun p e s m args below meth c D cy ad C => ?_)
  change rw_W p l e _ s m args below meth c D cy ad 3 0 0 _ 0 [(0, .ref (ad v0)), (1, .int v1)] [] M
  unfold f_X0_comesFromAll at h
  refine r_aload_n C 0 dX0_comesFromAll_0 rfl rfl ?_
  refine cX0_123 C h_v0 (m_X0_forgetSeen l h_v0 h) ⟨Nat.le_of_ble_eq_true rfl, Nat.le_of_ble_eq_true rfl⟩ (Nat.le_of_ble_eq_true rfl) ⟨Nat.le_refl 0, Nat.le_refl 0⟩ dX0_comesFromAll_1 (fun M_2 h => ?_)
  refine r_iconst (v := (0 : Int32)) C dX0_comesFromAll_4 rfl ?_
  refine r_istore_n C [(2, .int _), (0, .ref _), (1, .int _)] dX0_comesFromAll_5 rfl (by decide) rfl ?_
  obtain ⟨n6, h⟩ := h
  refine r_sub [1, 2, 0] rfl (mL_X0_comesFromAll_6 C h_v0 (fun M_4 h => ?_) n6 _ _ h)
  refine r_aload_n C 0 dX0_comesFromAll_39 rfl rfl ?_
  refine r_iconst (v := (0 : Int32)) C dX0_comesFromAll_40 rfl ?_
  refine cX0_130 C h_v0 (m_X0_spreadBack l h_v0 h) ⟨Nat.le_of_ble_eq_true rfl, Nat.le_of_ble_eq_true rfl⟩ (Nat.le_of_ble_eq_true rfl) ⟨Nat.le_refl 0, Nat.le_refl 0⟩ dX0_comesFromAll_41 (fun M_5 h => ?_)
  refine r_aload_n C 0 dX0_comesFromAll_44 rfl rfl ?_
  refine gX0_56 C h_v0 dX0_comesFromAll_45 ?_
  refine r_aload_n C 0 dX0_comesFromAll_48 rfl rfl ?_
  refine gX0_49 C h_v0 dX0_comesFromAll_49 ?_
  refine r_icmp_ne C 59 dX0_comesFromAll_52 (by decide) (fun hc => ?_) (fun hc => ?_)
  · replace h := h.1 hc
    refine r_iconst (v := (0 : Int32)) C dX0_comesFromAll_59 rfl ?_
    exact r_zret C (by decide) dX0_comesFromAll_60 h
  · replace h := h.2 hc
    refine r_iconst (v := (1 : Int32)) C dX0_comesFromAll_55 rfl ?_
    refine r_goto C 60 dX0_comesFromAll_56 (by decide) ?_
    exact r_zret C (by decide) dX0_comesFromAll_60 h
def L_X0_liveOnes_24 (v0 : Nat) (v1 : Nat) (X64 : Mem → Prop) (K : Int32 → Mem → Prop) : Nat → Int32 → Mem → Prop
  | 0, _, _ => False
  | n + 1, v2, M => (((8 : Int32) ≤ v2 → X64 M) ∧ (¬ (8 : Int32) ≤ v2 → f_X1_hasStep v1 v2 M (fun (r_2 : Int32) (M_4 : Mem) => ((r_2 = 0 → L_X0_liveOnes_24 v0 v1 X64 K n (v2 + (1 : Int32)) M_4) ∧ (¬ r_2 = 0 → f_X0_comesFromAll v0 v2 M_4 (fun (r_3 : Int32) (M_5 : Mem) => ((r_3 = 0 → L_X0_liveOnes_24 v0 v1 X64 K n (v2 + (1 : Int32)) M_5) ∧ (¬ r_3 = 0 → ∀ M_6 : Mem, M_6 = wI M_5 v0 17 ((M_5.1 v0 17) ||| ((1 : Int32) <<< (v2 &&& 31))) → L_X0_liveOnes_24 v0 v1 X64 K n (v2 + (1 : Int32)) M_6))))))))

set_option maxHeartbeats 1000000 in
set_option maxRecDepth 10000 in
theorem mL_X0_liveOnes_24 (C : rw_C p s m meth c cX0_liveOnes 3 RX0 (some .int) D cy ad) {v0 : Nat} {v1 : Nat} (h_v0 : isX0 v0) (h_v1 : isX1 v1) {X64 : Mem → Prop} {K : Int32 → Mem → Prop} (hX64 : ∀  (M : Mem), X64 M → rw_W p l e rm_X0_liveOnes s m args below meth c D cy ad 3 0 0 (rw_Qi below args s D cy ad K) 64 [(0, .ref (ad v0))] [] M) : ∀ (n : Nat) (v2 : Int32) (M : Mem), L_X0_liveOnes_24 v0 v1 X64 K n v2 M → rw_W p l e rm_X0_liveOnes s m args below meth c D cy ad 3 0 0 (rw_Qi below args s D cy ad K) 24 [(0, .ref (ad v0)), (1, .ref (ad v1)), (2, .int v2)] [] M := by
  intro n
  induction n with
  | zero => intro v2 M h; exact h.elim
  | succ n ih =>
    intro v2 M h
    refine r_iload_n C 2 dX0_liveOnes_24 rfl rfl ?_
    refine r_bipush (v := (8 : Int32)) C dX0_liveOnes_25 rfl ?_
    refine r_icmp_ge C 64 dX0_liveOnes_27 (by decide) (fun hc => ?_) (fun hc => ?_)
    · replace h := h.1 hc
      exact r_sub [0] rfl (hX64 _ h)
    · replace h := h.2 hc
      refine r_aload_n C 1 dX0_liveOnes_30 rfl rfl ?_
      refine r_iload_n C 2 dX0_liveOnes_31 rfl rfl ?_
      refine cX0_117 C h_v1 (m_X1_hasStep l h_v1 h) ⟨Nat.le_of_ble_eq_true rfl, Nat.le_of_ble_eq_true rfl⟩ (Nat.le_of_ble_eq_true rfl) ⟨Nat.le_refl 0, Nat.le_refl 0⟩ dX0_liveOnes_32 (fun r_2 M_4 h => ?_)
      refine r_if_eq C 58 dX0_liveOnes_35 (by decide) (fun hc => ?_) (fun hc => ?_)
      · replace h := h.1 hc
        refine r_iinc C 2 (v := _) [(2, .int _), (0, .ref _), (1, .ref _)] dX0_liveOnes_58 rfl rfl (by decide) rfl ?_
        refine r_goto C 24 dX0_liveOnes_61 (by decide) ?_
        exact r_sub [1, 2, 0] rfl (ih _ _ h)
      · replace h := h.2 hc
        refine r_aload_n C 0 dX0_liveOnes_38 rfl rfl ?_
        refine r_iload_n C 2 dX0_liveOnes_39 rfl rfl ?_
        refine cX0_120 C h_v0 (m_X0_comesFromAll l h_v0 h) ⟨Nat.le_of_ble_eq_true rfl, Nat.le_of_ble_eq_true rfl⟩ (Nat.le_of_ble_eq_true rfl) ⟨Nat.le_refl 0, Nat.le_refl 0⟩ dX0_liveOnes_40 (fun r_3 M_5 h => ?_)
        refine r_if_eq C 58 dX0_liveOnes_43 (by decide) (fun hc => ?_) (fun hc => ?_)
        · replace h := h.1 hc
          refine r_iinc C 2 (v := _) [(2, .int _), (0, .ref _), (1, .ref _)] dX0_liveOnes_58 rfl rfl (by decide) rfl ?_
          refine r_goto C 24 dX0_liveOnes_61 (by decide) ?_
          exact r_sub [1, 2, 0] rfl (ih _ _ h)
        · replace h := h.2 hc
          refine r_aload_n C 0 dX0_liveOnes_46 rfl rfl ?_
          refine r_dup C dX0_liveOnes_47 rfl ?_
          refine gX0_65 C h_v0 dX0_liveOnes_48 ?_
          refine r_iconst (v := (1 : Int32)) C dX0_liveOnes_51 rfl ?_
          refine r_iload_n C 2 dX0_liveOnes_52 rfl rfl ?_
          refine r_ishl C dX0_liveOnes_53 ?_
          refine r_ior C dX0_liveOnes_54 ?_
          refine pX0_65 C h_v0 dX0_liveOnes_55 ?_
          replace h := h _ rfl
          refine r_iinc C 2 (v := _) [(2, .int _), (0, .ref _), (1, .ref _)] dX0_liveOnes_58 rfl rfl (by decide) rfl ?_
          refine r_goto C 24 dX0_liveOnes_61 (by decide) ?_
          exact r_sub [1, 2, 0] rfl (ih _ _ h)

def f_X0_liveOnes (v0 : Nat) (v1 : Nat) (M : Mem) (K : Int32 → Mem → Prop) : Prop := (((M.1 v0 17) = (-1 : Int32) → f_X0_linkBack v0 M (fun (M_2 : Mem) => ∀ M_3 : Mem, M_3 = wI M_2 v0 17 (0 : Int32) → (∃ k24 : Nat, L_X0_liveOnes_24 v0 v1 (fun  (M_7 : Mem) => K (M_7.1 v0 17) M_7) K k24 (0 : Int32) M_3))) ∧ (¬ (M.1 v0 17) = (-1 : Int32) → K (M.1 v0 17) M))

set_option maxHeartbeats 1000000 in
set_option maxRecDepth 10000 in
theorem m_X0_liveOnes (l : Launch) {v0 : Nat} {v1 : Nat} (h_v0 : isX0 v0) (h_v1 : isX1 v1) {M : Mem} {K : Int32 → Mem → Prop} (h : f_X0_liveOnes v0 v1 M K) : CTi l yX0_liveOnes cX0_liveOnes 3 (some .int) rm_X0_liveOnes (fun ad => [.ref (ad v0), .ref (ad v1)]) M K := by
  refine rw_enti (by decide +kernel) (fun ad => Nat.le_of_ble_eq_true rfl) (fun p e s m args below meth c D cy ad C => ?_)
  change rw_W p l e _ s m args below meth c D cy ad 3 0 0 _ 0 [(0, .ref (ad v0)), (1, .ref (ad v1))] [] M
  unfold f_X0_liveOnes at h
  refine r_aload_n C 0 dX0_liveOnes_0 rfl rfl ?_
  refine gX0_65 C h_v0 dX0_liveOnes_1 ?_
  refine r_iconst (v := (-1 : Int32)) C dX0_liveOnes_4 rfl ?_
  refine r_icmp_eq C 13 dX0_liveOnes_5 (by decide) (fun hc => ?_) (fun hc => ?_)
  · replace h := h.1 hc
    refine r_aload_n C 0 dX0_liveOnes_13 rfl rfl ?_
    refine cX0_114 C h_v0 (m_X0_linkBack l h_v0 h) ⟨Nat.le_of_ble_eq_true rfl, Nat.le_of_ble_eq_true rfl⟩ (Nat.le_of_ble_eq_true rfl) ⟨Nat.le_refl 0, Nat.le_refl 0⟩ dX0_liveOnes_14 (fun M_2 h => ?_)
    refine r_aload_n C 0 dX0_liveOnes_17 rfl rfl ?_
    refine r_iconst (v := (0 : Int32)) C dX0_liveOnes_18 rfl ?_
    refine pX0_65 C h_v0 dX0_liveOnes_19 ?_
    replace h := h _ rfl
    refine r_iconst (v := (0 : Int32)) C dX0_liveOnes_22 rfl ?_
    refine r_istore_n C [(2, .int _), (0, .ref _), (1, .ref _)] dX0_liveOnes_23 rfl (by decide) rfl ?_
    obtain ⟨n24, h⟩ := h
    refine r_sub [1, 2, 0] rfl (mL_X0_liveOnes_24 C h_v0 h_v1 (fun M_7 h => ?_) n24 _ _ h)
    refine r_aload_n C 0 dX0_liveOnes_64 rfl rfl ?_
    refine gX0_65 C h_v0 dX0_liveOnes_65 ?_
    exact r_iret C dX0_liveOnes_68 h
  · replace h := h.2 hc
    refine r_aload_n C 0 dX0_liveOnes_8 rfl rfl ?_
    refine gX0_65 C h_v0 dX0_liveOnes_9 ?_
    exact r_iret C dX0_liveOnes_12 h
end MG
