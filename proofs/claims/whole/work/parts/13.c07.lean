section MG
variable {p : Program} {l : Launch} {e : Env} {R : Room} {s : State} {m : MethodId} {args : Array Value} {below : List Frame} {meth : Method} {c : Code} {D : va_G} {cy : Nat → ClassId} {ad : Nat → Nat}
def L_X7_rankOf_4 (v0 : Nat) (v1 : Nat) (X38 : Int32 → Mem → Prop) (K : Int32 → Mem → Prop) : Nat → Int32 → Int32 → Mem → Prop
  | 0, _, _, _ => False
  | n + 1, v2, v3, M => (((10 : Int32) ≤ v3 → X38 v2 M) ∧ (¬ (10 : Int32) ≤ v3 → f_X7_isUnit v0 v1 v3 M (fun (r : Int32) (M_2 : Mem) => ((r = 0 → L_X7_rankOf_4 v0 v1 X38 K n v2 (v3 + (1 : Int32)) M_2) ∧ (¬ r = 0 → f_X7_isIndependent v0 v1 v3 v2 M_2 (fun (r_2 : Int32) (M_3 : Mem) => ((r_2 = 0 → L_X7_rankOf_4 v0 v1 X38 K n v2 (v3 + (1 : Int32)) M_3) ∧ (¬ r_2 = 0 → L_X7_rankOf_4 v0 v1 X38 K n (v2 + (1 : Int32)) (v3 + (1 : Int32)) M_3))))))))

set_option maxHeartbeats 1000000 in
set_option maxRecDepth 10000 in
theorem mL_X7_rankOf_4 (C : rw_C p s m meth c cX7_rankOf 4 RX7 (some .int) D cy ad) {v0 : Nat} {v1 : Nat} (h_v0 : isX7 v0) (h_v1 : isX1 v1) {X38 : Int32 → Mem → Prop} {K : Int32 → Mem → Prop} (hX38 : ∀ (u2 : Int32) (M : Mem), X38 u2 M → rw_W p l e rm_X7_rankOf s m args below meth c D cy ad 4 0 0 (rw_Qi below args s D cy ad K) 38 [(2, .int u2)] [] M) : ∀ (n : Nat) (v2 : Int32) (v3 : Int32) (M : Mem), L_X7_rankOf_4 v0 v1 X38 K n v2 v3 M → rw_W p l e rm_X7_rankOf s m args below meth c D cy ad 4 0 0 (rw_Qi below args s D cy ad K) 4 [(0, .ref (ad v0)), (1, .ref (ad v1)), (2, .int v2), (3, .int v3)] [] M := by
  intro n
  induction n with
  | zero => intro v2 v3 M h; exact h.elim
  | succ n ih =>
    intro v2 v3 M h
    refine r_iload_n C 3 dX7_rankOf_4 rfl rfl ?_
    refine r_bipush (v := (10 : Int32)) C dX7_rankOf_5 rfl ?_
    refine r_icmp_ge C 38 dX7_rankOf_7 (by decide) (fun hc => ?_) (fun hc => ?_)
    · replace h := h.1 hc
      exact r_sub [2] rfl (hX38 _ _ h)
    · replace h := h.2 hc
      refine r_aload_n C 0 dX7_rankOf_10 rfl rfl ?_
      refine r_aload_n C 1 dX7_rankOf_11 rfl rfl ?_
      refine r_iload_n C 3 dX7_rankOf_12 rfl rfl ?_
      refine cX7_46 C h_v0 (m_X7_isUnit l h_v0 h_v1 h) ⟨Nat.le_of_ble_eq_true rfl, Nat.le_of_ble_eq_true rfl⟩ (Nat.le_of_ble_eq_true rfl) ⟨Nat.le_refl 0, Nat.le_refl 0⟩ dX7_rankOf_13 (fun r M_2 h => ?_)
      refine r_if_eq C 32 dX7_rankOf_16 (by decide) (fun hc => ?_) (fun hc => ?_)
      · replace h := h.1 hc
        refine r_iinc C 3 (v := _) [(3, .int _), (0, .ref _), (1, .ref _), (2, .int _)] dX7_rankOf_32 rfl rfl (by decide) rfl ?_
        refine r_goto C 4 dX7_rankOf_35 (by decide) ?_
        exact r_sub [1, 2, 3, 0] rfl (ih _ _ _ h)
      · replace h := h.2 hc
        refine r_aload_n C 0 dX7_rankOf_19 rfl rfl ?_
        refine r_aload_n C 1 dX7_rankOf_20 rfl rfl ?_
        refine r_iload_n C 3 dX7_rankOf_21 rfl rfl ?_
        refine r_iload_n C 2 dX7_rankOf_22 rfl rfl ?_
        refine cX7_50 C h_v0 (m_X7_isIndependent l h_v0 h_v1 h) ⟨Nat.le_of_ble_eq_true rfl, Nat.le_of_ble_eq_true rfl⟩ (Nat.le_of_ble_eq_true rfl) ⟨Nat.le_refl 0, Nat.le_refl 0⟩ dX7_rankOf_23 (fun r_2 M_3 h => ?_)
        refine r_if_eq C 32 dX7_rankOf_26 (by decide) (fun hc => ?_) (fun hc => ?_)
        · replace h := h.1 hc
          refine r_iinc C 3 (v := _) [(3, .int _), (0, .ref _), (1, .ref _), (2, .int _)] dX7_rankOf_32 rfl rfl (by decide) rfl ?_
          refine r_goto C 4 dX7_rankOf_35 (by decide) ?_
          exact r_sub [1, 2, 3, 0] rfl (ih _ _ _ h)
        · replace h := h.2 hc
          refine r_iinc C 2 (v := _) [(2, .int _), (0, .ref _), (1, .ref _), (3, .int _)] dX7_rankOf_29 rfl rfl (by decide) rfl ?_
          refine r_iinc C 3 (v := _) [(3, .int _), (2, .int _), (0, .ref _), (1, .ref _)] dX7_rankOf_32 rfl rfl (by decide) rfl ?_
          refine r_goto C 4 dX7_rankOf_35 (by decide) ?_
          exact r_sub [2, 3, 1, 0] rfl (ih _ _ _ h)

def f_X7_rankOf (v0 : Nat) (v1 : Nat) (M : Mem) (K : Int32 → Mem → Prop) : Prop := (∃ k4 : Nat, L_X7_rankOf_4 v0 v1 (fun (v2_2 : Int32) (M_4 : Mem) => K v2_2 M_4) K k4 (0 : Int32) (0 : Int32) M)

set_option maxHeartbeats 1000000 in
set_option maxRecDepth 10000 in
theorem m_X7_rankOf (l : Launch) {v0 : Nat} {v1 : Nat} (h_v0 : isX7 v0) (h_v1 : isX1 v1) {M : Mem} {K : Int32 → Mem → Prop} (h : f_X7_rankOf v0 v1 M K) : CTi l yX7_rankOf cX7_rankOf 4 (some .int) rm_X7_rankOf (fun ad => [.ref (ad v0), .ref (ad v1)]) M K := by
  refine rw_enti (by decide +kernel) (fun ad => Nat.le_of_ble_eq_true rfl) (fun p e s m args below meth c D cy ad C => ?_)
  change rw_W p l e _ s m args below meth c D cy ad 4 0 0 _ 0 [(0, .ref (ad v0)), (1, .ref (ad v1))] [] M
  unfold f_X7_rankOf at h
  refine r_iconst (v := (0 : Int32)) C dX7_rankOf_0 rfl ?_
  refine r_istore_n C [(2, .int _), (0, .ref _), (1, .ref _)] dX7_rankOf_1 rfl (by decide) rfl ?_
  refine r_iconst (v := (0 : Int32)) C dX7_rankOf_2 rfl ?_
  refine r_istore_n C [(3, .int _), (2, .int _), (0, .ref _), (1, .ref _)] dX7_rankOf_3 rfl (by decide) rfl ?_
  obtain ⟨n4, h⟩ := h
  refine r_sub [2, 3, 1, 0] rfl (mL_X7_rankOf_4 C h_v0 h_v1 (fun v2_2 M_4 h => ?_) n4 _ _ _ h)
  refine r_iload_n C 0 dX7_rankOf_38 rfl rfl ?_
  exact r_iret C dX7_rankOf_39 h
def L_X7_weigh_5 (v0 : Nat) (v1 : Int32) (v2 : Nat) (X43 : Int64 → Mem → Prop) (K : Int64 → Mem → Prop) : Nat → Int64 → Int32 → Mem → Prop
  | 0, _, _, _ => False
  | n + 1, v3, v5, M => (((10 : Int32) ≤ v5 → X43 v3 M) ∧ (¬ (10 : Int32) ≤ v5 → vp_in ((v1 * (10 : Int32)) + v5) 2560 ∧ vp_in v5 10 ∧ ∀ x3_2 : Int64, x3_2 = v3 + (((gI M (v0 + 4) ((v1 * (10 : Int32)) + v5)).toInt64) * ((gI M (v2 + 3) v5).toInt64)) → L_X7_weigh_5 v0 v1 v2 X43 K n x3_2 (v5 + (1 : Int32)) M))

set_option maxHeartbeats 1000000 in
set_option maxRecDepth 10000 in
theorem mL_X7_weigh_5 (C : rw_C p s m meth c cX7_weigh 6 RX7 (some .long) D cy ad) {v0 : Nat} {v1 : Int32} {v2 : Nat} (h_v0 : isX7 v0) (h_v2 : isX1 v2) {X43 : Int64 → Mem → Prop} {K : Int64 → Mem → Prop} (hX43 : ∀ (u3 : Int64) (M : Mem), X43 u3 M → rw_W p l e rm_X7_weigh s m args below meth c D cy ad 6 0 0 (rw_Ql below args s D cy ad K) 43 [(3, .long u3)] [] M) : ∀ (n : Nat) (v3 : Int64) (v5 : Int32) (M : Mem), L_X7_weigh_5 v0 v1 v2 X43 K n v3 v5 M → rw_W p l e rm_X7_weigh s m args below meth c D cy ad 6 0 0 (rw_Ql below args s D cy ad K) 5 [(0, .ref (ad v0)), (1, .int v1), (2, .ref (ad v2)), (3, .long v3), (5, .int v5)] [] M := by
  intro n
  induction n with
  | zero => intro v3 v5 M h; exact h.elim
  | succ n ih =>
    intro v3 v5 M h
    refine r_iload C 4 dX7_weigh_5 rfl ?_
    refine r_bipush (v := (10 : Int32)) C dX7_weigh_7 rfl ?_
    refine r_icmp_ge C 43 dX7_weigh_9 (by decide) (fun hc => ?_) (fun hc => ?_)
    · replace h := h.1 hc
      exact r_sub [3] rfl (hX43 _ _ h)
    · replace h := h.2 hc
      refine r_lload_n C 3 dX7_weigh_12 rfl rfl ?_
      refine r_aload_n C 0 dX7_weigh_13 rfl rfl ?_
      refine gX7_22 C h_v0 dX7_weigh_14 ?_
      refine r_iload_n C 1 dX7_weigh_17 rfl rfl ?_
      refine r_bipush (v := (10 : Int32)) C dX7_weigh_18 rfl ?_
      refine r_imul C dX7_weigh_20 ?_
      refine r_iload C 4 dX7_weigh_21 rfl ?_
      refine r_iadd C dX7_weigh_23 ?_
      obtain ⟨q, h⟩ := h
      refine r_iald C (isX7_A4 h_v0) q dX7_weigh_24 ?_
      refine r_i2l C dX7_weigh_25 ?_
      refine r_aload_n C 2 dX7_weigh_26 rfl rfl ?_
      refine gX7_83 C h_v2 dX7_weigh_27 ?_
      refine r_iload C 4 dX7_weigh_30 rfl ?_
      obtain ⟨q_2, h⟩ := h
      refine r_iald C (isX1_A3 h_v2) q_2 dX7_weigh_32 ?_
      refine r_i2l C dX7_weigh_33 ?_
      refine r_lmul C dX7_weigh_34 ?_
      refine r_ladd C dX7_weigh_35 ?_
      refine r_lstore_n C [(3, .long _), (0, .ref _), (1, .int _), (2, .ref _), (5, .int _)] dX7_weigh_36 rfl (by decide) rfl ?_
      replace h := h _ rfl
      refine r_iinc C 4 (v := _) [(5, .int _), (3, .long _), (0, .ref _), (1, .int _), (2, .ref _)] dX7_weigh_37 rfl rfl (by decide) rfl ?_
      refine r_goto C 5 dX7_weigh_40 (by decide) ?_
      exact r_sub [2, 3, 4, 1, 0] rfl (ih _ _ _ h)

def f_X7_weigh (v0 : Nat) (v1 : Int32) (v2 : Nat) (M : Mem) (K : Int64 → Mem → Prop) : Prop := ∀ x3 : Int64, x3 = (0 : Int64) → (∃ k5 : Nat, L_X7_weigh_5 v0 v1 v2 (fun (v3_2 : Int64) (M_2 : Mem) => K v3_2 M_2) K k5 x3 (0 : Int32) M)

set_option maxHeartbeats 1000000 in
set_option maxRecDepth 10000 in
theorem m_X7_weigh (l : Launch) {v0 : Nat} {v1 : Int32} {v2 : Nat} (h_v0 : isX7 v0) (h_v2 : isX1 v2) {M : Mem} {K : Int64 → Mem → Prop} (h : f_X7_weigh v0 v1 v2 M K) : CTl l yX7_weigh cX7_weigh 6 (some .long) rm_X7_weigh (fun ad => [.ref (ad v0), .int v1, .ref (ad v2)]) M K := by
  refine rw_entl (by decide +kernel) (fun ad => Nat.le_of_ble_eq_true rfl) (fun p e s m args below meth c D cy ad C => ?_)
  change rw_W p l e _ s m args below meth c D cy ad 6 0 0 _ 0 [(0, .ref (ad v0)), (1, .int v1), (2, .ref (ad v2))] [] M
  unfold f_X7_weigh at h
  refine r_lconst (v := (0 : Int64)) C dX7_weigh_0 rfl ?_
  refine r_lstore_n C [(3, .long _), (0, .ref _), (1, .int _), (2, .ref _)] dX7_weigh_1 rfl (by decide) rfl ?_
  replace h := h _ rfl
  refine r_iconst (v := (0 : Int32)) C dX7_weigh_2 rfl ?_
  refine r_istore C [(5, .int _), (3, .long _), (0, .ref _), (1, .int _), (2, .ref _)] dX7_weigh_3 (by decide) rfl ?_
  obtain ⟨n5, h⟩ := h
  refine r_sub [2, 3, 4, 1, 0] rfl (mL_X7_weigh_5 C h_v0 h_v2 (fun v3_2 M_2 h => ?_) n5 _ _ _ h)
  refine r_lload_n C 0 dX7_weigh_43 rfl rfl ?_
  exact r_lret C dX7_weigh_44 h
def L_X7_leastBound_7 (v0 : Nat) (v1 : Int32) (v2 : Nat) (X74 : Int64 → Mem → Prop) (K : Int64 → Mem → Prop) : Nat → Int64 → Int32 → Mem → Prop
  | 0, _, _, _ => False
  | n + 1, v3, v5, M => (((M.1 v0 5) ≤ v5 → X74 v3 M) ∧ (¬ (M.1 v0 5) ≤ v5 → vp_in ((v5 * (10 : Int32)) + v1) 2560 ∧ ∀ x6 : Int32, x6 = gI M (v0 + 4) ((v5 * (10 : Int32)) + v1) → ((x6 ≤ 0 → L_X7_leastBound_7 v0 v1 v2 X74 K n v3 (v5 + (1 : Int32)) M) ∧ (¬ x6 ≤ 0 → f_X7_weigh v0 v5 v2 M (fun (r : Int64) (M_2 : Mem) => (¬ x6.toInt64 = 0) ∧ ∀ x7 : Int64, x7 = r / x6.toInt64 → ((¬ v3 = (-1 : Int64) → ∀ x3_2 : Int64, x3_2 = (if x7 < v3 then x7 else v3) → L_X7_leastBound_7 v0 v1 v2 X74 K n x3_2 (v5 + (1 : Int32)) M_2) ∧ (v3 = (-1 : Int64) → L_X7_leastBound_7 v0 v1 v2 X74 K n x7 (v5 + (1 : Int32)) M_2)))))))

set_option maxHeartbeats 1000000 in
set_option maxRecDepth 10000 in
theorem mL_X7_leastBound_7 (C : rw_C p s m meth c cX7_leastBound 9 RX7 (some .long) D cy ad) {v0 : Nat} {v1 : Int32} {v2 : Nat} (h_v0 : isX7 v0) (h_v2 : isX1 v2) {X74 : Int64 → Mem → Prop} {K : Int64 → Mem → Prop} (hX74 : ∀ (u3 : Int64) (M : Mem), X74 u3 M → rw_W p l e rm_X7_leastBound s m args below meth c D cy ad 9 0 0 (rw_Ql below args s D cy ad K) 74 [(3, .long u3)] [] M) : ∀ (n : Nat) (v3 : Int64) (v5 : Int32) (M : Mem), L_X7_leastBound_7 v0 v1 v2 X74 K n v3 v5 M → rw_W p l e rm_X7_leastBound s m args below meth c D cy ad 9 0 0 (rw_Ql below args s D cy ad K) 7 [(0, .ref (ad v0)), (1, .int v1), (2, .ref (ad v2)), (3, .long v3), (5, .int v5)] [] M := by
  intro n
  induction n with
  | zero => intro v3 v5 M h; exact h.elim
  | succ n ih =>
    intro v3 v5 M h
    refine r_iload C 4 dX7_leastBound_7 rfl ?_
    refine r_aload_n C 0 dX7_leastBound_9 rfl rfl ?_
    refine gX7_25 C h_v0 dX7_leastBound_10 ?_
    refine r_icmp_ge C 74 dX7_leastBound_13 (by decide) (fun hc => ?_) (fun hc => ?_)
    · replace h := h.1 hc
      exact r_sub [3] rfl (hX74 _ _ h)
    · replace h := h.2 hc
      refine r_aload_n C 0 dX7_leastBound_16 rfl rfl ?_
      refine gX7_22 C h_v0 dX7_leastBound_17 ?_
      refine r_iload C 4 dX7_leastBound_20 rfl ?_
      refine r_bipush (v := (10 : Int32)) C dX7_leastBound_22 rfl ?_
      refine r_imul C dX7_leastBound_24 ?_
      refine r_iload_n C 1 dX7_leastBound_25 rfl rfl ?_
      refine r_iadd C dX7_leastBound_26 ?_
      obtain ⟨q, h⟩ := h
      refine r_iald C (isX7_A4 h_v0) q dX7_leastBound_27 ?_
      refine r_istore C [(6, .int _), (0, .ref _), (1, .int _), (2, .ref _), (3, .long _), (5, .int _)] dX7_leastBound_28 (by decide) rfl ?_
      replace h := h _ rfl
      refine r_iload C 0 dX7_leastBound_30 rfl ?_
      refine r_if_le C 68 dX7_leastBound_32 (by decide) (fun hc => ?_) (fun hc => ?_)
      · replace h := h.1 hc
        refine r_iinc C 5 (v := _) [(5, .int _), (6, .int _), (0, .ref _), (1, .int _), (2, .ref _), (3, .long _)] dX7_leastBound_68 rfl rfl (by decide) rfl ?_
        refine r_goto C 7 dX7_leastBound_71 (by decide) ?_
        exact r_sub [2, 3, 4, 5, 0] rfl (ih _ _ _ h)
      · replace h := h.2 hc
        refine r_aload_n C 1 dX7_leastBound_35 rfl rfl ?_
        refine r_iload C 5 dX7_leastBound_36 rfl ?_
        refine r_aload_n C 3 dX7_leastBound_38 rfl rfl ?_
        refine cX7_88 C h_v0 (m_X7_weigh l h_v0 h_v2 h) ⟨Nat.le_of_ble_eq_true rfl, Nat.le_of_ble_eq_true rfl⟩ (Nat.le_of_ble_eq_true rfl) ⟨Nat.le_refl 0, Nat.le_refl 0⟩ dX7_leastBound_39 (fun r M_2 h => ?_)
        refine r_iload C 0 dX7_leastBound_42 rfl ?_
        refine r_i2l C dX7_leastBound_44 ?_
        obtain ⟨q_2, h⟩ := h
        refine r_ldiv C dX7_leastBound_45 q_2 ?_
        refine r_lstore C [(7, .long _), (6, .int _), (0, .ref _), (1, .int _), (2, .ref _), (3, .long _), (5, .int _)] dX7_leastBound_46 (by decide) rfl ?_
        replace h := h _ rfl
        refine r_lload_n C 5 dX7_leastBound_48 rfl rfl ?_
        refine kX7_86 C dX7_leastBound_49 ?_
        refine r_lcmp C dX7_leastBound_52 ?_
        refine r_if_ne C 61 dX7_leastBound_53 (by decide) (fun hc => ?_) (fun hc => ?_)
        · replace h := h.1 (fun q9 => hc ((lg_cmp_eq _ _).mpr q9))
          refine r_lload_n C 5 dX7_leastBound_61 rfl rfl ?_
          refine r_lload C 0 dX7_leastBound_62 rfl ?_
          refine cX7_92 C ⟨Nat.le_of_ble_eq_true rfl, Nat.le_of_ble_eq_true rfl⟩ (Nat.le_refl 0) (Nat.le_refl 0) dX7_leastBound_64 ?_
          refine r_lstore_n C [(3, .long _), (7, .long _), (6, .int _), (0, .ref _), (1, .int _), (2, .ref _), (5, .int _)] dX7_leastBound_67 rfl (by decide) rfl ?_
          replace h := h _ rfl
          refine r_iinc C 6 (v := _) [(5, .int _), (3, .long _), (7, .long _), (6, .int _), (0, .ref _), (1, .int _), (2, .ref _)] dX7_leastBound_68 rfl rfl (by decide) rfl ?_
          refine r_goto C 7 dX7_leastBound_71 (by decide) ?_
          exact r_sub [4, 5, 6, 1, 0] rfl (ih _ _ _ h)
        · replace h := h.2 ((lg_cmp_eq _ _).mp hc)
          refine r_lload C 0 dX7_leastBound_56 rfl ?_
          refine r_goto C 67 dX7_leastBound_58 (by decide) ?_
          refine r_lstore_n C [(3, .long _), (7, .long _), (6, .int _), (0, .ref _), (1, .int _), (2, .ref _), (5, .int _)] dX7_leastBound_67 rfl (by decide) rfl ?_
          refine r_iinc C 6 (v := _) [(5, .int _), (3, .long _), (7, .long _), (6, .int _), (0, .ref _), (1, .int _), (2, .ref _)] dX7_leastBound_68 rfl rfl (by decide) rfl ?_
          refine r_goto C 7 dX7_leastBound_71 (by decide) ?_
          exact r_sub [4, 5, 6, 1, 0] rfl (ih _ _ _ h)

def f_X7_leastBound (v0 : Nat) (v1 : Int32) (v2 : Nat) (M : Mem) (K : Int64 → Mem → Prop) : Prop := ∀ x3 : Int64, x3 = (-1 : Int64) → (∃ k7 : Nat, L_X7_leastBound_7 v0 v1 v2 (fun (v3_2 : Int64) (M_3 : Mem) => K v3_2 M_3) K k7 x3 (0 : Int32) M)

set_option maxHeartbeats 1000000 in
set_option maxRecDepth 10000 in
theorem m_X7_leastBound (l : Launch) {v0 : Nat} {v1 : Int32} {v2 : Nat} (h_v0 : isX7 v0) (h_v2 : isX1 v2) {M : Mem} {K : Int64 → Mem → Prop} (h : f_X7_leastBound v0 v1 v2 M K) : CTl l yX7_leastBound cX7_leastBound 9 (some .long) rm_X7_leastBound (fun ad => [.ref (ad v0), .int v1, .ref (ad v2)]) M K := by
  refine rw_entl (by decide +kernel) (fun ad => Nat.le_of_ble_eq_true rfl) (fun p e s m args below meth c D cy ad C => ?_)
  change rw_W p l e _ s m args below meth c D cy ad 9 0 0 _ 0 [(0, .ref (ad v0)), (1, .int v1), (2, .ref (ad v2))] [] M
  unfold f_X7_leastBound at h
  refine kX7_86 C dX7_leastBound_0 ?_
  refine r_lstore_n C [(3, .long _), (0, .ref _), (1, .int _), (2, .ref _)] dX7_leastBound_3 rfl (by decide) rfl ?_
  replace h := h _ rfl
  refine r_iconst (v := (0 : Int32)) C dX7_leastBound_4 rfl ?_
  refine r_istore C [(5, .int _), (3, .long _), (0, .ref _), (1, .int _), (2, .ref _)] dX7_leastBound_5 (by decide) rfl ?_
  obtain ⟨n7, h⟩ := h
  refine r_sub [2, 3, 4, 1, 0] rfl (mL_X7_leastBound_7 C h_v0 h_v2 (fun v3_2 M_3 h => ?_) n7 _ _ _ h)
  refine r_lload_n C 0 dX7_leastBound_74 rfl rfl ?_
  exact r_lret C dX7_leastBound_75 h
def f_X8_feed (v1 : Int32) (v2 : Int32) (v3 : Int32) (v4 : Int32) (v5 : Int32) (M : Mem) (K : Int32 → Mem → Prop) : Prop := ((((M.1 42 3) + (20 : Int32)) ≤ (900 : Int32) → f_X4_append v1 M (fun (M_2 : Mem) => f_X4_append v2 M_2 (fun (M_3 : Mem) => f_X4_append v3 M_3 (fun (M_4 : Mem) => f_X4_append v4 M_4 (fun (M_5 : Mem) => f_X4_append v5 M_5 (fun (M_6 : Mem) => K (M_6.1 42 3) M_6)))))) ∧ (¬ ((M.1 42 3) + (20 : Int32)) ≤ (900 : Int32) → K (-1 : Int32) M))

set_option maxHeartbeats 1000000 in
set_option maxRecDepth 10000 in
theorem m_X8_feed (l : Launch) {v1 : Int32} {v2 : Int32} {v3 : Int32} {v4 : Int32} {v5 : Int32}  {M : Mem} {K : Int32 → Mem → Prop} (h : f_X8_feed v1 v2 v3 v4 v5 M K) : CTi l yX8_feed cX8_feed 6 (some .int) rm_X8_feed (fun ad => [.ref (ad 41), .int v1, .int v2, .int v3, .int v4, .int v5]) M K := by
  refine rw_enti (by decide +kernel) (fun ad => Nat.le_of_ble_eq_true rfl) (fun p e s m args below meth c D cy ad C => ?_)
  change rw_W p l e _ s m args below meth c D cy ad 6 0 0 _ 0 [(0, .ref (ad 41)), (1, .int v1), (2, .int v2), (3, .int v3), (4, .int v4), (5, .int v5)] [] M
  unfold f_X8_feed at h
  refine r_aload_n C 0 dX8_feed_0 rfl rfl ?_
  refine gX8_12 C dX8_feed_1 ?_
  refine gX8_83 C dX8_feed_4 ?_
  refine r_bipush (v := (20 : Int32)) C dX8_feed_7 rfl ?_
  refine r_iadd C dX8_feed_9 ?_
  refine r_sipush (v := (900 : Int32)) C dX8_feed_10 rfl ?_
  refine r_icmp_le C 18 dX8_feed_13 (by decide) (fun hc => ?_) (fun hc => ?_)
  · replace h := h.1 hc
    refine r_aload_n C 0 dX8_feed_18 rfl rfl ?_
    refine gX8_12 C dX8_feed_19 ?_
    refine r_iload_n C 1 dX8_feed_22 rfl rfl ?_
    refine cX8_86 C (m_X4_append l h) ⟨Nat.le_of_ble_eq_true rfl, Nat.le_of_ble_eq_true rfl⟩ (Nat.le_of_ble_eq_true rfl) ⟨Nat.le_refl 0, Nat.le_refl 0⟩ dX8_feed_23 (fun M_2 h => ?_)
    refine r_aload_n C 0 dX8_feed_26 rfl rfl ?_
    refine gX8_12 C dX8_feed_27 ?_
    refine r_iload_n C 2 dX8_feed_30 rfl rfl ?_
    refine cX8_86 C (m_X4_append l h) ⟨Nat.le_of_ble_eq_true rfl, Nat.le_of_ble_eq_true rfl⟩ (Nat.le_of_ble_eq_true rfl) ⟨Nat.le_refl 0, Nat.le_refl 0⟩ dX8_feed_31 (fun M_3 h => ?_)
    refine r_aload_n C 0 dX8_feed_34 rfl rfl ?_
    refine gX8_12 C dX8_feed_35 ?_
    refine r_iload_n C 3 dX8_feed_38 rfl rfl ?_
    refine cX8_86 C (m_X4_append l h) ⟨Nat.le_of_ble_eq_true rfl, Nat.le_of_ble_eq_true rfl⟩ (Nat.le_of_ble_eq_true rfl) ⟨Nat.le_refl 0, Nat.le_refl 0⟩ dX8_feed_39 (fun M_4 h => ?_)
    refine r_aload_n C 0 dX8_feed_42 rfl rfl ?_
    refine gX8_12 C dX8_feed_43 ?_
    refine r_iload C 4 dX8_feed_46 rfl ?_
    refine cX8_86 C (m_X4_append l h) ⟨Nat.le_of_ble_eq_true rfl, Nat.le_of_ble_eq_true rfl⟩ (Nat.le_of_ble_eq_true rfl) ⟨Nat.le_refl 0, Nat.le_refl 0⟩ dX8_feed_48 (fun M_5 h => ?_)
    refine r_aload_n C 0 dX8_feed_51 rfl rfl ?_
    refine gX8_12 C dX8_feed_52 ?_
    refine r_iload C 5 dX8_feed_55 rfl ?_
    refine cX8_86 C (m_X4_append l h) ⟨Nat.le_of_ble_eq_true rfl, Nat.le_of_ble_eq_true rfl⟩ (Nat.le_of_ble_eq_true rfl) ⟨Nat.le_refl 0, Nat.le_refl 0⟩ dX8_feed_57 (fun M_6 h => ?_)
    refine r_aload_n C 0 dX8_feed_60 rfl rfl ?_
    refine gX8_12 C dX8_feed_61 ?_
    refine gX8_83 C dX8_feed_64 ?_
    exact r_iret C dX8_feed_67 h
  · replace h := h.2 hc
    refine r_iconst (v := (-1 : Int32)) C dX8_feed_16 rfl ?_
    exact r_iret C dX8_feed_17 h
def f_X8_end (v1 : Int32) (M : Mem) (K : Int32 → Mem → Prop) : Prop := ((v1 < 0 → K (-1 : Int32) M) ∧ (¬ v1 < 0 → ((v1 ≤ (M.1 42 3) → ∀ M_2 : Mem, M_2 = wI M 42 3 v1 → K v1 M_2) ∧ (¬ v1 ≤ (M.1 42 3) → K (-1 : Int32) M))))

set_option maxHeartbeats 1000000 in
set_option maxRecDepth 10000 in
theorem m_X8_end (l : Launch) {v1 : Int32}  {M : Mem} {K : Int32 → Mem → Prop} (h : f_X8_end v1 M K) : CTi l yX8_end cX8_end 2 (some .int) rm_X8_end (fun ad => [.ref (ad 41), .int v1]) M K := by
  refine rw_enti (by decide +kernel) (fun ad => Nat.le_of_ble_eq_true rfl) (fun p e s m args below meth c D cy ad C => ?_)
  change rw_W p l e _ s m args below meth c D cy ad 2 0 0 _ 0 [(0, .ref (ad 41)), (1, .int v1)] [] M
  unfold f_X8_end at h
  refine r_iload_n C 1 dX8_end_0 rfl rfl ?_
  refine r_if_lt C 15 dX8_end_1 (by decide) (fun hc => ?_) (fun hc => ?_)
  · replace h := h.1 hc
    refine r_iconst (v := (-1 : Int32)) C dX8_end_15 rfl ?_
    exact r_iret C dX8_end_16 h
  · replace h := h.2 hc
    refine r_iload_n C 1 dX8_end_4 rfl rfl ?_
    refine r_aload_n C 0 dX8_end_5 rfl rfl ?_
    refine gX8_12 C dX8_end_6 ?_
    refine gX8_83 C dX8_end_9 ?_
    refine r_icmp_le C 17 dX8_end_12 (by decide) (fun hc => ?_) (fun hc => ?_)
    · replace h := h.1 hc
      refine r_aload_n C 0 dX8_end_17 rfl rfl ?_
      refine gX8_12 C dX8_end_18 ?_
      refine r_iload_n C 1 dX8_end_21 rfl rfl ?_
      refine pX8_83 C dX8_end_22 ?_
      replace h := h _ rfl
      refine r_iload_n C 1 dX8_end_25 rfl rfl ?_
      exact r_iret C dX8_end_26 h
    · replace h := h.2 hc
      refine r_iconst (v := (-1 : Int32)) C dX8_end_15 rfl ?_
      exact r_iret C dX8_end_16 h
def f_X8_newState (M : Mem) (K : Mem → Prop) : Prop := ∀ M_2 : Mem, M_2 = wI M 41 12 ((M.1 41 12) + (1 : Int32)) → ∀ M_3 : Mem, M_3 = wI M_2 50 8 (M_2.1 41 12) → K M_3

set_option maxHeartbeats 1000000 in
set_option maxRecDepth 10000 in
theorem m_X8_newState (l : Launch)   {M : Mem} {K : Mem → Prop} (h : f_X8_newState M K) : CTv l yX8_newState cX8_newState 1 none rm_X8_newState (fun ad => [.ref (ad 41)]) M K := by
  refine rw_entv (by decide +kernel) (fun ad => Nat.le_of_ble_eq_true rfl) (fun p e s m args below meth c D cy ad C => ?_)
  change rw_W p l e _ s m args below meth c D cy ad 1 0 0 _ 0 [(0, .ref (ad 41))] [] M
  unfold f_X8_newState at h
  refine r_aload_n C 0 dX8_newState_0 rfl rfl ?_
  refine r_dup C dX8_newState_1 rfl ?_
  refine gX8_79 C dX8_newState_2 ?_
  refine r_iconst (v := (1 : Int32)) C dX8_newState_5 rfl ?_
  refine r_iadd C dX8_newState_6 ?_
  refine pX8_79 C dX8_newState_7 ?_
  replace h := h _ rfl
  refine r_aload_n C 0 dX8_newState_10 rfl rfl ?_
  refine gX8_23 C dX8_newState_11 ?_
  refine r_aload_n C 0 dX8_newState_14 rfl rfl ?_
  refine gX8_79 C dX8_newState_15 ?_
  refine pX8_349 C isX1_50 dX8_newState_18 ?_
  replace h := h _ rfl
  exact r_vret C dX8_newState_21 h
def f_X8_newForm (M : Mem) (K : Mem → Prop) : Prop := f_X8_newState  M (fun (M_2 : Mem) => ∀ M_3 : Mem, M_3 = wI M_2 50 7 (M_2.1 50 8) → K M_3)

set_option maxHeartbeats 1000000 in
set_option maxRecDepth 10000 in
theorem m_X8_newForm (l : Launch)   {M : Mem} {K : Mem → Prop} (h : f_X8_newForm M K) : CTv l yX8_newForm cX8_newForm 1 none rm_X8_newForm (fun ad => [.ref (ad 41)]) M K := by
  refine rw_entv (by decide +kernel) (fun ad => Nat.le_of_ble_eq_true rfl) (fun p e s m args below meth c D cy ad C => ?_)
  change rw_W p l e _ s m args below meth c D cy ad 1 0 0 _ 0 [(0, .ref (ad 41))] [] M
  unfold f_X8_newForm at h
  refine r_aload_n C 0 dX8_newForm_0 rfl rfl ?_
  refine cX8_183 C (m_X8_newState l h) ⟨Nat.le_of_ble_eq_true rfl, Nat.le_of_ble_eq_true rfl⟩ (Nat.le_of_ble_eq_true rfl) ⟨Nat.le_refl 0, Nat.le_refl 0⟩ dX8_newForm_1 (fun M_2 h => ?_)
  refine r_aload_n C 0 dX8_newForm_4 rfl rfl ?_
  refine gX8_23 C dX8_newForm_5 ?_
  refine r_aload_n C 0 dX8_newForm_8 rfl rfl ?_
  refine gX8_23 C dX8_newForm_9 ?_
  refine gX8_349 C isX1_50 dX8_newForm_12 ?_
  refine pX8_352 C isX1_50 dX8_newForm_15 ?_
  replace h := h _ rfl
  exact r_vret C dX8_newForm_18 h
def f_X8_net (M : Mem) (K : Int32 → Mem → Prop) : Prop := f_X4_readInto 46 M (fun (r : Int32) (M_2 : Mem) => ∀ M_3 : Mem, M_3 = wI M_2 42 3 (0 : Int32) → ((¬ r = 0 → f_X1_copyFrom 50 46 M_3 (fun (M_4 : Mem) => f_X8_newForm  M_4 (fun (M_5 : Mem) => f_X6_forgetAims  M_5 (fun (M_6 : Mem) => f_X2_forget  M_6 (fun (M_7 : Mem) => f_J6_bitCount_0f7a4 (M_7.1 50 5) M_7 (fun (r_6 : Int32) (M_8 : Mem) => K r_6 M_8)))))) ∧ (r = 0 → K (-1 : Int32) M_3)))

set_option maxHeartbeats 1000000 in
set_option maxRecDepth 10000 in
theorem m_X8_net (l : Launch)   {M : Mem} {K : Int32 → Mem → Prop} (h : f_X8_net M K) : CTi l yX8_net cX8_net 2 (some .int) rm_X8_net (fun ad => [.ref (ad 41)]) M K := by
  refine rw_enti (by decide +kernel) (fun ad => Nat.le_of_ble_eq_true rfl) (fun p e s m args below meth c D cy ad C => ?_)
  change rw_W p l e _ s m args below meth c D cy ad 2 0 0 _ 0 [(0, .ref (ad 41))] [] M
  unfold f_X8_net at h
  refine r_aload_n C 0 dX8_net_0 rfl rfl ?_
  refine gX8_12 C dX8_net_1 ?_
  refine r_aload_n C 0 dX8_net_4 rfl rfl ?_
  refine gX8_19 C dX8_net_5 ?_
  refine cX8_90 C (m_X4_readInto l isX1_46 h) ⟨Nat.le_of_ble_eq_true rfl, Nat.le_of_ble_eq_true rfl⟩ (Nat.le_of_ble_eq_true rfl) ⟨Nat.le_refl 0, Nat.le_refl 0⟩ dX8_net_8 (fun r M_2 h => ?_)
  refine r_istore_n C [(1, .int _), (0, .ref _)] dX8_net_11 rfl (by decide) rfl ?_
  refine r_aload_n C 1 dX8_net_12 rfl rfl ?_
  refine gX8_12 C dX8_net_13 ?_
  refine r_iconst (v := (0 : Int32)) C dX8_net_16 rfl ?_
  refine pX8_83 C dX8_net_17 ?_
  replace h := h _ rfl
  refine r_iload_n C 0 dX8_net_20 rfl rfl ?_
  refine r_if_ne C 26 dX8_net_21 (by decide) (fun hc => ?_) (fun hc => ?_)
  · replace h := h.1 hc
    refine r_aload_n C 1 dX8_net_26 rfl rfl ?_
    refine gX8_23 C dX8_net_27 ?_
    refine r_aload_n C 1 dX8_net_30 rfl rfl ?_
    refine gX8_19 C dX8_net_31 ?_
    refine cX8_94 C isX1_50 (m_X1_copyFrom l isX1_50 isX1_46 h) ⟨Nat.le_of_ble_eq_true rfl, Nat.le_of_ble_eq_true rfl⟩ (Nat.le_of_ble_eq_true rfl) ⟨Nat.le_refl 0, Nat.le_refl 0⟩ dX8_net_34 (fun M_4 h => ?_)
    refine r_aload_n C 1 dX8_net_37 rfl rfl ?_
    refine cX8_98 C (m_X8_newForm l h) ⟨Nat.le_of_ble_eq_true rfl, Nat.le_of_ble_eq_true rfl⟩ (Nat.le_of_ble_eq_true rfl) ⟨Nat.le_refl 0, Nat.le_refl 0⟩ dX8_net_38 (fun M_5 h => ?_)
    refine r_aload_n C 1 dX8_net_41 rfl rfl ?_
    refine gX8_58 C dX8_net_42 ?_
    refine cX8_101 C (m_X6_forgetAims l h) ⟨Nat.le_of_ble_eq_true rfl, Nat.le_of_ble_eq_true rfl⟩ (Nat.le_of_ble_eq_true rfl) ⟨Nat.le_refl 0, Nat.le_refl 0⟩ dX8_net_45 (fun M_6 h => ?_)
    refine r_aload_n C 1 dX8_net_48 rfl rfl ?_
    refine gX8_29 C dX8_net_49 ?_
    refine cX8_104 C (m_X2_forget l h) ⟨Nat.le_of_ble_eq_true rfl, Nat.le_of_ble_eq_true rfl⟩ (Nat.le_of_ble_eq_true rfl) ⟨Nat.le_refl 0, Nat.le_refl 0⟩ dX8_net_52 (fun M_7 h => ?_)
    refine r_aload_n C 1 dX8_net_55 rfl rfl ?_
    refine gX8_23 C dX8_net_56 ?_
    refine gX8_107 C isX1_50 dX8_net_59 ?_
    refine cX8_110 C (m_J6_bitCount_0f7a4 l h) ⟨Nat.le_of_ble_eq_true rfl, Nat.le_of_ble_eq_true rfl⟩ (Nat.le_of_ble_eq_true rfl) ⟨Nat.le_refl 0, Nat.le_refl 0⟩ dX8_net_62 (fun r_6 M_8 h => ?_)
    exact r_iret C dX8_net_65 h
  · replace h := h.2 hc
    refine r_iconst (v := (-1 : Int32)) C dX8_net_24 rfl ?_
    exact r_iret C dX8_net_25 h
def f_X8_fault (v1 : Int32) (M : Mem) (K : Int32 → Mem → Prop) : Prop := ((v1 = (0 : Int32) → K (M.1 42 4) M) ∧ (v1 = (1 : Int32) → K (M.1 42 5) M) ∧ (¬ v1 = (0 : Int32) → ¬ v1 = (1 : Int32) → K (-1 : Int32) M))

set_option maxHeartbeats 1000000 in
set_option maxRecDepth 10000 in
theorem m_X8_fault (l : Launch) {v1 : Int32}  {M : Mem} {K : Int32 → Mem → Prop} (h : f_X8_fault v1 M K) : CTi l yX8_fault cX8_fault 2 (some .int) rm_X8_fault (fun ad => [.ref (ad 41), .int v1]) M K := by
  refine rw_enti (by decide +kernel) (fun ad => Nat.le_of_ble_eq_true rfl) (fun p e s m args below meth c D cy ad C => ?_)
  change rw_W p l e _ s m args below meth c D cy ad 2 0 0 _ 0 [(0, .ref (ad 41)), (1, .int v1)] [] M
  unfold f_X8_fault at h
  refine r_iload_n C 1 dX8_fault_0 rfl rfl ?_
  refine r_cases (0 : Int32) (fun hc0 => ?_) (fun hc0 => ?_)
  · refine r_look C 28 dX8_fault_1 (off := 27) (by decide) (by rw [hc0]; decide) (by decide) ?_
    replace h := h.1 hc0
    refine r_aload_n C 0 dX8_fault_28 rfl rfl ?_
    refine gX8_12 C dX8_fault_29 ?_
    refine gX8_116 C dX8_fault_32 ?_
    exact r_iret C dX8_fault_35 h
  ·
    refine r_cases (1 : Int32) (fun hc1 => ?_) (fun hc1 => ?_)
    · refine r_look C 36 dX8_fault_1 (off := 35) (by decide) (by rw [hc1]; decide) (by decide) ?_
      replace h := h.2.1 hc1
      refine r_aload_n C 0 dX8_fault_36 rfl rfl ?_
      refine gX8_12 C dX8_fault_37 ?_
      refine gX8_119 C dX8_fault_40 ?_
      exact r_iret C dX8_fault_43 h
    ·
      refine r_look C 44 dX8_fault_1 (off := 43) (by decide) (by exact look_dflt _ _ _ (fun q hq => by simp only [List.mem_cons, List.not_mem_nil, or_false] at hq; rcases hq with rfl | rfl <;> intro h9 <;> first | exact hc0 (Int32.toInt_inj.mp (h9.trans (by decide))) | exact hc1 (Int32.toInt_inj.mp (h9.trans (by decide))))) (by decide) ?_
      replace h := h.2.2 hc0 hc1
      refine r_iconst (v := (-1 : Int32)) C dX8_fault_44 rfl ?_
      exact r_iret C dX8_fault_45 h
def f_X8_about (v1 : Int32) (M : Mem) (K : Int32 → Mem → Prop) : Prop := ((v1 = (0 : Int32) → f_J6_bitCount_0f7a4 (M.1 50 5) M (fun (r : Int32) (M_2 : Mem) => K r M_2)) ∧ (v1 = (1 : Int32) → f_J6_bitCount_0f7a4 (M.1 50 6) M (fun (r_2 : Int32) (M_3 : Mem) => K r_2 M_3)) ∧ (v1 = (2 : Int32) → K (M.1 50 5) M) ∧ (v1 = (3 : Int32) → K (M.1 50 6) M) ∧ (v1 = (4 : Int32) → f_X1_allTokens 50 M (fun (r_3 : Int32) (M_4 : Mem) => K r_3 M_4)) ∧ (v1 = (5 : Int32) → K (M.1 54 2) M) ∧ (v1 = (6 : Int32) → K (M.1 42 3) M) ∧ (v1 = (7 : Int32) → f_X7_rankOf 104 50 M (fun (r_4 : Int32) (M_5 : Mem) => K r_4 M_5)) ∧ (¬ v1 = (0 : Int32) → ¬ v1 = (1 : Int32) → ¬ v1 = (2 : Int32) → ¬ v1 = (3 : Int32) → ¬ v1 = (4 : Int32) → ¬ v1 = (5 : Int32) → ¬ v1 = (6 : Int32) → ¬ v1 = (7 : Int32) → K (-1 : Int32) M))

set_option maxHeartbeats 1000000 in
set_option maxRecDepth 10000 in
theorem m_X8_about (l : Launch) {v1 : Int32}  {M : Mem} {K : Int32 → Mem → Prop} (h : f_X8_about v1 M K) : CTi l yX8_about cX8_about 2 (some .int) rm_X8_about (fun ad => [.ref (ad 41), .int v1]) M K := by
  refine rw_enti (by decide +kernel) (fun ad => Nat.le_of_ble_eq_true rfl) (fun p e s m args below meth c D cy ad C => ?_)
  change rw_W p l e _ s m args below meth c D cy ad 2 0 0 _ 0 [(0, .ref (ad 41)), (1, .int v1)] [] M
  unfold f_X8_about at h
  refine r_iload_n C 1 dX8_about_0 rfl rfl ?_
  refine r_cases (0 : Int32) (fun hc0 => ?_) (fun hc0 => ?_)
  · refine r_tabIn C 48 dX8_about_1 (off := 47) (by rw [hc0]; decide) (by rw [hc0]; decide) (by rw [hc0]; rfl) (by decide) ?_
    replace h := h.1 hc0
    refine r_aload_n C 0 dX8_about_48 rfl rfl ?_
    refine gX8_23 C dX8_about_49 ?_
    refine gX8_107 C isX1_50 dX8_about_52 ?_
    refine cX8_110 C (m_J6_bitCount_0f7a4 l h) ⟨Nat.le_of_ble_eq_true rfl, Nat.le_of_ble_eq_true rfl⟩ (Nat.le_of_ble_eq_true rfl) ⟨Nat.le_refl 0, Nat.le_refl 0⟩ dX8_about_55 (fun r M_2 h => ?_)
    exact r_iret C dX8_about_58 h
  ·
    refine r_cases (1 : Int32) (fun hc1 => ?_) (fun hc1 => ?_)
    · refine r_tabIn C 59 dX8_about_1 (off := 58) (by rw [hc1]; decide) (by rw [hc1]; decide) (by rw [hc1]; rfl) (by decide) ?_
      replace h := h.2.1 hc1
      refine r_aload_n C 0 dX8_about_59 rfl rfl ?_
      refine gX8_23 C dX8_about_60 ?_
      refine gX8_122 C isX1_50 dX8_about_63 ?_
      refine cX8_110 C (m_J6_bitCount_0f7a4 l h) ⟨Nat.le_of_ble_eq_true rfl, Nat.le_of_ble_eq_true rfl⟩ (Nat.le_of_ble_eq_true rfl) ⟨Nat.le_refl 0, Nat.le_refl 0⟩ dX8_about_66 (fun r_2 M_3 h => ?_)
      exact r_iret C dX8_about_69 h
    ·
      refine r_cases (2 : Int32) (fun hc2 => ?_) (fun hc2 => ?_)
      · refine r_tabIn C 70 dX8_about_1 (off := 69) (by rw [hc2]; decide) (by rw [hc2]; decide) (by rw [hc2]; rfl) (by decide) ?_
        replace h := h.2.2.1 hc2
        refine r_aload_n C 0 dX8_about_70 rfl rfl ?_
        refine gX8_23 C dX8_about_71 ?_
        refine gX8_107 C isX1_50 dX8_about_74 ?_
        exact r_iret C dX8_about_77 h
      ·
        refine r_cases (3 : Int32) (fun hc3 => ?_) (fun hc3 => ?_)
        · refine r_tabIn C 78 dX8_about_1 (off := 77) (by rw [hc3]; decide) (by rw [hc3]; decide) (by rw [hc3]; rfl) (by decide) ?_
          replace h := h.2.2.2.1 hc3
          refine r_aload_n C 0 dX8_about_78 rfl rfl ?_
          refine gX8_23 C dX8_about_79 ?_
          refine gX8_122 C isX1_50 dX8_about_82 ?_
          exact r_iret C dX8_about_85 h
        ·
          refine r_cases (4 : Int32) (fun hc4 => ?_) (fun hc4 => ?_)
          · refine r_tabIn C 86 dX8_about_1 (off := 85) (by rw [hc4]; decide) (by rw [hc4]; decide) (by rw [hc4]; rfl) (by decide) ?_
            replace h := h.2.2.2.2.1 hc4
            refine r_aload_n C 0 dX8_about_86 rfl rfl ?_
            refine gX8_23 C dX8_about_87 ?_
            refine cX8_125 C isX1_50 (m_X1_allTokens l isX1_50 h) ⟨Nat.le_of_ble_eq_true rfl, Nat.le_of_ble_eq_true rfl⟩ (Nat.le_of_ble_eq_true rfl) ⟨Nat.le_refl 0, Nat.le_refl 0⟩ dX8_about_90 (fun r_3 M_4 h => ?_)
            exact r_iret C dX8_about_93 h
          ·
            refine r_cases (5 : Int32) (fun hc5 => ?_) (fun hc5 => ?_)
            · refine r_tabIn C 94 dX8_about_1 (off := 93) (by rw [hc5]; decide) (by rw [hc5]; decide) (by rw [hc5]; rfl) (by decide) ?_
              replace h := h.2.2.2.2.2.1 hc5
              refine r_aload_n C 0 dX8_about_94 rfl rfl ?_
              refine gX8_29 C dX8_about_95 ?_
              refine gX8_129 C dX8_about_98 ?_
              exact r_iret C dX8_about_101 h
            ·
              refine r_cases (6 : Int32) (fun hc6 => ?_) (fun hc6 => ?_)
              · refine r_tabIn C 102 dX8_about_1 (off := 101) (by rw [hc6]; decide) (by rw [hc6]; decide) (by rw [hc6]; rfl) (by decide) ?_
                replace h := h.2.2.2.2.2.2.1 hc6
                refine r_aload_n C 0 dX8_about_102 rfl rfl ?_
                refine gX8_12 C dX8_about_103 ?_
                refine gX8_83 C dX8_about_106 ?_
                exact r_iret C dX8_about_109 h
              ·
                refine r_cases (7 : Int32) (fun hc7 => ?_) (fun hc7 => ?_)
                · refine r_tabIn C 110 dX8_about_1 (off := 109) (by rw [hc7]; decide) (by rw [hc7]; decide) (by rw [hc7]; rfl) (by decide) ?_
                  replace h := h.2.2.2.2.2.2.2.1 hc7
                  refine r_aload_n C 0 dX8_about_110 rfl rfl ?_
                  refine gX8_38 C dX8_about_111 ?_
                  refine r_aload_n C 0 dX8_about_114 rfl rfl ?_
                  refine gX8_23 C dX8_about_115 ?_
                  refine cX8_132 C isX7_104 (m_X7_rankOf l isX7_104 isX1_50 h) ⟨Nat.le_of_ble_eq_true rfl, Nat.le_of_ble_eq_true rfl⟩ (Nat.le_of_ble_eq_true rfl) ⟨Nat.le_refl 0, Nat.le_refl 0⟩ dX8_about_118 (fun r_4 M_5 h => ?_)
                  exact r_iret C dX8_about_121 h
                ·
                  refine r_tabOut C 122 dX8_about_1 (tab_dflt 8 (fun j hj => by rcases (show j = 0 ∨ j = 1 ∨ j = 2 ∨ j = 3 ∨ j = 4 ∨ j = 5 ∨ j = 6 ∨ j = 7 by omega) with rfl | rfl | rfl | rfl | rfl | rfl | rfl | rfl <;> assumption) (by decide) (by decide)) (by decide) ?_
                  replace h := h.2.2.2.2.2.2.2.2 hc0 hc1 hc2 hc3 hc4 hc5 hc6 hc7
                  refine r_iconst (v := (-1 : Int32)) C dX8_about_122 rfl ?_
                  exact r_iret C dX8_about_123 h
def f_X8_arc (v1 : Int32) (v2 : Int32) (v3 : Int32) (M : Mem) (K : Int32 → Mem → Prop) : Prop := f_X1_hasStep 50 v1 M (fun (r : Int32) (M_2 : Mem) => ((r = 0 → K (-2147483648 : Int32) M_2) ∧ (¬ r = 0 → f_X1_hasPlace 50 v2 M_2 (fun (r_2 : Int32) (M_3 : Mem) => ((¬ r_2 = 0 → ((v3 = (0 : Int32) → vp_in ((v1 * (10 : Int32)) + v2) 80 ∧ K (gI M_3 51 ((v1 * (10 : Int32)) + v2)) M_3) ∧ (v3 = (1 : Int32) → vp_in ((v1 * (10 : Int32)) + v2) 80 ∧ K (gI M_3 52 ((v1 * (10 : Int32)) + v2)) M_3) ∧ (v3 = (2 : Int32) → f_X1_change 50 v1 v2 M_3 (fun (r_3 : Int32) (M_4 : Mem) => K r_3 M_4)) ∧ (¬ v3 = (0 : Int32) → ¬ v3 = (1 : Int32) → ¬ v3 = (2 : Int32) → K (-2147483648 : Int32) M_3))) ∧ (r_2 = 0 → K (-2147483648 : Int32) M_3))))))

set_option maxHeartbeats 1000000 in
set_option maxRecDepth 10000 in
theorem m_X8_arc (l : Launch) {v1 : Int32} {v2 : Int32} {v3 : Int32}  {M : Mem} {K : Int32 → Mem → Prop} (h : f_X8_arc v1 v2 v3 M K) : CTi l yX8_arc cX8_arc 4 (some .int) rm_X8_arc (fun ad => [.ref (ad 41), .int v1, .int v2, .int v3]) M K := by
  refine rw_enti (by decide +kernel) (fun ad => Nat.le_of_ble_eq_true rfl) (fun p e s m args below meth c D cy ad C => ?_)
  change rw_W p l e _ s m args below meth c D cy ad 4 0 0 _ 0 [(0, .ref (ad 41)), (1, .int v1), (2, .int v2), (3, .int v3)] [] M
  unfold f_X8_arc at h
  refine r_aload_n C 0 dX8_arc_0 rfl rfl ?_
  refine gX8_23 C dX8_arc_1 ?_
  refine r_iload_n C 1 dX8_arc_4 rfl rfl ?_
  refine cX8_136 C isX1_50 (m_X1_hasStep l isX1_50 h) ⟨Nat.le_of_ble_eq_true rfl, Nat.le_of_ble_eq_true rfl⟩ (Nat.le_of_ble_eq_true rfl) ⟨Nat.le_refl 0, Nat.le_refl 0⟩ dX8_arc_5 (fun r M_2 h => ?_)
  refine r_if_eq C 22 dX8_arc_8 (by decide) (fun hc => ?_) (fun hc => ?_)
  · replace h := h.1 hc
    refine kX8_143 C dX8_arc_22 ?_
    exact r_iret C dX8_arc_24 h
  · replace h := h.2 hc
    refine r_aload_n C 0 dX8_arc_11 rfl rfl ?_
    refine gX8_23 C dX8_arc_12 ?_
    refine r_iload_n C 2 dX8_arc_15 rfl rfl ?_
    refine cX8_140 C isX1_50 (m_X1_hasPlace l isX1_50 h) ⟨Nat.le_of_ble_eq_true rfl, Nat.le_of_ble_eq_true rfl⟩ (Nat.le_of_ble_eq_true rfl) ⟨Nat.le_refl 0, Nat.le_refl 0⟩ dX8_arc_16 (fun r_2 M_3 h => ?_)
    refine r_if_ne C 25 dX8_arc_19 (by decide) (fun hc => ?_) (fun hc => ?_)
    · replace h := h.1 hc
      refine r_iload_n C 3 dX8_arc_25 rfl rfl ?_
      refine r_cases (0 : Int32) (fun hc0 => ?_) (fun hc0 => ?_)
      · refine r_tabIn C 52 dX8_arc_26 (off := 26) (by rw [hc0]; decide) (by rw [hc0]; decide) (by rw [hc0]; rfl) (by decide) ?_
        replace h := h.1 hc0
        refine r_aload_n C 0 dX8_arc_52 rfl rfl ?_
        refine gX8_23 C dX8_arc_53 ?_
        refine gX8_144 C isX1_50 dX8_arc_56 ?_
        refine r_iload_n C 1 dX8_arc_59 rfl rfl ?_
        refine r_bipush (v := (10 : Int32)) C dX8_arc_60 rfl ?_
        refine r_imul C dX8_arc_62 ?_
        refine r_iload_n C 2 dX8_arc_63 rfl rfl ?_
        refine r_iadd C dX8_arc_64 ?_
        obtain ⟨q, h⟩ := h
        refine r_iald C (isX1_A1 isX1_50) q dX8_arc_65 ?_
        exact r_iret C dX8_arc_66 h
      ·
        refine r_cases (1 : Int32) (fun hc1 => ?_) (fun hc1 => ?_)
        · refine r_tabIn C 67 dX8_arc_26 (off := 41) (by rw [hc1]; decide) (by rw [hc1]; decide) (by rw [hc1]; rfl) (by decide) ?_
          replace h := h.2.1 hc1
          refine r_aload_n C 0 dX8_arc_67 rfl rfl ?_
          refine gX8_23 C dX8_arc_68 ?_
          refine gX8_148 C isX1_50 dX8_arc_71 ?_
          refine r_iload_n C 1 dX8_arc_74 rfl rfl ?_
          refine r_bipush (v := (10 : Int32)) C dX8_arc_75 rfl ?_
          refine r_imul C dX8_arc_77 ?_
          refine r_iload_n C 2 dX8_arc_78 rfl rfl ?_
          refine r_iadd C dX8_arc_79 ?_
          obtain ⟨q_2, h⟩ := h
          refine r_iald C (isX1_A2 isX1_50) q_2 dX8_arc_80 ?_
          exact r_iret C dX8_arc_81 h
        ·
          refine r_cases (2 : Int32) (fun hc2 => ?_) (fun hc2 => ?_)
          · refine r_tabIn C 82 dX8_arc_26 (off := 56) (by rw [hc2]; decide) (by rw [hc2]; decide) (by rw [hc2]; rfl) (by decide) ?_
            replace h := h.2.2.1 hc2
            refine r_aload_n C 0 dX8_arc_82 rfl rfl ?_
            refine gX8_23 C dX8_arc_83 ?_
            refine r_iload_n C 1 dX8_arc_86 rfl rfl ?_
            refine r_iload_n C 2 dX8_arc_87 rfl rfl ?_
            refine cX8_151 C isX1_50 (m_X1_change l isX1_50 h) ⟨Nat.le_of_ble_eq_true rfl, Nat.le_of_ble_eq_true rfl⟩ (Nat.le_of_ble_eq_true rfl) ⟨Nat.le_refl 0, Nat.le_refl 0⟩ dX8_arc_88 (fun r_3 M_4 h => ?_)
            exact r_iret C dX8_arc_91 h
          ·
            refine r_tabOut C 92 dX8_arc_26 (tab_dflt 3 (fun j hj => by rcases (show j = 0 ∨ j = 1 ∨ j = 2 by omega) with rfl | rfl | rfl <;> assumption) (by decide) (by decide)) (by decide) ?_
            replace h := h.2.2.2 hc0 hc1 hc2
            refine kX8_143 C dX8_arc_92 ?_
            exact r_iret C dX8_arc_94 h
    · replace h := h.2 hc
      refine kX8_143 C dX8_arc_22 ?_
      exact r_iret C dX8_arc_24 h
def f_X8_tokens (v1 : Int32) (M : Mem) (K : Int32 → Mem → Prop) : Prop := f_X1_hasPlace 50 v1 M (fun (r : Int32) (M_2 : Mem) => ((r = 0 → K (-1 : Int32) M_2) ∧ (¬ r = 0 → vp_in v1 10 ∧ K (gI M_2 53 v1) M_2)))

set_option maxHeartbeats 1000000 in
set_option maxRecDepth 10000 in
theorem m_X8_tokens (l : Launch) {v1 : Int32}  {M : Mem} {K : Int32 → Mem → Prop} (h : f_X8_tokens v1 M K) : CTi l yX8_tokens cX8_tokens 2 (some .int) rm_X8_tokens (fun ad => [.ref (ad 41), .int v1]) M K := by
  refine rw_enti (by decide +kernel) (fun ad => Nat.le_of_ble_eq_true rfl) (fun p e s m args below meth c D cy ad C => ?_)
  change rw_W p l e _ s m args below meth c D cy ad 2 0 0 _ 0 [(0, .ref (ad 41)), (1, .int v1)] [] M
  unfold f_X8_tokens at h
  refine r_aload_n C 0 dX8_tokens_0 rfl rfl ?_
  refine gX8_23 C dX8_tokens_1 ?_
  refine r_iload_n C 1 dX8_tokens_4 rfl rfl ?_
  refine cX8_140 C isX1_50 (m_X1_hasPlace l isX1_50 h) ⟨Nat.le_of_ble_eq_true rfl, Nat.le_of_ble_eq_true rfl⟩ (Nat.le_of_ble_eq_true rfl) ⟨Nat.le_refl 0, Nat.le_refl 0⟩ dX8_tokens_5 (fun r M_2 h => ?_)
  refine r_if_eq C 23 dX8_tokens_8 (by decide) (fun hc => ?_) (fun hc => ?_)
  · replace h := h.1 hc
    refine r_iconst (v := (-1 : Int32)) C dX8_tokens_23 rfl ?_
    exact r_iret C dX8_tokens_24 h
  · replace h := h.2 hc
    refine r_aload_n C 0 dX8_tokens_11 rfl rfl ?_
    refine gX8_23 C dX8_tokens_12 ?_
    refine gX8_155 C isX1_50 dX8_tokens_15 ?_
    refine r_iload_n C 1 dX8_tokens_18 rfl rfl ?_
    obtain ⟨q, h⟩ := h
    refine r_iald C (isX1_A3 isX1_50) q dX8_tokens_19 ?_
    refine r_goto C 24 dX8_tokens_20 (by decide) ?_
    exact r_iret C dX8_tokens_24 h
def f_X8_oneIf (v0 : Int32) (M : Mem) (K : Int32 → Mem → Prop) : Prop := ((v0 = 0 → K (0 : Int32) M) ∧ (¬ v0 = 0 → K (1 : Int32) M))

set_option maxHeartbeats 1000000 in
set_option maxRecDepth 10000 in
theorem m_X8_oneIf (l : Launch) {v0 : Int32}  {M : Mem} {K : Int32 → Mem → Prop} (h : f_X8_oneIf v0 M K) : CTi l yX8_oneIf cX8_oneIf 1 (some .int) rm_X8_oneIf (fun ad => [.int v0]) M K := by
  refine rw_enti (by decide +kernel) (fun ad => Nat.le_of_ble_eq_true rfl) (fun p e s m args below meth c D cy ad C => ?_)
  change rw_W p l e _ s m args below meth c D cy ad 1 0 0 _ 0 [(0, .int v0)] [] M
  unfold f_X8_oneIf at h
  refine r_iload_n C 0 dX8_oneIf_0 rfl rfl ?_
  refine r_if_eq C 8 dX8_oneIf_1 (by decide) (fun hc => ?_) (fun hc => ?_)
  · replace h := h.1 hc
    refine r_iconst (v := (0 : Int32)) C dX8_oneIf_8 rfl ?_
    exact r_iret C dX8_oneIf_9 h
  · replace h := h.2 hc
    refine r_iconst (v := (1 : Int32)) C dX8_oneIf_4 rfl ?_
    refine r_goto C 9 dX8_oneIf_5 (by decide) ?_
    exact r_iret C dX8_oneIf_9 h
def f_X8_kind (v1 : Int32) (M : Mem) (K : Int32 → Mem → Prop) : Prop := ((v1 = (0 : Int32) → f_X1_eachStepMovesOne 50 M (fun (r : Int32) (M_2 : Mem) => f_X8_oneIf r M_2 (fun (r_2 : Int32) (M_3 : Mem) => K r_2 M_3))) ∧ (v1 = (1 : Int32) → f_X1_eachPlaceIsPassed 50 M (fun (r_3 : Int32) (M_4 : Mem) => f_X8_oneIf r_3 M_4 (fun (r_4 : Int32) (M_5 : Mem) => K r_4 M_5))) ∧ (v1 = (2 : Int32) → f_X1_rivalsTakeAlike 50 M (fun (r_5 : Int32) (M_6 : Mem) => f_X8_oneIf r_5 M_6 (fun (r_6 : Int32) (M_7 : Mem) => K r_6 M_7))) ∧ (¬ v1 = (0 : Int32) → ¬ v1 = (1 : Int32) → ¬ v1 = (2 : Int32) → K (-1 : Int32) M))

set_option maxHeartbeats 1000000 in
set_option maxRecDepth 10000 in
theorem m_X8_kind (l : Launch) {v1 : Int32}  {M : Mem} {K : Int32 → Mem → Prop} (h : f_X8_kind v1 M K) : CTi l yX8_kind cX8_kind 2 (some .int) rm_X8_kind (fun ad => [.ref (ad 41), .int v1]) M K := by
  refine rw_enti (by decide +kernel) (fun ad => Nat.le_of_ble_eq_true rfl) (fun p e s m args below meth c D cy ad C => ?_)
  change rw_W p l e _ s m args below meth c D cy ad 2 0 0 _ 0 [(0, .ref (ad 41)), (1, .int v1)] [] M
  unfold f_X8_kind at h
  refine r_iload_n C 1 dX8_kind_0 rfl rfl ?_
  refine r_cases (0 : Int32) (fun hc0 => ?_) (fun hc0 => ?_)
  · refine r_tabIn C 28 dX8_kind_1 (off := 27) (by rw [hc0]; decide) (by rw [hc0]; decide) (by rw [hc0]; rfl) (by decide) ?_
    replace h := h.1 hc0
    refine r_aload_n C 0 dX8_kind_28 rfl rfl ?_
    refine gX8_23 C dX8_kind_29 ?_
    refine cX8_158 C isX1_50 (m_X1_eachStepMovesOne l isX1_50 h) ⟨Nat.le_of_ble_eq_true rfl, Nat.le_of_ble_eq_true rfl⟩ (Nat.le_of_ble_eq_true rfl) ⟨Nat.le_refl 0, Nat.le_refl 0⟩ dX8_kind_32 (fun r M_2 h => ?_)
    refine cX8_162 C (m_X8_oneIf l h) ⟨Nat.le_of_ble_eq_true rfl, Nat.le_of_ble_eq_true rfl⟩ (Nat.le_of_ble_eq_true rfl) ⟨Nat.le_refl 0, Nat.le_refl 0⟩ dX8_kind_35 (fun r_2 M_3 h => ?_)
    exact r_iret C dX8_kind_38 h
  ·
    refine r_cases (1 : Int32) (fun hc1 => ?_) (fun hc1 => ?_)
    · refine r_tabIn C 39 dX8_kind_1 (off := 38) (by rw [hc1]; decide) (by rw [hc1]; decide) (by rw [hc1]; rfl) (by decide) ?_
      replace h := h.2.1 hc1
      refine r_aload_n C 0 dX8_kind_39 rfl rfl ?_
      refine gX8_23 C dX8_kind_40 ?_
      refine cX8_166 C isX1_50 (m_X1_eachPlaceIsPassed l isX1_50 h) ⟨Nat.le_of_ble_eq_true rfl, Nat.le_of_ble_eq_true rfl⟩ (Nat.le_of_ble_eq_true rfl) ⟨Nat.le_refl 0, Nat.le_refl 0⟩ dX8_kind_43 (fun r_3 M_4 h => ?_)
      refine cX8_162 C (m_X8_oneIf l h) ⟨Nat.le_of_ble_eq_true rfl, Nat.le_of_ble_eq_true rfl⟩ (Nat.le_of_ble_eq_true rfl) ⟨Nat.le_refl 0, Nat.le_refl 0⟩ dX8_kind_46 (fun r_4 M_5 h => ?_)
      exact r_iret C dX8_kind_49 h
    ·
      refine r_cases (2 : Int32) (fun hc2 => ?_) (fun hc2 => ?_)
      · refine r_tabIn C 50 dX8_kind_1 (off := 49) (by rw [hc2]; decide) (by rw [hc2]; decide) (by rw [hc2]; rfl) (by decide) ?_
        replace h := h.2.2.1 hc2
        refine r_aload_n C 0 dX8_kind_50 rfl rfl ?_
        refine gX8_23 C dX8_kind_51 ?_
        refine cX8_169 C isX1_50 (m_X1_rivalsTakeAlike l isX1_50 h) ⟨Nat.le_of_ble_eq_true rfl, Nat.le_of_ble_eq_true rfl⟩ (Nat.le_of_ble_eq_true rfl) ⟨Nat.le_refl 0, Nat.le_refl 0⟩ dX8_kind_54 (fun r_5 M_6 h => ?_)
        refine cX8_162 C (m_X8_oneIf l h) ⟨Nat.le_of_ble_eq_true rfl, Nat.le_of_ble_eq_true rfl⟩ (Nat.le_of_ble_eq_true rfl) ⟨Nat.le_refl 0, Nat.le_refl 0⟩ dX8_kind_57 (fun r_6 M_7 h => ?_)
        exact r_iret C dX8_kind_60 h
      ·
        refine r_tabOut C 61 dX8_kind_1 (tab_dflt 3 (fun j hj => by rcases (show j = 0 ∨ j = 1 ∨ j = 2 by omega) with rfl | rfl | rfl <;> assumption) (by decide) (by decide)) (by decide) ?_
        replace h := h.2.2.2 hc0 hc1 hc2
        refine r_iconst (v := (-1 : Int32)) C dX8_kind_61 rfl ?_
        exact r_iret C dX8_kind_62 h
def f_X8_fire (v1 : Int32) (M : Mem) (K : Int32 → Mem → Prop) : Prop := f_X1_allows 50 v1 53 (0 : Int32) M (fun (r : Int32) (M_2 : Mem) => ((¬ r = 0 → f_X2_keep 50 M_2 (fun (M_3 : Mem) => f_X1_move 50 v1 53 (0 : Int32) (0 : Int32) M_3 (fun (M_4 : Mem) => f_X8_newState  M_4 (fun (M_5 : Mem) => f_X1_allowed 50 M_5 (fun (r_5 : Int32) (M_6 : Mem) => K r_5 M_6))))) ∧ (r = 0 → K (-1 : Int32) M_2)))

set_option maxHeartbeats 1000000 in
set_option maxRecDepth 10000 in
theorem m_X8_fire (l : Launch) {v1 : Int32}  {M : Mem} {K : Int32 → Mem → Prop} (h : f_X8_fire v1 M K) : CTi l yX8_fire cX8_fire 2 (some .int) rm_X8_fire (fun ad => [.ref (ad 41), .int v1]) M K := by
  refine rw_enti (by decide +kernel) (fun ad => Nat.le_of_ble_eq_true rfl) (fun p e s m args below meth c D cy ad C => ?_)
  change rw_W p l e _ s m args below meth c D cy ad 2 0 0 _ 0 [(0, .ref (ad 41)), (1, .int v1)] [] M
  unfold f_X8_fire at h
  refine r_aload_n C 0 dX8_fire_0 rfl rfl ?_
  refine gX8_23 C dX8_fire_1 ?_
  refine r_iload_n C 1 dX8_fire_4 rfl rfl ?_
  refine r_aload_n C 0 dX8_fire_5 rfl rfl ?_
  refine gX8_23 C dX8_fire_6 ?_
  refine gX8_155 C isX1_50 dX8_fire_9 ?_
  refine r_iconst (v := (0 : Int32)) C dX8_fire_12 rfl ?_
  refine cX8_172 C isX1_50 (m_X1_allows l isX1_50 (isI_of (isX1_A3 isX1_50)) h) ⟨Nat.le_of_ble_eq_true rfl, Nat.le_of_ble_eq_true rfl⟩ (Nat.le_of_ble_eq_true rfl) ⟨Nat.le_refl 0, Nat.le_refl 0⟩ dX8_fire_13 (fun r M_2 h => ?_)
  refine r_if_ne C 21 dX8_fire_16 (by decide) (fun hc => ?_) (fun hc => ?_)
  · replace h := h.1 hc
    refine r_aload_n C 0 dX8_fire_21 rfl rfl ?_
    refine gX8_29 C dX8_fire_22 ?_
    refine r_aload_n C 0 dX8_fire_25 rfl rfl ?_
    refine gX8_23 C dX8_fire_26 ?_
    refine cX8_176 C (m_X2_keep l isX1_50 h) ⟨Nat.le_of_ble_eq_true rfl, Nat.le_of_ble_eq_true rfl⟩ (Nat.le_of_ble_eq_true rfl) ⟨Nat.le_refl 0, Nat.le_refl 0⟩ dX8_fire_29 (fun M_3 h => ?_)
    refine r_aload_n C 0 dX8_fire_32 rfl rfl ?_
    refine gX8_23 C dX8_fire_33 ?_
    refine r_iload_n C 1 dX8_fire_36 rfl rfl ?_
    refine r_aload_n C 0 dX8_fire_37 rfl rfl ?_
    refine gX8_23 C dX8_fire_38 ?_
    refine gX8_155 C isX1_50 dX8_fire_41 ?_
    refine r_iconst (v := (0 : Int32)) C dX8_fire_44 rfl ?_
    refine r_iconst (v := (0 : Int32)) C dX8_fire_45 rfl ?_
    refine cX8_179 C isX1_50 (m_X1_move l isX1_50 (isI_of (isX1_A3 isX1_50)) h) ⟨Nat.le_of_ble_eq_true rfl, Nat.le_of_ble_eq_true rfl⟩ (Nat.le_of_ble_eq_true rfl) ⟨Nat.le_refl 0, Nat.le_refl 0⟩ dX8_fire_46 (fun M_4 h => ?_)
    refine r_aload_n C 0 dX8_fire_49 rfl rfl ?_
    refine cX8_183 C (m_X8_newState l h) ⟨Nat.le_of_ble_eq_true rfl, Nat.le_of_ble_eq_true rfl⟩ (Nat.le_of_ble_eq_true rfl) ⟨Nat.le_refl 0, Nat.le_refl 0⟩ dX8_fire_50 (fun M_5 h => ?_)
    refine r_aload_n C 0 dX8_fire_53 rfl rfl ?_
    refine gX8_23 C dX8_fire_54 ?_
    refine cX8_186 C isX1_50 (m_X1_allowed l isX1_50 h) ⟨Nat.le_of_ble_eq_true rfl, Nat.le_of_ble_eq_true rfl⟩ (Nat.le_of_ble_eq_true rfl) ⟨Nat.le_refl 0, Nat.le_refl 0⟩ dX8_fire_57 (fun r_5 M_6 h => ?_)
    exact r_iret C dX8_fire_60 h
  · replace h := h.2 hc
    refine r_iconst (v := (-1 : Int32)) C dX8_fire_19 rfl ?_
    exact r_iret C dX8_fire_20 h
def f_X8_isTokens (v0 : Int32) (M : Mem) (K : Int32 → Mem → Prop) : Prop := ((v0 < 0 → K (0 : Int32) M) ∧ (¬ v0 < 0 → (((999 : Int32) < v0 → K (0 : Int32) M) ∧ (¬ (999 : Int32) < v0 → K (1 : Int32) M))))

set_option maxHeartbeats 1000000 in
set_option maxRecDepth 10000 in
theorem m_X8_isTokens (l : Launch) {v0 : Int32}  {M : Mem} {K : Int32 → Mem → Prop} (h : f_X8_isTokens v0 M K) : CTi l yX8_isTokens cX8_isTokens 1 (some .boolean) rm_X8_isTokens (fun ad => [.int v0]) M K := by
  refine rw_enti (by decide +kernel) (fun ad => Nat.le_of_ble_eq_true rfl) (fun p e s m args below meth c D cy ad C => ?_)
  change rw_W p l e _ s m args below meth c D cy ad 1 0 0 _ 0 [(0, .int v0)] [] M
  unfold f_X8_isTokens at h
  refine r_iload_n C 0 dX8_isTokens_0 rfl rfl ?_
  refine r_if_lt C 15 dX8_isTokens_1 (by decide) (fun hc => ?_) (fun hc => ?_)
  · replace h := h.1 hc
    refine r_iconst (v := (0 : Int32)) C dX8_isTokens_15 rfl ?_
    exact r_zret C (by decide) dX8_isTokens_16 h
  · replace h := h.2 hc
    refine r_iload_n C 0 dX8_isTokens_4 rfl rfl ?_
    refine r_sipush (v := (999 : Int32)) C dX8_isTokens_5 rfl ?_
    refine r_icmp_gt C 15 dX8_isTokens_8 (by decide) (fun hc => ?_) (fun hc => ?_)
    · replace h := h.1 hc
      refine r_iconst (v := (0 : Int32)) C dX8_isTokens_15 rfl ?_
      exact r_zret C (by decide) dX8_isTokens_16 h
    · replace h := h.2 hc
      refine r_iconst (v := (1 : Int32)) C dX8_isTokens_11 rfl ?_
      refine r_goto C 16 dX8_isTokens_12 (by decide) ?_
      exact r_zret C (by decide) dX8_isTokens_16 h
def f_X8_set (v1 : Int32) (v2 : Int32) (M : Mem) (K : Int32 → Mem → Prop) : Prop := f_X1_hasPlace 50 v1 M (fun (r : Int32) (M_2 : Mem) => ((r = 0 → K (-1 : Int32) M_2) ∧ (¬ r = 0 → f_X8_isTokens v2 M_2 (fun (r_2 : Int32) (M_3 : Mem) => ((r_2 = 0 → K (-1 : Int32) M_3) ∧ (¬ r_2 = 0 → vp_in v1 10 ∧ ((¬ (gI M_3 53 v1) = v2 → f_X2_keep 50 M_3 (fun (M_4 : Mem) => ∀ x3 : Int32, x3 = gI M_4 53 v1 → ∀ M_5 : Mem, M_5 = wI M_4 53 v1.toNatClampNeg v2 → f_X8_newState  M_5 (fun (M_6 : Mem) => K x3 M_6))) ∧ ((gI M_3 53 v1) = v2 → K (-1 : Int32) M_3))))))))

set_option maxHeartbeats 1000000 in
set_option maxRecDepth 10000 in
theorem m_X8_set (l : Launch) {v1 : Int32} {v2 : Int32}  {M : Mem} {K : Int32 → Mem → Prop} (h : f_X8_set v1 v2 M K) : CTi l yX8_set cX8_set 4 (some .int) rm_X8_set (fun ad => [.ref (ad 41), .int v1, .int v2]) M K := by
  refine rw_enti (by decide +kernel) (fun ad => Nat.le_of_ble_eq_true rfl) (fun p e s m args below meth c D cy ad C => ?_)
  change rw_W p l e _ s m args below meth c D cy ad 4 0 0 _ 0 [(0, .ref (ad 41)), (1, .int v1), (2, .int v2)] [] M
  unfold f_X8_set at h
  refine r_aload_n C 0 dX8_set_0 rfl rfl ?_
  refine gX8_23 C dX8_set_1 ?_
  refine r_iload_n C 1 dX8_set_4 rfl rfl ?_
  refine cX8_140 C isX1_50 (m_X1_hasPlace l isX1_50 h) ⟨Nat.le_of_ble_eq_true rfl, Nat.le_of_ble_eq_true rfl⟩ (Nat.le_of_ble_eq_true rfl) ⟨Nat.le_refl 0, Nat.le_refl 0⟩ dX8_set_5 (fun r M_2 h => ?_)
  refine r_if_eq C 31 dX8_set_8 (by decide) (fun hc => ?_) (fun hc => ?_)
  · replace h := h.1 hc
    refine r_iconst (v := (-1 : Int32)) C dX8_set_31 rfl ?_
    exact r_iret C dX8_set_32 h
  · replace h := h.2 hc
    refine r_iload_n C 2 dX8_set_11 rfl rfl ?_
    refine cX8_189 C (m_X8_isTokens l h) ⟨Nat.le_of_ble_eq_true rfl, Nat.le_of_ble_eq_true rfl⟩ (Nat.le_of_ble_eq_true rfl) ⟨Nat.le_refl 0, Nat.le_refl 0⟩ dX8_set_12 (fun r_2 M_3 h => ?_)
    refine r_if_eq C 31 dX8_set_15 (by decide) (fun hc => ?_) (fun hc => ?_)
    · replace h := h.1 hc
      refine r_iconst (v := (-1 : Int32)) C dX8_set_31 rfl ?_
      exact r_iret C dX8_set_32 h
    · replace h := h.2 hc
      refine r_aload_n C 0 dX8_set_18 rfl rfl ?_
      refine gX8_23 C dX8_set_19 ?_
      refine gX8_155 C isX1_50 dX8_set_22 ?_
      refine r_iload_n C 1 dX8_set_25 rfl rfl ?_
      obtain ⟨q, h⟩ := h
      refine r_iald C (isX1_A3 isX1_50) q dX8_set_26 ?_
      refine r_iload_n C 2 dX8_set_27 rfl rfl ?_
      refine r_icmp_ne C 33 dX8_set_28 (by decide) (fun hc => ?_) (fun hc => ?_)
      · replace h := h.1 hc
        refine r_aload_n C 0 dX8_set_33 rfl rfl ?_
        refine gX8_29 C dX8_set_34 ?_
        refine r_aload_n C 0 dX8_set_37 rfl rfl ?_
        refine gX8_23 C dX8_set_38 ?_
        refine cX8_176 C (m_X2_keep l isX1_50 h) ⟨Nat.le_of_ble_eq_true rfl, Nat.le_of_ble_eq_true rfl⟩ (Nat.le_of_ble_eq_true rfl) ⟨Nat.le_refl 0, Nat.le_refl 0⟩ dX8_set_41 (fun M_4 h => ?_)
        refine r_aload_n C 0 dX8_set_44 rfl rfl ?_
        refine gX8_23 C dX8_set_45 ?_
        refine gX8_155 C isX1_50 dX8_set_48 ?_
        refine r_iload_n C 1 dX8_set_51 rfl rfl ?_
        refine r_iald C (isX1_A3 isX1_50) q dX8_set_52 ?_
        refine r_istore_n C [(3, .int _), (0, .ref _), (1, .int _), (2, .int _)] dX8_set_53 rfl (by decide) rfl ?_
        replace h := h _ rfl
        refine r_aload_n C 1 dX8_set_54 rfl rfl ?_
        refine gX8_23 C dX8_set_55 ?_
        refine gX8_155 C isX1_50 dX8_set_58 ?_
        refine r_iload_n C 2 dX8_set_61 rfl rfl ?_
        refine r_iload_n C 3 dX8_set_62 rfl rfl ?_
        refine r_iast C (isX1_A3 isX1_50) q dX8_set_63 ?_
        replace h := h _ rfl
        refine r_aload_n C 1 dX8_set_64 rfl rfl ?_
        refine cX8_183 C (m_X8_newState l h) ⟨Nat.le_of_ble_eq_true rfl, Nat.le_of_ble_eq_true rfl⟩ (Nat.le_of_ble_eq_true rfl) ⟨Nat.le_refl 0, Nat.le_refl 0⟩ dX8_set_65 (fun M_6 h => ?_)
        refine r_iload_n C 0 dX8_set_68 rfl rfl ?_
        exact r_iret C dX8_set_69 h
      · replace h := h.2 hc
        refine r_iconst (v := (-1 : Int32)) C dX8_set_31 rfl ?_
        exact r_iret C dX8_set_32 h
def L_X8_run_43 (v2 : Int32) (X119 : Int32 → Mem → Prop) (K : Int32 → Mem → Prop) : Nat → Int32 → Int32 → Int32 → Mem → Prop
  | 0, _, _, _, _ => False
  | n + 1, v3, v4, v5, M => ((v2 ≤ v5 → X119 v4 M) ∧ (¬ v2 ≤ v5 → f_X1_allowed 50 M (fun (r_2 : Int32) (M_3 : Mem) => f_J6_bitCount_0f7a4 r_2 M_3 (fun (r_3 : Int32) (M_4 : Mem) => ((¬ r_3 = 0 → ∀ x3 : Int32, x3 = (v3 * (1103515245 : Int32)) + (12345 : Int32) → (¬ r_3 = 0) ∧ f_X8_bitAt r_2 (irem (ushr x3 (16 : Int32)) r_3) M_4 (fun (r_4 : Int32) (M_5 : Mem) => f_X1_move 50 r_4 53 (0 : Int32) (0 : Int32) M_5 (fun (M_6 : Mem) => L_X8_run_43 v2 X119 K n x3 (v4 + (1 : Int32)) (v5 + (1 : Int32)) M_6))) ∧ (r_3 = 0 → X119 v4 M_4))))))

set_option maxHeartbeats 1000000 in
set_option maxRecDepth 10000 in
theorem mL_X8_run_43 (C : rw_C p s m meth c cX8_run 8 RX8 (some .int) D cy ad) {v2 : Int32} {X119 : Int32 → Mem → Prop} {K : Int32 → Mem → Prop} (hX119 : ∀ (u4 : Int32) (M : Mem), X119 u4 M → rw_W p l e rm_X8_run s m args below meth c D cy ad 8 0 0 (rw_Qi below args s D cy ad K) 119 [(0, .ref (ad 41)), (4, .int u4)] [] M) : ∀ (n : Nat) (v3 : Int32) (v4 : Int32) (v5 : Int32) (M : Mem), L_X8_run_43 v2 X119 K n v3 v4 v5 M → rw_W p l e rm_X8_run s m args below meth c D cy ad 8 0 0 (rw_Qi below args s D cy ad K) 43 [(0, .ref (ad 41)), (2, .int v2), (3, .int v3), (4, .int v4), (5, .int v5)] [] M := by
  intro n
  induction n with
  | zero => intro v3 v4 v5 M h; exact h.elim
  | succ n ih =>
    intro v3 v4 v5 M h
    refine r_iload C 4 dX8_run_43 rfl ?_
    refine r_iload_n C 1 dX8_run_45 rfl rfl ?_
    refine r_icmp_ge C 119 dX8_run_46 (by decide) (fun hc => ?_) (fun hc => ?_)
    · replace h := h.1 hc
      exact r_sub [0, 3] rfl (hX119 _ _ h)
    · replace h := h.2 hc
      refine r_aload_n C 0 dX8_run_49 rfl rfl ?_
      refine gX8_23 C dX8_run_50 ?_
      refine cX8_186 C isX1_50 (m_X1_allowed l isX1_50 h) ⟨Nat.le_of_ble_eq_true rfl, Nat.le_of_ble_eq_true rfl⟩ (Nat.le_of_ble_eq_true rfl) ⟨Nat.le_refl 0, Nat.le_refl 0⟩ dX8_run_53 (fun r_2 M_3 h => ?_)
      refine r_istore C [(6, .int _), (0, .ref _), (2, .int _), (3, .int _), (4, .int _), (5, .int _)] dX8_run_56 (by decide) rfl ?_
      refine r_iload C 0 dX8_run_58 rfl ?_
      refine cX8_110 C (m_J6_bitCount_0f7a4 l h) ⟨Nat.le_of_ble_eq_true rfl, Nat.le_of_ble_eq_true rfl⟩ (Nat.le_of_ble_eq_true rfl) ⟨Nat.le_refl 0, Nat.le_refl 0⟩ dX8_run_60 (fun r_3 M_4 h => ?_)
      refine r_istore C [(7, .int _), (6, .int _), (0, .ref _), (2, .int _), (3, .int _), (4, .int _), (5, .int _)] dX8_run_63 (by decide) rfl ?_
      refine r_iload C 0 dX8_run_65 rfl ?_
      refine r_if_ne C 73 dX8_run_67 (by decide) (fun hc => ?_) (fun hc => ?_)
      · replace h := h.1 hc
        refine r_iload_n C 4 dX8_run_73 rfl rfl ?_
        refine kX8_192 C dX8_run_74 ?_
        refine r_imul C dX8_run_76 ?_
        refine r_sipush (v := (12345 : Int32)) C dX8_run_77 rfl ?_
        refine r_iadd C dX8_run_80 ?_
        refine r_istore_n C [(3, .int _), (7, .int _), (6, .int _), (0, .ref _), (2, .int _), (4, .int _), (5, .int _)] dX8_run_81 rfl (by decide) rfl ?_
        replace h := h _ rfl
        refine r_aload_n C 3 dX8_run_82 rfl rfl ?_
        refine gX8_23 C dX8_run_83 ?_
        refine r_iload C 2 dX8_run_86 rfl ?_
        refine r_iload_n C 0 dX8_run_88 rfl rfl ?_
        refine r_bipush (v := (16 : Int32)) C dX8_run_89 rfl ?_
        refine r_iushr C dX8_run_91 ?_
        refine r_iload C 1 dX8_run_92 rfl ?_
        obtain ⟨q, h⟩ := h
        refine r_irem C dX8_run_94 q ?_
        refine cX8_193 C (m_X8_bitAt l h) ⟨Nat.le_of_ble_eq_true rfl, Nat.le_of_ble_eq_true rfl⟩ (Nat.le_of_ble_eq_true rfl) ⟨Nat.le_refl 0, Nat.le_refl 0⟩ dX8_run_95 (fun r_4 M_5 h => ?_)
        refine r_aload_n C 3 dX8_run_98 rfl rfl ?_
        refine gX8_23 C dX8_run_99 ?_
        refine gX8_155 C isX1_50 dX8_run_102 ?_
        refine r_iconst (v := (0 : Int32)) C dX8_run_105 rfl ?_
        refine r_iconst (v := (0 : Int32)) C dX8_run_106 rfl ?_
        refine cX8_179 C isX1_50 (m_X1_move l isX1_50 (isI_of (isX1_A3 isX1_50)) h) ⟨Nat.le_of_ble_eq_true rfl, Nat.le_of_ble_eq_true rfl⟩ (Nat.le_of_ble_eq_true rfl) ⟨Nat.le_refl 0, Nat.le_refl 0⟩ dX8_run_107 (fun M_6 h => ?_)
        refine r_iinc C 5 (v := _) [(4, .int _), (3, .int _), (7, .int _), (6, .int _), (0, .ref _), (2, .int _), (5, .int _)] dX8_run_110 rfl rfl (by decide) rfl ?_
        refine r_iinc C 6 (v := _) [(5, .int _), (4, .int _), (3, .int _), (7, .int _), (6, .int _), (0, .ref _), (2, .int _)] dX8_run_113 rfl rfl (by decide) rfl ?_
        refine r_goto C 43 dX8_run_116 (by decide) ?_
        exact r_sub [5, 6, 2, 1, 0] rfl (ih _ _ _ _ h)
      · replace h := h.2 hc
        refine r_goto C 119 dX8_run_70 (by decide) ?_
        exact r_sub [2, 5] rfl (hX119 _ _ h)

def f_X8_run (v1 : Int32) (v2 : Int32) (M : Mem) (K : Int32 → Mem → Prop) : Prop := ((v2 < (1 : Int32) → K (-1 : Int32) M) ∧ (¬ v2 < (1 : Int32) → (((200 : Int32) < v2 → K (-1 : Int32) M) ∧ (¬ (200 : Int32) < v2 → ((¬ (M.1 50 6) = 0 → f_X2_keep 50 M (fun (M_2 : Mem) => (∃ k43 : Nat, L_X8_run_43 v2 (fun (v4_2 : Int32) (M_7 : Mem) => f_X8_newState  M_7 (fun (M_8 : Mem) => K v4_2 M_8)) K k43 v1 (0 : Int32) (0 : Int32) M_2))) ∧ ((M.1 50 6) = 0 → K (-1 : Int32) M))))))

set_option maxHeartbeats 1000000 in
set_option maxRecDepth 10000 in
theorem m_X8_run (l : Launch) {v1 : Int32} {v2 : Int32}  {M : Mem} {K : Int32 → Mem → Prop} (h : f_X8_run v1 v2 M K) : CTi l yX8_run cX8_run 8 (some .int) rm_X8_run (fun ad => [.ref (ad 41), .int v1, .int v2]) M K := by
  refine rw_enti (by decide +kernel) (fun ad => Nat.le_of_ble_eq_true rfl) (fun p e s m args below meth c D cy ad C => ?_)
  change rw_W p l e _ s m args below meth c D cy ad 8 0 0 _ 0 [(0, .ref (ad 41)), (1, .int v1), (2, .int v2)] [] M
  unfold f_X8_run at h
  refine r_iload_n C 2 dX8_run_0 rfl rfl ?_
  refine r_iconst (v := (1 : Int32)) C dX8_run_1 rfl ?_
  refine r_icmp_lt C 22 dX8_run_2 (by decide) (fun hc => ?_) (fun hc => ?_)
  · replace h := h.1 hc
    refine r_iconst (v := (-1 : Int32)) C dX8_run_22 rfl ?_
    exact r_iret C dX8_run_23 h
  · replace h := h.2 hc
    refine r_iload_n C 2 dX8_run_5 rfl rfl ?_
    refine r_sipush (v := (200 : Int32)) C dX8_run_6 rfl ?_
    refine r_icmp_gt C 22 dX8_run_9 (by decide) (fun hc => ?_) (fun hc => ?_)
    · replace h := h.1 hc
      refine r_iconst (v := (-1 : Int32)) C dX8_run_22 rfl ?_
      exact r_iret C dX8_run_23 h
    · replace h := h.2 hc
      refine r_aload_n C 0 dX8_run_12 rfl rfl ?_
      refine gX8_23 C dX8_run_13 ?_
      refine gX8_122 C isX1_50 dX8_run_16 ?_
      refine r_if_ne C 24 dX8_run_19 (by decide) (fun hc => ?_) (fun hc => ?_)
      · replace h := h.1 hc
        refine r_aload_n C 0 dX8_run_24 rfl rfl ?_
        refine gX8_29 C dX8_run_25 ?_
        refine r_aload_n C 0 dX8_run_28 rfl rfl ?_
        refine gX8_23 C dX8_run_29 ?_
        refine cX8_176 C (m_X2_keep l isX1_50 h) ⟨Nat.le_of_ble_eq_true rfl, Nat.le_of_ble_eq_true rfl⟩ (Nat.le_of_ble_eq_true rfl) ⟨Nat.le_refl 0, Nat.le_refl 0⟩ dX8_run_32 (fun M_2 h => ?_)
        refine r_iload_n C 1 dX8_run_35 rfl rfl ?_
        refine r_istore_n C [(3, .int _), (0, .ref _), (1, .int _), (2, .int _)] dX8_run_36 rfl (by decide) rfl ?_
        refine r_iconst (v := (0 : Int32)) C dX8_run_37 rfl ?_
        refine r_istore C [(4, .int _), (3, .int _), (0, .ref _), (1, .int _), (2, .int _)] dX8_run_38 (by decide) rfl ?_
        refine r_iconst (v := (0 : Int32)) C dX8_run_40 rfl ?_
        refine r_istore C [(5, .int _), (4, .int _), (3, .int _), (0, .ref _), (1, .int _), (2, .int _)] dX8_run_41 (by decide) rfl ?_
        obtain ⟨n43, h⟩ := h
        refine r_sub [3, 5, 2, 1, 0] rfl (mL_X8_run_43 C (fun v4_2 M_7 h => ?_) n43 _ _ _ _ h)
        refine r_aload_n C 0 dX8_run_119 rfl rfl ?_
        refine cX8_183 C (m_X8_newState l h) ⟨Nat.le_of_ble_eq_true rfl, Nat.le_of_ble_eq_true rfl⟩ (Nat.le_of_ble_eq_true rfl) ⟨Nat.le_refl 0, Nat.le_refl 0⟩ dX8_run_120 (fun M_8 h => ?_)
        refine r_iload C 1 dX8_run_123 rfl ?_
        exact r_iret C dX8_run_125 h
      · replace h := h.2 hc
        refine r_iconst (v := (-1 : Int32)) C dX8_run_22 rfl ?_
        exact r_iret C dX8_run_23 h
def f_X8_can (M : Mem) (K : Int32 → Mem → Prop) : Prop := f_X1_allowed 50 M (fun (r : Int32) (M_2 : Mem) => K r M_2)

set_option maxHeartbeats 1000000 in
set_option maxRecDepth 10000 in
theorem m_X8_can (l : Launch)   {M : Mem} {K : Int32 → Mem → Prop} (h : f_X8_can M K) : CTi l yX8_can cX8_can 1 (some .int) rm_X8_can (fun ad => [.ref (ad 41)]) M K := by
  refine rw_enti (by decide +kernel) (fun ad => Nat.le_of_ble_eq_true rfl) (fun p e s m args below meth c D cy ad C => ?_)
  change rw_W p l e _ s m args below meth c D cy ad 1 0 0 _ 0 [(0, .ref (ad 41))] [] M
  unfold f_X8_can at h
  refine r_aload_n C 0 dX8_can_0 rfl rfl ?_
  refine gX8_23 C dX8_can_1 ?_
  refine cX8_186 C isX1_50 (m_X1_allowed l isX1_50 h) ⟨Nat.le_of_ble_eq_true rfl, Nat.le_of_ble_eq_true rfl⟩ (Nat.le_of_ble_eq_true rfl) ⟨Nat.le_refl 0, Nat.le_refl 0⟩ dX8_can_4 (fun r M_2 h => ?_)
  exact r_iret C dX8_can_7 h
def f_X8_undo (M : Mem) (K : Int32 → Mem → Prop) : Prop := f_X2_restore 50 M (fun (r : Int32) (M_2 : Mem) => (r &&& 1 = r) ∧ K r M_2)

set_option maxHeartbeats 1000000 in
set_option maxRecDepth 10000 in
theorem m_X8_undo (l : Launch)   {M : Mem} {K : Int32 → Mem → Prop} (h : f_X8_undo M K) : CTi l yX8_undo cX8_undo 1 (some .boolean) rm_X8_undo (fun ad => [.ref (ad 41)]) M K := by
  refine rw_enti (by decide +kernel) (fun ad => Nat.le_of_ble_eq_true rfl) (fun p e s m args below meth c D cy ad C => ?_)
  change rw_W p l e _ s m args below meth c D cy ad 1 0 0 _ 0 [(0, .ref (ad 41))] [] M
  unfold f_X8_undo at h
  refine r_aload_n C 0 dX8_undo_0 rfl rfl ?_
  refine gX8_29 C dX8_undo_1 ?_
  refine r_aload_n C 0 dX8_undo_4 rfl rfl ?_
  refine gX8_23 C dX8_undo_5 ?_
  refine cX8_196 C (m_X2_restore l isX1_50 h) ⟨Nat.le_of_ble_eq_true rfl, Nat.le_of_ble_eq_true rfl⟩ (Nat.le_of_ble_eq_true rfl) ⟨Nat.le_refl 0, Nat.le_refl 0⟩ dX8_undo_8 (fun r M_2 h => ?_)
  exact r_zret C h.1 dX8_undo_11 h.2
def f_X8_isOneOfTwo (v0 : Int32) (M : Mem) (K : Int32 → Mem → Prop) : Prop := ((v0 = 0 → K (1 : Int32) M) ∧ (¬ v0 = 0 → ((¬ v0 = (1 : Int32) → K (0 : Int32) M) ∧ (v0 = (1 : Int32) → K (1 : Int32) M))))

set_option maxHeartbeats 1000000 in
set_option maxRecDepth 10000 in
theorem m_X8_isOneOfTwo (l : Launch) {v0 : Int32}  {M : Mem} {K : Int32 → Mem → Prop} (h : f_X8_isOneOfTwo v0 M K) : CTi l yX8_isOneOfTwo cX8_isOneOfTwo 1 (some .boolean) rm_X8_isOneOfTwo (fun ad => [.int v0]) M K := by
  refine rw_enti (by decide +kernel) (fun ad => Nat.le_of_ble_eq_true rfl) (fun p e s m args below meth c D cy ad C => ?_)
  change rw_W p l e _ s m args below meth c D cy ad 1 0 0 _ 0 [(0, .int v0)] [] M
  unfold f_X8_isOneOfTwo at h
  refine r_iload_n C 0 dX8_isOneOfTwo_0 rfl rfl ?_
  refine r_if_eq C 9 dX8_isOneOfTwo_1 (by decide) (fun hc => ?_) (fun hc => ?_)
  · replace h := h.1 hc
    refine r_iconst (v := (1 : Int32)) C dX8_isOneOfTwo_9 rfl ?_
    refine r_goto C 14 dX8_isOneOfTwo_10 (by decide) ?_
    exact r_zret C (by decide) dX8_isOneOfTwo_14 h
  · replace h := h.2 hc
    refine r_iload_n C 0 dX8_isOneOfTwo_4 rfl rfl ?_
    refine r_iconst (v := (1 : Int32)) C dX8_isOneOfTwo_5 rfl ?_
    refine r_icmp_ne C 13 dX8_isOneOfTwo_6 (by decide) (fun hc => ?_) (fun hc => ?_)
    · replace h := h.1 hc
      refine r_iconst (v := (0 : Int32)) C dX8_isOneOfTwo_13 rfl ?_
      exact r_zret C (by decide) dX8_isOneOfTwo_14 h
    · replace h := h.2 hc
      refine r_iconst (v := (1 : Int32)) C dX8_isOneOfTwo_9 rfl ?_
      refine r_goto C 14 dX8_isOneOfTwo_10 (by decide) ?_
      exact r_zret C (by decide) dX8_isOneOfTwo_14 h
set_option maxHeartbeats 1000000 in
set_option maxRecDepth 10000 in
theorem mD_X8_weights_1 (C : rw_C p s m meth c cX8_weights 3 RX8 (some (.object "TokenSums$Weights")) D cy ad) {Q : State → Prop} {st : List Value} {M : Mem} {v1 : Int32} {o0 : Int32} (kk : rw_W p l e R s m args below meth c D cy ad 3 0 0 Q 15 [(0, .ref (ad 41)), (1, .int v1)] (.ref (ad (if ¬ o0 = 0 then 109 else 104)) :: st) M) : rw_W p l e R s m args below meth c D cy ad 3 0 0 Q 1 [(0, .ref (ad 41)), (1, .int v1)] (.int o0 :: st) M := by
  refine r_if_ne C 11 dX8_weights_1 (by decide) (fun z0 => ?_) (fun z0 => ?_)
  · skip
    refine r_aload_n C 0 dX8_weights_11 rfl rfl ?_
    refine gX8_42 C dX8_weights_12 ?_
    first | rw [if_pos z0] at kk | rw [if_neg (fun q9 => q9 z0)] at kk
    exact kk
  · skip
    refine r_aload_n C 0 dX8_weights_4 rfl rfl ?_
    refine gX8_38 C dX8_weights_5 ?_
    refine r_goto C 15 dX8_weights_8 (by decide) ?_
    first | rw [if_neg z0] at kk | rw [if_neg (fun q9 => q9 z0)] at kk
    exact kk

def f_X8_weights (v1 : Int32) (M : Mem) (K : Nat → Mem → Prop) : Prop := f_X7_findLeast (if ¬ v1 = 0 then 109 else 104) 50 M (fun (M_2 : Mem) => K (if ¬ v1 = 0 then 109 else 104) M_2)

set_option maxHeartbeats 1000000 in
set_option maxRecDepth 10000 in
theorem m_X8_weights (l : Launch) {v1 : Int32}  {M : Mem} {K : Nat → Mem → Prop} (h : f_X8_weights v1 M K) : CTr l yX8_weights cX8_weights 3 (some (.object "TokenSums$Weights")) rm_X8_weights (fun ad => [.ref (ad 41), .int v1]) M K := by
  refine rw_entr (by decide +kernel) (fun ad => Nat.le_of_ble_eq_true rfl) (fun p e s m args below meth c D cy ad C => ?_)
  change rw_W p l e _ s m args below meth c D cy ad 3 0 0 _ 0 [(0, .ref (ad 41)), (1, .int v1)] [] M
  unfold f_X8_weights at h
  refine r_iload_n C 1 dX8_weights_0 rfl rfl ?_
  refine mD_X8_weights_1 C ?_
  refine r_astore_n C [(2, .ref _), (0, .ref _), (1, .int _)] dX8_weights_15 rfl (by decide) rfl ?_
  refine r_aload_n C 0 dX8_weights_16 rfl rfl ?_
  refine r_aload_n C 1 dX8_weights_17 rfl rfl ?_
  refine gX8_23 C dX8_weights_18 ?_
  refine cX8_355 C (ite_p (P := (fun a => isX7 a)) isX7_109 isX7_104) (m_X7_findLeast l (ite_p (P := (fun a => isX7 a)) isX7_109 isX7_104) isX1_50 h) ⟨Nat.le_of_ble_eq_true rfl, Nat.le_of_ble_eq_true rfl⟩ (Nat.le_of_ble_eq_true rfl) ⟨Nat.le_refl 0, Nat.le_refl 0⟩ dX8_weights_21 (fun M_2 h => ?_)
  refine r_aload_n C 0 dX8_weights_24 rfl rfl ?_
  exact r_aret C dX8_weights_25 h
def f_X8_sums (v1 : Int32) (M : Mem) (K : Int32 → Mem → Prop) : Prop := f_X8_isOneOfTwo v1 M (fun (r : Int32) (M_2 : Mem) => ((r = 0 → K (-1 : Int32) M_2) ∧ (¬ r = 0 → f_X8_weights v1 M_2 (fun (r_2 : Nat) (M_3 : Mem) => isX7 r_2 ∧ K (M_3.1 r_2 5) M_3))))

set_option maxHeartbeats 1000000 in
set_option maxRecDepth 10000 in
theorem m_X8_sums (l : Launch) {v1 : Int32}  {M : Mem} {K : Int32 → Mem → Prop} (h : f_X8_sums v1 M K) : CTi l yX8_sums cX8_sums 2 (some .int) rm_X8_sums (fun ad => [.ref (ad 41), .int v1]) M K := by
  refine rw_enti (by decide +kernel) (fun ad => Nat.le_of_ble_eq_true rfl) (fun p e s m args below meth c D cy ad C => ?_)
  change rw_W p l e _ s m args below meth c D cy ad 2 0 0 _ 0 [(0, .ref (ad 41)), (1, .int v1)] [] M
  unfold f_X8_sums at h
  refine r_iload_n C 1 dX8_sums_0 rfl rfl ?_
  refine cX8_199 C (m_X8_isOneOfTwo l h) ⟨Nat.le_of_ble_eq_true rfl, Nat.le_of_ble_eq_true rfl⟩ (Nat.le_of_ble_eq_true rfl) ⟨Nat.le_refl 0, Nat.le_refl 0⟩ dX8_sums_1 (fun r M_2 h => ?_)
  refine r_if_eq C 18 dX8_sums_4 (by decide) (fun hc => ?_) (fun hc => ?_)
  · replace h := h.1 hc
    refine r_iconst (v := (-1 : Int32)) C dX8_sums_18 rfl ?_
    exact r_iret C dX8_sums_19 h
  · replace h := h.2 hc
    refine r_aload_n C 0 dX8_sums_7 rfl rfl ?_
    refine r_iload_n C 1 dX8_sums_8 rfl rfl ?_
    refine cX8_202 C (m_X8_weights l h) ⟨Nat.le_of_ble_eq_true rfl, Nat.le_of_ble_eq_true rfl⟩ (Nat.le_of_ble_eq_true rfl) ⟨Nat.le_refl 0, Nat.le_refl 0⟩ dX8_sums_9 (fun r_2 M_3 h => ?_)
    obtain ⟨q, h⟩ := h
    refine gX8_206 C q dX8_sums_12 ?_
    refine r_goto C 19 dX8_sums_15 (by decide) ?_
    exact r_iret C dX8_sums_19 h
def S_X8_sum_17 (v2 : Int32) (v3 : Int32) (v4 : Nat) (o0 : Int32) (X39 : Int32 → Mem → Prop) (K : Int32 → Mem → Prop) (M : Mem) : Prop := (¬ o0 = 0 → f_X1_hasStep 50 v3 M (fun (r_3 : Int32) (M_4 : Mem) => X39 r_3 M_4)) ∧ (o0 = 0 → f_X1_hasPlace 50 v3 M (fun (r_4 : Int32) (M_5 : Mem) => X39 r_4 M_5))

set_option maxHeartbeats 1000000 in
set_option maxRecDepth 10000 in
theorem mS_X8_sum_17 (C : rw_C p s m meth c cX8_sum 6 RX8 (some .int) D cy ad) {v2 : Int32} {v3 : Int32} {v4 : Nat} {o0 : Int32} (h_v4 : isX7 v4) {X39 : Int32 → Mem → Prop} {K : Int32 → Mem → Prop} {M : Mem} (hX39 : ∀  (w0 : Int32) (M : Mem), X39 w0 M → rw_W p l e rm_X8_sum s m args below meth c D cy ad 6 0 0 (rw_Qi below args s D cy ad K) 39 [(2, .int v2), (3, .int v3), (4, .ref (ad v4))] [.int w0] M) (h : S_X8_sum_17 v2 v3 v4 o0 X39 K M) : rw_W p l e rm_X8_sum s m args below meth c D cy ad 6 0 0 (rw_Qi below args s D cy ad K) 17 [(0, .ref (ad 41)), (2, .int v2), (3, .int v3), (4, .ref (ad v4))] [.int o0] M := by
  refine r_if_ne C 31 dX8_sum_17 (by decide) (fun hc => ?_) (fun hc => ?_)
  · replace h := h.1 hc
    refine r_aload_n C 0 dX8_sum_31 rfl rfl ?_
    refine gX8_23 C dX8_sum_32 ?_
    refine r_iload_n C 2 dX8_sum_35 rfl rfl ?_
    refine cX8_136 C isX1_50 (m_X1_hasStep l isX1_50 h) ⟨Nat.le_of_ble_eq_true rfl, Nat.le_of_ble_eq_true rfl⟩ (Nat.le_of_ble_eq_true rfl) ⟨Nat.le_refl 0, Nat.le_refl 0⟩ dX8_sum_36 (fun r_3 M_4 h => ?_)
    exact r_sub [1, 2, 3] rfl (hX39 _ _ h)
  · replace h := h.2 hc
    refine r_aload_n C 0 dX8_sum_20 rfl rfl ?_
    refine gX8_23 C dX8_sum_21 ?_
    refine r_iload_n C 2 dX8_sum_24 rfl rfl ?_
    refine cX8_140 C isX1_50 (m_X1_hasPlace l isX1_50 h) ⟨Nat.le_of_ble_eq_true rfl, Nat.le_of_ble_eq_true rfl⟩ (Nat.le_of_ble_eq_true rfl) ⟨Nat.le_refl 0, Nat.le_refl 0⟩ dX8_sum_25 (fun r_4 M_5 h => ?_)
    refine r_goto C 39 dX8_sum_28 (by decide) ?_
    exact r_sub [1, 2, 3] rfl (hX39 _ _ h)

def f_X8_sum (v1 : Int32) (v2 : Int32) (v3 : Int32) (M : Mem) (K : Int32 → Mem → Prop) : Prop := f_X8_isOneOfTwo v1 M (fun (r : Int32) (M_2 : Mem) => ((¬ r = 0 → f_X8_weights v1 M_2 (fun (r_2 : Nat) (M_3 : Mem) => isX7 r_2 ∧ (S_X8_sum_17 v2 v3 r_2 v1 (fun (w : Int32) (M_6 : Mem) => ((w = 0 → K (-1 : Int32) M_6) ∧ (¬ w = 0 → ((v2 < 0 → K (-1 : Int32) M_6) ∧ (¬ v2 < 0 → (((M_6.1 r_2 5) ≤ v2 → K (-1 : Int32) M_6) ∧ (¬ (M_6.1 r_2 5) ≤ v2 → vp_in ((v2 * (10 : Int32)) + v3) 2560 ∧ K (gI M_6 (r_2 + 4) ((v2 * (10 : Int32)) + v3)) M_6))))))) K M_3))) ∧ (r = 0 → K (-1 : Int32) M_2)))

set_option maxHeartbeats 1000000 in
set_option maxRecDepth 10000 in
theorem m_X8_sum (l : Launch) {v1 : Int32} {v2 : Int32} {v3 : Int32}  {M : Mem} {K : Int32 → Mem → Prop} (h : f_X8_sum v1 v2 v3 M K) : CTi l yX8_sum cX8_sum 6 (some .int) rm_X8_sum (fun ad => [.ref (ad 41), .int v1, .int v2, .int v3]) M K := by
  refine rw_enti (by decide +kernel) (fun ad => Nat.le_of_ble_eq_true rfl) (fun p e s m args below meth c D cy ad C => ?_)
  change rw_W p l e _ s m args below meth c D cy ad 6 0 0 _ 0 [(0, .ref (ad 41)), (1, .int v1), (2, .int v2), (3, .int v3)] [] M
  unfold f_X8_sum at h
  refine r_iload_n C 1 dX8_sum_0 rfl rfl ?_
  refine cX8_199 C (m_X8_isOneOfTwo l h) ⟨Nat.le_of_ble_eq_true rfl, Nat.le_of_ble_eq_true rfl⟩ (Nat.le_of_ble_eq_true rfl) ⟨Nat.le_refl 0, Nat.le_refl 0⟩ dX8_sum_1 (fun r M_2 h => ?_)
  refine r_if_ne C 9 dX8_sum_4 (by decide) (fun hc => ?_) (fun hc => ?_)
  · replace h := h.1 hc
    refine r_aload_n C 0 dX8_sum_9 rfl rfl ?_
    refine r_iload_n C 1 dX8_sum_10 rfl rfl ?_
    refine cX8_202 C (m_X8_weights l h) ⟨Nat.le_of_ble_eq_true rfl, Nat.le_of_ble_eq_true rfl⟩ (Nat.le_of_ble_eq_true rfl) ⟨Nat.le_refl 0, Nat.le_refl 0⟩ dX8_sum_11 (fun r_2 M_3 h => ?_)
    obtain ⟨q, h⟩ := h
    refine r_astore C [(4, .ref _), (0, .ref _), (1, .int _), (2, .int _), (3, .int _)] dX8_sum_14 (by decide) rfl ?_
    refine r_iload_n C 2 dX8_sum_16 rfl rfl ?_
    refine r_sub [1, 3, 4, 0] rfl (mS_X8_sum_17 C q (fun w M_6 h => ?_) h)
    refine r_istore C [(5, .int _), (2, .int _), (3, .int _), (4, .ref _)] dX8_sum_39 (by decide) rfl ?_
    refine r_iload C 0 dX8_sum_41 rfl ?_
    refine r_if_eq C 74 dX8_sum_43 (by decide) (fun hc => ?_) (fun hc => ?_)
    · replace h := h.1 hc
      refine r_iconst (v := (-1 : Int32)) C dX8_sum_74 rfl ?_
      exact r_iret C dX8_sum_75 h
    · replace h := h.2 hc
      refine r_iload_n C 1 dX8_sum_46 rfl rfl ?_
      refine r_if_lt C 74 dX8_sum_47 (by decide) (fun hc => ?_) (fun hc => ?_)
      · replace h := h.1 hc
        refine r_iconst (v := (-1 : Int32)) C dX8_sum_74 rfl ?_
        exact r_iret C dX8_sum_75 h
      · replace h := h.2 hc
        refine r_iload_n C 1 dX8_sum_50 rfl rfl ?_
        refine r_aload C 3 dX8_sum_51 rfl ?_
        refine gX8_206 C q dX8_sum_53 ?_
        refine r_icmp_ge C 74 dX8_sum_56 (by decide) (fun hc => ?_) (fun hc => ?_)
        · replace h := h.1 hc
          refine r_iconst (v := (-1 : Int32)) C dX8_sum_74 rfl ?_
          exact r_iret C dX8_sum_75 h
        · replace h := h.2 hc
          refine r_aload C 3 dX8_sum_59 rfl ?_
          refine gX8_209 C q dX8_sum_61 ?_
          refine r_iload_n C 1 dX8_sum_64 rfl rfl ?_
          refine r_bipush (v := (10 : Int32)) C dX8_sum_65 rfl ?_
          refine r_imul C dX8_sum_67 ?_
          refine r_iload_n C 2 dX8_sum_68 rfl rfl ?_
          refine r_iadd C dX8_sum_69 ?_
          obtain ⟨q_2, h⟩ := h
          refine r_iald C (isX7_A4 q) q_2 dX8_sum_70 ?_
          refine r_goto C 75 dX8_sum_71 (by decide) ?_
          exact r_iret C dX8_sum_75 h
  · replace h := h.2 hc
    refine r_iconst (v := (-1 : Int32)) C dX8_sum_7 rfl ?_
    exact r_iret C dX8_sum_8 h
def f_X8_covered (v1 : Int32) (M : Mem) (K : Int32 → Mem → Prop) : Prop := f_X8_isOneOfTwo v1 M (fun (r : Int32) (M_2 : Mem) => ((r = 0 → K (-1 : Int32) M_2) ∧ (¬ r = 0 → f_X8_weights v1 M_2 (fun (r_2 : Nat) (M_3 : Mem) => isX7 r_2 ∧ K (M_3.1 r_2 6) M_3))))

set_option maxHeartbeats 1000000 in
set_option maxRecDepth 10000 in
theorem m_X8_covered (l : Launch) {v1 : Int32}  {M : Mem} {K : Int32 → Mem → Prop} (h : f_X8_covered v1 M K) : CTi l yX8_covered cX8_covered 2 (some .int) rm_X8_covered (fun ad => [.ref (ad 41), .int v1]) M K := by
  refine rw_enti (by decide +kernel) (fun ad => Nat.le_of_ble_eq_true rfl) (fun p e s m args below meth c D cy ad C => ?_)
  change rw_W p l e _ s m args below meth c D cy ad 2 0 0 _ 0 [(0, .ref (ad 41)), (1, .int v1)] [] M
  unfold f_X8_covered at h
  refine r_iload_n C 1 dX8_covered_0 rfl rfl ?_
  refine cX8_199 C (m_X8_isOneOfTwo l h) ⟨Nat.le_of_ble_eq_true rfl, Nat.le_of_ble_eq_true rfl⟩ (Nat.le_of_ble_eq_true rfl) ⟨Nat.le_refl 0, Nat.le_refl 0⟩ dX8_covered_1 (fun r M_2 h => ?_)
  refine r_if_eq C 18 dX8_covered_4 (by decide) (fun hc => ?_) (fun hc => ?_)
  · replace h := h.1 hc
    refine r_iconst (v := (-1 : Int32)) C dX8_covered_18 rfl ?_
    exact r_iret C dX8_covered_19 h
  · replace h := h.2 hc
    refine r_aload_n C 0 dX8_covered_7 rfl rfl ?_
    refine r_iload_n C 1 dX8_covered_8 rfl rfl ?_
    refine cX8_202 C (m_X8_weights l h) ⟨Nat.le_of_ble_eq_true rfl, Nat.le_of_ble_eq_true rfl⟩ (Nat.le_of_ble_eq_true rfl) ⟨Nat.le_refl 0, Nat.le_refl 0⟩ dX8_covered_9 (fun r_2 M_3 h => ?_)
    obtain ⟨q, h⟩ := h
    refine gX8_224 C q dX8_covered_12 ?_
    refine r_goto C 19 dX8_covered_15 (by decide) ?_
    exact r_iret C dX8_covered_19 h
def f_X8_value (v1 : Int32) (M : Mem) (K : Int64 → Mem → Prop) : Prop := f_X8_weights (0 : Int32) M (fun (r : Nat) (M_2 : Mem) => isX7 r ∧ ((v1 < 0 → K (-1 : Int64) M_2) ∧ (¬ v1 < 0 → (((M_2.1 r 5) ≤ v1 → K (-1 : Int64) M_2) ∧ (¬ (M_2.1 r 5) ≤ v1 → f_X7_weigh r v1 50 M_2 (fun (r_2 : Int64) (M_3 : Mem) => K r_2 M_3))))))

set_option maxHeartbeats 1000000 in
set_option maxRecDepth 10000 in
theorem m_X8_value (l : Launch) {v1 : Int32}  {M : Mem} {K : Int64 → Mem → Prop} (h : f_X8_value v1 M K) : CTl l yX8_value cX8_value 3 (some .long) rm_X8_value (fun ad => [.ref (ad 41), .int v1]) M K := by
  refine rw_entl (by decide +kernel) (fun ad => Nat.le_of_ble_eq_true rfl) (fun p e s m args below meth c D cy ad C => ?_)
  change rw_W p l e _ s m args below meth c D cy ad 3 0 0 _ 0 [(0, .ref (ad 41)), (1, .int v1)] [] M
  unfold f_X8_value at h
  refine r_aload_n C 0 dX8_value_0 rfl rfl ?_
  refine r_iconst (v := (0 : Int32)) C dX8_value_1 rfl ?_
  refine cX8_202 C (m_X8_weights l h) ⟨Nat.le_of_ble_eq_true rfl, Nat.le_of_ble_eq_true rfl⟩ (Nat.le_of_ble_eq_true rfl) ⟨Nat.le_refl 0, Nat.le_refl 0⟩ dX8_value_2 (fun r M_2 h => ?_)
  obtain ⟨q, h⟩ := h
  refine r_astore_n C [(2, .ref _), (0, .ref _), (1, .int _)] dX8_value_5 rfl (by decide) rfl ?_
  refine r_iload_n C 2 dX8_value_6 rfl rfl ?_
  refine r_if_lt C 30 dX8_value_7 (by decide) (fun hc => ?_) (fun hc => ?_)
  · replace h := h.1 hc
    refine kX8_231 C dX8_value_30 ?_
    exact r_lret C dX8_value_33 h
  · replace h := h.2 hc
    refine r_iload_n C 2 dX8_value_10 rfl rfl ?_
    refine r_aload_n C 0 dX8_value_11 rfl rfl ?_
    refine gX8_206 C q dX8_value_12 ?_
    refine r_icmp_ge C 30 dX8_value_15 (by decide) (fun hc => ?_) (fun hc => ?_)
    · replace h := h.1 hc
      refine kX8_231 C dX8_value_30 ?_
      exact r_lret C dX8_value_33 h
    · replace h := h.2 hc
      refine r_aload_n C 0 dX8_value_18 rfl rfl ?_
      refine r_iload_n C 2 dX8_value_19 rfl rfl ?_
      refine r_aload_n C 1 dX8_value_20 rfl rfl ?_
      refine gX8_23 C dX8_value_21 ?_
      refine cX8_227 C q (m_X7_weigh l q isX1_50 h) ⟨Nat.le_of_ble_eq_true rfl, Nat.le_of_ble_eq_true rfl⟩ (Nat.le_of_ble_eq_true rfl) ⟨Nat.le_refl 0, Nat.le_refl 0⟩ dX8_value_24 (fun r_2 M_3 h => ?_)
      refine r_goto C 33 dX8_value_27 (by decide) ?_
      exact r_lret C dX8_value_33 h
def f_X8_bound (v1 : Int32) (M : Mem) (K : Int64 → Mem → Prop) : Prop := f_X1_hasPlace 50 v1 M (fun (r : Int32) (M_2 : Mem) => ((r = 0 → K (-1 : Int64) M_2) ∧ (¬ r = 0 → f_X8_weights (0 : Int32) M_2 (fun (r_2 : Nat) (M_3 : Mem) => isX7 r_2 ∧ f_X7_leastBound r_2 v1 50 M_3 (fun (r_3 : Int64) (M_4 : Mem) => K r_3 M_4)))))

set_option maxHeartbeats 1000000 in
set_option maxRecDepth 10000 in
theorem m_X8_bound (l : Launch) {v1 : Int32}  {M : Mem} {K : Int64 → Mem → Prop} (h : f_X8_bound v1 M K) : CTl l yX8_bound cX8_bound 2 (some .long) rm_X8_bound (fun ad => [.ref (ad 41), .int v1]) M K := by
  refine rw_entl (by decide +kernel) (fun ad => Nat.le_of_ble_eq_true rfl) (fun p e s m args below meth c D cy ad C => ?_)
  change rw_W p l e _ s m args below meth c D cy ad 2 0 0 _ 0 [(0, .ref (ad 41)), (1, .int v1)] [] M
  unfold f_X8_bound at h
  refine r_aload_n C 0 dX8_bound_0 rfl rfl ?_
  refine gX8_23 C dX8_bound_1 ?_
  refine r_iload_n C 1 dX8_bound_4 rfl rfl ?_
  refine cX8_140 C isX1_50 (m_X1_hasPlace l isX1_50 h) ⟨Nat.le_of_ble_eq_true rfl, Nat.le_of_ble_eq_true rfl⟩ (Nat.le_of_ble_eq_true rfl) ⟨Nat.le_refl 0, Nat.le_refl 0⟩ dX8_bound_5 (fun r M_2 h => ?_)
  refine r_if_eq C 27 dX8_bound_8 (by decide) (fun hc => ?_) (fun hc => ?_)
  · replace h := h.1 hc
    refine kX8_231 C dX8_bound_27 ?_
    exact r_lret C dX8_bound_30 h
  · replace h := h.2 hc
    refine r_aload_n C 0 dX8_bound_11 rfl rfl ?_
    refine r_iconst (v := (0 : Int32)) C dX8_bound_12 rfl ?_
    refine cX8_202 C (m_X8_weights l h) ⟨Nat.le_of_ble_eq_true rfl, Nat.le_of_ble_eq_true rfl⟩ (Nat.le_of_ble_eq_true rfl) ⟨Nat.le_refl 0, Nat.le_refl 0⟩ dX8_bound_13 (fun r_2 M_3 h => ?_)
    obtain ⟨q, h⟩ := h
    refine r_iload_n C 1 dX8_bound_16 rfl rfl ?_
    refine r_aload_n C 0 dX8_bound_17 rfl rfl ?_
    refine gX8_23 C dX8_bound_18 ?_
    refine cX8_233 C q (m_X7_leastBound l q isX1_50 h) ⟨Nat.le_of_ble_eq_true rfl, Nat.le_of_ble_eq_true rfl⟩ (Nat.le_of_ble_eq_true rfl) ⟨Nat.le_refl 0, Nat.le_refl 0⟩ dX8_bound_21 (fun r_3 M_4 h => ?_)
    refine r_goto C 30 dX8_bound_24 (by decide) ?_
    exact r_lret C dX8_bound_30 h
set_option maxHeartbeats 1000000 in
set_option maxRecDepth 10000 in
theorem mD_X8_placeSets_1 (C : rw_C p s m meth c cX8_placeSets 3 RX8 (some (.object "TokenSums$PlaceSets")) D cy ad) {Q : State → Prop} {st : List Value} {M : Mem} {v1 : Int32} {o0 : Int32} (kk : rw_W p l e R s m args below meth c D cy ad 3 0 0 Q 15 [(0, .ref (ad 41)), (1, .int v1)] (.ref (ad (if ¬ o0 = 0 then 119 else 114)) :: st) M) : rw_W p l e R s m args below meth c D cy ad 3 0 0 Q 1 [(0, .ref (ad 41)), (1, .int v1)] (.int o0 :: st) M := by
  refine r_if_ne C 11 dX8_placeSets_1 (by decide) (fun z0 => ?_) (fun z0 => ?_)
  · skip
    refine r_aload_n C 0 dX8_placeSets_11 rfl rfl ?_
    refine gX8_52 C dX8_placeSets_12 ?_
    first | rw [if_pos z0] at kk | rw [if_neg (fun q9 => q9 z0)] at kk
    exact kk
  · skip
    refine r_aload_n C 0 dX8_placeSets_4 rfl rfl ?_
    refine gX8_48 C dX8_placeSets_5 ?_
    refine r_goto C 15 dX8_placeSets_8 (by decide) ?_
    first | rw [if_neg z0] at kk | rw [if_neg (fun q9 => q9 z0)] at kk
    exact kk

def f_X8_placeSets (v1 : Int32) (M : Mem) (K : Nat → Mem → Prop) : Prop := f_X3_lookAt (if ¬ v1 = 0 then 119 else 114) 50 M (fun (M_2 : Mem) => K (if ¬ v1 = 0 then 119 else 114) M_2)

set_option maxHeartbeats 1000000 in
set_option maxRecDepth 10000 in
theorem m_X8_placeSets (l : Launch) {v1 : Int32}  {M : Mem} {K : Nat → Mem → Prop} (h : f_X8_placeSets v1 M K) : CTr l yX8_placeSets cX8_placeSets 3 (some (.object "TokenSums$PlaceSets")) rm_X8_placeSets (fun ad => [.ref (ad 41), .int v1]) M K := by
  refine rw_entr (by decide +kernel) (fun ad => Nat.le_of_ble_eq_true rfl) (fun p e s m args below meth c D cy ad C => ?_)
  change rw_W p l e _ s m args below meth c D cy ad 3 0 0 _ 0 [(0, .ref (ad 41)), (1, .int v1)] [] M
  unfold f_X8_placeSets at h
  refine r_iload_n C 1 dX8_placeSets_0 rfl rfl ?_
  refine mD_X8_placeSets_1 C ?_
  refine r_astore_n C [(2, .ref _), (0, .ref _), (1, .int _)] dX8_placeSets_15 rfl (by decide) rfl ?_
  refine r_aload_n C 0 dX8_placeSets_16 rfl rfl ?_
  refine r_aload_n C 1 dX8_placeSets_17 rfl rfl ?_
  refine gX8_23 C dX8_placeSets_18 ?_
  refine cX8_358 C (ite_p (P := (fun a => isX3 a)) isX3_119 isX3_114) (m_X3_lookAt l (ite_p (P := (fun a => isX3 a)) isX3_119 isX3_114) isX1_50 h) ⟨Nat.le_of_ble_eq_true rfl, Nat.le_of_ble_eq_true rfl⟩ (Nat.le_of_ble_eq_true rfl) ⟨Nat.le_refl 0, Nat.le_refl 0⟩ dX8_placeSets_21 (fun M_2 h => ?_)
  refine r_aload_n C 0 dX8_placeSets_24 rfl rfl ?_
  exact r_aret C dX8_placeSets_25 h
def f_X8_leastSets (v1 : Int32) (M : Mem) (K : Nat → Mem → Prop) : Prop := f_X8_placeSets v1 M (fun (r : Nat) (M_2 : Mem) => isX3 r ∧ f_X3_findLeast r (M_2.1 50 5) M_2 (fun (M_3 : Mem) => K r M_3))

set_option maxHeartbeats 1000000 in
set_option maxRecDepth 10000 in
theorem m_X8_leastSets (l : Launch) {v1 : Int32}  {M : Mem} {K : Nat → Mem → Prop} (h : f_X8_leastSets v1 M K) : CTr l yX8_leastSets cX8_leastSets 3 (some (.object "TokenSums$PlaceSets")) rm_X8_leastSets (fun ad => [.ref (ad 41), .int v1]) M K := by
  refine rw_entr (by decide +kernel) (fun ad => Nat.le_of_ble_eq_true rfl) (fun p e s m args below meth c D cy ad C => ?_)
  change rw_W p l e _ s m args below meth c D cy ad 3 0 0 _ 0 [(0, .ref (ad 41)), (1, .int v1)] [] M
  unfold f_X8_leastSets at h
  refine r_aload_n C 0 dX8_leastSets_0 rfl rfl ?_
  refine r_iload_n C 1 dX8_leastSets_1 rfl rfl ?_
  refine cX8_246 C (m_X8_placeSets l h) ⟨Nat.le_of_ble_eq_true rfl, Nat.le_of_ble_eq_true rfl⟩ (Nat.le_of_ble_eq_true rfl) ⟨Nat.le_refl 0, Nat.le_refl 0⟩ dX8_leastSets_2 (fun r M_2 h => ?_)
  obtain ⟨q, h⟩ := h
  refine r_astore_n C [(2, .ref _), (0, .ref _), (1, .int _)] dX8_leastSets_5 rfl (by decide) rfl ?_
  refine r_aload_n C 0 dX8_leastSets_6 rfl rfl ?_
  refine r_aload_n C 1 dX8_leastSets_7 rfl rfl ?_
  refine gX8_23 C dX8_leastSets_8 ?_
  refine gX8_107 C isX1_50 dX8_leastSets_11 ?_
  refine cX8_361 C q (m_X3_findLeast l q h) ⟨Nat.le_of_ble_eq_true rfl, Nat.le_of_ble_eq_true rfl⟩ (Nat.le_of_ble_eq_true rfl) ⟨Nat.le_refl 0, Nat.le_refl 0⟩ dX8_leastSets_14 (fun M_3 h => ?_)
  refine r_aload_n C 0 dX8_leastSets_17 rfl rfl ?_
  exact r_aret C dX8_leastSets_18 h
def f_X8_siphons (v1 : Int32) (M : Mem) (K : Int32 → Mem → Prop) : Prop := f_X8_isOneOfTwo v1 M (fun (r : Int32) (M_2 : Mem) => ((r = 0 → K (-1 : Int32) M_2) ∧ (¬ r = 0 → f_X8_leastSets v1 M_2 (fun (r_2 : Nat) (M_3 : Mem) => isX3 r_2 ∧ K (M_3.1 r_2 5) M_3))))

set_option maxHeartbeats 1000000 in
set_option maxRecDepth 10000 in
theorem m_X8_siphons (l : Launch) {v1 : Int32}  {M : Mem} {K : Int32 → Mem → Prop} (h : f_X8_siphons v1 M K) : CTi l yX8_siphons cX8_siphons 2 (some .int) rm_X8_siphons (fun ad => [.ref (ad 41), .int v1]) M K := by
  refine rw_enti (by decide +kernel) (fun ad => Nat.le_of_ble_eq_true rfl) (fun p e s m args below meth c D cy ad C => ?_)
  change rw_W p l e _ s m args below meth c D cy ad 2 0 0 _ 0 [(0, .ref (ad 41)), (1, .int v1)] [] M
  unfold f_X8_siphons at h
  refine r_iload_n C 1 dX8_siphons_0 rfl rfl ?_
  refine cX8_199 C (m_X8_isOneOfTwo l h) ⟨Nat.le_of_ble_eq_true rfl, Nat.le_of_ble_eq_true rfl⟩ (Nat.le_of_ble_eq_true rfl) ⟨Nat.le_refl 0, Nat.le_refl 0⟩ dX8_siphons_1 (fun r M_2 h => ?_)
  refine r_if_eq C 18 dX8_siphons_4 (by decide) (fun hc => ?_) (fun hc => ?_)
  · replace h := h.1 hc
    refine r_iconst (v := (-1 : Int32)) C dX8_siphons_18 rfl ?_
    exact r_iret C dX8_siphons_19 h
  · replace h := h.2 hc
    refine r_aload_n C 0 dX8_siphons_7 rfl rfl ?_
    refine r_iload_n C 1 dX8_siphons_8 rfl rfl ?_
    refine cX8_236 C (m_X8_leastSets l h) ⟨Nat.le_of_ble_eq_true rfl, Nat.le_of_ble_eq_true rfl⟩ (Nat.le_of_ble_eq_true rfl) ⟨Nat.le_refl 0, Nat.le_refl 0⟩ dX8_siphons_9 (fun r_2 M_3 h => ?_)
    obtain ⟨q, h⟩ := h
    refine gX8_240 C q dX8_siphons_12 ?_
    refine r_goto C 19 dX8_siphons_15 (by decide) ?_
    exact r_iret C dX8_siphons_19 h
def f_X8_isSiphon (v1 : Int32) (v2 : Int32) (M : Mem) (K : Int32 → Mem → Prop) : Prop := f_X8_isOneOfTwo v1 M (fun (r : Int32) (M_2 : Mem) => ((¬ r = 0 → ((v2 = 0 → K (0 : Int32) M_2) ∧ (¬ v2 = 0 → (((v2 &&& ((M_2.1 50 5) ^^^ (-1 : Int32))) = 0 → f_X8_placeSets v1 M_2 (fun (r_2 : Nat) (M_3 : Mem) => isX3 r_2 ∧ f_X3_isClosed r_2 v2 M_3 (fun (r_3 : Int32) (M_4 : Mem) => f_X8_oneIf r_3 M_4 (fun (r_4 : Int32) (M_5 : Mem) => K r_4 M_5)))) ∧ (¬ (v2 &&& ((M_2.1 50 5) ^^^ (-1 : Int32))) = 0 → K (0 : Int32) M_2))))) ∧ (r = 0 → K (-1 : Int32) M_2)))

set_option maxHeartbeats 1000000 in
set_option maxRecDepth 10000 in
theorem m_X8_isSiphon (l : Launch) {v1 : Int32} {v2 : Int32}  {M : Mem} {K : Int32 → Mem → Prop} (h : f_X8_isSiphon v1 v2 M K) : CTi l yX8_isSiphon cX8_isSiphon 3 (some .int) rm_X8_isSiphon (fun ad => [.ref (ad 41), .int v1, .int v2]) M K := by
  refine rw_enti (by decide +kernel) (fun ad => Nat.le_of_ble_eq_true rfl) (fun p e s m args below meth c D cy ad C => ?_)
  change rw_W p l e _ s m args below meth c D cy ad 3 0 0 _ 0 [(0, .ref (ad 41)), (1, .int v1), (2, .int v2)] [] M
  unfold f_X8_isSiphon at h
  refine r_iload_n C 1 dX8_isSiphon_0 rfl rfl ?_
  refine cX8_199 C (m_X8_isOneOfTwo l h) ⟨Nat.le_of_ble_eq_true rfl, Nat.le_of_ble_eq_true rfl⟩ (Nat.le_of_ble_eq_true rfl) ⟨Nat.le_refl 0, Nat.le_refl 0⟩ dX8_isSiphon_1 (fun r M_2 h => ?_)
  refine r_if_ne C 9 dX8_isSiphon_4 (by decide) (fun hc => ?_) (fun hc => ?_)
  · replace h := h.1 hc
    refine r_iload_n C 2 dX8_isSiphon_9 rfl rfl ?_
    refine r_if_eq C 27 dX8_isSiphon_10 (by decide) (fun hc => ?_) (fun hc => ?_)
    · replace h := h.1 hc
      refine r_iconst (v := (0 : Int32)) C dX8_isSiphon_27 rfl ?_
      exact r_iret C dX8_isSiphon_28 h
    · replace h := h.2 hc
      refine r_iload_n C 2 dX8_isSiphon_13 rfl rfl ?_
      refine r_aload_n C 0 dX8_isSiphon_14 rfl rfl ?_
      refine gX8_23 C dX8_isSiphon_15 ?_
      refine gX8_107 C isX1_50 dX8_isSiphon_18 ?_
      refine r_iconst (v := (-1 : Int32)) C dX8_isSiphon_21 rfl ?_
      refine r_ixor C dX8_isSiphon_22 ?_
      refine r_iand C dX8_isSiphon_23 ?_
      refine r_if_eq C 29 dX8_isSiphon_24 (by decide) (fun hc => ?_) (fun hc => ?_)
      · replace h := h.1 hc
        refine r_aload_n C 0 dX8_isSiphon_29 rfl rfl ?_
        refine r_iload_n C 1 dX8_isSiphon_30 rfl rfl ?_
        refine cX8_246 C (m_X8_placeSets l h) ⟨Nat.le_of_ble_eq_true rfl, Nat.le_of_ble_eq_true rfl⟩ (Nat.le_of_ble_eq_true rfl) ⟨Nat.le_refl 0, Nat.le_refl 0⟩ dX8_isSiphon_31 (fun r_2 M_3 h => ?_)
        obtain ⟨q, h⟩ := h
        refine r_iload_n C 2 dX8_isSiphon_34 rfl rfl ?_
        refine cX8_249 C q (m_X3_isClosed l q h) ⟨Nat.le_of_ble_eq_true rfl, Nat.le_of_ble_eq_true rfl⟩ (Nat.le_of_ble_eq_true rfl) ⟨Nat.le_refl 0, Nat.le_refl 0⟩ dX8_isSiphon_35 (fun r_3 M_4 h => ?_)
        refine cX8_162 C (m_X8_oneIf l h) ⟨Nat.le_of_ble_eq_true rfl, Nat.le_of_ble_eq_true rfl⟩ (Nat.le_of_ble_eq_true rfl) ⟨Nat.le_refl 0, Nat.le_refl 0⟩ dX8_isSiphon_38 (fun r_4 M_5 h => ?_)
        exact r_iret C dX8_isSiphon_41 h
      · replace h := h.2 hc
        refine r_iconst (v := (0 : Int32)) C dX8_isSiphon_27 rfl ?_
        exact r_iret C dX8_isSiphon_28 h
  · replace h := h.2 hc
    refine r_iconst (v := (-1 : Int32)) C dX8_isSiphon_7 rfl ?_
    exact r_iret C dX8_isSiphon_8 h
def f_X8_greatest (v1 : Int32) (v2 : Int32) (M : Mem) (K : Int32 → Mem → Prop) : Prop := f_X8_isOneOfTwo v1 M (fun (r : Int32) (M_2 : Mem) => ((r = 0 → K (-1 : Int32) M_2) ∧ (¬ r = 0 → f_X8_placeSets v1 M_2 (fun (r_2 : Nat) (M_3 : Mem) => isX3 r_2 ∧ f_X3_largestWithin r_2 (v2 &&& (M_3.1 50 5)) M_3 (fun (r_3 : Int32) (M_4 : Mem) => K r_3 M_4)))))

set_option maxHeartbeats 1000000 in
set_option maxRecDepth 10000 in
theorem m_X8_greatest (l : Launch) {v1 : Int32} {v2 : Int32}  {M : Mem} {K : Int32 → Mem → Prop} (h : f_X8_greatest v1 v2 M K) : CTi l yX8_greatest cX8_greatest 3 (some .int) rm_X8_greatest (fun ad => [.ref (ad 41), .int v1, .int v2]) M K := by
  refine rw_enti (by decide +kernel) (fun ad => Nat.le_of_ble_eq_true rfl) (fun p e s m args below meth c D cy ad C => ?_)
  change rw_W p l e _ s m args below meth c D cy ad 3 0 0 _ 0 [(0, .ref (ad 41)), (1, .int v1), (2, .int v2)] [] M
  unfold f_X8_greatest at h
  refine r_iload_n C 1 dX8_greatest_0 rfl rfl ?_
  refine cX8_199 C (m_X8_isOneOfTwo l h) ⟨Nat.le_of_ble_eq_true rfl, Nat.le_of_ble_eq_true rfl⟩ (Nat.le_of_ble_eq_true rfl) ⟨Nat.le_refl 0, Nat.le_refl 0⟩ dX8_greatest_1 (fun r M_2 h => ?_)
  refine r_if_eq C 27 dX8_greatest_4 (by decide) (fun hc => ?_) (fun hc => ?_)
  · replace h := h.1 hc
    refine r_iconst (v := (-1 : Int32)) C dX8_greatest_27 rfl ?_
    exact r_iret C dX8_greatest_28 h
  · replace h := h.2 hc
    refine r_aload_n C 0 dX8_greatest_7 rfl rfl ?_
    refine r_iload_n C 1 dX8_greatest_8 rfl rfl ?_
    refine cX8_246 C (m_X8_placeSets l h) ⟨Nat.le_of_ble_eq_true rfl, Nat.le_of_ble_eq_true rfl⟩ (Nat.le_of_ble_eq_true rfl) ⟨Nat.le_refl 0, Nat.le_refl 0⟩ dX8_greatest_9 (fun r_2 M_3 h => ?_)
    obtain ⟨q, h⟩ := h
    refine r_iload_n C 2 dX8_greatest_12 rfl rfl ?_
    refine r_aload_n C 0 dX8_greatest_13 rfl rfl ?_
    refine gX8_23 C dX8_greatest_14 ?_
    refine gX8_107 C isX1_50 dX8_greatest_17 ?_
    refine r_iand C dX8_greatest_20 ?_
    refine cX8_252 C q (m_X3_largestWithin l q h) ⟨Nat.le_of_ble_eq_true rfl, Nat.le_of_ble_eq_true rfl⟩ (Nat.le_of_ble_eq_true rfl) ⟨Nat.le_refl 0, Nat.le_refl 0⟩ dX8_greatest_21 (fun r_3 M_4 h => ?_)
    refine r_goto C 28 dX8_greatest_24 (by decide) ?_
    exact r_iret C dX8_greatest_28 h
end MG
