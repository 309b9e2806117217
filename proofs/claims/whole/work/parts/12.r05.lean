section MG
variable {p : Program} {l : Launch} {e : Env} {R : Room} {s : State} {m : MethodId} {args : Array Value} {below : List Frame} {meth : Method} {c : Code} {D : va_G} {cy : Nat → ClassId} {ad : Nat → Nat}
def L_X9_valueOf_5 (v1 : Int32) (X43 : Int64 → Mem → Prop) (K : Int64 → Mem → Prop) : Nat → Int64 → Int32 → Mem → Prop
  | 0, _, _, _ => False
  | n + 1, v2, v4, M => (((10 : Int32) ≤ v4 → X43 v2 M) ∧ (¬ (10 : Int32) ≤ v4 → vp_in (((10 : Int32) * v1) + v4) 5200 ∧ vp_in v4 30 ∧ ∀ x2_2 : Int64, x2_2 = v2 + (((gI M 15 (((10 : Int32) * v1) + v4)).toInt64) * ((gI M 3 v4).toInt64)) → L_X9_valueOf_5 v1 X43 K n x2_2 (v4 + (1 : Int32)) M))

set_option maxHeartbeats 1000000 in
set_option maxRecDepth 10000 in
theorem mL_X9_valueOf_5 (C : rw_C p s m meth c cX9_valueOf 5 RX9 (some .long) D cy ad) {v1 : Int32} {X43 : Int64 → Mem → Prop} {K : Int64 → Mem → Prop} (hX43 : ∀ (u2 : Int64) (M : Mem), X43 u2 M → rw_W p l e rm_X9_valueOf s m args below meth c D cy ad 5 0 0 (rw_Ql below args s D cy ad K) 43 [(2, .long u2)] [] M) : ∀ (n : Nat) (v2 : Int64) (v4 : Int32) (M : Mem), L_X9_valueOf_5 v1 X43 K n v2 v4 M → rw_W p l e rm_X9_valueOf s m args below meth c D cy ad 5 0 0 (rw_Ql below args s D cy ad K) 5 [(0, .ref (ad 0)), (1, .int v1), (2, .long v2), (4, .int v4)] [] M := by
  intro n
  induction n with
  | zero => intro v2 v4 M h; exact h.elim
  | succ n ih =>
    intro v2 v4 M h
    refine r_iload C 3 dX9_valueOf_5 rfl ?_
    refine r_bipush (v := (10 : Int32)) C dX9_valueOf_7 rfl ?_
    refine r_icmp_ge C 43 dX9_valueOf_9 (by decide) (fun hc => ?_) (fun hc => ?_)
    · replace h := h.1 hc
      exact r_sub [2] rfl (hX43 _ _ h)
    · replace h := h.2 hc
      refine r_lload_n C 2 dX9_valueOf_12 rfl rfl ?_
      refine r_aload_n C 0 dX9_valueOf_13 rfl rfl ?_
      refine gX9_57 C dX9_valueOf_14 ?_
      refine r_bipush (v := (10 : Int32)) C dX9_valueOf_17 rfl ?_
      refine r_iload_n C 1 dX9_valueOf_19 rfl rfl ?_
      refine r_imul C dX9_valueOf_20 ?_
      refine r_iload C 3 dX9_valueOf_21 rfl ?_
      refine r_iadd C dX9_valueOf_23 ?_
      obtain ⟨q, h⟩ := h
      refine r_iald C sh_15 q dX9_valueOf_24 ?_
      refine r_i2l C dX9_valueOf_25 ?_
      refine r_aload_n C 0 dX9_valueOf_26 rfl rfl ?_
      refine gX9_16 C dX9_valueOf_27 ?_
      refine r_iload C 3 dX9_valueOf_30 rfl ?_
      obtain ⟨q_2, h⟩ := h
      refine r_iald C sh_3 q_2 dX9_valueOf_32 ?_
      refine r_i2l C dX9_valueOf_33 ?_
      refine r_lmul C dX9_valueOf_34 ?_
      refine r_ladd C dX9_valueOf_35 ?_
      refine r_lstore_n C [(2, .long _), (0, .ref _), (1, .int _), (4, .int _)] dX9_valueOf_36 rfl (by decide) rfl ?_
      replace h := h _ rfl
      refine r_iinc C 3 (v := _) [(4, .int _), (2, .long _), (0, .ref _), (1, .int _)] dX9_valueOf_37 rfl rfl (by decide) rfl ?_
      refine r_goto C 5 dX9_valueOf_40 (by decide) ?_
      exact r_sub [2, 3, 1, 0] rfl (ih _ _ _ h)

def f_X9_valueOf (v1 : Int32) (M : Mem) (K : Int64 → Mem → Prop) : Prop := ∀ x2 : Int64, x2 = (0 : Int64) → (∃ k5 : Nat, L_X9_valueOf_5 v1 (fun (v2_2 : Int64) (M_2 : Mem) => K v2_2 M_2) K k5 x2 (0 : Int32) M)

set_option maxHeartbeats 1000000 in
set_option maxRecDepth 10000 in
theorem m_X9_valueOf (l : Launch) {v1 : Int32}  {M : Mem} {K : Int64 → Mem → Prop} (h : f_X9_valueOf v1 M K) : CTl l yX9_valueOf cX9_valueOf 5 (some .long) rm_X9_valueOf (fun ad => [.ref (ad 0), .int v1]) M K := by
  refine rw_entl (by decide +kernel) (fun ad => Nat.le_of_ble_eq_true rfl) (fun p e s m args below meth c D cy ad C => ?_)
  change rw_W p l e _ s m args below meth c D cy ad 5 0 0 _ 0 [(0, .ref (ad 0)), (1, .int v1)] [] M
  unfold f_X9_valueOf at h
  refine r_lconst (v := (0 : Int64)) C dX9_valueOf_0 rfl ?_
  refine r_lstore_n C [(2, .long _), (0, .ref _), (1, .int _)] dX9_valueOf_1 rfl (by decide) rfl ?_
  replace h := h _ rfl
  refine r_iconst (v := (0 : Int32)) C dX9_valueOf_2 rfl ?_
  refine r_istore C [(4, .int _), (2, .long _), (0, .ref _), (1, .int _)] dX9_valueOf_3 (by decide) rfl ?_
  obtain ⟨n5, h⟩ := h
  refine r_sub [2, 3, 1, 0] rfl (mL_X9_valueOf_5 C (fun v2_2 M_2 h => ?_) n5 _ _ _ h)
  refine r_lload_n C 0 dX9_valueOf_43 rfl rfl ?_
  exact r_lret C dX9_valueOf_44 h
def f_X9_value (v1 : Int32) (M : Mem) (K : Int64 → Mem → Prop) : Prop := ∀ M_2 : Mem, M_2 = wI M 0 0 (0 : Int32) → f_X9_isSum (0 : Int32) v1 M_2 (fun (r : Int32) (M_3 : Mem) => ((r = 0 → K (-1 : Int64) M_3) ∧ (¬ r = 0 → f_X9_valueOf v1 M_3 (fun (r_2 : Int64) (M_4 : Mem) => K r_2 M_4))))

set_option maxHeartbeats 1000000 in
set_option maxRecDepth 10000 in
theorem m_X9_value (l : Launch) {v1 : Int32}  {M : Mem} {K : Int64 → Mem → Prop} (h : f_X9_value v1 M K) : CTl l yX9_value cX9_value 2 (some .long) rm_X9_value (fun ad => [.ref (ad 0), .int v1]) M K := by
  refine rw_entl (by decide +kernel) (fun ad => Nat.le_of_ble_eq_true rfl) (fun p e s m args below meth c D cy ad C => ?_)
  change rw_W p l e _ s m args below meth c D cy ad 2 0 0 _ 0 [(0, .ref (ad 0)), (1, .int v1)] [] M
  unfold f_X9_value at h
  refine r_aload_n C 0 dX9_value_0 rfl rfl ?_
  refine r_iconst (v := (0 : Int32)) C dX9_value_1 rfl ?_
  refine pX9_133 C dX9_value_2 ?_
  replace h := h _ rfl
  refine r_aload_n C 0 dX9_value_5 rfl rfl ?_
  refine r_iconst (v := (0 : Int32)) C dX9_value_6 rfl ?_
  refine r_iload_n C 1 dX9_value_7 rfl rfl ?_
  refine cX9_339 C (m_X9_isSum l h) ⟨Nat.le_of_ble_eq_true rfl, Nat.le_of_ble_eq_true rfl⟩ (Nat.le_of_ble_eq_true rfl) ⟨Nat.le_refl 0, Nat.le_refl 0⟩ dX9_value_8 (fun r M_3 h => ?_)
  refine r_if_eq C 22 dX9_value_11 (by decide) (fun hc => ?_) (fun hc => ?_)
  · replace h := h.1 hc
    refine kX9_346 C dX9_value_22 ?_
    exact r_lret C dX9_value_25 h
  · replace h := h.2 hc
    refine r_aload_n C 0 dX9_value_14 rfl rfl ?_
    refine r_iload_n C 1 dX9_value_15 rfl rfl ?_
    refine cX9_342 C (m_X9_valueOf l h) ⟨Nat.le_of_ble_eq_true rfl, Nat.le_of_ble_eq_true rfl⟩ (Nat.le_of_ble_eq_true rfl) ⟨Nat.le_refl 0, Nat.le_refl 0⟩ dX9_value_16 (fun r_2 M_4 h => ?_)
    refine r_goto C 25 dX9_value_19 (by decide) ?_
    exact r_lret C dX9_value_25 h
def S_X9_bound_53 (v1 : Int32) (v2 : Int64) (v4 : Int32) (v5 : Int32) (o0 : Int32) (X72 : Int64 → Mem → Prop) (K : Int64 → Mem → Prop) (M : Mem) : Prop := (¬ o0 = 0 → f_X9_valueOf v4 M (fun (r_3 : Int64) (M_5 : Mem) => (¬ v5.toInt64 = 0) ∧ X72 (r_3 / v5.toInt64) M_5)) ∧ (o0 = 0 → X72 (-1 : Int64) M)

set_option maxHeartbeats 1000000 in
set_option maxRecDepth 10000 in
theorem mS_X9_bound_53 (C : rw_C p s m meth c cX9_bound 8 RX9 (some .long) D cy ad) {v1 : Int32} {v2 : Int64} {v4 : Int32} {v5 : Int32} {o0 : Int32} {X72 : Int64 → Mem → Prop} {K : Int64 → Mem → Prop} {M : Mem} (hX72 : ∀  (w0 : Int64) (M : Mem), X72 w0 M → rw_W p l e rm_X9_bound s m args below meth c D cy ad 8 0 0 (rw_Ql below args s D cy ad K) 72 [(0, .ref (ad 0)), (1, .int v1), (2, .long v2), (4, .int v4), (5, .int v5)] [.long w0] M) (h : S_X9_bound_53 v1 v2 v4 v5 o0 X72 K M) : rw_W p l e rm_X9_bound s m args below meth c D cy ad 8 0 0 (rw_Ql below args s D cy ad K) 53 [(0, .ref (ad 0)), (1, .int v1), (2, .long v2), (4, .int v4), (5, .int v5)] [.int o0] M := by
  refine r_if_ne C 62 dX9_bound_53 (by decide) (fun hc => ?_) (fun hc => ?_)
  · replace h := h.1 hc
    refine r_aload_n C 0 dX9_bound_62 rfl rfl ?_
    refine r_iload C 3 dX9_bound_63 rfl ?_
    refine cX9_342 C (m_X9_valueOf l h) ⟨Nat.le_of_ble_eq_true rfl, Nat.le_of_ble_eq_true rfl⟩ (Nat.le_of_ble_eq_true rfl) ⟨Nat.le_refl 0, Nat.le_refl 0⟩ dX9_bound_65 (fun r_3 M_5 h => ?_)
    refine r_iload C 4 dX9_bound_68 rfl ?_
    refine r_i2l C dX9_bound_70 ?_
    obtain ⟨q_2, h⟩ := h
    refine r_ldiv C dX9_bound_71 q_2 ?_
    exact hX72 _ _ h
  · replace h := h.2 hc
    refine kX9_346 C dX9_bound_56 ?_
    refine r_goto C 72 dX9_bound_59 (by decide) ?_
    exact hX72 _ _ h

def L_X9_bound_26 (v1 : Int32) (X105 : Int64 → Mem → Prop) (K : Int64 → Mem → Prop) : Nat → Int64 → Int32 → Mem → Prop
  | 0, _, _, _ => False
  | n + 1, v2, v4, M => (((gI M 17 (0 : Int32)) ≤ v4 → X105 v2 M) ∧ (¬ (gI M 17 (0 : Int32)) ≤ v4 → vp_in (((10 : Int32) * v4) + v1) 5200 ∧ ∀ x5 : Int32, x5 = gI M 15 (((10 : Int32) * v4) + v1) → (S_X9_bound_53 v1 v2 v4 x5 x5 (fun (w : Int64) (M_6 : Mem) => ((x5 ≤ 0 → L_X9_bound_26 v1 X105 K n v2 (v4 + (1 : Int32)) M_6) ∧ (¬ x5 ≤ 0 → ((v2 < (0 : Int64) → L_X9_bound_26 v1 X105 K n w (v4 + (1 : Int32)) M_6) ∧ (¬ v2 < (0 : Int64) → ((v2 ≤ w → L_X9_bound_26 v1 X105 K n v2 (v4 + (1 : Int32)) M_6) ∧ (¬ v2 ≤ w → L_X9_bound_26 v1 X105 K n w (v4 + (1 : Int32)) M_6))))))) K M)))

set_option maxHeartbeats 1000000 in
set_option maxRecDepth 10000 in
theorem mL_X9_bound_26 (C : rw_C p s m meth c cX9_bound 8 RX9 (some .long) D cy ad) {v1 : Int32} {X105 : Int64 → Mem → Prop} {K : Int64 → Mem → Prop} (hX105 : ∀ (u2 : Int64) (M : Mem), X105 u2 M → rw_W p l e rm_X9_bound s m args below meth c D cy ad 8 0 0 (rw_Ql below args s D cy ad K) 105 [(2, .long u2)] [] M) : ∀ (n : Nat) (v2 : Int64) (v4 : Int32) (M : Mem), L_X9_bound_26 v1 X105 K n v2 v4 M → rw_W p l e rm_X9_bound s m args below meth c D cy ad 8 0 0 (rw_Ql below args s D cy ad K) 26 [(0, .ref (ad 0)), (1, .int v1), (2, .long v2), (4, .int v4)] [] M := by
  intro n
  induction n with
  | zero => intro v2 v4 M h; exact h.elim
  | succ n ih =>
    intro v2 v4 M h
    refine r_iload C 3 dX9_bound_26 rfl ?_
    refine r_aload_n C 0 dX9_bound_28 rfl rfl ?_
    refine gX9_63 C dX9_bound_29 ?_
    refine r_iconst (v := (0 : Int32)) C dX9_bound_32 rfl ?_
    refine r_iald C sh_17 (vpd (i := (0 : Int32)) (n := 2) (by decide +kernel)) dX9_bound_33 ?_
    refine r_icmp_ge C 105 dX9_bound_34 (by decide) (fun hc => ?_) (fun hc => ?_)
    · replace h := h.1 hc
      exact r_sub [2] rfl (hX105 _ _ h)
    · replace h := h.2 hc
      refine r_aload_n C 0 dX9_bound_37 rfl rfl ?_
      refine gX9_57 C dX9_bound_38 ?_
      refine r_bipush (v := (10 : Int32)) C dX9_bound_41 rfl ?_
      refine r_iload C 3 dX9_bound_43 rfl ?_
      refine r_imul C dX9_bound_45 ?_
      refine r_iload_n C 1 dX9_bound_46 rfl rfl ?_
      refine r_iadd C dX9_bound_47 ?_
      obtain ⟨q, h⟩ := h
      refine r_iald C sh_15 q dX9_bound_48 ?_
      refine r_istore C [(5, .int _), (0, .ref _), (1, .int _), (2, .long _), (4, .int _)] dX9_bound_49 (by decide) rfl ?_
      replace h := h _ rfl
      refine r_iload C 0 dX9_bound_51 rfl ?_
      refine r_sub [1, 2, 3, 4, 0] rfl (mS_X9_bound_53 C (fun w M_6 h => ?_) h)
      refine r_lstore C [(6, .long _), (0, .ref _), (1, .int _), (2, .long _), (4, .int _), (5, .int _)] dX9_bound_72 (by decide) rfl ?_
      refine r_iload C 5 dX9_bound_74 rfl ?_
      refine r_if_le C 97 dX9_bound_76 (by decide) (fun hc => ?_) (fun hc => ?_)
      · replace h := h.1 hc
        refine r_lload_n C 3 dX9_bound_97 rfl rfl ?_
        refine r_lstore_n C [(2, .long _), (6, .long _), (0, .ref _), (1, .int _), (4, .int _), (5, .int _)] dX9_bound_98 rfl (by decide) rfl ?_
        refine r_iinc C 4 (v := _) [(4, .int _), (2, .long _), (6, .long _), (0, .ref _), (1, .int _), (5, .int _)] dX9_bound_99 rfl rfl (by decide) rfl ?_
        refine r_goto C 26 dX9_bound_102 (by decide) ?_
        exact r_sub [3, 4, 1, 0] rfl (ih _ _ _ h)
      · replace h := h.2 hc
        refine r_lload_n C 3 dX9_bound_79 rfl rfl ?_
        refine r_lconst (v := (0 : Int64)) C dX9_bound_80 rfl ?_
        refine r_lcmp C dX9_bound_81 ?_
        refine r_if_lt C 92 dX9_bound_82 (by decide) (fun hc => ?_) (fun hc => ?_)
        · replace h := h.1 ((lg_cmp_lt _ _).mp hc)
          refine r_lload C 0 dX9_bound_92 rfl ?_
          refine r_goto C 98 dX9_bound_94 (by decide) ?_
          refine r_lstore_n C [(2, .long _), (6, .long _), (0, .ref _), (1, .int _), (4, .int _), (5, .int _)] dX9_bound_98 rfl (by decide) rfl ?_
          refine r_iinc C 4 (v := _) [(4, .int _), (2, .long _), (6, .long _), (0, .ref _), (1, .int _), (5, .int _)] dX9_bound_99 rfl rfl (by decide) rfl ?_
          refine r_goto C 26 dX9_bound_102 (by decide) ?_
          exact r_sub [3, 4, 1, 0] rfl (ih _ _ _ h)
        · replace h := h.2 (fun q9 => hc ((lg_cmp_lt _ _).mpr q9))
          refine r_lload C 0 dX9_bound_85 rfl ?_
          refine r_lload_n C 3 dX9_bound_87 rfl rfl ?_
          refine r_lcmp C dX9_bound_88 ?_
          refine r_if_ge C 97 dX9_bound_89 (by decide) (fun hc => ?_) (fun hc => ?_)
          · replace h := h.1 ((lg_cmp_ge _ _).mp hc)
            refine r_lload_n C 3 dX9_bound_97 rfl rfl ?_
            refine r_lstore_n C [(2, .long _), (6, .long _), (0, .ref _), (1, .int _), (4, .int _), (5, .int _)] dX9_bound_98 rfl (by decide) rfl ?_
            refine r_iinc C 4 (v := _) [(4, .int _), (2, .long _), (6, .long _), (0, .ref _), (1, .int _), (5, .int _)] dX9_bound_99 rfl rfl (by decide) rfl ?_
            refine r_goto C 26 dX9_bound_102 (by decide) ?_
            exact r_sub [3, 4, 1, 0] rfl (ih _ _ _ h)
          · replace h := h.2 (fun q9 => hc ((lg_cmp_ge _ _).mpr q9))
            refine r_lload C 0 dX9_bound_92 rfl ?_
            refine r_goto C 98 dX9_bound_94 (by decide) ?_
            refine r_lstore_n C [(2, .long _), (6, .long _), (0, .ref _), (1, .int _), (4, .int _), (5, .int _)] dX9_bound_98 rfl (by decide) rfl ?_
            refine r_iinc C 4 (v := _) [(4, .int _), (2, .long _), (6, .long _), (0, .ref _), (1, .int _), (5, .int _)] dX9_bound_99 rfl rfl (by decide) rfl ?_
            refine r_goto C 26 dX9_bound_102 (by decide) ?_
            exact r_sub [3, 4, 1, 0] rfl (ih _ _ _ h)

def f_X9_bound (v1 : Int32) (M : Mem) (K : Int64 → Mem → Prop) : Prop := ∀ M_2 : Mem, M_2 = wI M 0 0 (0 : Int32) → ∀ x2 : Int64, x2 = (-1 : Int64) → f_X9_isPlace v1 M_2 (fun (r : Int32) (M_3 : Mem) => ((¬ r = 0 → f_X9_laySums  M_3 (fun (M_4 : Mem) => (∃ k26 : Nat, L_X9_bound_26 v1 (fun (v2_2 : Int64) (M_7 : Mem) => K v2_2 M_7) K k26 x2 (0 : Int32) M_4))) ∧ (r = 0 → K x2 M_3)))

set_option maxHeartbeats 1000000 in
set_option maxRecDepth 10000 in
theorem m_X9_bound (l : Launch) {v1 : Int32}  {M : Mem} {K : Int64 → Mem → Prop} (h : f_X9_bound v1 M K) : CTl l yX9_bound cX9_bound 8 (some .long) rm_X9_bound (fun ad => [.ref (ad 0), .int v1]) M K := by
  refine rw_entl (by decide +kernel) (fun ad => Nat.le_of_ble_eq_true rfl) (fun p e s m args below meth c D cy ad C => ?_)
  change rw_W p l e _ s m args below meth c D cy ad 8 0 0 _ 0 [(0, .ref (ad 0)), (1, .int v1)] [] M
  unfold f_X9_bound at h
  refine r_aload_n C 0 dX9_bound_0 rfl rfl ?_
  refine r_iconst (v := (0 : Int32)) C dX9_bound_1 rfl ?_
  refine pX9_133 C dX9_bound_2 ?_
  replace h := h _ rfl
  refine kX9_346 C dX9_bound_5 ?_
  refine r_lstore_n C [(2, .long _), (0, .ref _), (1, .int _)] dX9_bound_8 rfl (by decide) rfl ?_
  replace h := h _ rfl
  refine r_aload_n C 1 dX9_bound_9 rfl rfl ?_
  refine r_iload_n C 2 dX9_bound_10 rfl rfl ?_
  refine cX9_275 C (m_X9_isPlace l h) ⟨Nat.le_of_ble_eq_true rfl, Nat.le_of_ble_eq_true rfl⟩ (Nat.le_of_ble_eq_true rfl) ⟨Nat.le_refl 0, Nat.le_refl 0⟩ dX9_bound_11 (fun r M_3 h => ?_)
  refine r_if_ne C 19 dX9_bound_14 (by decide) (fun hc => ?_) (fun hc => ?_)
  · replace h := h.1 hc
    refine r_aload_n C 1 dX9_bound_19 rfl rfl ?_
    refine cX9_336 C (m_X9_laySums l h) ⟨Nat.le_of_ble_eq_true rfl, Nat.le_of_ble_eq_true rfl⟩ (Nat.le_of_ble_eq_true rfl) ⟨Nat.le_refl 0, Nat.le_refl 0⟩ dX9_bound_20 (fun M_4 h => ?_)
    refine r_iconst (v := (0 : Int32)) C dX9_bound_23 rfl ?_
    refine r_istore C [(4, .int _), (2, .long _), (0, .ref _), (1, .int _)] dX9_bound_24 (by decide) rfl ?_
    obtain ⟨n26, h⟩ := h
    refine r_sub [2, 3, 1, 0] rfl (mL_X9_bound_26 C (fun v2_2 M_7 h => ?_) n26 _ _ _ h)
    refine r_lload_n C 0 dX9_bound_105 rfl rfl ?_
    exact r_lret C dX9_bound_106 h
  · replace h := h.2 hc
    refine r_lload_n C 0 dX9_bound_17 rfl rfl ?_
    exact r_lret C dX9_bound_18 h
def f_X9_siphons (v1 : Int32) (M : Mem) (K : Int32 → Mem → Prop) : Prop := ∀ M_2 : Mem, M_2 = wI M 0 0 (0 : Int32) → f_X9_in v1 (0 : Int32) (1 : Int32) M_2 (fun (r : Int32) (M_3 : Mem) => ((¬ r = 0 → f_X9_laySums  M_3 (fun (M_4 : Mem) => vp_in v1 2 ∧ K (gI M_4 18 v1) M_4)) ∧ (r = 0 → K (-1 : Int32) M_3)))

set_option maxHeartbeats 1000000 in
set_option maxRecDepth 10000 in
theorem m_X9_siphons (l : Launch) {v1 : Int32}  {M : Mem} {K : Int32 → Mem → Prop} (h : f_X9_siphons v1 M K) : CTi l yX9_siphons cX9_siphons 2 (some .int) rm_X9_siphons (fun ad => [.ref (ad 0), .int v1]) M K := by
  refine rw_enti (by decide +kernel) (fun ad => Nat.le_of_ble_eq_true rfl) (fun p e s m args below meth c D cy ad C => ?_)
  change rw_W p l e _ s m args below meth c D cy ad 2 0 0 _ 0 [(0, .ref (ad 0)), (1, .int v1)] [] M
  unfold f_X9_siphons at h
  refine r_aload_n C 0 dX9_siphons_0 rfl rfl ?_
  refine r_iconst (v := (0 : Int32)) C dX9_siphons_1 rfl ?_
  refine pX9_133 C dX9_siphons_2 ?_
  replace h := h _ rfl
  refine r_iload_n C 1 dX9_siphons_5 rfl rfl ?_
  refine r_iconst (v := (0 : Int32)) C dX9_siphons_6 rfl ?_
  refine r_iconst (v := (1 : Int32)) C dX9_siphons_7 rfl ?_
  refine cX9_136 C (m_X9_in l h) ⟨Nat.le_of_ble_eq_true rfl, Nat.le_of_ble_eq_true rfl⟩ (Nat.le_of_ble_eq_true rfl) ⟨Nat.le_refl 0, Nat.le_refl 0⟩ dX9_siphons_8 (fun r M_3 h => ?_)
  refine r_if_ne C 16 dX9_siphons_11 (by decide) (fun hc => ?_) (fun hc => ?_)
  · replace h := h.1 hc
    refine r_aload_n C 0 dX9_siphons_16 rfl rfl ?_
    refine cX9_336 C (m_X9_laySums l h) ⟨Nat.le_of_ble_eq_true rfl, Nat.le_of_ble_eq_true rfl⟩ (Nat.le_of_ble_eq_true rfl) ⟨Nat.le_refl 0, Nat.le_refl 0⟩ dX9_siphons_17 (fun M_4 h => ?_)
    refine r_aload_n C 0 dX9_siphons_20 rfl rfl ?_
    refine gX9_66 C dX9_siphons_21 ?_
    refine r_iload_n C 1 dX9_siphons_24 rfl rfl ?_
    obtain ⟨q, h⟩ := h
    refine r_iald C sh_18 q dX9_siphons_25 ?_
    exact r_iret C dX9_siphons_26 h
  · replace h := h.2 hc
    refine r_iconst (v := (-1 : Int32)) C dX9_siphons_14 rfl ?_
    exact r_iret C dX9_siphons_15 h
def S_X9_siphon_11 (v1 : Int32) (v2 : Int32) (o0 : Int32) (X35 : Int32 → Mem → Prop) (K : Int32 → Mem → Prop) (M : Mem) : Prop := (o0 = 0 → X35 (1 : Int32) M) ∧ (¬ o0 = 0 → vp_in v1 2 ∧ f_X9_in v2 (0 : Int32) ((gI M 18 v1) - (1 : Int32)) M (fun (r_3 : Int32) (M_4 : Mem) => ((r_3 = 0 → X35 (1 : Int32) M_4) ∧ (¬ r_3 = 0 → X35 (0 : Int32) M_4))))

set_option maxHeartbeats 1000000 in
set_option maxRecDepth 10000 in
theorem mS_X9_siphon_11 (C : rw_C p s m meth c cX9_siphon 3 RX9 (some .int) D cy ad) {v1 : Int32} {v2 : Int32} {o0 : Int32} {X35 : Int32 → Mem → Prop} {K : Int32 → Mem → Prop} {M : Mem} (hX35 : ∀  (w0 : Int32) (M : Mem), X35 w0 M → rw_W p l e rm_X9_siphon s m args below meth c D cy ad 3 0 0 (rw_Qi below args s D cy ad K) 35 [(0, .ref (ad 0)), (1, .int v1), (2, .int v2)] [.int w0, .ref (ad 0)] M) (h : S_X9_siphon_11 v1 v2 o0 X35 K M) : rw_W p l e rm_X9_siphon s m args below meth c D cy ad 3 0 0 (rw_Qi below args s D cy ad K) 11 [(0, .ref (ad 0)), (1, .int v1), (2, .int v2)] [.int o0, .ref (ad 0)] M := by
  refine r_if_eq C 34 dX9_siphon_11 (by decide) (fun hc => ?_) (fun hc => ?_)
  · replace h := h.1 hc
    refine r_iconst (v := (1 : Int32)) C dX9_siphon_34 rfl ?_
    exact hX35 _ _ h
  · replace h := h.2 hc
    refine r_iload_n C 2 dX9_siphon_14 rfl rfl ?_
    refine r_iconst (v := (0 : Int32)) C dX9_siphon_15 rfl ?_
    refine r_aload_n C 0 dX9_siphon_16 rfl rfl ?_
    refine gX9_66 C dX9_siphon_17 ?_
    refine r_iload_n C 1 dX9_siphon_20 rfl rfl ?_
    obtain ⟨q, h⟩ := h
    refine r_iald C sh_18 q dX9_siphon_21 ?_
    refine r_iconst (v := (1 : Int32)) C dX9_siphon_22 rfl ?_
    refine r_isub C dX9_siphon_23 ?_
    refine cX9_136 C (m_X9_in l h) ⟨Nat.le_of_ble_eq_true rfl, Nat.le_of_ble_eq_true rfl⟩ (Nat.le_of_ble_eq_true rfl) ⟨Nat.le_refl 0, Nat.le_refl 0⟩ dX9_siphon_24 (fun r_3 M_4 h => ?_)
    refine r_if_eq C 34 dX9_siphon_27 (by decide) (fun hc => ?_) (fun hc => ?_)
    · replace h := h.1 hc
      refine r_iconst (v := (1 : Int32)) C dX9_siphon_34 rfl ?_
      exact hX35 _ _ h
    · replace h := h.2 hc
      refine r_iconst (v := (0 : Int32)) C dX9_siphon_30 rfl ?_
      refine r_goto C 35 dX9_siphon_31 (by decide) ?_
      exact hX35 _ _ h

def f_X9_siphon (v1 : Int32) (v2 : Int32) (M : Mem) (K : Int32 → Mem → Prop) : Prop := f_X9_laySums  M (fun (M_2 : Mem) => f_X9_in v1 (0 : Int32) (1 : Int32) M_2 (fun (r_2 : Int32) (M_3 : Mem) => (S_X9_siphon_11 v1 v2 r_2 (fun (w : Int32) (M_5 : Mem) => ∀ M_6 : Mem, M_6 = wI M_5 0 0 w → ((¬ (M_6.1 0 0) = 0 → K (0 : Int32) M_6) ∧ ((M_6.1 0 0) = 0 → vp_in (((260 : Int32) * v1) + v2) 520 ∧ K (gI M_6 16 (((260 : Int32) * v1) + v2)) M_6))) K M_3)))

set_option maxHeartbeats 1000000 in
set_option maxRecDepth 10000 in
theorem m_X9_siphon (l : Launch) {v1 : Int32} {v2 : Int32}  {M : Mem} {K : Int32 → Mem → Prop} (h : f_X9_siphon v1 v2 M K) : CTi l yX9_siphon cX9_siphon 3 (some .int) rm_X9_siphon (fun ad => [.ref (ad 0), .int v1, .int v2]) M K := by
  refine rw_enti (by decide +kernel) (fun ad => Nat.le_of_ble_eq_true rfl) (fun p e s m args below meth c D cy ad C => ?_)
  change rw_W p l e _ s m args below meth c D cy ad 3 0 0 _ 0 [(0, .ref (ad 0)), (1, .int v1), (2, .int v2)] [] M
  unfold f_X9_siphon at h
  refine r_aload_n C 0 dX9_siphon_0 rfl rfl ?_
  refine cX9_336 C (m_X9_laySums l h) ⟨Nat.le_of_ble_eq_true rfl, Nat.le_of_ble_eq_true rfl⟩ (Nat.le_of_ble_eq_true rfl) ⟨Nat.le_refl 0, Nat.le_refl 0⟩ dX9_siphon_1 (fun M_2 h => ?_)
  refine r_aload_n C 0 dX9_siphon_4 rfl rfl ?_
  refine r_iload_n C 1 dX9_siphon_5 rfl rfl ?_
  refine r_iconst (v := (0 : Int32)) C dX9_siphon_6 rfl ?_
  refine r_iconst (v := (1 : Int32)) C dX9_siphon_7 rfl ?_
  refine cX9_136 C (m_X9_in l h) ⟨Nat.le_of_ble_eq_true rfl, Nat.le_of_ble_eq_true rfl⟩ (Nat.le_of_ble_eq_true rfl) ⟨Nat.le_refl 0, Nat.le_refl 0⟩ dX9_siphon_8 (fun r_2 M_3 h => ?_)
  refine mS_X9_siphon_11 C (fun w M_5 h => ?_) h
  refine pX9_133 C dX9_siphon_35 ?_
  replace h := h _ rfl
  refine r_aload_n C 0 dX9_siphon_38 rfl rfl ?_
  refine gX9_133 C dX9_siphon_39 ?_
  refine r_if_ne C 60 dX9_siphon_42 (by decide) (fun hc => ?_) (fun hc => ?_)
  · replace h := h.1 hc
    refine r_iconst (v := (0 : Int32)) C dX9_siphon_60 rfl ?_
    exact r_iret C dX9_siphon_61 h
  · replace h := h.2 hc
    refine r_aload_n C 0 dX9_siphon_45 rfl rfl ?_
    refine gX9_60 C dX9_siphon_46 ?_
    refine r_sipush (v := (260 : Int32)) C dX9_siphon_49 rfl ?_
    refine r_iload_n C 1 dX9_siphon_52 rfl rfl ?_
    refine r_imul C dX9_siphon_53 ?_
    refine r_iload_n C 2 dX9_siphon_54 rfl rfl ?_
    refine r_iadd C dX9_siphon_55 ?_
    obtain ⟨q_2, h⟩ := h
    refine r_iald C sh_16 q_2 dX9_siphon_56 ?_
    refine r_goto C 61 dX9_siphon_57 (by decide) ?_
    exact r_iret C dX9_siphon_61 h
def f_X9_isSiphon (v1 : Int32) (v2 : Int32) (M : Mem) (K : Int32 → Mem → Prop) : Prop := ∀ M_2 : Mem, M_2 = wI M 0 0 (0 : Int32) → f_X9_in v1 (0 : Int32) (1 : Int32) M_2 (fun (r : Int32) (M_3 : Mem) => ((¬ r = 0 → ((v2 = 0 → K (0 : Int32) M_3) ∧ (¬ v2 = 0 → ((¬ (v2 &&& ((gI M_3 4 (0 : Int32)) ^^^ (-1 : Int32))) = 0 → K (0 : Int32) M_3) ∧ ((v2 &&& ((gI M_3 4 (0 : Int32)) ^^^ (-1 : Int32))) = 0 → f_X9_isClosed v1 v2 M_3 (fun (r_2 : Int32) (M_4 : Mem) => ((r_2 = 0 → K (0 : Int32) M_4) ∧ (¬ r_2 = 0 → K (1 : Int32) M_4)))))))) ∧ (r = 0 → K (-1 : Int32) M_3)))

set_option maxHeartbeats 1000000 in
set_option maxRecDepth 10000 in
theorem m_X9_isSiphon (l : Launch) {v1 : Int32} {v2 : Int32}  {M : Mem} {K : Int32 → Mem → Prop} (h : f_X9_isSiphon v1 v2 M K) : CTi l yX9_isSiphon cX9_isSiphon 3 (some .int) rm_X9_isSiphon (fun ad => [.ref (ad 0), .int v1, .int v2]) M K := by
  refine rw_enti (by decide +kernel) (fun ad => Nat.le_of_ble_eq_true rfl) (fun p e s m args below meth c D cy ad C => ?_)
  change rw_W p l e _ s m args below meth c D cy ad 3 0 0 _ 0 [(0, .ref (ad 0)), (1, .int v1), (2, .int v2)] [] M
  unfold f_X9_isSiphon at h
  refine r_aload_n C 0 dX9_isSiphon_0 rfl rfl ?_
  refine r_iconst (v := (0 : Int32)) C dX9_isSiphon_1 rfl ?_
  refine pX9_133 C dX9_isSiphon_2 ?_
  replace h := h _ rfl
  refine r_iload_n C 1 dX9_isSiphon_5 rfl rfl ?_
  refine r_iconst (v := (0 : Int32)) C dX9_isSiphon_6 rfl ?_
  refine r_iconst (v := (1 : Int32)) C dX9_isSiphon_7 rfl ?_
  refine cX9_136 C (m_X9_in l h) ⟨Nat.le_of_ble_eq_true rfl, Nat.le_of_ble_eq_true rfl⟩ (Nat.le_of_ble_eq_true rfl) ⟨Nat.le_refl 0, Nat.le_refl 0⟩ dX9_isSiphon_8 (fun r M_3 h => ?_)
  refine r_if_ne C 16 dX9_isSiphon_11 (by decide) (fun hc => ?_) (fun hc => ?_)
  · replace h := h.1 hc
    refine r_iload_n C 2 dX9_isSiphon_16 rfl rfl ?_
    refine r_if_eq C 46 dX9_isSiphon_17 (by decide) (fun hc => ?_) (fun hc => ?_)
    · replace h := h.1 hc
      refine r_iconst (v := (0 : Int32)) C dX9_isSiphon_46 rfl ?_
      exact r_iret C dX9_isSiphon_47 h
    · replace h := h.2 hc
      refine r_iload_n C 2 dX9_isSiphon_20 rfl rfl ?_
      refine r_aload_n C 0 dX9_isSiphon_21 rfl rfl ?_
      refine gX9_19 C dX9_isSiphon_22 ?_
      refine r_iconst (v := (0 : Int32)) C dX9_isSiphon_25 rfl ?_
      refine r_iald C sh_4 (vpd (i := (0 : Int32)) (n := 3) (by decide +kernel)) dX9_isSiphon_26 ?_
      refine r_iconst (v := (-1 : Int32)) C dX9_isSiphon_27 rfl ?_
      refine r_ixor C dX9_isSiphon_28 ?_
      refine r_iand C dX9_isSiphon_29 ?_
      refine r_if_ne C 46 dX9_isSiphon_30 (by decide) (fun hc => ?_) (fun hc => ?_)
      · replace h := h.1 hc
        refine r_iconst (v := (0 : Int32)) C dX9_isSiphon_46 rfl ?_
        exact r_iret C dX9_isSiphon_47 h
      · replace h := h.2 hc
        refine r_aload_n C 0 dX9_isSiphon_33 rfl rfl ?_
        refine r_iload_n C 1 dX9_isSiphon_34 rfl rfl ?_
        refine r_iload_n C 2 dX9_isSiphon_35 rfl rfl ?_
        refine cX9_326 C (m_X9_isClosed l h) ⟨Nat.le_of_ble_eq_true rfl, Nat.le_of_ble_eq_true rfl⟩ (Nat.le_of_ble_eq_true rfl) ⟨Nat.le_refl 0, Nat.le_refl 0⟩ dX9_isSiphon_36 (fun r_2 M_4 h => ?_)
        refine r_if_eq C 46 dX9_isSiphon_39 (by decide) (fun hc => ?_) (fun hc => ?_)
        · replace h := h.1 hc
          refine r_iconst (v := (0 : Int32)) C dX9_isSiphon_46 rfl ?_
          exact r_iret C dX9_isSiphon_47 h
        · replace h := h.2 hc
          refine r_iconst (v := (1 : Int32)) C dX9_isSiphon_42 rfl ?_
          refine r_goto C 47 dX9_isSiphon_43 (by decide) ?_
          exact r_iret C dX9_isSiphon_47 h
  · replace h := h.2 hc
    refine r_iconst (v := (-1 : Int32)) C dX9_isSiphon_14 rfl ?_
    exact r_iret C dX9_isSiphon_15 h
def f_X9_greatest (v1 : Int32) (v2 : Int32) (M : Mem) (K : Int32 → Mem → Prop) : Prop := ∀ M_2 : Mem, M_2 = wI M 0 0 (0 : Int32) → f_X9_in v1 (0 : Int32) (1 : Int32) M_2 (fun (r : Int32) (M_3 : Mem) => ((r = 0 → K (-1 : Int32) M_3) ∧ (¬ r = 0 → f_X9_within v1 v2 M_3 (fun (r_2 : Int32) (M_4 : Mem) => K r_2 M_4))))

set_option maxHeartbeats 1000000 in
set_option maxRecDepth 10000 in
theorem m_X9_greatest (l : Launch) {v1 : Int32} {v2 : Int32}  {M : Mem} {K : Int32 → Mem → Prop} (h : f_X9_greatest v1 v2 M K) : CTi l yX9_greatest cX9_greatest 3 (some .int) rm_X9_greatest (fun ad => [.ref (ad 0), .int v1, .int v2]) M K := by
  refine rw_enti (by decide +kernel) (fun ad => Nat.le_of_ble_eq_true rfl) (fun p e s m args below meth c D cy ad C => ?_)
  change rw_W p l e _ s m args below meth c D cy ad 3 0 0 _ 0 [(0, .ref (ad 0)), (1, .int v1), (2, .int v2)] [] M
  unfold f_X9_greatest at h
  refine r_aload_n C 0 dX9_greatest_0 rfl rfl ?_
  refine r_iconst (v := (0 : Int32)) C dX9_greatest_1 rfl ?_
  refine pX9_133 C dX9_greatest_2 ?_
  replace h := h _ rfl
  refine r_iload_n C 1 dX9_greatest_5 rfl rfl ?_
  refine r_iconst (v := (0 : Int32)) C dX9_greatest_6 rfl ?_
  refine r_iconst (v := (1 : Int32)) C dX9_greatest_7 rfl ?_
  refine cX9_136 C (m_X9_in l h) ⟨Nat.le_of_ble_eq_true rfl, Nat.le_of_ble_eq_true rfl⟩ (Nat.le_of_ble_eq_true rfl) ⟨Nat.le_refl 0, Nat.le_refl 0⟩ dX9_greatest_8 (fun r M_3 h => ?_)
  refine r_if_eq C 23 dX9_greatest_11 (by decide) (fun hc => ?_) (fun hc => ?_)
  · replace h := h.1 hc
    refine r_iconst (v := (-1 : Int32)) C dX9_greatest_23 rfl ?_
    exact r_iret C dX9_greatest_24 h
  · replace h := h.2 hc
    refine r_aload_n C 0 dX9_greatest_14 rfl rfl ?_
    refine r_iload_n C 1 dX9_greatest_15 rfl rfl ?_
    refine r_iload_n C 2 dX9_greatest_16 rfl rfl ?_
    refine cX9_348 C (m_X9_within l h) ⟨Nat.le_of_ble_eq_true rfl, Nat.le_of_ble_eq_true rfl⟩ (Nat.le_of_ble_eq_true rfl) ⟨Nat.le_refl 0, Nat.le_refl 0⟩ dX9_greatest_17 (fun r_2 M_4 h => ?_)
    refine r_goto C 24 dX9_greatest_20 (by decide) ?_
    exact r_iret C dX9_greatest_24 h
def L_X9_filled_4 (X35 : Int32 → Mem → Prop) (K : Int32 → Mem → Prop) : Nat → Int32 → Int32 → Mem → Prop
  | 0, _, _, _ => False
  | n + 1, v1, v2, M => (((10 : Int32) ≤ v2 → X35 v1 M) ∧ (¬ (10 : Int32) ≤ v2 → vp_in v2 30 ∧ (((gI M 3 v2) ≤ 0 → ∀ x1 : Int32, x1 = v1 ||| (0 : Int32) → L_X9_filled_4 X35 K n x1 (v2 + (1 : Int32)) M) ∧ (¬ (gI M 3 v2) ≤ 0 → ∀ x1_2 : Int32, x1_2 = v1 ||| ((1 : Int32) <<< (v2 &&& 31)) → L_X9_filled_4 X35 K n x1_2 (v2 + (1 : Int32)) M))))

set_option maxHeartbeats 1000000 in
set_option maxRecDepth 10000 in
theorem mL_X9_filled_4 (C : rw_C p s m meth c cX9_filled 3 RX9 (some .int) D cy ad) {X35 : Int32 → Mem → Prop} {K : Int32 → Mem → Prop} (hX35 : ∀ (u1 : Int32) (M : Mem), X35 u1 M → rw_W p l e rm_X9_filled s m args below meth c D cy ad 3 0 0 (rw_Qi below args s D cy ad K) 35 [(1, .int u1)] [] M) : ∀ (n : Nat) (v1 : Int32) (v2 : Int32) (M : Mem), L_X9_filled_4 X35 K n v1 v2 M → rw_W p l e rm_X9_filled s m args below meth c D cy ad 3 0 0 (rw_Qi below args s D cy ad K) 4 [(0, .ref (ad 0)), (1, .int v1), (2, .int v2)] [] M := by
  intro n
  induction n with
  | zero => intro v1 v2 M h; exact h.elim
  | succ n ih =>
    intro v1 v2 M h
    refine r_iload_n C 2 dX9_filled_4 rfl rfl ?_
    refine r_bipush (v := (10 : Int32)) C dX9_filled_5 rfl ?_
    refine r_icmp_ge C 35 dX9_filled_7 (by decide) (fun hc => ?_) (fun hc => ?_)
    · replace h := h.1 hc
      exact r_sub [1] rfl (hX35 _ _ h)
    · replace h := h.2 hc
      refine r_iload_n C 1 dX9_filled_10 rfl rfl ?_
      refine r_aload_n C 0 dX9_filled_11 rfl rfl ?_
      refine gX9_16 C dX9_filled_12 ?_
      refine r_iload_n C 2 dX9_filled_15 rfl rfl ?_
      obtain ⟨q, h⟩ := h
      refine r_iald C sh_3 q dX9_filled_16 ?_
      refine r_if_le C 26 dX9_filled_17 (by decide) (fun hc => ?_) (fun hc => ?_)
      · replace h := h.1 hc
        refine r_iconst (v := (0 : Int32)) C dX9_filled_26 rfl ?_
        refine r_ior C dX9_filled_27 ?_
        refine r_istore_n C [(1, .int _), (0, .ref _), (2, .int _)] dX9_filled_28 rfl (by decide) rfl ?_
        replace h := h _ rfl
        refine r_iinc C 2 (v := _) [(2, .int _), (1, .int _), (0, .ref _)] dX9_filled_29 rfl rfl (by decide) rfl ?_
        refine r_goto C 4 dX9_filled_32 (by decide) ?_
        exact r_sub [2, 1, 0] rfl (ih _ _ _ h)
      · replace h := h.2 hc
        refine r_iconst (v := (1 : Int32)) C dX9_filled_20 rfl ?_
        refine r_iload_n C 2 dX9_filled_21 rfl rfl ?_
        refine r_ishl C dX9_filled_22 ?_
        refine r_goto C 27 dX9_filled_23 (by decide) ?_
        refine r_ior C dX9_filled_27 ?_
        refine r_istore_n C [(1, .int _), (0, .ref _), (2, .int _)] dX9_filled_28 rfl (by decide) rfl ?_
        replace h := h _ rfl
        refine r_iinc C 2 (v := _) [(2, .int _), (1, .int _), (0, .ref _)] dX9_filled_29 rfl rfl (by decide) rfl ?_
        refine r_goto C 4 dX9_filled_32 (by decide) ?_
        exact r_sub [2, 1, 0] rfl (ih _ _ _ h)

def f_X9_filled (M : Mem) (K : Int32 → Mem → Prop) : Prop := (∃ k4 : Nat, L_X9_filled_4 (fun (v1_2 : Int32) (M_2 : Mem) => K v1_2 M_2) K k4 (0 : Int32) (0 : Int32) M)

set_option maxHeartbeats 1000000 in
set_option maxRecDepth 10000 in
theorem m_X9_filled (l : Launch)   {M : Mem} {K : Int32 → Mem → Prop} (h : f_X9_filled M K) : CTi l yX9_filled cX9_filled 3 (some .int) rm_X9_filled (fun ad => [.ref (ad 0)]) M K := by
  refine rw_enti (by decide +kernel) (fun ad => Nat.le_of_ble_eq_true rfl) (fun p e s m args below meth c D cy ad C => ?_)
  change rw_W p l e _ s m args below meth c D cy ad 3 0 0 _ 0 [(0, .ref (ad 0))] [] M
  unfold f_X9_filled at h
  refine r_iconst (v := (0 : Int32)) C dX9_filled_0 rfl ?_
  refine r_istore_n C [(1, .int _), (0, .ref _)] dX9_filled_1 rfl (by decide) rfl ?_
  refine r_iconst (v := (0 : Int32)) C dX9_filled_2 rfl ?_
  refine r_istore_n C [(2, .int _), (1, .int _), (0, .ref _)] dX9_filled_3 rfl (by decide) rfl ?_
  obtain ⟨n4, h⟩ := h
  refine r_sub [2, 1, 0] rfl (mL_X9_filled_4 C (fun v1_2 M_2 h => ?_) n4 _ _ _ h)
  refine r_iload_n C 0 dX9_filled_35 rfl rfl ?_
  exact r_iret C dX9_filled_36 h
def L_X9_unguarded_13 (v1 : Int32) (X66 : Int32 → Mem → Prop) (K : Int32 → Mem → Prop) : Nat → Int32 → Int32 → Mem → Prop
  | 0, _, _, _ => False
  | n + 1, v2, v3, M => (((gI M 18 (0 : Int32)) ≤ v3 → X66 v2 M) ∧ (¬ (gI M 18 (0 : Int32)) ≤ v3 → vp_in v3 520 ∧ f_X9_within (1 : Int32) (gI M 16 v3) M (fun (r_2 : Int32) (M_4 : Mem) => f_X9_filled  M_4 (fun (r_3 : Int32) (M_5 : Mem) => (((r_2 &&& r_3) = 0 → ((¬ v2 = v1 → L_X9_unguarded_13 v1 X66 K n (v2 + (1 : Int32)) (v3 + (1 : Int32)) M_5) ∧ (v2 = v1 → K (gI M_5 16 v3) M_5))) ∧ (¬ (r_2 &&& r_3) = 0 → L_X9_unguarded_13 v1 X66 K n v2 (v3 + (1 : Int32)) M_5))))))

set_option maxHeartbeats 1000000 in
set_option maxRecDepth 10000 in
theorem mL_X9_unguarded_13 (C : rw_C p s m meth c cX9_unguarded 4 RX9 (some .int) D cy ad) {v1 : Int32} {X66 : Int32 → Mem → Prop} {K : Int32 → Mem → Prop} (hX66 : ∀ (u2 : Int32) (M : Mem), X66 u2 M → rw_W p l e rm_X9_unguarded s m args below meth c D cy ad 4 0 0 (rw_Qi below args s D cy ad K) 66 [(1, .int v1), (2, .int u2)] [] M) : ∀ (n : Nat) (v2 : Int32) (v3 : Int32) (M : Mem), L_X9_unguarded_13 v1 X66 K n v2 v3 M → rw_W p l e rm_X9_unguarded s m args below meth c D cy ad 4 0 0 (rw_Qi below args s D cy ad K) 13 [(0, .ref (ad 0)), (1, .int v1), (2, .int v2), (3, .int v3)] [] M := by
  intro n
  induction n with
  | zero => intro v2 v3 M h; exact h.elim
  | succ n ih =>
    intro v2 v3 M h
    refine r_iload_n C 3 dX9_unguarded_13 rfl rfl ?_
    refine r_aload_n C 0 dX9_unguarded_14 rfl rfl ?_
    refine gX9_66 C dX9_unguarded_15 ?_
    refine r_iconst (v := (0 : Int32)) C dX9_unguarded_18 rfl ?_
    refine r_iald C sh_18 (vpd (i := (0 : Int32)) (n := 2) (by decide +kernel)) dX9_unguarded_19 ?_
    refine r_icmp_ge C 66 dX9_unguarded_20 (by decide) (fun hc => ?_) (fun hc => ?_)
    · replace h := h.1 hc
      exact r_sub [1, 2] rfl (hX66 _ _ h)
    · replace h := h.2 hc
      refine r_aload_n C 0 dX9_unguarded_23 rfl rfl ?_
      refine r_iconst (v := (1 : Int32)) C dX9_unguarded_24 rfl ?_
      refine r_aload_n C 0 dX9_unguarded_25 rfl rfl ?_
      refine gX9_60 C dX9_unguarded_26 ?_
      refine r_iload_n C 3 dX9_unguarded_29 rfl rfl ?_
      obtain ⟨q, h⟩ := h
      refine r_iald C sh_16 q dX9_unguarded_30 ?_
      refine cX9_348 C (m_X9_within l h) ⟨Nat.le_of_ble_eq_true rfl, Nat.le_of_ble_eq_true rfl⟩ (Nat.le_of_ble_eq_true rfl) ⟨Nat.le_refl 0, Nat.le_refl 0⟩ dX9_unguarded_31 (fun r_2 M_4 h => ?_)
      refine r_aload_n C 0 dX9_unguarded_34 rfl rfl ?_
      refine cX9_351 C (m_X9_filled l h) ⟨Nat.le_of_ble_eq_true rfl, Nat.le_of_ble_eq_true rfl⟩ (Nat.le_of_ble_eq_true rfl) ⟨Nat.le_refl 0, Nat.le_refl 0⟩ dX9_unguarded_35 (fun r_3 M_5 h => ?_)
      refine r_iand C dX9_unguarded_38 ?_
      refine r_if_eq C 45 dX9_unguarded_39 (by decide) (fun hc => ?_) (fun hc => ?_)
      · replace h := h.1 hc
        refine r_iload_n C 2 dX9_unguarded_45 rfl rfl ?_
        refine r_iload_n C 1 dX9_unguarded_46 rfl rfl ?_
        refine r_icmp_ne C 57 dX9_unguarded_47 (by decide) (fun hc => ?_) (fun hc => ?_)
        · replace h := h.1 hc
          refine r_iinc C 2 (v := _) [(2, .int _), (0, .ref _), (1, .int _), (3, .int _)] dX9_unguarded_57 rfl rfl (by decide) rfl ?_
          refine r_iinc C 3 (v := _) [(3, .int _), (2, .int _), (0, .ref _), (1, .int _)] dX9_unguarded_60 rfl rfl (by decide) rfl ?_
          refine r_goto C 13 dX9_unguarded_63 (by decide) ?_
          exact r_sub [2, 3, 1, 0] rfl (ih _ _ _ h)
        · replace h := h.2 hc
          refine r_aload_n C 0 dX9_unguarded_50 rfl rfl ?_
          refine gX9_60 C dX9_unguarded_51 ?_
          refine r_iload_n C 3 dX9_unguarded_54 rfl rfl ?_
          refine r_iald C sh_16 q dX9_unguarded_55 ?_
          exact r_iret C dX9_unguarded_56 h
      · replace h := h.2 hc
        refine r_goto C 60 dX9_unguarded_42 (by decide) ?_
        refine r_iinc C 3 (v := _) [(3, .int _), (0, .ref _), (1, .int _), (2, .int _)] dX9_unguarded_60 rfl rfl (by decide) rfl ?_
        refine r_goto C 13 dX9_unguarded_63 (by decide) ?_
        exact r_sub [1, 2, 3, 0] rfl (ih _ _ _ h)

def f_X9_unguarded (v1 : Int32) (M : Mem) (K : Int32 → Mem → Prop) : Prop := ∀ M_2 : Mem, M_2 = wI M 0 0 (0 : Int32) → f_X9_laySums  M_2 (fun (M_3 : Mem) => (∃ k13 : Nat, L_X9_unguarded_13 v1 (fun (v2_2 : Int32) (M_6 : Mem) => ((¬ v1 = (-1 : Int32) → K (-1 : Int32) M_6) ∧ (v1 = (-1 : Int32) → K v2_2 M_6))) K k13 (0 : Int32) (0 : Int32) M_3))

set_option maxHeartbeats 1000000 in
set_option maxRecDepth 10000 in
theorem m_X9_unguarded (l : Launch) {v1 : Int32}  {M : Mem} {K : Int32 → Mem → Prop} (h : f_X9_unguarded v1 M K) : CTi l yX9_unguarded cX9_unguarded 4 (some .int) rm_X9_unguarded (fun ad => [.ref (ad 0), .int v1]) M K := by
  refine rw_enti (by decide +kernel) (fun ad => Nat.le_of_ble_eq_true rfl) (fun p e s m args below meth c D cy ad C => ?_)
  change rw_W p l e _ s m args below meth c D cy ad 4 0 0 _ 0 [(0, .ref (ad 0)), (1, .int v1)] [] M
  unfold f_X9_unguarded at h
  refine r_aload_n C 0 dX9_unguarded_0 rfl rfl ?_
  refine r_iconst (v := (0 : Int32)) C dX9_unguarded_1 rfl ?_
  refine pX9_133 C dX9_unguarded_2 ?_
  replace h := h _ rfl
  refine r_aload_n C 0 dX9_unguarded_5 rfl rfl ?_
  refine cX9_336 C (m_X9_laySums l h) ⟨Nat.le_of_ble_eq_true rfl, Nat.le_of_ble_eq_true rfl⟩ (Nat.le_of_ble_eq_true rfl) ⟨Nat.le_refl 0, Nat.le_refl 0⟩ dX9_unguarded_6 (fun M_3 h => ?_)
  refine r_iconst (v := (0 : Int32)) C dX9_unguarded_9 rfl ?_
  refine r_istore_n C [(2, .int _), (0, .ref _), (1, .int _)] dX9_unguarded_10 rfl (by decide) rfl ?_
  refine r_iconst (v := (0 : Int32)) C dX9_unguarded_11 rfl ?_
  refine r_istore_n C [(3, .int _), (2, .int _), (0, .ref _), (1, .int _)] dX9_unguarded_12 rfl (by decide) rfl ?_
  obtain ⟨n13, h⟩ := h
  refine r_sub [2, 3, 1, 0] rfl (mL_X9_unguarded_13 C (fun v2_2 M_6 h => ?_) n13 _ _ _ h)
  refine r_iload_n C 0 dX9_unguarded_66 rfl rfl ?_
  refine r_iconst (v := (-1 : Int32)) C dX9_unguarded_67 rfl ?_
  refine r_icmp_ne C 75 dX9_unguarded_68 (by decide) (fun hc => ?_) (fun hc => ?_)
  · replace h := h.1 hc
    refine r_iconst (v := (-1 : Int32)) C dX9_unguarded_75 rfl ?_
    exact r_iret C dX9_unguarded_76 h
  · replace h := h.2 hc
    refine r_iload_n C 1 dX9_unguarded_71 rfl rfl ?_
    refine r_goto C 76 dX9_unguarded_72 (by decide) ?_
    exact r_iret C dX9_unguarded_76 h
def L_X9_lost_21 (v1 : Int32) (X54 : Int32 → Mem → Prop) (K : Int32 → Mem → Prop) : Nat → Int32 → Int32 → Mem → Prop
  | 0, _, _, _ => False
  | n + 1, v2, v3, M => (((8 : Int32) ≤ v3 → X54 v2 M) ∧ (¬ (8 : Int32) ≤ v3 → f_X9_placesOf v3 (1 : Int32) M (fun (r_3 : Int32) (M_5 : Mem) => (((r_3 &&& v1) = 0 → ∀ x2 : Int32, x2 = v2 ||| (0 : Int32) → L_X9_lost_21 v1 X54 K n x2 (v3 + (1 : Int32)) M_5) ∧ (¬ (r_3 &&& v1) = 0 → ∀ x2_2 : Int32, x2_2 = v2 ||| ((1 : Int32) <<< (v3 &&& 31)) → L_X9_lost_21 v1 X54 K n x2_2 (v3 + (1 : Int32)) M_5)))))

set_option maxHeartbeats 1000000 in
set_option maxRecDepth 10000 in
theorem mL_X9_lost_21 (C : rw_C p s m meth c cX9_lost 4 RX9 (some .int) D cy ad) {v1 : Int32} {X54 : Int32 → Mem → Prop} {K : Int32 → Mem → Prop} (hX54 : ∀ (u2 : Int32) (M : Mem), X54 u2 M → rw_W p l e rm_X9_lost s m args below meth c D cy ad 4 0 0 (rw_Qi below args s D cy ad K) 54 [(2, .int u2)] [] M) : ∀ (n : Nat) (v2 : Int32) (v3 : Int32) (M : Mem), L_X9_lost_21 v1 X54 K n v2 v3 M → rw_W p l e rm_X9_lost s m args below meth c D cy ad 4 0 0 (rw_Qi below args s D cy ad K) 21 [(0, .ref (ad 0)), (1, .int v1), (2, .int v2), (3, .int v3)] [] M := by
  intro n
  induction n with
  | zero => intro v2 v3 M h; exact h.elim
  | succ n ih =>
    intro v2 v3 M h
    refine r_iload_n C 3 dX9_lost_21 rfl rfl ?_
    refine r_bipush (v := (8 : Int32)) C dX9_lost_22 rfl ?_
    refine r_icmp_ge C 54 dX9_lost_24 (by decide) (fun hc => ?_) (fun hc => ?_)
    · replace h := h.1 hc
      exact r_sub [2] rfl (hX54 _ _ h)
    · replace h := h.2 hc
      refine r_iload_n C 2 dX9_lost_27 rfl rfl ?_
      refine r_aload_n C 0 dX9_lost_28 rfl rfl ?_
      refine r_iload_n C 3 dX9_lost_29 rfl rfl ?_
      refine r_iconst (v := (1 : Int32)) C dX9_lost_30 rfl ?_
      refine cX9_332 C (m_X9_placesOf l h) ⟨Nat.le_of_ble_eq_true rfl, Nat.le_of_ble_eq_true rfl⟩ (Nat.le_of_ble_eq_true rfl) ⟨Nat.le_refl 0, Nat.le_refl 0⟩ dX9_lost_31 (fun r_3 M_5 h => ?_)
      refine r_iload_n C 1 dX9_lost_34 rfl rfl ?_
      refine r_iand C dX9_lost_35 ?_
      refine r_if_eq C 45 dX9_lost_36 (by decide) (fun hc => ?_) (fun hc => ?_)
      · replace h := h.1 hc
        refine r_iconst (v := (0 : Int32)) C dX9_lost_45 rfl ?_
        refine r_ior C dX9_lost_46 ?_
        refine r_istore_n C [(2, .int _), (0, .ref _), (1, .int _), (3, .int _)] dX9_lost_47 rfl (by decide) rfl ?_
        replace h := h _ rfl
        refine r_iinc C 3 (v := _) [(3, .int _), (2, .int _), (0, .ref _), (1, .int _)] dX9_lost_48 rfl rfl (by decide) rfl ?_
        refine r_goto C 21 dX9_lost_51 (by decide) ?_
        exact r_sub [2, 3, 1, 0] rfl (ih _ _ _ h)
      · replace h := h.2 hc
        refine r_iconst (v := (1 : Int32)) C dX9_lost_39 rfl ?_
        refine r_iload_n C 3 dX9_lost_40 rfl rfl ?_
        refine r_ishl C dX9_lost_41 ?_
        refine r_goto C 46 dX9_lost_42 (by decide) ?_
        refine r_ior C dX9_lost_46 ?_
        refine r_istore_n C [(2, .int _), (0, .ref _), (1, .int _), (3, .int _)] dX9_lost_47 rfl (by decide) rfl ?_
        replace h := h _ rfl
        refine r_iinc C 3 (v := _) [(3, .int _), (2, .int _), (0, .ref _), (1, .int _)] dX9_lost_48 rfl rfl (by decide) rfl ?_
        refine r_goto C 21 dX9_lost_51 (by decide) ?_
        exact r_sub [2, 3, 1, 0] rfl (ih _ _ _ h)

def f_X9_lost (M : Mem) (K : Int32 → Mem → Prop) : Prop := ∀ M_2 : Mem, M_2 = wI M 0 0 (0 : Int32) → f_X9_filled  M_2 (fun (r : Int32) (M_3 : Mem) => f_X9_within (0 : Int32) (r ^^^ (-1 : Int32)) M_3 (fun (r_2 : Int32) (M_4 : Mem) => (∃ k21 : Nat, L_X9_lost_21 r_2 (fun (v2_2 : Int32) (M_6 : Mem) => K v2_2 M_6) K k21 (0 : Int32) (0 : Int32) M_4)))

set_option maxHeartbeats 1000000 in
set_option maxRecDepth 10000 in
theorem m_X9_lost (l : Launch)   {M : Mem} {K : Int32 → Mem → Prop} (h : f_X9_lost M K) : CTi l yX9_lost cX9_lost 4 (some .int) rm_X9_lost (fun ad => [.ref (ad 0)]) M K := by
  refine rw_enti (by decide +kernel) (fun ad => Nat.le_of_ble_eq_true rfl) (fun p e s m args below meth c D cy ad C => ?_)
  change rw_W p l e _ s m args below meth c D cy ad 4 0 0 _ 0 [(0, .ref (ad 0))] [] M
  unfold f_X9_lost at h
  refine r_aload_n C 0 dX9_lost_0 rfl rfl ?_
  refine r_iconst (v := (0 : Int32)) C dX9_lost_1 rfl ?_
  refine pX9_133 C dX9_lost_2 ?_
  replace h := h _ rfl
  refine r_aload_n C 0 dX9_lost_5 rfl rfl ?_
  refine r_iconst (v := (0 : Int32)) C dX9_lost_6 rfl ?_
  refine r_aload_n C 0 dX9_lost_7 rfl rfl ?_
  refine cX9_351 C (m_X9_filled l h) ⟨Nat.le_of_ble_eq_true rfl, Nat.le_of_ble_eq_true rfl⟩ (Nat.le_of_ble_eq_true rfl) ⟨Nat.le_refl 0, Nat.le_refl 0⟩ dX9_lost_8 (fun r M_3 h => ?_)
  refine r_iconst (v := (-1 : Int32)) C dX9_lost_11 rfl ?_
  refine r_ixor C dX9_lost_12 ?_
  refine cX9_348 C (m_X9_within l h) ⟨Nat.le_of_ble_eq_true rfl, Nat.le_of_ble_eq_true rfl⟩ (Nat.le_of_ble_eq_true rfl) ⟨Nat.le_refl 0, Nat.le_refl 0⟩ dX9_lost_13 (fun r_2 M_4 h => ?_)
  refine r_istore_n C [(1, .int _), (0, .ref _)] dX9_lost_16 rfl (by decide) rfl ?_
  refine r_iconst (v := (0 : Int32)) C dX9_lost_17 rfl ?_
  refine r_istore_n C [(2, .int _), (1, .int _), (0, .ref _)] dX9_lost_18 rfl (by decide) rfl ?_
  refine r_iconst (v := (0 : Int32)) C dX9_lost_19 rfl ?_
  refine r_istore_n C [(3, .int _), (2, .int _), (1, .int _), (0, .ref _)] dX9_lost_20 rfl (by decide) rfl ?_
  obtain ⟨n21, h⟩ := h
  refine r_sub [3, 2, 1, 0] rfl (mL_X9_lost_21 C (fun v2_2 M_6 h => ?_) n21 _ _ _ h)
  refine r_iload_n C 0 dX9_lost_54 rfl rfl ?_
  exact r_iret C dX9_lost_55 h
def f_X9_aim (v1 : Int32) (v2 : Int32) (M : Mem) (K : Int32 → Mem → Prop) : Prop := ∀ M_2 : Mem, M_2 = wI M 0 0 (0 : Int32) → f_X9_isPlace v1 M_2 (fun (r : Int32) (M_3 : Mem) => ((r = 0 → K (-1 : Int32) M_3) ∧ (¬ r = 0 → f_X9_in v2 (0 : Int32) (999 : Int32) M_3 (fun (r_2 : Int32) (M_4 : Mem) => ((¬ r_2 = 0 → vp_in v1 10 ∧ ∀ x3 : Int32, x3 = gI M_4 8 v1 → ∀ M_5 : Mem, M_5 = wI M_4 8 v1.toNatClampNeg v2 → ∀ M_6 : Mem, M_6 = wI M_5 0 24 (0 : Int32) → K x3 M_6) ∧ (r_2 = 0 → K (-1 : Int32) M_4))))))

set_option maxHeartbeats 1000000 in
set_option maxRecDepth 10000 in
theorem m_X9_aim (l : Launch) {v1 : Int32} {v2 : Int32}  {M : Mem} {K : Int32 → Mem → Prop} (h : f_X9_aim v1 v2 M K) : CTi l yX9_aim cX9_aim 4 (some .int) rm_X9_aim (fun ad => [.ref (ad 0), .int v1, .int v2]) M K := by
  refine rw_enti (by decide +kernel) (fun ad => Nat.le_of_ble_eq_true rfl) (fun p e s m args below meth c D cy ad C => ?_)
  change rw_W p l e _ s m args below meth c D cy ad 4 0 0 _ 0 [(0, .ref (ad 0)), (1, .int v1), (2, .int v2)] [] M
  unfold f_X9_aim at h
  refine r_aload_n C 0 dX9_aim_0 rfl rfl ?_
  refine r_iconst (v := (0 : Int32)) C dX9_aim_1 rfl ?_
  refine pX9_133 C dX9_aim_2 ?_
  replace h := h _ rfl
  refine r_aload_n C 0 dX9_aim_5 rfl rfl ?_
  refine r_iload_n C 1 dX9_aim_6 rfl rfl ?_
  refine cX9_275 C (m_X9_isPlace l h) ⟨Nat.le_of_ble_eq_true rfl, Nat.le_of_ble_eq_true rfl⟩ (Nat.le_of_ble_eq_true rfl) ⟨Nat.le_refl 0, Nat.le_refl 0⟩ dX9_aim_7 (fun r M_3 h => ?_)
  refine r_if_eq C 24 dX9_aim_10 (by decide) (fun hc => ?_) (fun hc => ?_)
  · replace h := h.1 hc
    refine r_iconst (v := (-1 : Int32)) C dX9_aim_24 rfl ?_
    exact r_iret C dX9_aim_25 h
  · replace h := h.2 hc
    refine r_iload_n C 2 dX9_aim_13 rfl rfl ?_
    refine r_iconst (v := (0 : Int32)) C dX9_aim_14 rfl ?_
    refine r_sipush (v := (999 : Int32)) C dX9_aim_15 rfl ?_
    refine cX9_136 C (m_X9_in l h) ⟨Nat.le_of_ble_eq_true rfl, Nat.le_of_ble_eq_true rfl⟩ (Nat.le_of_ble_eq_true rfl) ⟨Nat.le_refl 0, Nat.le_refl 0⟩ dX9_aim_18 (fun r_2 M_4 h => ?_)
    refine r_if_ne C 26 dX9_aim_21 (by decide) (fun hc => ?_) (fun hc => ?_)
    · replace h := h.1 hc
      refine r_aload_n C 0 dX9_aim_26 rfl rfl ?_
      refine gX9_31 C dX9_aim_27 ?_
      refine r_iload_n C 1 dX9_aim_30 rfl rfl ?_
      obtain ⟨q, h⟩ := h
      refine r_iald C sh_8 q dX9_aim_31 ?_
      refine r_istore_n C [(3, .int _), (0, .ref _), (1, .int _), (2, .int _)] dX9_aim_32 rfl (by decide) rfl ?_
      replace h := h _ rfl
      refine r_aload_n C 1 dX9_aim_33 rfl rfl ?_
      refine gX9_31 C dX9_aim_34 ?_
      refine r_iload_n C 2 dX9_aim_37 rfl rfl ?_
      refine r_iload_n C 3 dX9_aim_38 rfl rfl ?_
      refine r_iast C sh_8 q dX9_aim_39 ?_
      replace h := h _ rfl
      refine r_aload_n C 1 dX9_aim_40 rfl rfl ?_
      refine r_iconst (v := (0 : Int32)) C dX9_aim_41 rfl ?_
      refine pX9_257 C (by decide) dX9_aim_42 ?_
      replace h := h _ rfl
      refine r_iload_n C 0 dX9_aim_45 rfl rfl ?_
      exact r_iret C dX9_aim_46 h
    · replace h := h.2 hc
      refine r_iconst (v := (-1 : Int32)) C dX9_aim_24 rfl ?_
      exact r_iret C dX9_aim_25 h
def L_X9_isAim_2 (v1 : Nat) (v2 : Int32) (X43 : Mem → Prop) (K : Int32 → Mem → Prop) : Nat → Int32 → Mem → Prop
  | 0, _, _ => False
  | n + 1, v3, M => (((10 : Int32) ≤ v3 → X43 M) ∧ (¬ (10 : Int32) ≤ v3 → f_X9_isOf (gI M 4 (0 : Int32)) v3 M (fun (r : Int32) (M_2 : Mem) => ((r = 0 → L_X9_isAim_2 v1 v2 X43 K n (v3 + (1 : Int32)) M_2) ∧ (¬ r = 0 → vp_in (v2 + v3) (alen v1) ∧ vp_in v3 10 ∧ (((gI M_2 v1 (v2 + v3)) = (gI M_2 8 v3) → L_X9_isAim_2 v1 v2 X43 K n (v3 + (1 : Int32)) M_2) ∧ (¬ (gI M_2 v1 (v2 + v3)) = (gI M_2 8 v3) → K (0 : Int32) M_2)))))))

set_option maxHeartbeats 1000000 in
set_option maxRecDepth 10000 in
theorem mL_X9_isAim_2 (C : rw_C p s m meth c cX9_isAim 4 RX9 (some .boolean) D cy ad) {v1 : Nat} {v2 : Int32} (h_v1 : isA v1 0 (alen v1)) {X43 : Mem → Prop} {K : Int32 → Mem → Prop} (hX43 : ∀  (M : Mem), X43 M → rw_W p l e rm_X9_isAim s m args below meth c D cy ad 4 0 0 (rw_Qi below args s D cy ad K) 43 [] [] M) : ∀ (n : Nat) (v3 : Int32) (M : Mem), L_X9_isAim_2 v1 v2 X43 K n v3 M → rw_W p l e rm_X9_isAim s m args below meth c D cy ad 4 0 0 (rw_Qi below args s D cy ad K) 2 [(0, .ref (ad 0)), (1, .ref (ad v1)), (2, .int v2), (3, .int v3)] [] M := by
  intro n
  induction n with
  | zero => intro v3 M h; exact h.elim
  | succ n ih =>
    intro v3 M h
    refine r_iload_n C 3 dX9_isAim_2 rfl rfl ?_
    refine r_bipush (v := (10 : Int32)) C dX9_isAim_3 rfl ?_
    refine r_icmp_ge C 43 dX9_isAim_5 (by decide) (fun hc => ?_) (fun hc => ?_)
    · replace h := h.1 hc
      exact r_sub [] rfl (hX43 _ h)
    · replace h := h.2 hc
      refine r_aload_n C 0 dX9_isAim_8 rfl rfl ?_
      refine gX9_19 C dX9_isAim_9 ?_
      refine r_iconst (v := (0 : Int32)) C dX9_isAim_12 rfl ?_
      refine r_iald C sh_4 (vpd (i := (0 : Int32)) (n := 3) (by decide +kernel)) dX9_isAim_13 ?_
      refine r_iload_n C 3 dX9_isAim_14 rfl rfl ?_
      refine cX9_140 C (m_X9_isOf l h) ⟨Nat.le_of_ble_eq_true rfl, Nat.le_of_ble_eq_true rfl⟩ (Nat.le_of_ble_eq_true rfl) ⟨Nat.le_refl 0, Nat.le_refl 0⟩ dX9_isAim_15 (fun r M_2 h => ?_)
      refine r_if_eq C 37 dX9_isAim_18 (by decide) (fun hc => ?_) (fun hc => ?_)
      · replace h := h.1 hc
        refine r_iinc C 3 (v := _) [(3, .int _), (0, .ref _), (1, .ref _), (2, .int _)] dX9_isAim_37 rfl rfl (by decide) rfl ?_
        refine r_goto C 2 dX9_isAim_40 (by decide) ?_
        exact r_sub [1, 2, 3, 0] rfl (ih _ _ h)
      · replace h := h.2 hc
        refine r_aload_n C 1 dX9_isAim_21 rfl rfl ?_
        refine r_iload_n C 2 dX9_isAim_22 rfl rfl ?_
        refine r_iload_n C 3 dX9_isAim_23 rfl rfl ?_
        refine r_iadd C dX9_isAim_24 ?_
        obtain ⟨q, h⟩ := h
        refine r_iald C h_v1 q dX9_isAim_25 ?_
        refine r_aload_n C 0 dX9_isAim_26 rfl rfl ?_
        refine gX9_31 C dX9_isAim_27 ?_
        refine r_iload_n C 3 dX9_isAim_30 rfl rfl ?_
        obtain ⟨q_2, h⟩ := h
        refine r_iald C sh_8 q_2 dX9_isAim_31 ?_
        refine r_icmp_eq C 37 dX9_isAim_32 (by decide) (fun hc => ?_) (fun hc => ?_)
        · replace h := h.1 hc
          refine r_iinc C 3 (v := _) [(3, .int _), (0, .ref _), (1, .ref _), (2, .int _)] dX9_isAim_37 rfl rfl (by decide) rfl ?_
          refine r_goto C 2 dX9_isAim_40 (by decide) ?_
          exact r_sub [1, 2, 3, 0] rfl (ih _ _ h)
        · replace h := h.2 hc
          refine r_iconst (v := (0 : Int32)) C dX9_isAim_35 rfl ?_
          exact r_zret C (by decide) dX9_isAim_36 h

def f_X9_isAim (v1 : Nat) (v2 : Int32) (M : Mem) (K : Int32 → Mem → Prop) : Prop := (∃ k2 : Nat, L_X9_isAim_2 v1 v2 (fun  (M_3 : Mem) => K (1 : Int32) M_3) K k2 (0 : Int32) M)

set_option maxHeartbeats 1000000 in
set_option maxRecDepth 10000 in
theorem m_X9_isAim (l : Launch) {v1 : Nat} {v2 : Int32} (h_v1 : isI v1) {M : Mem} {K : Int32 → Mem → Prop} (h : f_X9_isAim v1 v2 M K) : CTi l yX9_isAim cX9_isAim 4 (some .boolean) rm_X9_isAim (fun ad => [.ref (ad 0), .ref (ad v1), .int v2]) M K := by
  refine rw_enti (by decide +kernel) (fun ad => Nat.le_of_ble_eq_true rfl) (fun p e s m args below meth c D cy ad C => ?_)
  change rw_W p l e _ s m args below meth c D cy ad 4 0 0 _ 0 [(0, .ref (ad 0)), (1, .ref (ad v1)), (2, .int v2)] [] M
  unfold f_X9_isAim at h
  refine r_iconst (v := (0 : Int32)) C dX9_isAim_0 rfl ?_
  refine r_istore_n C [(3, .int _), (0, .ref _), (1, .ref _), (2, .int _)] dX9_isAim_1 rfl (by decide) rfl ?_
  obtain ⟨n2, h⟩ := h
  refine r_sub [1, 2, 3, 0] rfl (mL_X9_isAim_2 C h_v1 (fun M_3 h => ?_) n2 _ _ h)
  refine r_iconst (v := (1 : Int32)) C dX9_isAim_43 rfl ?_
  exact r_zret C (by decide) dX9_isAim_44 h
def L_X9_adds_12 (v1 : Int32) (v2 : Int32) (X42 : Mem → Prop) (K : Mem → Prop) : Nat → Int32 → Mem → Prop
  | 0, _, _ => False
  | n + 1, v3, M => (((10 : Int32) ≤ v3 → X42 M) ∧ (¬ (10 : Int32) ≤ v3 → vp_in v3 10 ∧ f_X9_change (0 : Int32) v1 v3 M (fun (r : Int32) (M_3 : Mem) => ∀ M_4 : Mem, M_4 = wI M_3 21 v3.toNatClampNeg ((gI M 21 v3) + (v2 * r)) → L_X9_adds_12 v1 v2 X42 K n (v3 + (1 : Int32)) M_4)))

set_option maxHeartbeats 1000000 in
set_option maxRecDepth 10000 in
theorem mL_X9_adds_12 (C : rw_C p s m meth c cX9_adds 4 RX9 none D cy ad) {v1 : Int32} {v2 : Int32} {X42 : Mem → Prop} {K : Mem → Prop} (hX42 : ∀  (M : Mem), X42 M → rw_W p l e rm_X9_adds s m args below meth c D cy ad 4 0 0 (rw_Qv below args s D cy ad K) 42 [] [] M) : ∀ (n : Nat) (v3 : Int32) (M : Mem), L_X9_adds_12 v1 v2 X42 K n v3 M → rw_W p l e rm_X9_adds s m args below meth c D cy ad 4 0 0 (rw_Qv below args s D cy ad K) 12 [(0, .ref (ad 0)), (1, .int v1), (2, .int v2), (3, .int v3)] [] M := by
  intro n
  induction n with
  | zero => intro v3 M h; exact h.elim
  | succ n ih =>
    intro v3 M h
    refine r_iload_n C 3 dX9_adds_12 rfl rfl ?_
    refine r_bipush (v := (10 : Int32)) C dX9_adds_13 rfl ?_
    refine r_icmp_ge C 42 dX9_adds_15 (by decide) (fun hc => ?_) (fun hc => ?_)
    · replace h := h.1 hc
      exact r_sub [] rfl (hX42 _ h)
    · replace h := h.2 hc
      refine r_aload_n C 0 dX9_adds_18 rfl rfl ?_
      refine gX9_75 C dX9_adds_19 ?_
      refine r_iload_n C 3 dX9_adds_22 rfl rfl ?_
      refine r_dup2_11 C dX9_adds_23 rfl rfl ?_
      obtain ⟨q_2, h⟩ := h
      refine r_iald C sh_21 q_2 dX9_adds_24 ?_
      refine r_iload_n C 2 dX9_adds_25 rfl rfl ?_
      refine r_aload_n C 0 dX9_adds_26 rfl rfl ?_
      refine r_iconst (v := (0 : Int32)) C dX9_adds_27 rfl ?_
      refine r_iload_n C 1 dX9_adds_28 rfl rfl ?_
      refine r_iload_n C 3 dX9_adds_29 rfl rfl ?_
      refine cX9_279 C (m_X9_change l h) ⟨Nat.le_of_ble_eq_true rfl, Nat.le_of_ble_eq_true rfl⟩ (Nat.le_of_ble_eq_true rfl) ⟨Nat.le_refl 0, Nat.le_refl 0⟩ dX9_adds_30 (fun r M_3 h => ?_)
      refine r_imul C dX9_adds_33 ?_
      refine r_iadd C dX9_adds_34 ?_
      refine r_iast C sh_21 q_2 dX9_adds_35 ?_
      replace h := h _ rfl
      refine r_iinc C 3 (v := _) [(3, .int _), (0, .ref _), (1, .int _), (2, .int _)] dX9_adds_36 rfl rfl (by decide) rfl ?_
      refine r_goto C 12 dX9_adds_39 (by decide) ?_
      exact r_sub [1, 2, 3, 0] rfl (ih _ _ h)

def f_X9_adds (v1 : Int32) (v2 : Int32) (M : Mem) (K : Mem → Prop) : Prop := vp_in v1 8 ∧ ∀ M_2 : Mem, M_2 = wI M 19 v1.toNatClampNeg ((gI M 19 v1) + v2) → (∃ k12 : Nat, L_X9_adds_12 v1 v2 (fun  (M_5 : Mem) => K M_5) K k12 (0 : Int32) M_2)

set_option maxHeartbeats 1000000 in
set_option maxRecDepth 10000 in
theorem m_X9_adds (l : Launch) {v1 : Int32} {v2 : Int32}  {M : Mem} {K : Mem → Prop} (h : f_X9_adds v1 v2 M K) : CTv l yX9_adds cX9_adds 4 none rm_X9_adds (fun ad => [.ref (ad 0), .int v1, .int v2]) M K := by
  refine rw_entv (by decide +kernel) (fun ad => Nat.le_of_ble_eq_true rfl) (fun p e s m args below meth c D cy ad C => ?_)
  change rw_W p l e _ s m args below meth c D cy ad 4 0 0 _ 0 [(0, .ref (ad 0)), (1, .int v1), (2, .int v2)] [] M
  unfold f_X9_adds at h
  refine r_aload_n C 0 dX9_adds_0 rfl rfl ?_
  refine gX9_69 C dX9_adds_1 ?_
  refine r_iload_n C 1 dX9_adds_4 rfl rfl ?_
  refine r_dup2_11 C dX9_adds_5 rfl rfl ?_
  obtain ⟨q, h⟩ := h
  refine r_iald C sh_19 q dX9_adds_6 ?_
  refine r_iload_n C 2 dX9_adds_7 rfl rfl ?_
  refine r_iadd C dX9_adds_8 ?_
  refine r_iast C sh_19 q dX9_adds_9 ?_
  replace h := h _ rfl
  refine r_iconst (v := (0 : Int32)) C dX9_adds_10 rfl ?_
  refine r_istore_n C [(3, .int _), (0, .ref _), (1, .int _), (2, .int _)] dX9_adds_11 rfl (by decide) rfl ?_
  obtain ⟨n12, h⟩ := h
  refine r_sub [1, 2, 3, 0] rfl (mL_X9_adds_12 C (fun M_5 h => ?_) n12 _ _ h)
  exact r_vret C dX9_adds_42 h
def L_X9_layPart_22 (v1 : Int32) (v2 : Int32) (X68 : Mem → Prop) (K : Mem → Prop) : Nat → Int32 → Mem → Prop
  | 0, _, _ => False
  | n + 1, v3, M => (((8 : Int32) ≤ v3 → X68 M) ∧ (¬ (8 : Int32) ≤ v3 → vp_in v2 10 ∧ vp_in v3 8 ∧ (¬ (gI M 22 v3) = 0) ∧ (¬ ((gI M 20 v3) + (1 : Int32)) = 0) ∧ f_X9_change (0 : Int32) v3 v2 M (fun (r : Int32) (M_3 : Mem) => ∀ M_4 : Mem, M_4 = wI M_3 21 v2.toNatClampNeg ((gI M 21 v2) + ((irem (v1 / (gI M 22 v3)) ((gI M 20 v3) + (1 : Int32))) * r)) → L_X9_layPart_22 v1 v2 X68 K n (v3 + (1 : Int32)) M_4)))

set_option maxHeartbeats 1000000 in
set_option maxRecDepth 10000 in
theorem mL_X9_layPart_22 (C : rw_C p s m meth c cX9_layPart 4 RX9 none D cy ad) {v1 : Int32} {v2 : Int32} {X68 : Mem → Prop} {K : Mem → Prop} (hX68 : ∀  (M : Mem), X68 M → rw_W p l e rm_X9_layPart s m args below meth c D cy ad 4 0 0 (rw_Qv below args s D cy ad K) 68 [(0, .ref (ad 0)), (1, .int v1), (2, .int v2)] [] M) : ∀ (n : Nat) (v3 : Int32) (M : Mem), L_X9_layPart_22 v1 v2 X68 K n v3 M → rw_W p l e rm_X9_layPart s m args below meth c D cy ad 4 0 0 (rw_Qv below args s D cy ad K) 22 [(0, .ref (ad 0)), (1, .int v1), (2, .int v2), (3, .int v3)] [] M := by
  intro n
  induction n with
  | zero => intro v3 M h; exact h.elim
  | succ n ih =>
    intro v3 M h
    refine r_iload_n C 3 dX9_layPart_22 rfl rfl ?_
    refine r_bipush (v := (8 : Int32)) C dX9_layPart_23 rfl ?_
    refine r_icmp_ge C 68 dX9_layPart_25 (by decide) (fun hc => ?_) (fun hc => ?_)
    · replace h := h.1 hc
      exact r_sub [0, 1, 2] rfl (hX68 _ h)
    · replace h := h.2 hc
      refine r_aload_n C 0 dX9_layPart_28 rfl rfl ?_
      refine gX9_75 C dX9_layPart_29 ?_
      refine r_iload_n C 2 dX9_layPart_32 rfl rfl ?_
      refine r_dup2_11 C dX9_layPart_33 rfl rfl ?_
      obtain ⟨q_3, h⟩ := h
      refine r_iald C sh_21 q_3 dX9_layPart_34 ?_
      refine r_iload_n C 1 dX9_layPart_35 rfl rfl ?_
      refine r_aload_n C 0 dX9_layPart_36 rfl rfl ?_
      refine gX9_78 C dX9_layPart_37 ?_
      refine r_iload_n C 3 dX9_layPart_40 rfl rfl ?_
      obtain ⟨q_4, h⟩ := h
      refine r_iald C sh_22 q_4 dX9_layPart_41 ?_
      obtain ⟨q_5, h⟩ := h
      refine r_idiv C dX9_layPart_42 q_5 ?_
      refine r_aload_n C 0 dX9_layPart_43 rfl rfl ?_
      refine gX9_72 C dX9_layPart_44 ?_
      refine r_iload_n C 3 dX9_layPart_47 rfl rfl ?_
      refine r_iald C sh_20 q_4 dX9_layPart_48 ?_
      refine r_iconst (v := (1 : Int32)) C dX9_layPart_49 rfl ?_
      refine r_iadd C dX9_layPart_50 ?_
      obtain ⟨q_6, h⟩ := h
      refine r_irem C dX9_layPart_51 q_6 ?_
      refine r_aload_n C 0 dX9_layPart_52 rfl rfl ?_
      refine r_iconst (v := (0 : Int32)) C dX9_layPart_53 rfl ?_
      refine r_iload_n C 3 dX9_layPart_54 rfl rfl ?_
      refine r_iload_n C 2 dX9_layPart_55 rfl rfl ?_
      refine cX9_279 C (m_X9_change l h) ⟨Nat.le_of_ble_eq_true rfl, Nat.le_of_ble_eq_true rfl⟩ (Nat.le_of_ble_eq_true rfl) ⟨Nat.le_refl 0, Nat.le_refl 0⟩ dX9_layPart_56 (fun r M_3 h => ?_)
      refine r_imul C dX9_layPart_59 ?_
      refine r_iadd C dX9_layPart_60 ?_
      refine r_iast C sh_21 q_3 dX9_layPart_61 ?_
      replace h := h _ rfl
      refine r_iinc C 3 (v := _) [(3, .int _), (0, .ref _), (1, .int _), (2, .int _)] dX9_layPart_62 rfl rfl (by decide) rfl ?_
      refine r_goto C 22 dX9_layPart_65 (by decide) ?_
      exact r_sub [1, 2, 3, 0] rfl (ih _ _ h)

def L_X9_layPart_2 (v1 : Int32) (X74 : Mem → Prop) (K : Mem → Prop) : Nat → Int32 → Mem → Prop
  | 0, _, _ => False
  | n + 1, v2, M => (((10 : Int32) ≤ v2 → X74 M) ∧ (¬ (10 : Int32) ≤ v2 → vp_in v2 30 ∧ vp_in v2 10 ∧ ∀ M_2 : Mem, M_2 = wI M 21 v2.toNatClampNeg (gI M 3 v2) → (∃ k22 : Nat, L_X9_layPart_22 v1 v2 (fun  (M_5 : Mem) => L_X9_layPart_2 v1 X74 K n (v2 + (1 : Int32)) M_5) K k22 (0 : Int32) M_2)))

set_option maxHeartbeats 1000000 in
set_option maxRecDepth 10000 in
theorem mL_X9_layPart_2 (C : rw_C p s m meth c cX9_layPart 4 RX9 none D cy ad) {v1 : Int32} {X74 : Mem → Prop} {K : Mem → Prop} (hX74 : ∀  (M : Mem), X74 M → rw_W p l e rm_X9_layPart s m args below meth c D cy ad 4 0 0 (rw_Qv below args s D cy ad K) 74 [] [] M) : ∀ (n : Nat) (v2 : Int32) (M : Mem), L_X9_layPart_2 v1 X74 K n v2 M → rw_W p l e rm_X9_layPart s m args below meth c D cy ad 4 0 0 (rw_Qv below args s D cy ad K) 2 [(0, .ref (ad 0)), (1, .int v1), (2, .int v2)] [] M := by
  intro n
  induction n with
  | zero => intro v2 M h; exact h.elim
  | succ n ih =>
    intro v2 M h
    refine r_iload_n C 2 dX9_layPart_2 rfl rfl ?_
    refine r_bipush (v := (10 : Int32)) C dX9_layPart_3 rfl ?_
    refine r_icmp_ge C 74 dX9_layPart_5 (by decide) (fun hc => ?_) (fun hc => ?_)
    · replace h := h.1 hc
      exact r_sub [] rfl (hX74 _ h)
    · replace h := h.2 hc
      refine r_aload_n C 0 dX9_layPart_8 rfl rfl ?_
      refine gX9_75 C dX9_layPart_9 ?_
      refine r_iload_n C 2 dX9_layPart_12 rfl rfl ?_
      refine r_aload_n C 0 dX9_layPart_13 rfl rfl ?_
      refine gX9_16 C dX9_layPart_14 ?_
      refine r_iload_n C 2 dX9_layPart_17 rfl rfl ?_
      obtain ⟨q, h⟩ := h
      refine r_iald C sh_3 q dX9_layPart_18 ?_
      obtain ⟨q_2, h⟩ := h
      refine r_iast C sh_21 q_2 dX9_layPart_19 ?_
      replace h := h _ rfl
      refine r_iconst (v := (0 : Int32)) C dX9_layPart_20 rfl ?_
      refine r_istore_n C [(3, .int _), (0, .ref _), (1, .int _), (2, .int _)] dX9_layPart_21 rfl (by decide) rfl ?_
      obtain ⟨n22, h⟩ := h
      refine r_sub [1, 2, 3, 0] rfl (mL_X9_layPart_22 C (fun M_5 h => ?_) n22 _ _ h)
      refine r_iinc C 2 (v := _) [(2, .int _), (0, .ref _), (1, .int _)] dX9_layPart_68 rfl rfl (by decide) rfl ?_
      refine r_goto C 2 dX9_layPart_71 (by decide) ?_
      exact r_sub [1, 2, 0] rfl (ih _ _ h)

def f_X9_layPart (v1 : Int32) (M : Mem) (K : Mem → Prop) : Prop := (∃ k2 : Nat, L_X9_layPart_2 v1 (fun  (M_6 : Mem) => K M_6) K k2 (0 : Int32) M)

set_option maxHeartbeats 1000000 in
set_option maxRecDepth 10000 in
theorem m_X9_layPart (l : Launch) {v1 : Int32}  {M : Mem} {K : Mem → Prop} (h : f_X9_layPart v1 M K) : CTv l yX9_layPart cX9_layPart 4 none rm_X9_layPart (fun ad => [.ref (ad 0), .int v1]) M K := by
  refine rw_entv (by decide +kernel) (fun ad => Nat.le_of_ble_eq_true rfl) (fun p e s m args below meth c D cy ad C => ?_)
  change rw_W p l e _ s m args below meth c D cy ad 4 0 0 _ 0 [(0, .ref (ad 0)), (1, .int v1)] [] M
  unfold f_X9_layPart at h
  refine r_iconst (v := (0 : Int32)) C dX9_layPart_0 rfl ?_
  refine r_istore_n C [(2, .int _), (0, .ref _), (1, .int _)] dX9_layPart_1 rfl (by decide) rfl ?_
  obtain ⟨n2, h⟩ := h
  refine r_sub [1, 2, 0] rfl (mL_X9_layPart_2 C (fun M_6 h => ?_) n2 _ _ h)
  exact r_vret C dX9_layPart_74 h
def f_X9_goesOnBy (v1 : Int32) (v2 : Int32) (M : Mem) (K : Int32 → Mem → Prop) : Prop := vp_in v2 8 ∧ (¬ (gI M 22 v2) = 0) ∧ (¬ ((gI M 20 v2) + (1 : Int32)) = 0) ∧ (((gI M 20 v2) ≤ (irem (v1 / (gI M 22 v2)) ((gI M 20 v2) + (1 : Int32))) → K (0 : Int32) M) ∧ (¬ (gI M 20 v2) ≤ (irem (v1 / (gI M 22 v2)) ((gI M 20 v2) + (1 : Int32))) → vp_in (v1 + (gI M 22 v2)) 1300 ∧ (((gI M 23 (v1 + (gI M 22 v2))) = 0 → K (0 : Int32) M) ∧ (¬ (gI M 23 (v1 + (gI M 22 v2))) = 0 → f_X9_canBe (0 : Int32) v2 21 (0 : Int32) M (fun (r : Int32) (M_2 : Mem) => ((r = 0 → K (0 : Int32) M_2) ∧ (¬ r = 0 → K (1 : Int32) M_2)))))))

set_option maxHeartbeats 1000000 in
set_option maxRecDepth 10000 in
theorem m_X9_goesOnBy (l : Launch) {v1 : Int32} {v2 : Int32}  {M : Mem} {K : Int32 → Mem → Prop} (h : f_X9_goesOnBy v1 v2 M K) : CTi l yX9_goesOnBy cX9_goesOnBy 3 (some .boolean) rm_X9_goesOnBy (fun ad => [.ref (ad 0), .int v1, .int v2]) M K := by
  refine rw_enti (by decide +kernel) (fun ad => Nat.le_of_ble_eq_true rfl) (fun p e s m args below meth c D cy ad C => ?_)
  change rw_W p l e _ s m args below meth c D cy ad 3 0 0 _ 0 [(0, .ref (ad 0)), (1, .int v1), (2, .int v2)] [] M
  unfold f_X9_goesOnBy at h
  refine r_iload_n C 1 dX9_goesOnBy_0 rfl rfl ?_
  refine r_aload_n C 0 dX9_goesOnBy_1 rfl rfl ?_
  refine gX9_78 C dX9_goesOnBy_2 ?_
  refine r_iload_n C 2 dX9_goesOnBy_5 rfl rfl ?_
  obtain ⟨q, h⟩ := h
  refine r_iald C sh_22 q dX9_goesOnBy_6 ?_
  obtain ⟨q_2, h⟩ := h
  refine r_idiv C dX9_goesOnBy_7 q_2 ?_
  refine r_aload_n C 0 dX9_goesOnBy_8 rfl rfl ?_
  refine gX9_72 C dX9_goesOnBy_9 ?_
  refine r_iload_n C 2 dX9_goesOnBy_12 rfl rfl ?_
  refine r_iald C sh_20 q dX9_goesOnBy_13 ?_
  refine r_iconst (v := (1 : Int32)) C dX9_goesOnBy_14 rfl ?_
  refine r_iadd C dX9_goesOnBy_15 ?_
  obtain ⟨q_3, h⟩ := h
  refine r_irem C dX9_goesOnBy_16 q_3 ?_
  refine r_aload_n C 0 dX9_goesOnBy_17 rfl rfl ?_
  refine gX9_72 C dX9_goesOnBy_18 ?_
  refine r_iload_n C 2 dX9_goesOnBy_21 rfl rfl ?_
  refine r_iald C sh_20 q dX9_goesOnBy_22 ?_
  refine r_icmp_ge C 60 dX9_goesOnBy_23 (by decide) (fun hc => ?_) (fun hc => ?_)
  · replace h := h.1 hc
    refine r_iconst (v := (0 : Int32)) C dX9_goesOnBy_60 rfl ?_
    exact r_zret C (by decide) dX9_goesOnBy_61 h
  · replace h := h.2 hc
    refine r_aload_n C 0 dX9_goesOnBy_26 rfl rfl ?_
    refine gX9_81 C dX9_goesOnBy_27 ?_
    refine r_iload_n C 1 dX9_goesOnBy_30 rfl rfl ?_
    refine r_aload_n C 0 dX9_goesOnBy_31 rfl rfl ?_
    refine gX9_78 C dX9_goesOnBy_32 ?_
    refine r_iload_n C 2 dX9_goesOnBy_35 rfl rfl ?_
    refine r_iald C sh_22 q dX9_goesOnBy_36 ?_
    refine r_iadd C dX9_goesOnBy_37 ?_
    obtain ⟨q_4, h⟩ := h
    refine r_zald C sh_23 q_4 dX9_goesOnBy_38 ?_
    refine r_if_eq C 60 dX9_goesOnBy_39 (by decide) (fun hc => ?_) (fun hc => ?_)
    · replace h := h.1 hc
      refine r_iconst (v := (0 : Int32)) C dX9_goesOnBy_60 rfl ?_
      exact r_zret C (by decide) dX9_goesOnBy_61 h
    · replace h := h.2 hc
      refine r_aload_n C 0 dX9_goesOnBy_42 rfl rfl ?_
      refine r_iconst (v := (0 : Int32)) C dX9_goesOnBy_43 rfl ?_
      refine r_iload_n C 2 dX9_goesOnBy_44 rfl rfl ?_
      refine r_aload_n C 0 dX9_goesOnBy_45 rfl rfl ?_
      refine gX9_75 C dX9_goesOnBy_46 ?_
      refine r_iconst (v := (0 : Int32)) C dX9_goesOnBy_49 rfl ?_
      refine cX9_292 C (m_X9_canBe l (isI_of sh_21) h) ⟨Nat.le_of_ble_eq_true rfl, Nat.le_of_ble_eq_true rfl⟩ (Nat.le_of_ble_eq_true rfl) ⟨Nat.le_refl 0, Nat.le_refl 0⟩ dX9_goesOnBy_50 (fun r M_2 h => ?_)
      refine r_if_eq C 60 dX9_goesOnBy_53 (by decide) (fun hc => ?_) (fun hc => ?_)
      · replace h := h.1 hc
        refine r_iconst (v := (0 : Int32)) C dX9_goesOnBy_60 rfl ?_
        exact r_zret C (by decide) dX9_goesOnBy_61 h
      · replace h := h.2 hc
        refine r_iconst (v := (1 : Int32)) C dX9_goesOnBy_56 rfl ?_
        refine r_goto C 61 dX9_goesOnBy_57 (by decide) ?_
        exact r_zret C (by decide) dX9_goesOnBy_61 h
def L_X9_layShapes_7 (X46 : Mem → Prop) (K : Mem → Prop) : Nat → Int32 → Mem → Prop
  | 0, _, _ => False
  | n + 1, v1, M => (((8 : Int32) ≤ v1 → X46 M) ∧ (¬ (8 : Int32) ≤ v1 → vp_in v1 8 ∧ ∀ M_3 : Mem, M_3 = wI M 22 v1.toNatClampNeg (M.1 0 41) → ∀ M_4 : Mem, M_4 = wI M_3 0 41 ((M_3.1 0 41) * ((gI M_3 20 v1) + (1 : Int32))) → L_X9_layShapes_7 X46 K n (v1 + (1 : Int32)) M_4))

set_option maxHeartbeats 1000000 in
set_option maxRecDepth 10000 in
theorem mL_X9_layShapes_7 (C : rw_C p s m meth c cX9_layShapes 3 RX9 none D cy ad) {X46 : Mem → Prop} {K : Mem → Prop} (hX46 : ∀  (M : Mem), X46 M → rw_W p l e rm_X9_layShapes s m args below meth c D cy ad 3 0 0 (rw_Qv below args s D cy ad K) 46 [(0, .ref (ad 0))] [] M) : ∀ (n : Nat) (v1 : Int32) (M : Mem), L_X9_layShapes_7 X46 K n v1 M → rw_W p l e rm_X9_layShapes s m args below meth c D cy ad 3 0 0 (rw_Qv below args s D cy ad K) 7 [(0, .ref (ad 0)), (1, .int v1)] [] M := by
  intro n
  induction n with
  | zero => intro v1 M h; exact h.elim
  | succ n ih =>
    intro v1 M h
    refine r_iload_n C 1 dX9_layShapes_7 rfl rfl ?_
    refine r_bipush (v := (8 : Int32)) C dX9_layShapes_8 rfl ?_
    refine r_icmp_ge C 46 dX9_layShapes_10 (by decide) (fun hc => ?_) (fun hc => ?_)
    · replace h := h.1 hc
      exact r_sub [0] rfl (hX46 _ h)
    · replace h := h.2 hc
      refine r_aload_n C 0 dX9_layShapes_13 rfl rfl ?_
      refine gX9_78 C dX9_layShapes_14 ?_
      refine r_iload_n C 1 dX9_layShapes_17 rfl rfl ?_
      refine r_aload_n C 0 dX9_layShapes_18 rfl rfl ?_
      refine gX9_367 C dX9_layShapes_19 ?_
      obtain ⟨q, h⟩ := h
      refine r_iast C sh_22 q dX9_layShapes_22 ?_
      replace h := h _ rfl
      refine r_aload_n C 0 dX9_layShapes_23 rfl rfl ?_
      refine r_dup C dX9_layShapes_24 rfl ?_
      refine gX9_367 C dX9_layShapes_25 ?_
      refine r_aload_n C 0 dX9_layShapes_28 rfl rfl ?_
      refine gX9_72 C dX9_layShapes_29 ?_
      refine r_iload_n C 1 dX9_layShapes_32 rfl rfl ?_
      refine r_iald C sh_20 q dX9_layShapes_33 ?_
      refine r_iconst (v := (1 : Int32)) C dX9_layShapes_34 rfl ?_
      refine r_iadd C dX9_layShapes_35 ?_
      refine r_imul C dX9_layShapes_36 ?_
      refine pX9_367 C dX9_layShapes_37 ?_
      replace h := h _ rfl
      refine r_iinc C 1 (v := _) [(1, .int _), (0, .ref _)] dX9_layShapes_40 rfl rfl (by decide) rfl ?_
      refine r_goto C 7 dX9_layShapes_43 (by decide) ?_
      exact r_sub [1, 0] rfl (ih _ _ h)

set_option maxHeartbeats 1000000 in
set_option maxRecDepth 10000 in
theorem mD_X9_layShapes_69 (C : rw_C p s m meth c cX9_layShapes 3 RX9 none D cy ad) {Q : State → Prop} {st : List Value} {M : Mem} {v1 : Int32} {o0 : Int32} {o1 : Int32} (kk : rw_W p l e R s m args below meth c D cy ad 3 0 0 Q 77 [(0, .ref (ad 0)), (1, .int v1)] (.int (if ¬ o1 = o0 then (0 : Int32) else (1 : Int32)) :: st) M) : rw_W p l e R s m args below meth c D cy ad 3 0 0 Q 69 [(0, .ref (ad 0)), (1, .int v1)] (.int o0 :: .int o1 :: st) M := by
  refine r_icmp_ne C 76 dX9_layShapes_69 (by decide) (fun z0 => ?_) (fun z0 => ?_)
  · skip
    refine r_iconst (v := (0 : Int32)) C dX9_layShapes_76 rfl ?_
    first | rw [if_pos z0] at kk | rw [if_neg (fun q9 => q9 z0)] at kk
    exact kk
  · skip
    refine r_iconst (v := (1 : Int32)) C dX9_layShapes_72 rfl ?_
    refine r_goto C 77 dX9_layShapes_73 (by decide) ?_
    first | rw [if_neg z0] at kk | rw [if_neg (fun q9 => q9 z0)] at kk
    exact kk

def L_X9_layShapes_85 (v1 : Int32) (X112 : Mem → Prop) (K : Mem → Prop) : Nat → Int32 → Mem → Prop
  | 0, _, _ => False
  | n + 1, v2, M => (((8 : Int32) ≤ v2 → X112 M) ∧ (¬ (8 : Int32) ≤ v2 → vp_in v1 1300 ∧ f_X9_goesOnBy v1 v2 M (fun (r_2 : Int32) (M_8 : Mem) => ∀ M_9 : Mem, M_9 = wI M_8 23 v1.toNatClampNeg (((gI M 23 v1) ||| r_2) &&& 1) → L_X9_layShapes_85 v1 X112 K n (v2 + (1 : Int32)) M_9)))

set_option maxHeartbeats 1000000 in
set_option maxRecDepth 10000 in
theorem mL_X9_layShapes_85 (C : rw_C p s m meth c cX9_layShapes 3 RX9 none D cy ad) {v1 : Int32} {X112 : Mem → Prop} {K : Mem → Prop} (hX112 : ∀  (M : Mem), X112 M → rw_W p l e rm_X9_layShapes s m args below meth c D cy ad 3 0 0 (rw_Qv below args s D cy ad K) 112 [(0, .ref (ad 0)), (1, .int v1)] [] M) : ∀ (n : Nat) (v2 : Int32) (M : Mem), L_X9_layShapes_85 v1 X112 K n v2 M → rw_W p l e rm_X9_layShapes s m args below meth c D cy ad 3 0 0 (rw_Qv below args s D cy ad K) 85 [(0, .ref (ad 0)), (1, .int v1), (2, .int v2)] [] M := by
  intro n
  induction n with
  | zero => intro v2 M h; exact h.elim
  | succ n ih =>
    intro v2 M h
    refine r_iload_n C 2 dX9_layShapes_85 rfl rfl ?_
    refine r_bipush (v := (8 : Int32)) C dX9_layShapes_86 rfl ?_
    refine r_icmp_ge C 112 dX9_layShapes_88 (by decide) (fun hc => ?_) (fun hc => ?_)
    · replace h := h.1 hc
      exact r_sub [0, 1] rfl (hX112 _ h)
    · replace h := h.2 hc
      refine r_aload_n C 0 dX9_layShapes_91 rfl rfl ?_
      refine gX9_81 C dX9_layShapes_92 ?_
      refine r_iload_n C 1 dX9_layShapes_95 rfl rfl ?_
      refine r_dup2_11 C dX9_layShapes_96 rfl rfl ?_
      obtain ⟨q_3, h⟩ := h
      refine r_zald C sh_23 q_3 dX9_layShapes_97 ?_
      refine r_aload_n C 0 dX9_layShapes_98 rfl rfl ?_
      refine r_iload_n C 1 dX9_layShapes_99 rfl rfl ?_
      refine r_iload_n C 2 dX9_layShapes_100 rfl rfl ?_
      refine cX9_373 C (m_X9_goesOnBy l h) ⟨Nat.le_of_ble_eq_true rfl, Nat.le_of_ble_eq_true rfl⟩ (Nat.le_of_ble_eq_true rfl) ⟨Nat.le_refl 0, Nat.le_refl 0⟩ dX9_layShapes_101 (fun r_2 M_8 h => ?_)
      refine r_ior C dX9_layShapes_104 ?_
      refine r_zast C sh_23 q_3 dX9_layShapes_105 ?_
      replace h := h _ rfl
      refine r_iinc C 2 (v := _) [(2, .int _), (0, .ref _), (1, .int _)] dX9_layShapes_106 rfl rfl (by decide) rfl ?_
      refine r_goto C 85 dX9_layShapes_109 (by decide) ?_
      exact r_sub [1, 2, 0] rfl (ih _ _ h)

def L_X9_layShapes_53 (X118 : Mem → Prop) (K : Mem → Prop) : Nat → Int32 → Mem → Prop
  | 0, _, _ => False
  | n + 1, v1, M => ((v1 < 0 → X118 M) ∧ (¬ v1 < 0 → vp_in v1 1300 ∧ ∀ M_6 : Mem, M_6 = wI M 23 v1.toNatClampNeg ((if ¬ v1 = ((M.1 0 41) - (1 : Int32)) then (0 : Int32) else (1 : Int32)) &&& 1) → f_X9_layPart v1 M_6 (fun (M_7 : Mem) => (∃ k85 : Nat, L_X9_layShapes_85 v1 (fun  (M_10 : Mem) => L_X9_layShapes_53 X118 K n (v1 + (-1 : Int32)) M_10) K k85 (0 : Int32) M_7))))

set_option maxHeartbeats 1000000 in
set_option maxRecDepth 10000 in
theorem mL_X9_layShapes_53 (C : rw_C p s m meth c cX9_layShapes 3 RX9 none D cy ad) {X118 : Mem → Prop} {K : Mem → Prop} (hX118 : ∀  (M : Mem), X118 M → rw_W p l e rm_X9_layShapes s m args below meth c D cy ad 3 0 0 (rw_Qv below args s D cy ad K) 118 [] [] M) : ∀ (n : Nat) (v1 : Int32) (M : Mem), L_X9_layShapes_53 X118 K n v1 M → rw_W p l e rm_X9_layShapes s m args below meth c D cy ad 3 0 0 (rw_Qv below args s D cy ad K) 53 [(0, .ref (ad 0)), (1, .int v1)] [] M := by
  intro n
  induction n with
  | zero => intro v1 M h; exact h.elim
  | succ n ih =>
    intro v1 M h
    refine r_iload_n C 1 dX9_layShapes_53 rfl rfl ?_
    refine r_if_lt C 118 dX9_layShapes_54 (by decide) (fun hc => ?_) (fun hc => ?_)
    · replace h := h.1 hc
      exact r_sub [] rfl (hX118 _ h)
    · replace h := h.2 hc
      refine r_aload_n C 0 dX9_layShapes_57 rfl rfl ?_
      refine gX9_81 C dX9_layShapes_58 ?_
      refine r_iload_n C 1 dX9_layShapes_61 rfl rfl ?_
      refine r_iload_n C 1 dX9_layShapes_62 rfl rfl ?_
      refine r_aload_n C 0 dX9_layShapes_63 rfl rfl ?_
      refine gX9_367 C dX9_layShapes_64 ?_
      refine r_iconst (v := (1 : Int32)) C dX9_layShapes_67 rfl ?_
      refine r_isub C dX9_layShapes_68 ?_
      refine mD_X9_layShapes_69 C ?_
      obtain ⟨q_2, h⟩ := h
      refine r_zast C sh_23 q_2 dX9_layShapes_77 ?_
      replace h := h _ rfl
      refine r_aload_n C 0 dX9_layShapes_78 rfl rfl ?_
      refine r_iload_n C 1 dX9_layShapes_79 rfl rfl ?_
      refine cX9_370 C (m_X9_layPart l h) ⟨Nat.le_of_ble_eq_true rfl, Nat.le_of_ble_eq_true rfl⟩ (Nat.le_of_ble_eq_true rfl) ⟨Nat.le_refl 0, Nat.le_refl 0⟩ dX9_layShapes_80 (fun M_7 h => ?_)
      refine r_iconst (v := (0 : Int32)) C dX9_layShapes_83 rfl ?_
      refine r_istore_n C [(2, .int _), (0, .ref _), (1, .int _)] dX9_layShapes_84 rfl (by decide) rfl ?_
      obtain ⟨n85, h⟩ := h
      refine r_sub [1, 2, 0] rfl (mL_X9_layShapes_85 C (fun M_10 h => ?_) n85 _ _ h)
      refine r_iinc C 1 (v := _) [(1, .int _), (0, .ref _)] dX9_layShapes_112 rfl rfl (by decide) rfl ?_
      refine r_goto C 53 dX9_layShapes_115 (by decide) ?_
      exact r_sub [1, 0] rfl (ih _ _ h)

def f_X9_layShapes (M : Mem) (K : Mem → Prop) : Prop := ∀ M_2 : Mem, M_2 = wI M 0 41 (1 : Int32) → (∃ k7 : Nat, L_X9_layShapes_7 (fun  (M_5 : Mem) => ∀ x1 : Int32, x1 = (M_5.1 0 41) - (1 : Int32) → (∃ k53 : Nat, L_X9_layShapes_53 (fun  (M_11 : Mem) => K M_11) K k53 x1 M_5)) K k7 (0 : Int32) M_2)

set_option maxHeartbeats 1000000 in
set_option maxRecDepth 10000 in
theorem m_X9_layShapes (l : Launch)   {M : Mem} {K : Mem → Prop} (h : f_X9_layShapes M K) : CTv l yX9_layShapes cX9_layShapes 3 none rm_X9_layShapes (fun ad => [.ref (ad 0)]) M K := by
  refine rw_entv (by decide +kernel) (fun ad => Nat.le_of_ble_eq_true rfl) (fun p e s m args below meth c D cy ad C => ?_)
  change rw_W p l e _ s m args below meth c D cy ad 3 0 0 _ 0 [(0, .ref (ad 0))] [] M
  unfold f_X9_layShapes at h
  refine r_aload_n C 0 dX9_layShapes_0 rfl rfl ?_
  refine r_iconst (v := (1 : Int32)) C dX9_layShapes_1 rfl ?_
  refine pX9_367 C dX9_layShapes_2 ?_
  replace h := h _ rfl
  refine r_iconst (v := (0 : Int32)) C dX9_layShapes_5 rfl ?_
  refine r_istore_n C [(1, .int _), (0, .ref _)] dX9_layShapes_6 rfl (by decide) rfl ?_
  obtain ⟨n7, h⟩ := h
  refine r_sub [1, 0] rfl (mL_X9_layShapes_7 C (fun M_5 h => ?_) n7 _ _ h)
  refine r_aload_n C 0 dX9_layShapes_46 rfl rfl ?_
  refine gX9_367 C dX9_layShapes_47 ?_
  refine r_iconst (v := (1 : Int32)) C dX9_layShapes_50 rfl ?_
  refine r_isub C dX9_layShapes_51 ?_
  refine r_istore_n C [(1, .int _), (0, .ref _)] dX9_layShapes_52 rfl (by decide) rfl ?_
  replace h := h _ rfl
  obtain ⟨n53, h⟩ := h
  refine r_sub [1, 0] rfl (mL_X9_layShapes_53 C (fun M_11 h => ?_) n53 _ _ h)
  exact r_vret C dX9_layShapes_118 h
def L_X9_layCounts_21 (X45 : Mem → Prop) (K : Mem → Prop) : Nat → Int32 → Mem → Prop
  | 0, _, _ => False
  | n + 1, v1, M => (((10 : Int32) ≤ v1 → X45 M) ∧ (¬ (10 : Int32) ≤ v1 → vp_in v1 30 ∧ vp_in v1 10 ∧ ∀ M_4 : Mem, M_4 = wI M 21 v1.toNatClampNeg (gI M 3 v1) → L_X9_layCounts_21 X45 K n (v1 + (1 : Int32)) M_4))

set_option maxHeartbeats 1000000 in
set_option maxRecDepth 10000 in
theorem mL_X9_layCounts_21 (C : rw_C p s m meth c cX9_layCounts 4 RX9 none D cy ad) {X45 : Mem → Prop} {K : Mem → Prop} (hX45 : ∀  (M : Mem), X45 M → rw_W p l e rm_X9_layCounts s m args below meth c D cy ad 4 0 0 (rw_Qv below args s D cy ad K) 45 [(0, .ref (ad 0))] [] M) : ∀ (n : Nat) (v1 : Int32) (M : Mem), L_X9_layCounts_21 X45 K n v1 M → rw_W p l e rm_X9_layCounts s m args below meth c D cy ad 4 0 0 (rw_Qv below args s D cy ad K) 21 [(0, .ref (ad 0)), (1, .int v1)] [] M := by
  intro n
  induction n with
  | zero => intro v1 M h; exact h.elim
  | succ n ih =>
    intro v1 M h
    refine r_iload_n C 1 dX9_layCounts_21 rfl rfl ?_
    refine r_bipush (v := (10 : Int32)) C dX9_layCounts_22 rfl ?_
    refine r_icmp_ge C 45 dX9_layCounts_24 (by decide) (fun hc => ?_) (fun hc => ?_)
    · replace h := h.1 hc
      exact r_sub [0] rfl (hX45 _ h)
    · replace h := h.2 hc
      refine r_aload_n C 0 dX9_layCounts_27 rfl rfl ?_
      refine gX9_75 C dX9_layCounts_28 ?_
      refine r_iload_n C 1 dX9_layCounts_31 rfl rfl ?_
      refine r_aload_n C 0 dX9_layCounts_32 rfl rfl ?_
      refine gX9_16 C dX9_layCounts_33 ?_
      refine r_iload_n C 1 dX9_layCounts_36 rfl rfl ?_
      obtain ⟨q, h⟩ := h
      refine r_iald C sh_3 q dX9_layCounts_37 ?_
      obtain ⟨q_2, h⟩ := h
      refine r_iast C sh_21 q_2 dX9_layCounts_38 ?_
      replace h := h _ rfl
      refine r_iinc C 1 (v := _) [(1, .int _), (0, .ref _)] dX9_layCounts_39 rfl rfl (by decide) rfl ?_
      refine r_goto C 21 dX9_layCounts_42 (by decide) ?_
      exact r_sub [1, 0] rfl (ih _ _ h)

def L_X9_layCounts_47 (X66 : Mem → Prop) (K : Mem → Prop) : Nat → Int32 → Mem → Prop
  | 0, _, _ => False
  | n + 1, v1, M => (((8 : Int32) ≤ v1 → X66 M) ∧ (¬ (8 : Int32) ≤ v1 → vp_in v1 8 ∧ ∀ M_6 : Mem, M_6 = wI M 19 v1.toNatClampNeg (0 : Int32) → L_X9_layCounts_47 X66 K n (v1 + (1 : Int32)) M_6))

set_option maxHeartbeats 1000000 in
set_option maxRecDepth 10000 in
theorem mL_X9_layCounts_47 (C : rw_C p s m meth c cX9_layCounts 4 RX9 none D cy ad) {X66 : Mem → Prop} {K : Mem → Prop} (hX66 : ∀  (M : Mem), X66 M → rw_W p l e rm_X9_layCounts s m args below meth c D cy ad 4 0 0 (rw_Qv below args s D cy ad K) 66 [(0, .ref (ad 0))] [] M) : ∀ (n : Nat) (v1 : Int32) (M : Mem), L_X9_layCounts_47 X66 K n v1 M → rw_W p l e rm_X9_layCounts s m args below meth c D cy ad 4 0 0 (rw_Qv below args s D cy ad K) 47 [(0, .ref (ad 0)), (1, .int v1)] [] M := by
  intro n
  induction n with
  | zero => intro v1 M h; exact h.elim
  | succ n ih =>
    intro v1 M h
    refine r_iload_n C 1 dX9_layCounts_47 rfl rfl ?_
    refine r_bipush (v := (8 : Int32)) C dX9_layCounts_48 rfl ?_
    refine r_icmp_ge C 66 dX9_layCounts_50 (by decide) (fun hc => ?_) (fun hc => ?_)
    · replace h := h.1 hc
      exact r_sub [0] rfl (hX66 _ h)
    · replace h := h.2 hc
      refine r_aload_n C 0 dX9_layCounts_53 rfl rfl ?_
      refine gX9_69 C dX9_layCounts_54 ?_
      refine r_iload_n C 1 dX9_layCounts_57 rfl rfl ?_
      refine r_iconst (v := (0 : Int32)) C dX9_layCounts_58 rfl ?_
      obtain ⟨q_3, h⟩ := h
      refine r_iast C sh_19 q_3 dX9_layCounts_59 ?_
      replace h := h _ rfl
      refine r_iinc C 1 (v := _) [(1, .int _), (0, .ref _)] dX9_layCounts_60 rfl rfl (by decide) rfl ?_
      refine r_goto C 47 dX9_layCounts_63 (by decide) ?_
      exact r_sub [1, 0] rfl (ih _ _ h)

def L_X9_layCounts_101 (v1 : Int32) (v2 : Int32) (X125 : Mem → Prop) (K : Mem → Prop) : Nat → Int32 → Mem → Prop
  | 0, _, _ => False
  | n + 1, v3, M => (((8 : Int32) ≤ v3 → X125 M) ∧ (¬ (8 : Int32) ≤ v3 → vp_in v3 8 ∧ ∀ M_10 : Mem, M_10 = wI M 20 v3.toNatClampNeg (gI M 19 v3) → L_X9_layCounts_101 v1 v2 X125 K n (v3 + (1 : Int32)) M_10))

set_option maxHeartbeats 1000000 in
set_option maxRecDepth 10000 in
theorem mL_X9_layCounts_101 (C : rw_C p s m meth c cX9_layCounts 4 RX9 none D cy ad) {v1 : Int32} {v2 : Int32} {X125 : Mem → Prop} {K : Mem → Prop} (hX125 : ∀  (M : Mem), X125 M → rw_W p l e rm_X9_layCounts s m args below meth c D cy ad 4 0 0 (rw_Qv below args s D cy ad K) 125 [(0, .ref (ad 0)), (1, .int v1)] [] M) : ∀ (n : Nat) (v3 : Int32) (M : Mem), L_X9_layCounts_101 v1 v2 X125 K n v3 M → rw_W p l e rm_X9_layCounts s m args below meth c D cy ad 4 0 0 (rw_Qv below args s D cy ad K) 101 [(0, .ref (ad 0)), (1, .int v1), (3, .int v3), (2, .int v2)] [] M := by
  intro n
  induction n with
  | zero => intro v3 M h; exact h.elim
  | succ n ih =>
    intro v3 M h
    refine r_iload_n C 2 dX9_layCounts_101 rfl rfl ?_
    refine r_bipush (v := (8 : Int32)) C dX9_layCounts_102 rfl ?_
    refine r_icmp_ge C 125 dX9_layCounts_104 (by decide) (fun hc => ?_) (fun hc => ?_)
    · replace h := h.1 hc
      exact r_sub [0, 1] rfl (hX125 _ h)
    · replace h := h.2 hc
      refine r_aload_n C 0 dX9_layCounts_107 rfl rfl ?_
      refine gX9_72 C dX9_layCounts_108 ?_
      refine r_iload_n C 2 dX9_layCounts_111 rfl rfl ?_
      refine r_aload_n C 0 dX9_layCounts_112 rfl rfl ?_
      refine gX9_69 C dX9_layCounts_113 ?_
      refine r_iload_n C 2 dX9_layCounts_116 rfl rfl ?_
      obtain ⟨q_4, h⟩ := h
      refine r_iald C sh_19 q_4 dX9_layCounts_117 ?_
      refine r_iast C sh_20 q_4 dX9_layCounts_118 ?_
      replace h := h _ rfl
      refine r_iinc C 2 (v := _) [(3, .int _), (0, .ref _), (1, .int _), (2, .int _)] dX9_layCounts_119 rfl rfl (by decide) rfl ?_
      refine r_goto C 101 dX9_layCounts_122 (by decide) ?_
      exact r_sub [1, 2, 0, 3] rfl (ih _ _ h)

def S_X9_layCounts_79 (v1 : Int32) (v2 : Int32) (o0 : Int32) (o1 : Int32) (X125 : Mem → Prop) (K : Mem → Prop) (M : Mem) : Prop := (o0 ≤ o1 → X125 M) ∧ (¬ o0 ≤ o1 → f_X9_isAim 21 (0 : Int32) M (fun (r : Int32) (M_8 : Mem) => ((r = 0 → X125 M_8) ∧ (¬ r = 0 → ∀ M_9 : Mem, M_9 = wI M_8 0 40 v1 → (∃ k101 : Nat, L_X9_layCounts_101 v1 v2 (X125) K k101 (0 : Int32) M_9)))))

set_option maxHeartbeats 1000000 in
set_option maxRecDepth 10000 in
theorem mS_X9_layCounts_79 (C : rw_C p s m meth c cX9_layCounts 4 RX9 none D cy ad) {v1 : Int32} {v2 : Int32} {o0 : Int32} {o1 : Int32} {X125 : Mem → Prop} {K : Mem → Prop} {M : Mem} (hX125 : ∀  (M : Mem), X125 M → rw_W p l e rm_X9_layCounts s m args below meth c D cy ad 4 0 0 (rw_Qv below args s D cy ad K) 125 [(0, .ref (ad 0)), (1, .int v1)] [] M) (h : S_X9_layCounts_79 v1 v2 o0 o1 X125 K M) : rw_W p l e rm_X9_layCounts s m args below meth c D cy ad 4 0 0 (rw_Qv below args s D cy ad K) 79 [(0, .ref (ad 0)), (1, .int v1), (2, .int v2)] [.int o0, .int o1] M := by
  refine r_icmp_ge C 125 dX9_layCounts_79 (by decide) (fun hc => ?_) (fun hc => ?_)
  · replace h := h.1 hc
    exact r_sub [0, 1] rfl (hX125 _ h)
  · replace h := h.2 hc
    refine r_aload_n C 0 dX9_layCounts_82 rfl rfl ?_
    refine r_aload_n C 0 dX9_layCounts_83 rfl rfl ?_
    refine gX9_75 C dX9_layCounts_84 ?_
    refine r_iconst (v := (0 : Int32)) C dX9_layCounts_87 rfl ?_
    refine cX9_357 C (m_X9_isAim l (isI_of sh_21) h) ⟨Nat.le_of_ble_eq_true rfl, Nat.le_of_ble_eq_true rfl⟩ (Nat.le_of_ble_eq_true rfl) ⟨Nat.le_refl 0, Nat.le_refl 0⟩ dX9_layCounts_88 (fun r M_8 h => ?_)
    refine r_if_eq C 125 dX9_layCounts_91 (by decide) (fun hc => ?_) (fun hc => ?_)
    · replace h := h.1 hc
      exact r_sub [0, 1] rfl (hX125 _ h)
    · replace h := h.2 hc
      refine r_aload_n C 0 dX9_layCounts_94 rfl rfl ?_
      refine r_iload_n C 1 dX9_layCounts_95 rfl rfl ?_
      refine pX9_354 C dX9_layCounts_96 ?_
      replace h := h _ rfl
      refine r_iconst (v := (0 : Int32)) C dX9_layCounts_99 rfl ?_
      refine r_istore_n C [(3, .int _), (0, .ref _), (1, .int _), (2, .int _)] dX9_layCounts_100 rfl (by decide) rfl ?_
      obtain ⟨n101, h⟩ := h
      refine r_sub [1, 2, 0, 3] rfl (mL_X9_layCounts_101 C hX125 n101 _ _ h)

def L_X9_layCounts_130 (X205 : Int32 → Int32 → Mem → Prop) (K : Mem → Prop) : Nat → Int32 → Int32 → Int32 → Mem → Prop
  | 0, _, _, _, _ => False
  | n + 1, v1, v2, v3, M => ((v3 < 0 → X205 v1 v2 M) ∧ (¬ v3 < 0 → ((¬ v2 = 0 → X205 v1 v2 M) ∧ (v2 = 0 → f_X9_isOf (gI M 5 (0 : Int32)) v3 M (fun (r_2 : Int32) (M_12 : Mem) => ((¬ r_2 = 0 → ((((M_12.1 0 40) - (1 : Int32)) ≤ v1 → vp_in v3 8 ∧ ∀ x1 : Int32, x1 = v1 - (gI M_12 19 v3) → f_X9_adds v3 (-(gI M_12 19 v3)) M_12 (fun (M_13 : Mem) => L_X9_layCounts_130 X205 K n x1 v2 (v3 + (-1 : Int32)) M_13)) ∧ (¬ ((M_12.1 0 40) - (1 : Int32)) ≤ v1 → f_X9_adds v3 (1 : Int32) M_12 (fun (M_14 : Mem) => L_X9_layCounts_130 X205 K n (v1 + (1 : Int32)) (1 : Int32) (v3 + (-1 : Int32)) M_14)))) ∧ (r_2 = 0 → L_X9_layCounts_130 X205 K n v1 v2 (v3 + (-1 : Int32)) M_12)))))))

set_option maxHeartbeats 1000000 in
set_option maxRecDepth 10000 in
theorem mL_X9_layCounts_130 (C : rw_C p s m meth c cX9_layCounts 4 RX9 none D cy ad) {X205 : Int32 → Int32 → Mem → Prop} {K : Mem → Prop} (hX205 : ∀ (u1 : Int32) (u2 : Int32) (M : Mem), X205 u1 u2 M → rw_W p l e rm_X9_layCounts s m args below meth c D cy ad 4 0 0 (rw_Qv below args s D cy ad K) 205 [(0, .ref (ad 0)), (1, .int u1), (2, .int u2)] [] M) : ∀ (n : Nat) (v1 : Int32) (v2 : Int32) (v3 : Int32) (M : Mem), L_X9_layCounts_130 X205 K n v1 v2 v3 M → rw_W p l e rm_X9_layCounts s m args below meth c D cy ad 4 0 0 (rw_Qv below args s D cy ad K) 130 [(0, .ref (ad 0)), (1, .int v1), (2, .int v2), (3, .int v3)] [] M := by
  intro n
  induction n with
  | zero => intro v1 v2 v3 M h; exact h.elim
  | succ n ih =>
    intro v1 v2 v3 M h
    refine r_iload_n C 3 dX9_layCounts_130 rfl rfl ?_
    refine r_if_lt C 205 dX9_layCounts_131 (by decide) (fun hc => ?_) (fun hc => ?_)
    · replace h := h.1 hc
      exact r_sub [0, 1, 2] rfl (hX205 _ _ _ h)
    · replace h := h.2 hc
      refine r_iload_n C 2 dX9_layCounts_134 rfl rfl ?_
      refine r_if_ne C 205 dX9_layCounts_135 (by decide) (fun hc => ?_) (fun hc => ?_)
      · replace h := h.1 hc
        exact r_sub [0, 1, 2] rfl (hX205 _ _ _ h)
      · replace h := h.2 hc
        refine r_aload_n C 0 dX9_layCounts_138 rfl rfl ?_
        refine gX9_22 C dX9_layCounts_139 ?_
        refine r_iconst (v := (0 : Int32)) C dX9_layCounts_142 rfl ?_
        refine r_iald C sh_5 (vpd (i := (0 : Int32)) (n := 3) (by decide +kernel)) dX9_layCounts_143 ?_
        refine r_iload_n C 3 dX9_layCounts_144 rfl rfl ?_
        refine cX9_140 C (m_X9_isOf l h) ⟨Nat.le_of_ble_eq_true rfl, Nat.le_of_ble_eq_true rfl⟩ (Nat.le_of_ble_eq_true rfl) ⟨Nat.le_refl 0, Nat.le_refl 0⟩ dX9_layCounts_145 (fun r_2 M_12 h => ?_)
        refine r_if_ne C 154 dX9_layCounts_148 (by decide) (fun hc => ?_) (fun hc => ?_)
        · replace h := h.1 hc
          refine r_iload_n C 1 dX9_layCounts_154 rfl rfl ?_
          refine r_aload_n C 0 dX9_layCounts_155 rfl rfl ?_
          refine gX9_354 C dX9_layCounts_156 ?_
          refine r_iconst (v := (1 : Int32)) C dX9_layCounts_159 rfl ?_
          refine r_isub C dX9_layCounts_160 ?_
          refine r_icmp_ge C 178 dX9_layCounts_161 (by decide) (fun hc => ?_) (fun hc => ?_)
          · replace h := h.1 hc
            refine r_iload_n C 1 dX9_layCounts_178 rfl rfl ?_
            refine r_aload_n C 0 dX9_layCounts_179 rfl rfl ?_
            refine gX9_69 C dX9_layCounts_180 ?_
            refine r_iload_n C 3 dX9_layCounts_183 rfl rfl ?_
            obtain ⟨q_5, h⟩ := h
            refine r_iald C sh_19 q_5 dX9_layCounts_184 ?_
            refine r_isub C dX9_layCounts_185 ?_
            refine r_istore_n C [(1, .int _), (0, .ref _), (2, .int _), (3, .int _)] dX9_layCounts_186 rfl (by decide) rfl ?_
            replace h := h _ rfl
            refine r_aload_n C 1 dX9_layCounts_187 rfl rfl ?_
            refine r_iload_n C 3 dX9_layCounts_188 rfl rfl ?_
            refine r_aload_n C 1 dX9_layCounts_189 rfl rfl ?_
            refine gX9_69 C dX9_layCounts_190 ?_
            refine r_iload_n C 3 dX9_layCounts_193 rfl rfl ?_
            refine r_iald C sh_19 q_5 dX9_layCounts_194 ?_
            refine r_ineg C dX9_layCounts_195 ?_
            refine cX9_361 C (m_X9_adds l h) ⟨Nat.le_of_ble_eq_true rfl, Nat.le_of_ble_eq_true rfl⟩ (Nat.le_of_ble_eq_true rfl) ⟨Nat.le_refl 0, Nat.le_refl 0⟩ dX9_layCounts_196 (fun M_13 h => ?_)
            refine r_iinc C 3 (v := _) [(3, .int _), (1, .int _), (0, .ref _), (2, .int _)] dX9_layCounts_199 rfl rfl (by decide) rfl ?_
            refine r_goto C 130 dX9_layCounts_202 (by decide) ?_
            exact r_sub [2, 1, 3, 0] rfl (ih _ _ _ _ h)
          · replace h := h.2 hc
            refine r_aload_n C 0 dX9_layCounts_164 rfl rfl ?_
            refine r_iload_n C 3 dX9_layCounts_165 rfl rfl ?_
            refine r_iconst (v := (1 : Int32)) C dX9_layCounts_166 rfl ?_
            refine cX9_361 C (m_X9_adds l h) ⟨Nat.le_of_ble_eq_true rfl, Nat.le_of_ble_eq_true rfl⟩ (Nat.le_of_ble_eq_true rfl) ⟨Nat.le_refl 0, Nat.le_refl 0⟩ dX9_layCounts_167 (fun M_14 h => ?_)
            refine r_iinc C 1 (v := _) [(1, .int _), (0, .ref _), (2, .int _), (3, .int _)] dX9_layCounts_170 rfl rfl (by decide) rfl ?_
            refine r_iconst (v := (1 : Int32)) C dX9_layCounts_173 rfl ?_
            refine r_istore_n C [(2, .int _), (1, .int _), (0, .ref _), (3, .int _)] dX9_layCounts_174 rfl (by decide) rfl ?_
            refine r_goto C 199 dX9_layCounts_175 (by decide) ?_
            refine r_iinc C 3 (v := _) [(3, .int _), (2, .int _), (1, .int _), (0, .ref _)] dX9_layCounts_199 rfl rfl (by decide) rfl ?_
            refine r_goto C 130 dX9_layCounts_202 (by decide) ?_
            exact r_sub [3, 2, 1, 0] rfl (ih _ _ _ _ h)
        · replace h := h.2 hc
          refine r_goto C 199 dX9_layCounts_151 (by decide) ?_
          refine r_iinc C 3 (v := _) [(3, .int _), (0, .ref _), (1, .int _), (2, .int _)] dX9_layCounts_199 rfl rfl (by decide) rfl ?_
          refine r_goto C 130 dX9_layCounts_202 (by decide) ?_
          exact r_sub [1, 2, 3, 0] rfl (ih _ _ _ _ h)

def L_X9_layCounts_70 (X208 : Mem → Prop) (K : Mem → Prop) : Nat → Int32 → Int32 → Mem → Prop
  | 0, _, _, _ => False
  | n + 1, v1, v2, M => ((v2 = 0 → X208 M) ∧ (¬ v2 = 0 → (S_X9_layCounts_79 v1 v2 (M.1 0 40) v1 (fun  (M_11 : Mem) => (∃ k130 : Nat, L_X9_layCounts_130 (fun (v1_2 : Int32) (v2_2 : Int32) (M_15 : Mem) => L_X9_layCounts_70 X208 K n v1_2 v2_2 M_15) K k130 v1 (0 : Int32) (7 : Int32) M_11)) K M)))

set_option maxHeartbeats 1000000 in
set_option maxRecDepth 10000 in
theorem mL_X9_layCounts_70 (C : rw_C p s m meth c cX9_layCounts 4 RX9 none D cy ad) {X208 : Mem → Prop} {K : Mem → Prop} (hX208 : ∀  (M : Mem), X208 M → rw_W p l e rm_X9_layCounts s m args below meth c D cy ad 4 0 0 (rw_Qv below args s D cy ad K) 208 [(0, .ref (ad 0))] [] M) : ∀ (n : Nat) (v1 : Int32) (v2 : Int32) (M : Mem), L_X9_layCounts_70 X208 K n v1 v2 M → rw_W p l e rm_X9_layCounts s m args below meth c D cy ad 4 0 0 (rw_Qv below args s D cy ad K) 70 [(0, .ref (ad 0)), (1, .int v1), (2, .int v2)] [] M := by
  intro n
  induction n with
  | zero => intro v1 v2 M h; exact h.elim
  | succ n ih =>
    intro v1 v2 M h
    refine r_iload_n C 2 dX9_layCounts_70 rfl rfl ?_
    refine r_if_eq C 208 dX9_layCounts_71 (by decide) (fun hc => ?_) (fun hc => ?_)
    · replace h := h.1 hc
      exact r_sub [0] rfl (hX208 _ h)
    · replace h := h.2 hc
      refine r_iload_n C 1 dX9_layCounts_74 rfl rfl ?_
      refine r_aload_n C 0 dX9_layCounts_75 rfl rfl ?_
      refine gX9_354 C dX9_layCounts_76 ?_
      refine mS_X9_layCounts_79 C (fun M_11 h => ?_) h
      refine r_iconst (v := (0 : Int32)) C dX9_layCounts_125 rfl ?_
      refine r_istore_n C [(2, .int _), (0, .ref _), (1, .int _)] dX9_layCounts_126 rfl (by decide) rfl ?_
      refine r_bipush (v := (7 : Int32)) C dX9_layCounts_127 rfl ?_
      refine r_istore_n C [(3, .int _), (2, .int _), (0, .ref _), (1, .int _)] dX9_layCounts_129 rfl (by decide) rfl ?_
      obtain ⟨n130, h⟩ := h
      refine r_sub [2, 3, 1, 0] rfl (mL_X9_layCounts_130 C (fun v1_2 v2_2 M_15 h => ?_) n130 _ _ _ _ h)
      refine r_goto C 70 dX9_layCounts_205 (by decide) ?_
      exact ih _ _ _ h

def f_X9_layCounts (M : Mem) (K : Mem → Prop) : Prop := (((M.1 0 24) = 0 → ∀ M_2 : Mem, M_2 = wI M 0 24 (1 : Int32) → ∀ M_3 : Mem, M_3 = wI M_2 0 40 (13 : Int32) → (∃ k21 : Nat, L_X9_layCounts_21 (fun  (M_5 : Mem) => (∃ k47 : Nat, L_X9_layCounts_47 (fun  (M_7 : Mem) => (∃ k70 : Nat, L_X9_layCounts_70 (fun  (M_16 : Mem) => (((12 : Int32) < (M_16.1 0 40) → K M_16) ∧ (¬ (12 : Int32) < (M_16.1 0 40) → f_X9_layShapes  M_16 (fun (M_17 : Mem) => K M_17)))) K k70 (0 : Int32) (1 : Int32) M_7)) K k47 (0 : Int32) M_5)) K k21 (0 : Int32) M_3)) ∧ (¬ (M.1 0 24) = 0 → K M))

set_option maxHeartbeats 1000000 in
set_option maxRecDepth 10000 in
theorem m_X9_layCounts (l : Launch)   {M : Mem} {K : Mem → Prop} (h : f_X9_layCounts M K) : CTv l yX9_layCounts cX9_layCounts 4 none rm_X9_layCounts (fun ad => [.ref (ad 0)]) M K := by
  refine rw_entv (by decide +kernel) (fun ad => Nat.le_of_ble_eq_true rfl) (fun p e s m args below meth c D cy ad C => ?_)
  change rw_W p l e _ s m args below meth c D cy ad 4 0 0 _ 0 [(0, .ref (ad 0))] [] M
  unfold f_X9_layCounts at h
  refine r_aload_n C 0 dX9_layCounts_0 rfl rfl ?_
  refine gX9_257 C dX9_layCounts_1 ?_
  refine r_if_eq C 8 dX9_layCounts_4 (by decide) (fun hc => ?_) (fun hc => ?_)
  · replace h := h.1 hc
    refine r_aload_n C 0 dX9_layCounts_8 rfl rfl ?_
    refine r_iconst (v := (1 : Int32)) C dX9_layCounts_9 rfl ?_
    refine pX9_257 C (by decide) dX9_layCounts_10 ?_
    replace h := h _ rfl
    refine r_aload_n C 0 dX9_layCounts_13 rfl rfl ?_
    refine r_bipush (v := (13 : Int32)) C dX9_layCounts_14 rfl ?_
    refine pX9_354 C dX9_layCounts_16 ?_
    replace h := h _ rfl
    refine r_iconst (v := (0 : Int32)) C dX9_layCounts_19 rfl ?_
    refine r_istore_n C [(1, .int _), (0, .ref _)] dX9_layCounts_20 rfl (by decide) rfl ?_
    obtain ⟨n21, h⟩ := h
    refine r_sub [1, 0] rfl (mL_X9_layCounts_21 C (fun M_5 h => ?_) n21 _ _ h)
    refine r_iconst (v := (0 : Int32)) C dX9_layCounts_45 rfl ?_
    refine r_istore_n C [(1, .int _), (0, .ref _)] dX9_layCounts_46 rfl (by decide) rfl ?_
    obtain ⟨n47, h⟩ := h
    refine r_sub [1, 0] rfl (mL_X9_layCounts_47 C (fun M_7 h => ?_) n47 _ _ h)
    refine r_iconst (v := (0 : Int32)) C dX9_layCounts_66 rfl ?_
    refine r_istore_n C [(1, .int _), (0, .ref _)] dX9_layCounts_67 rfl (by decide) rfl ?_
    refine r_iconst (v := (1 : Int32)) C dX9_layCounts_68 rfl ?_
    refine r_istore_n C [(2, .int _), (1, .int _), (0, .ref _)] dX9_layCounts_69 rfl (by decide) rfl ?_
    obtain ⟨n70, h⟩ := h
    refine r_sub [2, 1, 0] rfl (mL_X9_layCounts_70 C (fun M_16 h => ?_) n70 _ _ _ h)
    refine r_aload_n C 0 dX9_layCounts_208 rfl rfl ?_
    refine gX9_354 C dX9_layCounts_209 ?_
    refine r_bipush (v := (12 : Int32)) C dX9_layCounts_212 rfl ?_
    refine r_icmp_gt C 221 dX9_layCounts_214 (by decide) (fun hc => ?_) (fun hc => ?_)
    · replace h := h.1 hc
      exact r_vret C dX9_layCounts_221 h
    · replace h := h.2 hc
      refine r_aload_n C 0 dX9_layCounts_217 rfl rfl ?_
      refine cX9_364 C (m_X9_layShapes l h) ⟨Nat.le_of_ble_eq_true rfl, Nat.le_of_ble_eq_true rfl⟩ (Nat.le_of_ble_eq_true rfl) ⟨Nat.le_refl 0, Nat.le_refl 0⟩ dX9_layCounts_218 (fun M_17 h => ?_)
      exact r_vret C dX9_layCounts_221 h
  · replace h := h.2 hc
    exact r_vret C dX9_layCounts_7 h
end MG
