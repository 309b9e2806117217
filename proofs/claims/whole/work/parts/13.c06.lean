section MG
variable {p : Program} {l : Launch} {e : Env} {R : Room} {s : State} {m : MethodId} {args : Array Value} {below : List Frame} {meth : Method} {c : Code} {D : va_G} {cy : Nat → ClassId} {ad : Nat → Nat}
def L_X6_canStillBe_41 (v1 : Int32) (v2 : Int32) (v3 : Int32) (v4 : Int32) (X87 : Int64 → Int64 → Mem → Prop) (K : Int32 → Mem → Prop) : Nat → Int64 → Int64 → Int32 → Mem → Prop
  | 0, _, _, _, _ => False
  | n + 1, v5, v7, v9, M => ((v3 < v9 → X87 v5 v7 M) ∧ (¬ v3 < v9 → vp_in (v4 + v9) 90 ∧ ∀ x5_2 : Int64, x5_2 = (if (gL M 126 (v4 + v9)) < v5 then (gL M 126 (v4 + v9)) else v5) → ∀ x7_2 : Int64, x7_2 = (if (gL M 126 (v4 + v9)) < v7 then v7 else (gL M 126 (v4 + v9))) → L_X6_canStillBe_41 v1 v2 v3 v4 X87 K n x5_2 x7_2 (v9 + (1 : Int32)) M))

set_option maxHeartbeats 1000000 in
set_option maxRecDepth 10000 in
theorem mL_X6_canStillBe_41 (C : rw_C p s m meth c cX6_canStillBe 11 RX6 (some .boolean) D cy ad) {v1 : Int32} {v2 : Int32} {v3 : Int32} {v4 : Int32} {X87 : Int64 → Int64 → Mem → Prop} {K : Int32 → Mem → Prop} (hX87 : ∀ (u5 : Int64) (u7 : Int64) (M : Mem), X87 u5 u7 M → rw_W p l e rm_X6_canStillBe s m args below meth c D cy ad 11 0 0 (rw_Qi below args s D cy ad K) 87 [(0, .ref (ad 124)), (1, .int v1), (2, .int v2), (3, .int v3), (4, .int v4), (5, .long u5), (7, .long u7)] [] M) : ∀ (n : Nat) (v5 : Int64) (v7 : Int64) (v9 : Int32) (M : Mem), L_X6_canStillBe_41 v1 v2 v3 v4 X87 K n v5 v7 v9 M → rw_W p l e rm_X6_canStillBe s m args below meth c D cy ad 11 0 0 (rw_Qi below args s D cy ad K) 41 [(0, .ref (ad 124)), (1, .int v1), (2, .int v2), (3, .int v3), (4, .int v4), (5, .long v5), (7, .long v7), (9, .int v9)] [] M := by
  intro n
  induction n with
  | zero => intro v5 v7 v9 M h; exact h.elim
  | succ n ih =>
    intro v5 v7 v9 M h
    refine r_iload C 7 dX6_canStillBe_41 rfl ?_
    refine r_iload_n C 3 dX6_canStillBe_43 rfl rfl ?_
    refine r_icmp_gt C 87 dX6_canStillBe_44 (by decide) (fun hc => ?_) (fun hc => ?_)
    · replace h := h.1 hc
      exact r_sub [0, 1, 2, 3, 4, 5, 6] rfl (hX87 _ _ _ h)
    · replace h := h.2 hc
      refine r_lload C 5 dX6_canStillBe_47 rfl ?_
      refine r_aload_n C 0 dX6_canStillBe_49 rfl rfl ?_
      refine gX6_15 C dX6_canStillBe_50 ?_
      refine r_iload C 4 dX6_canStillBe_53 rfl ?_
      refine r_iload C 7 dX6_canStillBe_55 rfl ?_
      refine r_iadd C dX6_canStillBe_57 ?_
      obtain ⟨q_2, h⟩ := h
      refine r_lald C sh_126 q_2 dX6_canStillBe_58 ?_
      refine cX6_136 C ⟨Nat.le_of_ble_eq_true rfl, Nat.le_of_ble_eq_true rfl⟩ (Nat.le_refl 0) (Nat.le_refl 0) dX6_canStillBe_59 ?_
      refine r_lstore C [(5, .long _), (0, .ref _), (1, .int _), (2, .int _), (3, .int _), (4, .int _), (7, .long _), (9, .int _)] dX6_canStillBe_62 (by decide) rfl ?_
      replace h := h _ rfl
      refine r_lload C 6 dX6_canStillBe_64 rfl ?_
      refine r_aload_n C 1 dX6_canStillBe_66 rfl rfl ?_
      refine gX6_15 C dX6_canStillBe_67 ?_
      refine r_iload C 5 dX6_canStillBe_70 rfl ?_
      refine r_iload C 7 dX6_canStillBe_72 rfl ?_
      refine r_iadd C dX6_canStillBe_74 ?_
      refine r_lald C sh_126 q_2 dX6_canStillBe_75 ?_
      refine cX6_141 C ⟨Nat.le_of_ble_eq_true rfl, Nat.le_of_ble_eq_true rfl⟩ (Nat.le_refl 0) (Nat.le_refl 0) dX6_canStillBe_76 ?_
      refine r_lstore C [(7, .long _), (5, .long _), (0, .ref _), (1, .int _), (2, .int _), (3, .int _), (4, .int _), (9, .int _)] dX6_canStillBe_79 (by decide) rfl ?_
      replace h := h _ rfl
      refine r_iinc C 7 (v := _) [(9, .int _), (7, .long _), (5, .long _), (0, .ref _), (1, .int _), (2, .int _), (3, .int _), (4, .int _)] dX6_canStillBe_81 rfl rfl (by decide) rfl ?_
      refine r_goto C 41 dX6_canStillBe_84 (by decide) ?_
      exact r_sub [3, 4, 5, 6, 7, 2, 1, 0] rfl (ih _ _ _ _ h)

def L_X6_canStillBe_2 (v1 : Int32) (v2 : Int32) (X126 : Mem → Prop) (K : Int32 → Mem → Prop) : Nat → Int32 → Mem → Prop
  | 0, _, _ => False
  | n + 1, v3, M => (((8 : Int32) ≤ v3 → X126 M) ∧ (¬ (8 : Int32) ≤ v3 → vp_in v3 8 ∧ ((¬ (gI M 127 v3) = (-1 : Int32) → ∀ x4 : Int32, x4 = (gI M 127 v3) * (9 : Int32) → ∀ x5 : Int64, x5 = (0 : Int64) → ∀ x7 : Int64, x7 = (0 : Int64) → (∃ k41 : Nat, L_X6_canStillBe_41 v1 v2 v3 x4 (fun (v5_2 : Int64) (v7_2 : Int64) (M_2 : Mem) => f_X6_missingIn x4 v1 M_2 (fun (r : Int64) (M_3 : Mem) => ((r < (v5_2 * v2.toInt64) → K (0 : Int32) M_3) ∧ (¬ r < (v5_2 * v2.toInt64) → ((r ≤ (v7_2 * v2.toInt64) → L_X6_canStillBe_2 v1 v2 X126 K n (v3 + (1 : Int32)) M_3) ∧ (¬ r ≤ (v7_2 * v2.toInt64) → K (0 : Int32) M_3)))))) K k41 x5 x7 v1 M)) ∧ ((gI M 127 v3) = (-1 : Int32) → L_X6_canStillBe_2 v1 v2 X126 K n (v3 + (1 : Int32)) M))))

set_option maxHeartbeats 1000000 in
set_option maxRecDepth 10000 in
theorem mL_X6_canStillBe_2 (C : rw_C p s m meth c cX6_canStillBe 11 RX6 (some .boolean) D cy ad) {v1 : Int32} {v2 : Int32} {X126 : Mem → Prop} {K : Int32 → Mem → Prop} (hX126 : ∀  (M : Mem), X126 M → rw_W p l e rm_X6_canStillBe s m args below meth c D cy ad 11 0 0 (rw_Qi below args s D cy ad K) 126 [] [] M) : ∀ (n : Nat) (v3 : Int32) (M : Mem), L_X6_canStillBe_2 v1 v2 X126 K n v3 M → rw_W p l e rm_X6_canStillBe s m args below meth c D cy ad 11 0 0 (rw_Qi below args s D cy ad K) 2 [(0, .ref (ad 124)), (1, .int v1), (2, .int v2), (3, .int v3)] [] M := by
  intro n
  induction n with
  | zero => intro v3 M h; exact h.elim
  | succ n ih =>
    intro v3 M h
    refine r_iload_n C 3 dX6_canStillBe_2 rfl rfl ?_
    refine r_bipush (v := (8 : Int32)) C dX6_canStillBe_3 rfl ?_
    refine r_icmp_ge C 126 dX6_canStillBe_5 (by decide) (fun hc => ?_) (fun hc => ?_)
    · replace h := h.1 hc
      exact r_sub [] rfl (hX126 _ h)
    · replace h := h.2 hc
      refine r_aload_n C 0 dX6_canStillBe_8 rfl rfl ?_
      refine gX6_19 C dX6_canStillBe_9 ?_
      refine r_iload_n C 3 dX6_canStillBe_12 rfl rfl ?_
      obtain ⟨q, h⟩ := h
      refine r_iald C sh_127 q dX6_canStillBe_13 ?_
      refine r_iconst (v := (-1 : Int32)) C dX6_canStillBe_14 rfl ?_
      refine r_icmp_ne C 21 dX6_canStillBe_15 (by decide) (fun hc => ?_) (fun hc => ?_)
      · replace h := h.1 hc
        refine r_aload_n C 0 dX6_canStillBe_21 rfl rfl ?_
        refine gX6_19 C dX6_canStillBe_22 ?_
        refine r_iload_n C 3 dX6_canStillBe_25 rfl rfl ?_
        refine r_iald C sh_127 q dX6_canStillBe_26 ?_
        refine r_bipush (v := (9 : Int32)) C dX6_canStillBe_27 rfl ?_
        refine r_imul C dX6_canStillBe_29 ?_
        refine r_istore C [(4, .int _), (0, .ref _), (1, .int _), (2, .int _), (3, .int _)] dX6_canStillBe_30 (by decide) rfl ?_
        replace h := h _ rfl
        refine r_lconst (v := (0 : Int64)) C dX6_canStillBe_32 rfl ?_
        refine r_lstore C [(5, .long _), (4, .int _), (0, .ref _), (1, .int _), (2, .int _), (3, .int _)] dX6_canStillBe_33 (by decide) rfl ?_
        replace h := h _ rfl
        refine r_lconst (v := (0 : Int64)) C dX6_canStillBe_35 rfl ?_
        refine r_lstore C [(7, .long _), (5, .long _), (4, .int _), (0, .ref _), (1, .int _), (2, .int _), (3, .int _)] dX6_canStillBe_36 (by decide) rfl ?_
        replace h := h _ rfl
        refine r_iload_n C 4 dX6_canStillBe_38 rfl rfl ?_
        refine r_istore C [(9, .int _), (7, .long _), (5, .long _), (4, .int _), (0, .ref _), (1, .int _), (2, .int _), (3, .int _)] dX6_canStillBe_39 (by decide) rfl ?_
        obtain ⟨n41, h⟩ := h
        refine r_sub [4, 5, 6, 7, 3, 2, 1, 0] rfl (mL_X6_canStillBe_41 C (fun v5_2 v7_2 M_2 h => ?_) n41 _ _ _ _ h)
        refine r_aload_n C 0 dX6_canStillBe_87 rfl rfl ?_
        refine r_iload C 4 dX6_canStillBe_88 rfl ?_
        refine r_iload_n C 1 dX6_canStillBe_90 rfl rfl ?_
        refine cX6_144 C (m_X6_missingIn l h) ⟨Nat.le_of_ble_eq_true rfl, Nat.le_of_ble_eq_true rfl⟩ (Nat.le_of_ble_eq_true rfl) ⟨Nat.le_refl 0, Nat.le_refl 0⟩ dX6_canStillBe_91 (fun r M_3 h => ?_)
        refine r_lstore C [(9, .long _), (0, .ref _), (1, .int _), (2, .int _), (3, .int _), (4, .int _), (5, .long _), (7, .long _)] dX6_canStillBe_94 (by decide) rfl ?_
        refine r_lload C 0 dX6_canStillBe_96 rfl ?_
        refine r_lload C 6 dX6_canStillBe_98 rfl ?_
        refine r_iload_n C 3 dX6_canStillBe_100 rfl rfl ?_
        refine r_i2l C dX6_canStillBe_101 ?_
        refine r_lmul C dX6_canStillBe_102 ?_
        refine r_lcmp C dX6_canStillBe_103 ?_
        refine r_if_lt C 118 dX6_canStillBe_104 (by decide) (fun hc => ?_) (fun hc => ?_)
        · replace h := h.1 ((lg_cmp_lt _ _).mp hc)
          refine r_iconst (v := (0 : Int32)) C dX6_canStillBe_118 rfl ?_
          exact r_zret C (by decide) dX6_canStillBe_119 h
        · replace h := h.2 (fun q9 => hc ((lg_cmp_lt _ _).mpr q9))
          refine r_lload C 0 dX6_canStillBe_107 rfl ?_
          refine r_lload C 7 dX6_canStillBe_109 rfl ?_
          refine r_iload_n C 3 dX6_canStillBe_111 rfl rfl ?_
          refine r_i2l C dX6_canStillBe_112 ?_
          refine r_lmul C dX6_canStillBe_113 ?_
          refine r_lcmp C dX6_canStillBe_114 ?_
          refine r_if_le C 120 dX6_canStillBe_115 (by decide) (fun hc => ?_) (fun hc => ?_)
          · replace h := h.1 ((lg_cmp_le _ _).mp hc)
            refine r_iinc C 4 (v := _) [(3, .int _), (9, .long _), (0, .ref _), (1, .int _), (2, .int _), (4, .int _), (5, .long _), (7, .long _)] dX6_canStillBe_120 rfl rfl (by decide) rfl ?_
            refine r_goto C 2 dX6_canStillBe_123 (by decide) ?_
            exact r_sub [2, 3, 4, 0] rfl (ih _ _ h)
          · replace h := h.2 (fun q9 => hc ((lg_cmp_le _ _).mpr q9))
            refine r_iconst (v := (0 : Int32)) C dX6_canStillBe_118 rfl ?_
            exact r_zret C (by decide) dX6_canStillBe_119 h
      · replace h := h.2 hc
        refine r_goto C 120 dX6_canStillBe_18 (by decide) ?_
        refine r_iinc C 3 (v := _) [(3, .int _), (0, .ref _), (1, .int _), (2, .int _)] dX6_canStillBe_120 rfl rfl (by decide) rfl ?_
        refine r_goto C 2 dX6_canStillBe_123 (by decide) ?_
        exact r_sub [1, 2, 3, 0] rfl (ih _ _ h)

def f_X6_canStillBe (v1 : Int32) (v2 : Int32) (M : Mem) (K : Int32 → Mem → Prop) : Prop := (∃ k2 : Nat, L_X6_canStillBe_2 v1 v2 (fun  (M_4 : Mem) => K (1 : Int32) M_4) K k2 v1 M)

set_option maxHeartbeats 1000000 in
set_option maxRecDepth 10000 in
theorem m_X6_canStillBe (l : Launch) {v1 : Int32} {v2 : Int32}  {M : Mem} {K : Int32 → Mem → Prop} (h : f_X6_canStillBe v1 v2 M K) : CTi l yX6_canStillBe cX6_canStillBe 11 (some .boolean) rm_X6_canStillBe (fun ad => [.ref (ad 124), .int v1, .int v2]) M K := by
  refine rw_enti (by decide +kernel) (fun ad => Nat.le_of_ble_eq_true rfl) (fun p e s m args below meth c D cy ad C => ?_)
  change rw_W p l e _ s m args below meth c D cy ad 11 0 0 _ 0 [(0, .ref (ad 124)), (1, .int v1), (2, .int v2)] [] M
  unfold f_X6_canStillBe at h
  refine r_iload_n C 1 dX6_canStillBe_0 rfl rfl ?_
  refine r_istore_n C [(3, .int _), (0, .ref _), (1, .int _), (2, .int _)] dX6_canStillBe_1 rfl (by decide) rfl ?_
  obtain ⟨n2, h⟩ := h
  refine r_sub [1, 2, 3, 0] rfl (mL_X6_canStillBe_2 C (fun M_4 h => ?_) n2 _ _ h)
  refine r_iconst (v := (1 : Int32)) C dX6_canStillBe_126 rfl ?_
  exact r_zret C (by decide) dX6_canStillBe_127 h
def f_X6_countByRow (v1 : Int32) (M : Mem) (K : Int32 → Mem → Prop) : Prop := vp_in v1 8 ∧ ∀ x2 : Int32, x2 = (gI M 127 v1) * (9 : Int32) → vp_in (x2 + v1) 90 ∧ ∀ x3 : Int64, x3 = gL M 126 (x2 + v1) → f_X6_missingIn x2 v1 M (fun (r : Int64) (M_2 : Mem) => ((x3 = (0 : Int64) → K (-1 : Int32) M_2) ∧ (¬ x3 = (0 : Int64) → (¬ x3 = 0) ∧ (((lrem r x3) = (0 : Int64) → ∀ x7 : Int64, x7 = r / x3 → ((x7 < (0 : Int64) → K (-1 : Int32) M_2) ∧ (¬ x7 < (0 : Int64) → (((12 : Int64) < x7 → K (-1 : Int32) M_2) ∧ (¬ (12 : Int64) < x7 → K x7.toInt32 M_2))))) ∧ (¬ (lrem r x3) = (0 : Int64) → K (-1 : Int32) M_2)))))

set_option maxHeartbeats 1000000 in
set_option maxRecDepth 10000 in
theorem m_X6_countByRow (l : Launch) {v1 : Int32}  {M : Mem} {K : Int32 → Mem → Prop} (h : f_X6_countByRow v1 M K) : CTi l yX6_countByRow cX6_countByRow 9 (some .int) rm_X6_countByRow (fun ad => [.ref (ad 124), .int v1]) M K := by
  refine rw_enti (by decide +kernel) (fun ad => Nat.le_of_ble_eq_true rfl) (fun p e s m args below meth c D cy ad C => ?_)
  change rw_W p l e _ s m args below meth c D cy ad 9 0 0 _ 0 [(0, .ref (ad 124)), (1, .int v1)] [] M
  unfold f_X6_countByRow at h
  refine r_aload_n C 0 dX6_countByRow_0 rfl rfl ?_
  refine gX6_19 C dX6_countByRow_1 ?_
  refine r_iload_n C 1 dX6_countByRow_4 rfl rfl ?_
  obtain ⟨q, h⟩ := h
  refine r_iald C sh_127 q dX6_countByRow_5 ?_
  refine r_bipush (v := (9 : Int32)) C dX6_countByRow_6 rfl ?_
  refine r_imul C dX6_countByRow_8 ?_
  refine r_istore_n C [(2, .int _), (0, .ref _), (1, .int _)] dX6_countByRow_9 rfl (by decide) rfl ?_
  replace h := h _ rfl
  refine r_aload_n C 1 dX6_countByRow_10 rfl rfl ?_
  refine gX6_15 C dX6_countByRow_11 ?_
  refine r_iload_n C 0 dX6_countByRow_14 rfl rfl ?_
  refine r_iload_n C 2 dX6_countByRow_15 rfl rfl ?_
  refine r_iadd C dX6_countByRow_16 ?_
  obtain ⟨q_2, h⟩ := h
  refine r_lald C sh_126 q_2 dX6_countByRow_17 ?_
  refine r_lstore_n C [(3, .long _), (2, .int _), (0, .ref _), (1, .int _)] dX6_countByRow_18 rfl (by decide) rfl ?_
  replace h := h _ rfl
  refine r_aload_n C 2 dX6_countByRow_19 rfl rfl ?_
  refine r_iload_n C 1 dX6_countByRow_20 rfl rfl ?_
  refine r_iload_n C 3 dX6_countByRow_21 rfl rfl ?_
  refine cX6_144 C (m_X6_missingIn l h) ⟨Nat.le_of_ble_eq_true rfl, Nat.le_of_ble_eq_true rfl⟩ (Nat.le_of_ble_eq_true rfl) ⟨Nat.le_refl 0, Nat.le_refl 0⟩ dX6_countByRow_22 (fun r M_2 h => ?_)
  refine r_lstore C [(5, .long _), (3, .long _), (2, .int _), (0, .ref _), (1, .int _)] dX6_countByRow_25 (by decide) rfl ?_
  refine r_lload_n C 1 dX6_countByRow_27 rfl rfl ?_
  refine r_lconst (v := (0 : Int64)) C dX6_countByRow_28 rfl ?_
  refine r_lcmp C dX6_countByRow_29 ?_
  refine r_if_eq C 42 dX6_countByRow_30 (by decide) (fun hc => ?_) (fun hc => ?_)
  · replace h := h.1 ((lg_cmp_eq _ _).mp hc)
    refine r_iconst (v := (-1 : Int32)) C dX6_countByRow_42 rfl ?_
    exact r_iret C dX6_countByRow_43 h
  · replace h := h.2 (fun q9 => hc ((lg_cmp_eq _ _).mpr q9))
    refine r_lload C 0 dX6_countByRow_33 rfl ?_
    refine r_lload_n C 1 dX6_countByRow_35 rfl rfl ?_
    obtain ⟨q_3, h⟩ := h
    refine r_lrem C dX6_countByRow_36 q_3 ?_
    refine r_lconst (v := (0 : Int64)) C dX6_countByRow_37 rfl ?_
    refine r_lcmp C dX6_countByRow_38 ?_
    refine r_if_eq C 44 dX6_countByRow_39 (by decide) (fun hc => ?_) (fun hc => ?_)
    · replace h := h.1 ((lg_cmp_eq _ _).mp hc)
      refine r_lload C 0 dX6_countByRow_44 rfl ?_
      refine r_lload_n C 1 dX6_countByRow_46 rfl rfl ?_
      refine r_ldiv C dX6_countByRow_47 q_3 ?_
      refine r_lstore C [(7, .long _), (5, .long _), (3, .long _), (2, .int _), (0, .ref _), (1, .int _)] dX6_countByRow_48 (by decide) rfl ?_
      replace h := h _ rfl
      refine r_lload C 0 dX6_countByRow_50 rfl ?_
      refine r_lconst (v := (0 : Int64)) C dX6_countByRow_52 rfl ?_
      refine r_lcmp C dX6_countByRow_53 ?_
      refine r_if_lt C 72 dX6_countByRow_54 (by decide) (fun hc => ?_) (fun hc => ?_)
      · replace h := h.1 ((lg_cmp_lt _ _).mp hc)
        refine r_iconst (v := (-1 : Int32)) C dX6_countByRow_72 rfl ?_
        exact r_iret C dX6_countByRow_73 h
      · replace h := h.2 (fun q9 => hc ((lg_cmp_lt _ _).mpr q9))
        refine r_lload C 0 dX6_countByRow_57 rfl ?_
        refine kX6_148 C dX6_countByRow_59 ?_
        refine r_lcmp C dX6_countByRow_62 ?_
        refine r_if_gt C 72 dX6_countByRow_63 (by decide) (fun hc => ?_) (fun hc => ?_)
        · replace h := h.1 ((lg_cmp_gt _ _).mp hc)
          refine r_iconst (v := (-1 : Int32)) C dX6_countByRow_72 rfl ?_
          exact r_iret C dX6_countByRow_73 h
        · replace h := h.2 (fun q9 => hc ((lg_cmp_gt _ _).mpr q9))
          refine r_lload C 0 dX6_countByRow_66 rfl ?_
          refine r_l2i C dX6_countByRow_68 ?_
          refine r_goto C 73 dX6_countByRow_69 (by decide) ?_
          exact r_iret C dX6_countByRow_73 h
    · replace h := h.2 (fun q9 => hc ((lg_cmp_eq _ _).mpr q9))
      refine r_iconst (v := (-1 : Int32)) C dX6_countByRow_42 rfl ?_
      exact r_iret C dX6_countByRow_43 h
set_option maxHeartbeats 1000000 in
set_option maxRecDepth 10000 in
theorem mD_X6_seek_68 (C : rw_C p s m meth c cX6_seek 6 RX6 none D cy ad) {Q : State → Prop} {st : List Value} {M : Mem} {v3 : Int32} {v1 : Int32} {v2 : Int32} {o0 : Int32} {o1 : Int32} (kk : rw_W p l e R s m args below meth c D cy ad 6 0 0 Q 77 [(3, .int v3), (0, .ref (ad 124)), (1, .int v1), (2, .int v2)] (.int (if ¬ o1 = o0 then (0 : Int32) else (12 : Int32)) :: st) M) : rw_W p l e R s m args below meth c D cy ad 6 0 0 Q 68 [(3, .int v3), (0, .ref (ad 124)), (1, .int v1), (2, .int v2)] (.int o0 :: .int o1 :: st) M := by
  refine r_icmp_ne C 76 dX6_seek_68 (by decide) (fun z0 => ?_) (fun z0 => ?_)
  · skip
    refine r_iconst (v := (0 : Int32)) C dX6_seek_76 rfl ?_
    first | rw [if_pos z0] at kk | rw [if_neg (fun q9 => q9 z0)] at kk
    exact kk
  · skip
    refine r_bipush (v := (12 : Int32)) C dX6_seek_71 rfl ?_
    refine r_goto C 77 dX6_seek_73 (by decide) ?_
    first | rw [if_neg z0] at kk | rw [if_neg (fun q9 => q9 z0)] at kk
    exact kk

def S_X6_seek_86 (v1 : Int32) (v2 : Int32) (v3 : Int32) (v4 : Int32) (o0 : Int32) (o1 : Int32) (X98 : Int32 → Int32 → Mem → Prop) (K : Mem → Prop) (M : Mem) : Prop := (o1 = o0 → X98 v3 v4 M) ∧ (¬ o1 = o0 → f_X6_countByRow v1 M (fun (r_2 : Int32) (M_3 : Mem) => X98 r_2 r_2 M_3))

set_option maxHeartbeats 1000000 in
set_option maxRecDepth 10000 in
theorem mS_X6_seek_86 (C : rw_C p s m meth c cX6_seek 6 RX6 none D cy ad) {dp : Nat} {v1 : Int32} {v2 : Int32} {v3 : Int32} {v4 : Int32} {o0 : Int32} {o1 : Int32} {X98 : Int32 → Int32 → Mem → Prop} {K : Mem → Prop} {M : Mem} (hX98 : ∀ (u3 : Int32) (u4 : Int32) (M : Mem), X98 u3 u4 M → rw_W p l e (rm_X6_seek (dp + 1)) s m args below meth c D cy ad 6 0 0 (rw_Qv below args s D cy ad K) 98 [(0, .ref (ad 124)), (1, .int v1), (2, .int v2), (3, .int u3), (4, .int u4)] [] M) (h : S_X6_seek_86 v1 v2 v3 v4 o0 o1 X98 K M) : rw_W p l e (rm_X6_seek (dp + 1)) s m args below meth c D cy ad 6 0 0 (rw_Qv below args s D cy ad K) 86 [(0, .ref (ad 124)), (1, .int v1), (2, .int v2), (3, .int v3), (4, .int v4)] [.int o0, .int o1] M := by
  refine r_icmp_eq C 98 dX6_seek_86 (by decide) (fun hc => ?_) (fun hc => ?_)
  · replace h := h.1 hc
    exact hX98 _ _ _ h
  · replace h := h.2 hc
    refine r_aload_n C 0 dX6_seek_89 rfl rfl ?_
    refine r_iload_n C 1 dX6_seek_90 rfl rfl ?_
    refine cX6_132 C (m_X6_countByRow l h) ⟨by show _ ≤ _; simp only [rm_X6_seek, rm_X6_countByRow]; omega, by show _ ≤ _; simp only [rm_X6_seek, rm_X6_countByRow]; omega⟩ (Nat.le_of_ble_eq_true rfl) ⟨Nat.le_refl 0, Nat.le_refl 0⟩ dX6_seek_91 (fun r_2 M_3 h => ?_)
    refine r_istore_n C [(3, .int _), (0, .ref _), (1, .int _), (2, .int _), (4, .int _)] dX6_seek_94 rfl (by decide) rfl ?_
    refine r_iload_n C 0 dX6_seek_95 rfl rfl ?_
    refine r_istore C [(4, .int _), (3, .int _), (0, .ref _), (1, .int _), (2, .int _)] dX6_seek_96 (by decide) rfl ?_
    exact r_sub [2, 3, 4, 1, 0] rfl (hX98 _ _ _ h)

def L_X6_seek_101 (v1 : Int32) (v2 : Int32) (v4 : Int32) (rec : Int32 → Int32 → Mem → (Mem → Prop) → Prop) (X149 : Mem → Prop) (K : Mem → Prop) : Nat → Int32 → Mem → Prop
  | 0, _, _ => False
  | n + 1, v5, M => ((v5 < 0 → X149 M) ∧ (¬ v5 < 0 → ((v4 < v5 → X149 M) ∧ (¬ v4 < v5 → (((M.1 124 10) < (v2 + v5) → X149 M) ∧ (¬ (M.1 124 10) < (v2 + v5) → vp_in v1 8 ∧ ∀ M_5 : Mem, M_5 = wI M 128 v1.toNatClampNeg v5 → rec (v1 + (1 : Int32)) (v2 + v5) M_5 (fun (M_6 : Mem) => L_X6_seek_101 v1 v2 v4 rec X149 K n (v5 + (1 : Int32)) M_6)))))))

set_option maxHeartbeats 1000000 in
set_option maxRecDepth 10000 in
theorem mL_X6_seek_101 (C : rw_C p s m meth c cX6_seek 6 RX6 none D cy ad) {dp : Nat} {rec : Int32 → Int32 → Mem → (Mem → Prop) → Prop} (hrec : ∀ (a0 : Int32) (a1 : Int32), ∀ (M : Mem) (K : Mem → Prop), rec a0 a1 M K → CTv l yX6_seek cX6_seek 6 none (rm_X6_seek dp) (fun ad => [.ref (ad 124), .int a0, .int a1]) M K) {v1 : Int32} {v2 : Int32} {v4 : Int32} {X149 : Mem → Prop} {K : Mem → Prop} (hX149 : ∀  (M : Mem), X149 M → rw_W p l e (rm_X6_seek (dp + 1)) s m args below meth c D cy ad 6 0 0 (rw_Qv below args s D cy ad K) 149 [] [] M) : ∀ (n : Nat) (v5 : Int32) (M : Mem), L_X6_seek_101 v1 v2 v4 rec X149 K n v5 M → rw_W p l e (rm_X6_seek (dp + 1)) s m args below meth c D cy ad 6 0 0 (rw_Qv below args s D cy ad K) 101 [(0, .ref (ad 124)), (1, .int v1), (2, .int v2), (4, .int v4), (5, .int v5)] [] M := by
  intro n
  induction n with
  | zero => intro v5 M h; exact h.elim
  | succ n ih =>
    intro v5 M h
    refine r_iload C 4 dX6_seek_101 rfl ?_
    refine r_if_lt C 149 dX6_seek_103 (by decide) (fun hc => ?_) (fun hc => ?_)
    · replace h := h.1 hc
      exact r_sub [] rfl (hX149 _ h)
    · replace h := h.2 hc
      refine r_iload C 4 dX6_seek_106 rfl ?_
      refine r_iload C 3 dX6_seek_108 rfl ?_
      refine r_icmp_gt C 149 dX6_seek_110 (by decide) (fun hc => ?_) (fun hc => ?_)
      · replace h := h.1 hc
        exact r_sub [] rfl (hX149 _ h)
      · replace h := h.2 hc
        refine r_iload_n C 2 dX6_seek_113 rfl rfl ?_
        refine r_iload C 4 dX6_seek_114 rfl ?_
        refine r_iadd C dX6_seek_116 ?_
        refine r_aload_n C 0 dX6_seek_117 rfl rfl ?_
        refine gX6_45 C dX6_seek_118 ?_
        refine r_icmp_gt C 149 dX6_seek_121 (by decide) (fun hc => ?_) (fun hc => ?_)
        · replace h := h.1 hc
          exact r_sub [] rfl (hX149 _ h)
        · replace h := h.2 hc
          refine r_aload_n C 0 dX6_seek_124 rfl rfl ?_
          refine gX6_22 C dX6_seek_125 ?_
          refine r_iload_n C 1 dX6_seek_128 rfl rfl ?_
          refine r_iload C 4 dX6_seek_129 rfl ?_
          obtain ⟨q_2, h⟩ := h
          refine r_iast C sh_128 q_2 dX6_seek_131 ?_
          replace h := h _ rfl
          refine r_aload_n C 0 dX6_seek_132 rfl rfl ?_
          refine r_iload_n C 1 dX6_seek_133 rfl rfl ?_
          refine r_iconst (v := (1 : Int32)) C dX6_seek_134 rfl ?_
          refine r_iadd C dX6_seek_135 ?_
          refine r_iload_n C 2 dX6_seek_136 rfl rfl ?_
          refine r_iload C 4 dX6_seek_137 rfl ?_
          refine r_iadd C dX6_seek_139 ?_
          refine cX6_83 C (hrec _ _ _ _ h) ⟨by show _ ≤ _; simp only [rm_X6_seek]; omega, by show _ ≤ _; simp only [rm_X6_seek]; omega⟩ (Nat.le_of_ble_eq_true rfl) ⟨Nat.le_refl 0, Nat.le_refl 0⟩ dX6_seek_140 (fun M_6 h => ?_)
          refine r_iinc C 4 (v := _) [(5, .int _), (0, .ref _), (1, .int _), (2, .int _), (4, .int _)] dX6_seek_143 rfl rfl (by decide) rfl ?_
          refine r_goto C 101 dX6_seek_146 (by decide) ?_
          exact r_sub [1, 2, 3, 4, 0] rfl (ih _ _ h)

def f_X6_seekB (rec : Int32 → Int32 → Mem → (Mem → Prop) → Prop) (v1 : Int32) (v2 : Int32) (M : Mem) (K : Mem → Prop) : Prop := (((M.1 124 10) < v2 → K M) ∧ (¬ (M.1 124 10) < v2 → f_X6_canStillBe v1 ((M.1 124 10) - v2) M (fun (r : Int32) (M_2 : Mem) => ((¬ r = 0 → ((v1 < (8 : Int32) → ∀ x4 : Int32, x4 = (if ¬ (((M_2.1 124 11) >>> (v1 &&& 31)) &&& (1 : Int32)) = (1 : Int32) then (0 : Int32) else (12 : Int32)) → vp_in v1 8 ∧ (S_X6_seek_86 v1 v2 (0 : Int32) x4 (-1 : Int32) (gI M_2 127 v1) (fun (v3_2 : Int32) (v4_2 : Int32) (M_4 : Mem) => (∃ k101 : Nat, L_X6_seek_101 v1 v2 v4_2 rec (fun  (M_7 : Mem) => K M_7) K k101 v3_2 M_4)) K M_2)) ∧ (¬ v1 < (8 : Int32) → ∀ M_8 : Mem, M_8 = wI M_2 124 9 v2 → ∀ M_9 : Mem, M_9 = wI M_8 124 10 (v2 - (1 : Int32)) → ∀ M_10 : Mem, M_10 = wC M_9 128 129 (0 : Int32).toNatClampNeg (0 : Int32).toNatClampNeg (8 : Int32).toNatClampNeg → K M_10))) ∧ (r = 0 → K M_2)))))

def f_X6_seek : Nat → Int32 → Int32 → Mem → (Mem → Prop) → Prop
  | 0, _, _, _, _ => False
  | dp + 1, v1, v2, M, K => f_X6_seekB (f_X6_seek dp) v1 v2 M K

set_option maxHeartbeats 1000000 in
set_option maxRecDepth 10000 in
theorem m_X6_seek (l : Launch) : ∀ (dp : Nat) {v1 : Int32} {v2 : Int32}  {M : Mem} {K : Mem → Prop} (h : f_X6_seek dp v1 v2 M K), CTv l yX6_seek cX6_seek 6 none (rm_X6_seek dp) (fun ad => [.ref (ad 124), .int v1, .int v2]) M K := by
  intro dp
  induction dp with
  | zero => intro v1 v2 M K h; exact False.elim h
  | succ dp ih =>
    intro v1 v2 M K h
    refine rw_entv (by decide +kernel) (fun ad => Nat.le_of_ble_eq_true rfl) (fun p e s m args below meth c D cy ad C => ?_)
    change rw_W p l e _ s m args below meth c D cy ad 6 0 0 _ 0 [(0, .ref (ad 124)), (1, .int v1), (2, .int v2)] [] M
    have hrec : ∀ (a0 : Int32) (a1 : Int32), ∀ (M : Mem) (K : Mem → Prop), f_X6_seek dp a0 a1 M K → CTv l yX6_seek cX6_seek 6 none (rm_X6_seek dp) (fun ad => [.ref (ad 124), .int a0, .int a1]) M K := fun a0 a1 M K hh => ih  hh
    change f_X6_seekB (f_X6_seek dp) v1 v2 M K at h
    unfold f_X6_seekB at h
    refine r_iload_n C 2 dX6_seek_0 rfl rfl ?_
    refine r_aload_n C 0 dX6_seek_1 rfl rfl ?_
    refine gX6_45 C dX6_seek_2 ?_
    refine r_icmp_gt C 22 dX6_seek_5 (by decide) (fun hc => ?_) (fun hc => ?_)
    · replace h := h.1 hc
      exact r_vret C dX6_seek_22 h
    · replace h := h.2 hc
      refine r_aload_n C 0 dX6_seek_8 rfl rfl ?_
      refine r_iload_n C 1 dX6_seek_9 rfl rfl ?_
      refine r_aload_n C 0 dX6_seek_10 rfl rfl ?_
      refine gX6_45 C dX6_seek_11 ?_
      refine r_iload_n C 2 dX6_seek_14 rfl rfl ?_
      refine r_isub C dX6_seek_15 ?_
      refine cX6_123 C (m_X6_canStillBe l h) ⟨by show _ ≤ _; simp only [rm_X6_seek, rm_X6_canStillBe]; omega, by show _ ≤ _; simp only [rm_X6_seek, rm_X6_canStillBe]; omega⟩ (Nat.le_of_ble_eq_true rfl) ⟨Nat.le_refl 0, Nat.le_refl 0⟩ dX6_seek_16 (fun r M_2 h => ?_)
      refine r_if_ne C 23 dX6_seek_19 (by decide) (fun hc => ?_) (fun hc => ?_)
      · replace h := h.1 hc
        refine r_iload_n C 1 dX6_seek_23 rfl rfl ?_
        refine r_bipush (v := (8 : Int32)) C dX6_seek_24 rfl ?_
        refine r_icmp_lt C 57 dX6_seek_26 (by decide) (fun hc => ?_) (fun hc => ?_)
        · replace h := h.1 hc
          refine r_iconst (v := (0 : Int32)) C dX6_seek_57 rfl ?_
          refine r_istore_n C [(3, .int _), (0, .ref _), (1, .int _), (2, .int _)] dX6_seek_58 rfl (by decide) rfl ?_
          refine r_aload_n C 1 dX6_seek_59 rfl rfl ?_
          refine gX6_48 C dX6_seek_60 ?_
          refine r_iload_n C 2 dX6_seek_63 rfl rfl ?_
          refine r_ishr C dX6_seek_64 ?_
          refine r_iconst (v := (1 : Int32)) C dX6_seek_65 rfl ?_
          refine r_iand C dX6_seek_66 ?_
          refine r_iconst (v := (1 : Int32)) C dX6_seek_67 rfl ?_
          refine mD_X6_seek_68 C ?_
          refine r_istore C [(4, .int _), (3, .int _), (0, .ref _), (1, .int _), (2, .int _)] dX6_seek_77 (by decide) rfl ?_
          replace h := h _ rfl
          refine r_aload_n C 2 dX6_seek_79 rfl rfl ?_
          refine gX6_19 C dX6_seek_80 ?_
          refine r_iload_n C 3 dX6_seek_83 rfl rfl ?_
          obtain ⟨q, h⟩ := h
          refine r_iald C sh_127 q dX6_seek_84 ?_
          refine r_iconst (v := (-1 : Int32)) C dX6_seek_85 rfl ?_
          refine r_sub [2, 3, 4, 1, 0] rfl (mS_X6_seek_86 C (fun v3_2 v4_2 M_4 h => ?_) h)
          refine r_iload_n C 3 dX6_seek_98 rfl rfl ?_
          refine r_istore C [(5, .int _), (0, .ref _), (1, .int _), (2, .int _), (3, .int _), (4, .int _)] dX6_seek_99 (by decide) rfl ?_
          obtain ⟨n101, h⟩ := h
          refine r_sub [1, 2, 3, 5, 0] rfl (mL_X6_seek_101 C hrec (fun M_7 h => ?_) n101 _ _ h)
          exact r_vret C dX6_seek_149 h
        · replace h := h.2 hc
          refine r_aload_n C 0 dX6_seek_29 rfl rfl ?_
          refine r_iload_n C 2 dX6_seek_30 rfl rfl ?_
          refine pX6_41 C dX6_seek_31 ?_
          replace h := h _ rfl
          refine r_aload_n C 0 dX6_seek_34 rfl rfl ?_
          refine r_iload_n C 2 dX6_seek_35 rfl rfl ?_
          refine r_iconst (v := (1 : Int32)) C dX6_seek_36 rfl ?_
          refine r_isub C dX6_seek_37 ?_
          refine pX6_45 C dX6_seek_38 ?_
          replace h := h _ rfl
          refine r_aload_n C 0 dX6_seek_41 rfl rfl ?_
          refine gX6_22 C dX6_seek_42 ?_
          refine r_iconst (v := (0 : Int32)) C dX6_seek_45 rfl ?_
          refine r_aload_n C 0 dX6_seek_46 rfl rfl ?_
          refine gX6_25 C dX6_seek_47 ?_
          refine r_iconst (v := (0 : Int32)) C dX6_seek_50 rfl ?_
          refine r_bipush (v := (8 : Int32)) C dX6_seek_51 rfl ?_
          refine cX6_126 C sh_128 sh_129 (by decide +kernel) (by decide +kernel) (by decide +kernel) (by decide +kernel) (by decide +kernel) ⟨by show 1 ≤ _; simp only [rm_X6_seek]; omega, Nat.le_trans (m := 80) (by decide +kernel) (by show 80 ≤ _; simp only [rm_X6_seek]; omega)⟩ dX6_seek_53 ?_
          replace h := h _ rfl
          exact r_vret C dX6_seek_56 h
      · replace h := h.2 hc
        exact r_vret C dX6_seek_22 h
def f_X6_findCounts (v1 : Nat) (M : Mem) (K : Mem → Prop) : Prop := ((¬ (M.1 124 12) = (M.1 v1 8) → ∀ M_2 : Mem, M_2 = wI M 124 12 (M.1 v1 8) → ∀ M_3 : Mem, M_3 = wI M_2 124 13 (0 : Int32) → ∀ M_4 : Mem, M_4 = wI M_3 124 9 (-1 : Int32) → ∀ M_5 : Mem, M_5 = wI M_4 124 10 (12 : Int32) → f_X6_findUseful v1 M_5 (fun (M_6 : Mem) => f_X6_layRows v1 M_6 (fun (M_7 : Mem) => f_X6_solveRows  M_7 (fun (r_3 : Int32) (M_8 : Mem) => ((r_3 = 0 → K M_8) ∧ (¬ r_3 = 0 → f_X6_seek 16 (0 : Int32) (0 : Int32) M_8 (fun (M_9 : Mem) => K M_9))))))) ∧ ((M.1 124 12) = (M.1 v1 8) → K M))

set_option maxHeartbeats 1000000 in
set_option maxRecDepth 10000 in
theorem m_X6_findCounts (l : Launch) {v1 : Nat} (h_v1 : isX1 v1) {M : Mem} {K : Mem → Prop} (h : f_X6_findCounts v1 M K) : CTv l yX6_findCounts cX6_findCounts 2 none rm_X6_findCounts (fun ad => [.ref (ad 124), .ref (ad v1)]) M K := by
  refine rw_entv (by decide +kernel) (fun ad => Nat.le_of_ble_eq_true rfl) (fun p e s m args below meth c D cy ad C => ?_)
  change rw_W p l e _ s m args below meth c D cy ad 2 0 0 _ 0 [(0, .ref (ad 124)), (1, .ref (ad v1))] [] M
  unfold f_X6_findCounts at h
  refine r_aload_n C 0 dX6_findCounts_0 rfl rfl ?_
  refine gX6_51 C dX6_findCounts_1 ?_
  refine r_aload_n C 1 dX6_findCounts_4 rfl rfl ?_
  refine gX6_67 C h_v1 dX6_findCounts_5 ?_
  refine r_icmp_ne C 12 dX6_findCounts_8 (by decide) (fun hc => ?_) (fun hc => ?_)
  · replace h := h.1 hc
    refine r_aload_n C 0 dX6_findCounts_12 rfl rfl ?_
    refine r_aload_n C 1 dX6_findCounts_13 rfl rfl ?_
    refine gX6_67 C h_v1 dX6_findCounts_14 ?_
    refine pX6_51 C dX6_findCounts_17 ?_
    replace h := h _ rfl
    refine r_aload_n C 0 dX6_findCounts_20 rfl rfl ?_
    refine r_iconst (v := (0 : Int32)) C dX6_findCounts_21 rfl ?_
    refine pX6_54 C (by decide) dX6_findCounts_22 ?_
    replace h := h _ rfl
    refine r_aload_n C 0 dX6_findCounts_25 rfl rfl ?_
    refine r_iconst (v := (-1 : Int32)) C dX6_findCounts_26 rfl ?_
    refine pX6_41 C dX6_findCounts_27 ?_
    replace h := h _ rfl
    refine r_aload_n C 0 dX6_findCounts_30 rfl rfl ?_
    refine r_bipush (v := (12 : Int32)) C dX6_findCounts_31 rfl ?_
    refine pX6_45 C dX6_findCounts_33 ?_
    replace h := h _ rfl
    refine r_aload_n C 0 dX6_findCounts_36 rfl rfl ?_
    refine r_aload_n C 1 dX6_findCounts_37 rfl rfl ?_
    refine cX6_72 C (m_X6_findUseful l h_v1 h) ⟨Nat.le_of_ble_eq_true rfl, Nat.le_of_ble_eq_true rfl⟩ (Nat.le_of_ble_eq_true rfl) ⟨Nat.le_refl 0, Nat.le_refl 0⟩ dX6_findCounts_38 (fun M_6 h => ?_)
    refine r_aload_n C 0 dX6_findCounts_41 rfl rfl ?_
    refine r_aload_n C 1 dX6_findCounts_42 rfl rfl ?_
    refine cX6_76 C (m_X6_layRows l h_v1 h) ⟨Nat.le_of_ble_eq_true rfl, Nat.le_of_ble_eq_true rfl⟩ (Nat.le_of_ble_eq_true rfl) ⟨Nat.le_refl 0, Nat.le_refl 0⟩ dX6_findCounts_43 (fun M_7 h => ?_)
    refine r_aload_n C 0 dX6_findCounts_46 rfl rfl ?_
    refine cX6_79 C (m_X6_solveRows l h) ⟨Nat.le_of_ble_eq_true rfl, Nat.le_of_ble_eq_true rfl⟩ (Nat.le_of_ble_eq_true rfl) ⟨Nat.le_refl 0, Nat.le_refl 0⟩ dX6_findCounts_47 (fun r_3 M_8 h => ?_)
    refine r_if_eq C 59 dX6_findCounts_50 (by decide) (fun hc => ?_) (fun hc => ?_)
    · replace h := h.1 hc
      exact r_vret C dX6_findCounts_59 h
    · replace h := h.2 hc
      refine r_aload_n C 0 dX6_findCounts_53 rfl rfl ?_
      refine r_iconst (v := (0 : Int32)) C dX6_findCounts_54 rfl ?_
      refine r_iconst (v := (0 : Int32)) C dX6_findCounts_55 rfl ?_
      refine cX6_83 C (m_X6_seek l 16 h) ⟨Nat.le_of_ble_eq_true rfl, Nat.le_of_ble_eq_true rfl⟩ (Nat.le_of_ble_eq_true rfl) ⟨Nat.le_refl 0, Nat.le_refl 0⟩ dX6_findCounts_56 (fun M_9 h => ?_)
      exact r_vret C dX6_findCounts_59 h
  · replace h := h.2 hc
    exact r_vret C dX6_findCounts_11 h
def L_X6_partLeft_4 (X34 : Int32 → Mem → Prop) (K : Int32 → Mem → Prop) : Nat → Int32 → Int32 → Mem → Prop
  | 0, _, _, _ => False
  | n + 1, v1, v2, M => (((8 : Int32) ≤ v2 → X34 v1 M) ∧ (¬ (8 : Int32) ≤ v2 → vp_in v2 8 ∧ ∀ x1 : Int32, x1 = (v1 * ((gI M 129 v2) + (1 : Int32))) + (gI M 132 v2) → L_X6_partLeft_4 X34 K n x1 (v2 + (1 : Int32)) M))

set_option maxHeartbeats 1000000 in
set_option maxRecDepth 10000 in
theorem mL_X6_partLeft_4 (C : rw_C p s m meth c cX6_partLeft 3 RX6 (some .int) D cy ad) {X34 : Int32 → Mem → Prop} {K : Int32 → Mem → Prop} (hX34 : ∀ (u1 : Int32) (M : Mem), X34 u1 M → rw_W p l e rm_X6_partLeft s m args below meth c D cy ad 3 0 0 (rw_Qi below args s D cy ad K) 34 [(1, .int u1)] [] M) : ∀ (n : Nat) (v1 : Int32) (v2 : Int32) (M : Mem), L_X6_partLeft_4 X34 K n v1 v2 M → rw_W p l e rm_X6_partLeft s m args below meth c D cy ad 3 0 0 (rw_Qi below args s D cy ad K) 4 [(0, .ref (ad 124)), (1, .int v1), (2, .int v2)] [] M := by
  intro n
  induction n with
  | zero => intro v1 v2 M h; exact h.elim
  | succ n ih =>
    intro v1 v2 M h
    refine r_iload_n C 2 dX6_partLeft_4 rfl rfl ?_
    refine r_bipush (v := (8 : Int32)) C dX6_partLeft_5 rfl ?_
    refine r_icmp_ge C 34 dX6_partLeft_7 (by decide) (fun hc => ?_) (fun hc => ?_)
    · replace h := h.1 hc
      exact r_sub [1] rfl (hX34 _ _ h)
    · replace h := h.2 hc
      refine r_iload_n C 1 dX6_partLeft_10 rfl rfl ?_
      refine r_aload_n C 0 dX6_partLeft_11 rfl rfl ?_
      refine gX6_25 C dX6_partLeft_12 ?_
      refine r_iload_n C 2 dX6_partLeft_15 rfl rfl ?_
      obtain ⟨q, h⟩ := h
      refine r_iald C sh_129 q dX6_partLeft_16 ?_
      refine r_iconst (v := (1 : Int32)) C dX6_partLeft_17 rfl ?_
      refine r_iadd C dX6_partLeft_18 ?_
      refine r_imul C dX6_partLeft_19 ?_
      refine r_aload_n C 0 dX6_partLeft_20 rfl rfl ?_
      refine gX6_34 C dX6_partLeft_21 ?_
      refine r_iload_n C 2 dX6_partLeft_24 rfl rfl ?_
      refine r_iald C sh_132 q dX6_partLeft_25 ?_
      refine r_iadd C dX6_partLeft_26 ?_
      refine r_istore_n C [(1, .int _), (0, .ref _), (2, .int _)] dX6_partLeft_27 rfl (by decide) rfl ?_
      replace h := h _ rfl
      refine r_iinc C 2 (v := _) [(2, .int _), (1, .int _), (0, .ref _)] dX6_partLeft_28 rfl rfl (by decide) rfl ?_
      refine r_goto C 4 dX6_partLeft_31 (by decide) ?_
      exact r_sub [2, 1, 0] rfl (ih _ _ _ h)

def f_X6_partLeft (M : Mem) (K : Int32 → Mem → Prop) : Prop := (∃ k4 : Nat, L_X6_partLeft_4 (fun (v1_2 : Int32) (M_2 : Mem) => K v1_2 M_2) K k4 (0 : Int32) (0 : Int32) M)

set_option maxHeartbeats 1000000 in
set_option maxRecDepth 10000 in
theorem m_X6_partLeft (l : Launch)   {M : Mem} {K : Int32 → Mem → Prop} (h : f_X6_partLeft M K) : CTi l yX6_partLeft cX6_partLeft 3 (some .int) rm_X6_partLeft (fun ad => [.ref (ad 124)]) M K := by
  refine rw_enti (by decide +kernel) (fun ad => Nat.le_of_ble_eq_true rfl) (fun p e s m args below meth c D cy ad C => ?_)
  change rw_W p l e _ s m args below meth c D cy ad 3 0 0 _ 0 [(0, .ref (ad 124))] [] M
  unfold f_X6_partLeft at h
  refine r_iconst (v := (0 : Int32)) C dX6_partLeft_0 rfl ?_
  refine r_istore_n C [(1, .int _), (0, .ref _)] dX6_partLeft_1 rfl (by decide) rfl ?_
  refine r_iconst (v := (0 : Int32)) C dX6_partLeft_2 rfl ?_
  refine r_istore_n C [(2, .int _), (1, .int _), (0, .ref _)] dX6_partLeft_3 rfl (by decide) rfl ?_
  obtain ⟨n4, h⟩ := h
  refine r_sub [2, 1, 0] rfl (mL_X6_partLeft_4 C (fun v1_2 M_2 h => ?_) n4 _ _ _ h)
  refine r_iload_n C 0 dX6_partLeft_34 rfl rfl ?_
  exact r_iret C dX6_partLeft_35 h
def L_X6_goOn_43 (v1 : Nat) (v2 : Int32) (v3 : Int32) (rec : Nat → Int32 → Mem → (Int32 → Mem → Prop) → Prop) (X146 : Mem → Prop) (K : Int32 → Mem → Prop) : Nat → Int32 → Mem → Prop
  | 0, _, _ => False
  | n + 1, v4, M => (((8 : Int32) ≤ v4 → X146 M) ∧ (¬ (8 : Int32) ≤ v4 → vp_in v4 8 ∧ (((gI M 132 v4) ≤ 0 → L_X6_goOn_43 v1 v2 v3 rec X146 K n (v4 + (1 : Int32)) M) ∧ (¬ (gI M 132 v4) ≤ 0 → f_X1_allows v1 v4 131 (v2 * (10 : Int32)) M (fun (r_2 : Int32) (M_3 : Mem) => ((r_2 = 0 → L_X6_goOn_43 v1 v2 v3 rec X146 K n (v4 + (1 : Int32)) M_3) ∧ (¬ r_2 = 0 → f_X1_move v1 v4 131 (v2 * (10 : Int32)) ((v2 + (1 : Int32)) * (10 : Int32)) M_3 (fun (M_4 : Mem) => vp_in v2 12 ∧ ∀ M_5 : Mem, M_5 = wI M_4 130 v2.toNatClampNeg v4 → ∀ M_6 : Mem, M_6 = wI M_5 132 v4.toNatClampNeg ((gI M_5 132 v4) - (1 : Int32)) → rec v1 (v2 + (1 : Int32)) M_6 (fun (r_4 : Int32) (M_7 : Mem) => ((r_4 = 0 → ∀ M_8 : Mem, M_8 = wI M_7 132 v4.toNatClampNeg ((gI M_7 132 v4) + (1 : Int32)) → L_X6_goOn_43 v1 v2 v3 rec X146 K n (v4 + (1 : Int32)) M_8) ∧ (¬ r_4 = 0 → K (1 : Int32) M_7)))))))))))

set_option maxHeartbeats 1000000 in
set_option maxRecDepth 10000 in
theorem mL_X6_goOn_43 (C : rw_C p s m meth c cX6_goOn 5 RX6 (some .boolean) D cy ad) {dp : Nat} {rec : Nat → Int32 → Mem → (Int32 → Mem → Prop) → Prop} (hrec : ∀ (a0 : Nat) (a1 : Int32), isX1 a0 → ∀ (M : Mem) (K : Int32 → Mem → Prop), rec a0 a1 M K → CTi l yX6_goOn cX6_goOn 5 (some .boolean) (rm_X6_goOn dp) (fun ad => [.ref (ad 124), .ref (ad a0), .int a1]) M K) {v1 : Nat} {v2 : Int32} {v3 : Int32} (h_v1 : isX1 v1) {X146 : Mem → Prop} {K : Int32 → Mem → Prop} (hX146 : ∀  (M : Mem), X146 M → rw_W p l e (rm_X6_goOn (dp + 1)) s m args below meth c D cy ad 5 0 0 (rw_Qi below args s D cy ad K) 146 [(0, .ref (ad 124)), (3, .int v3)] [] M) : ∀ (n : Nat) (v4 : Int32) (M : Mem), L_X6_goOn_43 v1 v2 v3 rec X146 K n v4 M → rw_W p l e (rm_X6_goOn (dp + 1)) s m args below meth c D cy ad 5 0 0 (rw_Qi below args s D cy ad K) 43 [(0, .ref (ad 124)), (1, .ref (ad v1)), (2, .int v2), (3, .int v3), (4, .int v4)] [] M := by
  intro n
  induction n with
  | zero => intro v4 M h; exact h.elim
  | succ n ih =>
    intro v4 M h
    refine r_iload C 4 dX6_goOn_43 rfl ?_
    refine r_bipush (v := (8 : Int32)) C dX6_goOn_45 rfl ?_
    refine r_icmp_ge C 146 dX6_goOn_47 (by decide) (fun hc => ?_) (fun hc => ?_)
    · replace h := h.1 hc
      exact r_sub [0, 3] rfl (hX146 _ h)
    · replace h := h.2 hc
      refine r_aload_n C 0 dX6_goOn_50 rfl rfl ?_
      refine gX6_34 C dX6_goOn_51 ?_
      refine r_iload C 4 dX6_goOn_54 rfl ?_
      obtain ⟨q_2, h⟩ := h
      refine r_iald C sh_132 q_2 dX6_goOn_56 ?_
      refine r_if_le C 140 dX6_goOn_57 (by decide) (fun hc => ?_) (fun hc => ?_)
      · replace h := h.1 hc
        refine r_iinc C 4 (v := _) [(4, .int _), (0, .ref _), (1, .ref _), (2, .int _), (3, .int _)] dX6_goOn_140 rfl rfl (by decide) rfl ?_
        refine r_goto C 43 dX6_goOn_143 (by decide) ?_
        exact r_sub [1, 2, 3, 4, 0] rfl (ih _ _ h)
      · replace h := h.2 hc
        refine r_aload_n C 1 dX6_goOn_60 rfl rfl ?_
        refine r_iload C 4 dX6_goOn_61 rfl ?_
        refine r_aload_n C 0 dX6_goOn_63 rfl rfl ?_
        refine gX6_31 C dX6_goOn_64 ?_
        refine r_iload_n C 2 dX6_goOn_67 rfl rfl ?_
        refine r_bipush (v := (10 : Int32)) C dX6_goOn_68 rfl ?_
        refine r_imul C dX6_goOn_70 ?_
        refine cX6_160 C h_v1 (m_X1_allows l h_v1 (isI_of sh_131) h) ⟨by show _ ≤ _; simp only [rm_X6_goOn, rm_X1_allows]; omega, by show _ ≤ _; simp only [rm_X6_goOn, rm_X1_allows]; omega⟩ (Nat.le_of_ble_eq_true rfl) ⟨Nat.le_refl 0, Nat.le_refl 0⟩ dX6_goOn_71 (fun r_2 M_3 h => ?_)
        refine r_if_eq C 140 dX6_goOn_74 (by decide) (fun hc => ?_) (fun hc => ?_)
        · replace h := h.1 hc
          refine r_iinc C 4 (v := _) [(4, .int _), (0, .ref _), (1, .ref _), (2, .int _), (3, .int _)] dX6_goOn_140 rfl rfl (by decide) rfl ?_
          refine r_goto C 43 dX6_goOn_143 (by decide) ?_
          exact r_sub [1, 2, 3, 4, 0] rfl (ih _ _ h)
        · replace h := h.2 hc
          refine r_aload_n C 1 dX6_goOn_77 rfl rfl ?_
          refine r_iload C 4 dX6_goOn_78 rfl ?_
          refine r_aload_n C 0 dX6_goOn_80 rfl rfl ?_
          refine gX6_31 C dX6_goOn_81 ?_
          refine r_iload_n C 2 dX6_goOn_84 rfl rfl ?_
          refine r_bipush (v := (10 : Int32)) C dX6_goOn_85 rfl ?_
          refine r_imul C dX6_goOn_87 ?_
          refine r_iload_n C 2 dX6_goOn_88 rfl rfl ?_
          refine r_iconst (v := (1 : Int32)) C dX6_goOn_89 rfl ?_
          refine r_iadd C dX6_goOn_90 ?_
          refine r_bipush (v := (10 : Int32)) C dX6_goOn_91 rfl ?_
          refine r_imul C dX6_goOn_93 ?_
          refine cX6_164 C h_v1 (m_X1_move l h_v1 (isI_of sh_131) h) ⟨by show _ ≤ _; simp only [rm_X6_goOn, rm_X1_move]; omega, by show _ ≤ _; simp only [rm_X6_goOn, rm_X1_move]; omega⟩ (Nat.le_of_ble_eq_true rfl) ⟨Nat.le_refl 0, Nat.le_refl 0⟩ dX6_goOn_94 (fun M_4 h => ?_)
          refine r_aload_n C 0 dX6_goOn_97 rfl rfl ?_
          refine gX6_28 C dX6_goOn_98 ?_
          refine r_iload_n C 2 dX6_goOn_101 rfl rfl ?_
          refine r_iload C 4 dX6_goOn_102 rfl ?_
          obtain ⟨q_3, h⟩ := h
          refine r_iast C sh_130 q_3 dX6_goOn_104 ?_
          replace h := h _ rfl
          refine r_aload_n C 0 dX6_goOn_105 rfl rfl ?_
          refine gX6_34 C dX6_goOn_106 ?_
          refine r_iload C 4 dX6_goOn_109 rfl ?_
          refine r_dup2_11 C dX6_goOn_111 rfl rfl ?_
          refine r_iald C sh_132 q_2 dX6_goOn_112 ?_
          refine r_iconst (v := (1 : Int32)) C dX6_goOn_113 rfl ?_
          refine r_isub C dX6_goOn_114 ?_
          refine r_iast C sh_132 q_2 dX6_goOn_115 ?_
          replace h := h _ rfl
          refine r_aload_n C 0 dX6_goOn_116 rfl rfl ?_
          refine r_aload_n C 1 dX6_goOn_117 rfl rfl ?_
          refine r_iload_n C 2 dX6_goOn_118 rfl rfl ?_
          refine r_iconst (v := (1 : Int32)) C dX6_goOn_119 rfl ?_
          refine r_iadd C dX6_goOn_120 ?_
          refine cX6_153 C (hrec _ _ h_v1 _ _ h) ⟨by show _ ≤ _; simp only [rm_X6_goOn]; omega, by show _ ≤ _; simp only [rm_X6_goOn]; omega⟩ (Nat.le_of_ble_eq_true rfl) ⟨Nat.le_refl 0, Nat.le_refl 0⟩ dX6_goOn_121 (fun r_4 M_7 h => ?_)
          refine r_if_eq C 129 dX6_goOn_124 (by decide) (fun hc => ?_) (fun hc => ?_)
          · replace h := h.1 hc
            refine r_aload_n C 0 dX6_goOn_129 rfl rfl ?_
            refine gX6_34 C dX6_goOn_130 ?_
            refine r_iload C 4 dX6_goOn_133 rfl ?_
            refine r_dup2_11 C dX6_goOn_135 rfl rfl ?_
            refine r_iald C sh_132 q_2 dX6_goOn_136 ?_
            refine r_iconst (v := (1 : Int32)) C dX6_goOn_137 rfl ?_
            refine r_iadd C dX6_goOn_138 ?_
            refine r_iast C sh_132 q_2 dX6_goOn_139 ?_
            replace h := h _ rfl
            refine r_iinc C 4 (v := _) [(4, .int _), (0, .ref _), (1, .ref _), (2, .int _), (3, .int _)] dX6_goOn_140 rfl rfl (by decide) rfl ?_
            refine r_goto C 43 dX6_goOn_143 (by decide) ?_
            exact r_sub [1, 2, 3, 4, 0] rfl (ih _ _ h)
          · replace h := h.2 hc
            refine r_iconst (v := (1 : Int32)) C dX6_goOn_127 rfl ?_
            exact r_zret C (by decide) dX6_goOn_128 h

def f_X6_goOnB (rec : Nat → Int32 → Mem → (Int32 → Mem → Prop) → Prop) (v1 : Nat) (v2 : Int32) (M : Mem) (K : Int32 → Mem → Prop) : Prop := (((M.1 124 9) ≤ v2 → K (1 : Int32) M) ∧ (¬ (M.1 124 9) ≤ v2 → ((v2 < (12 : Int32) → f_X6_partLeft  M (fun (r : Int32) (M_2 : Mem) => (((1296 : Int32) ≤ r → K (0 : Int32) M_2) ∧ (¬ (1296 : Int32) ≤ r → vp_in r 1296 ∧ ((¬ (gI M_2 133 r) = (1 : Int32) → (∃ k43 : Nat, L_X6_goOn_43 v1 v2 r rec (fun  (M_9 : Mem) => vp_in r 1296 ∧ ∀ M_10 : Mem, M_10 = wI M_9 133 r.toNatClampNeg (1 : Int32).toInt8.toInt32 → K (0 : Int32) M_10) K k43 (0 : Int32) M_2)) ∧ ((gI M_2 133 r) = (1 : Int32) → K (0 : Int32) M_2)))))) ∧ (¬ v2 < (12 : Int32) → K (1 : Int32) M))))

def f_X6_goOn : Nat → Nat → Int32 → Mem → (Int32 → Mem → Prop) → Prop
  | 0, _, _, _, _ => False
  | dp + 1, v1, v2, M, K => f_X6_goOnB (f_X6_goOn dp) v1 v2 M K

set_option maxHeartbeats 1000000 in
set_option maxRecDepth 10000 in
theorem m_X6_goOn (l : Launch) : ∀ (dp : Nat) {v1 : Nat} {v2 : Int32} (h_v1 : isX1 v1) {M : Mem} {K : Int32 → Mem → Prop} (h : f_X6_goOn dp v1 v2 M K), CTi l yX6_goOn cX6_goOn 5 (some .boolean) (rm_X6_goOn dp) (fun ad => [.ref (ad 124), .ref (ad v1), .int v2]) M K := by
  intro dp
  induction dp with
  | zero => intro v1 v2 h_v1 M K h; exact False.elim h
  | succ dp ih =>
    intro v1 v2 h_v1 M K h
    refine rw_enti (by decide +kernel) (fun ad => Nat.le_of_ble_eq_true rfl) (fun p e s m args below meth c D cy ad C => ?_)
    change rw_W p l e _ s m args below meth c D cy ad 5 0 0 _ 0 [(0, .ref (ad 124)), (1, .ref (ad v1)), (2, .int v2)] [] M
    have hrec : ∀ (a0 : Nat) (a1 : Int32), isX1 a0 → ∀ (M : Mem) (K : Int32 → Mem → Prop), f_X6_goOn dp a0 a1 M K → CTi l yX6_goOn cX6_goOn 5 (some .boolean) (rm_X6_goOn dp) (fun ad => [.ref (ad 124), .ref (ad a0), .int a1]) M K := fun a0 a1 hp0 M K hh => ih hp0 hh
    change f_X6_goOnB (f_X6_goOn dp) v1 v2 M K at h
    unfold f_X6_goOnB at h
    refine r_iload_n C 2 dX6_goOn_0 rfl rfl ?_
    refine r_aload_n C 0 dX6_goOn_1 rfl rfl ?_
    refine gX6_41 C dX6_goOn_2 ?_
    refine r_icmp_ge C 14 dX6_goOn_5 (by decide) (fun hc => ?_) (fun hc => ?_)
    · replace h := h.1 hc
      refine r_iconst (v := (1 : Int32)) C dX6_goOn_14 rfl ?_
      exact r_zret C (by decide) dX6_goOn_15 h
    · replace h := h.2 hc
      refine r_iload_n C 2 dX6_goOn_8 rfl rfl ?_
      refine r_bipush (v := (12 : Int32)) C dX6_goOn_9 rfl ?_
      refine r_icmp_lt C 16 dX6_goOn_11 (by decide) (fun hc => ?_) (fun hc => ?_)
      · replace h := h.1 hc
        refine r_aload_n C 0 dX6_goOn_16 rfl rfl ?_
        refine cX6_156 C (m_X6_partLeft l h) ⟨by show _ ≤ _; simp only [rm_X6_goOn, rm_X6_partLeft]; omega, by show _ ≤ _; simp only [rm_X6_goOn, rm_X6_partLeft]; omega⟩ (Nat.le_of_ble_eq_true rfl) ⟨Nat.le_refl 0, Nat.le_refl 0⟩ dX6_goOn_17 (fun r M_2 h => ?_)
        refine r_istore_n C [(3, .int _), (0, .ref _), (1, .ref _), (2, .int _)] dX6_goOn_20 rfl (by decide) rfl ?_
        refine r_iload_n C 0 dX6_goOn_21 rfl rfl ?_
        refine r_sipush (v := (1296 : Int32)) C dX6_goOn_22 rfl ?_
        refine r_icmp_ge C 38 dX6_goOn_25 (by decide) (fun hc => ?_) (fun hc => ?_)
        · replace h := h.1 hc
          refine r_iconst (v := (0 : Int32)) C dX6_goOn_38 rfl ?_
          exact r_zret C (by decide) dX6_goOn_39 h
        · replace h := h.2 hc
          refine r_aload_n C 1 dX6_goOn_28 rfl rfl ?_
          refine gX6_37 C dX6_goOn_29 ?_
          refine r_iload_n C 0 dX6_goOn_32 rfl rfl ?_
          obtain ⟨q, h⟩ := h
          refine r_bald C sh_133 q dX6_goOn_33 ?_
          refine r_iconst (v := (1 : Int32)) C dX6_goOn_34 rfl ?_
          refine r_icmp_ne C 40 dX6_goOn_35 (by decide) (fun hc => ?_) (fun hc => ?_)
          · replace h := h.1 hc
            refine r_iconst (v := (0 : Int32)) C dX6_goOn_40 rfl ?_
            refine r_istore C [(4, .int _), (3, .int _), (0, .ref _), (1, .ref _), (2, .int _)] dX6_goOn_41 (by decide) rfl ?_
            obtain ⟨n43, h⟩ := h
            refine r_sub [2, 3, 4, 1, 0] rfl (mL_X6_goOn_43 C hrec h_v1 (fun M_9 h => ?_) n43 _ _ h)
            refine r_aload_n C 0 dX6_goOn_146 rfl rfl ?_
            refine gX6_37 C dX6_goOn_147 ?_
            refine r_iload_n C 1 dX6_goOn_150 rfl rfl ?_
            refine r_iconst (v := (1 : Int32)) C dX6_goOn_151 rfl ?_
            obtain ⟨q_4, h⟩ := h
            refine r_bast C sh_133 q_4 dX6_goOn_152 ?_
            replace h := h _ rfl
            refine r_iconst (v := (0 : Int32)) C dX6_goOn_153 rfl ?_
            exact r_zret C (by decide) dX6_goOn_154 h
          · replace h := h.2 hc
            refine r_iconst (v := (0 : Int32)) C dX6_goOn_38 rfl ?_
            exact r_zret C (by decide) dX6_goOn_39 h
      · replace h := h.2 hc
        refine r_iconst (v := (1 : Int32)) C dX6_goOn_14 rfl ?_
        exact r_zret C (by decide) dX6_goOn_15 h
def f_X6_findOrder (v1 : Nat) (M : Mem) (K : Int32 → Mem → Prop) : Prop := (((M.1 124 13) = 0 → ∀ M_2 : Mem, M_2 = wI M 124 13 (1 : Int32) → ∀ M_3 : Mem, M_3 = wC M_2 129 132 (0 : Int32).toNatClampNeg (0 : Int32).toNatClampNeg (8 : Int32).toNatClampNeg → ∀ M_4 : Mem, M_4 = wC M_3 (v1 + 3) 131 (0 : Int32).toNatClampNeg (0 : Int32).toNatClampNeg (10 : Int32).toNatClampNeg → f_J7_fill_031fb 133 (0 : Int32) M_4 (fun (M_5 : Mem) => f_X6_goOn 16 v1 (0 : Int32) M_5 (fun (r_2 : Int32) (M_6 : Mem) => (r_2 &&& 1 = r_2) ∧ ∀ M_7 : Mem, M_7 = wI M_6 124 14 r_2 → ((M_7.1 124 14) &&& 1 = (M_7.1 124 14)) ∧ K (M_7.1 124 14) M_7))) ∧ (¬ (M.1 124 13) = 0 → ((M.1 124 14) &&& 1 = (M.1 124 14)) ∧ K (M.1 124 14) M))

set_option maxHeartbeats 1000000 in
set_option maxRecDepth 10000 in
theorem m_X6_findOrder (l : Launch) {v1 : Nat} (h_v1 : isX1 v1) {M : Mem} {K : Int32 → Mem → Prop} (h : f_X6_findOrder v1 M K) : CTi l yX6_findOrder cX6_findOrder 2 (some .boolean) rm_X6_findOrder (fun ad => [.ref (ad 124), .ref (ad v1)]) M K := by
  refine rw_enti (by decide +kernel) (fun ad => Nat.le_of_ble_eq_true rfl) (fun p e s m args below meth c D cy ad C => ?_)
  change rw_W p l e _ s m args below meth c D cy ad 2 0 0 _ 0 [(0, .ref (ad 124)), (1, .ref (ad v1))] [] M
  unfold f_X6_findOrder at h
  refine r_aload_n C 0 dX6_findOrder_0 rfl rfl ?_
  refine gX6_54 C dX6_findOrder_1 ?_
  refine r_if_eq C 12 dX6_findOrder_4 (by decide) (fun hc => ?_) (fun hc => ?_)
  · replace h := h.1 hc
    refine r_aload_n C 0 dX6_findOrder_12 rfl rfl ?_
    refine r_iconst (v := (1 : Int32)) C dX6_findOrder_13 rfl ?_
    refine pX6_54 C (by decide) dX6_findOrder_14 ?_
    replace h := h _ rfl
    refine r_aload_n C 0 dX6_findOrder_17 rfl rfl ?_
    refine gX6_25 C dX6_findOrder_18 ?_
    refine r_iconst (v := (0 : Int32)) C dX6_findOrder_21 rfl ?_
    refine r_aload_n C 0 dX6_findOrder_22 rfl rfl ?_
    refine gX6_34 C dX6_findOrder_23 ?_
    refine r_iconst (v := (0 : Int32)) C dX6_findOrder_26 rfl ?_
    refine r_bipush (v := (8 : Int32)) C dX6_findOrder_27 rfl ?_
    refine cX6_126 C sh_129 sh_132 (by decide +kernel) (by decide +kernel) (by decide +kernel) (by decide +kernel) (by decide +kernel) ⟨Nat.le_of_ble_eq_true rfl, by decide +kernel⟩ dX6_findOrder_29 ?_
    replace h := h _ rfl
    refine r_aload_n C 1 dX6_findOrder_32 rfl rfl ?_
    refine gX6_106 C h_v1 dX6_findOrder_33 ?_
    refine r_iconst (v := (0 : Int32)) C dX6_findOrder_36 rfl ?_
    refine r_aload_n C 0 dX6_findOrder_37 rfl rfl ?_
    refine gX6_31 C dX6_findOrder_38 ?_
    refine r_iconst (v := (0 : Int32)) C dX6_findOrder_41 rfl ?_
    refine r_bipush (v := (10 : Int32)) C dX6_findOrder_42 rfl ?_
    refine cX6_126 C (isX1_A3 h_v1) sh_131 (by decide +kernel) (by decide +kernel) (by decide +kernel) (by decide +kernel) (by decide +kernel) ⟨Nat.le_of_ble_eq_true rfl, by decide +kernel⟩ dX6_findOrder_44 ?_
    replace h := h _ rfl
    refine r_aload_n C 0 dX6_findOrder_47 rfl rfl ?_
    refine gX6_37 C dX6_findOrder_48 ?_
    refine r_iconst (v := (0 : Int32)) C dX6_findOrder_51 rfl ?_
    refine cX6_150 C (m_J7_fill_031fb l (isB_of sh_133) h) ⟨Nat.le_of_ble_eq_true rfl, Nat.le_of_ble_eq_true rfl⟩ (Nat.le_of_ble_eq_true rfl) ⟨Nat.le_refl 0, Nat.le_refl 0⟩ dX6_findOrder_52 (fun M_5 h => ?_)
    refine r_aload_n C 0 dX6_findOrder_55 rfl rfl ?_
    refine r_aload_n C 0 dX6_findOrder_56 rfl rfl ?_
    refine r_aload_n C 1 dX6_findOrder_57 rfl rfl ?_
    refine r_iconst (v := (0 : Int32)) C dX6_findOrder_58 rfl ?_
    refine cX6_153 C (m_X6_goOn l 16 h_v1 h) ⟨Nat.le_of_ble_eq_true rfl, Nat.le_of_ble_eq_true rfl⟩ (Nat.le_of_ble_eq_true rfl) ⟨Nat.le_refl 0, Nat.le_refl 0⟩ dX6_findOrder_59 (fun r_2 M_6 h => ?_)
    obtain ⟨q, h⟩ := h
    refine pX6_58 C q dX6_findOrder_62 ?_
    replace h := h _ rfl
    refine r_aload_n C 0 dX6_findOrder_65 rfl rfl ?_
    refine gX6_58 C dX6_findOrder_66 ?_
    exact r_zret C h.1 dX6_findOrder_69 h.2
  · replace h := h.2 hc
    refine r_aload_n C 0 dX6_findOrder_7 rfl rfl ?_
    refine gX6_58 C dX6_findOrder_8 ?_
    exact r_zret C h.1 dX6_findOrder_11 h.2
def f_X7_isUnit (v0 : Nat) (v1 : Nat) (v2 : Int32) (M : Mem) (K : Int32 → Mem → Prop) : Prop := (((M.1 v0 0) = 0 → f_X1_hasPlace v1 v2 M (fun (r : Int32) (M_2 : Mem) => (r &&& 1 = r) ∧ K r M_2)) ∧ (¬ (M.1 v0 0) = 0 → f_X1_hasStep v1 v2 M (fun (r_2 : Int32) (M_3 : Mem) => (r_2 &&& 1 = r_2) ∧ K r_2 M_3)))

set_option maxHeartbeats 1000000 in
set_option maxRecDepth 10000 in
theorem m_X7_isUnit (l : Launch) {v0 : Nat} {v1 : Nat} {v2 : Int32} (h_v0 : isX7 v0) (h_v1 : isX1 v1) {M : Mem} {K : Int32 → Mem → Prop} (h : f_X7_isUnit v0 v1 v2 M K) : CTi l yX7_isUnit cX7_isUnit 3 (some .boolean) rm_X7_isUnit (fun ad => [.ref (ad v0), .ref (ad v1), .int v2]) M K := by
  refine rw_enti (by decide +kernel) (fun ad => Nat.le_of_ble_eq_true rfl) (fun p e s m args below meth c D cy ad C => ?_)
  change rw_W p l e _ s m args below meth c D cy ad 3 0 0 _ 0 [(0, .ref (ad v0)), (1, .ref (ad v1)), (2, .int v2)] [] M
  unfold f_X7_isUnit at h
  refine r_aload_n C 0 dX7_isUnit_0 rfl rfl ?_
  refine gX7_35 C h_v0 dX7_isUnit_1 ?_
  refine r_if_eq C 15 dX7_isUnit_4 (by decide) (fun hc => ?_) (fun hc => ?_)
  · replace h := h.1 hc
    refine r_aload_n C 1 dX7_isUnit_15 rfl rfl ?_
    refine r_iload_n C 2 dX7_isUnit_16 rfl rfl ?_
    refine cX7_62 C h_v1 (m_X1_hasPlace l h_v1 h) ⟨Nat.le_of_ble_eq_true rfl, Nat.le_of_ble_eq_true rfl⟩ (Nat.le_of_ble_eq_true rfl) ⟨Nat.le_refl 0, Nat.le_refl 0⟩ dX7_isUnit_17 (fun r M_2 h => ?_)
    exact r_zret C h.1 dX7_isUnit_20 h.2
  · replace h := h.2 hc
    refine r_aload_n C 1 dX7_isUnit_7 rfl rfl ?_
    refine r_iload_n C 2 dX7_isUnit_8 rfl rfl ?_
    refine cX7_58 C h_v1 (m_X1_hasStep l h_v1 h) ⟨Nat.le_of_ble_eq_true rfl, Nat.le_of_ble_eq_true rfl⟩ (Nat.le_of_ble_eq_true rfl) ⟨Nat.le_refl 0, Nat.le_refl 0⟩ dX7_isUnit_9 (fun r_2 M_3 h => ?_)
    refine r_goto C 20 dX7_isUnit_12 (by decide) ?_
    exact r_zret C h.1 dX7_isUnit_20 h.2
def f_X7_changeOf (v0 : Nat) (v1 : Nat) (v2 : Int32) (v3 : Int32) (M : Mem) (K : Int32 → Mem → Prop) : Prop := (((M.1 v0 0) = 0 → (((8 : Int32) ≤ v3 → K (0 : Int32) M) ∧ (¬ (8 : Int32) ≤ v3 → f_X1_change v1 v3 v2 M (fun (r : Int32) (M_2 : Mem) => K r M_2)))) ∧ (¬ (M.1 v0 0) = 0 → f_X1_change v1 v2 v3 M (fun (r_2 : Int32) (M_3 : Mem) => K r_2 M_3)))

set_option maxHeartbeats 1000000 in
set_option maxRecDepth 10000 in
theorem m_X7_changeOf (l : Launch) {v0 : Nat} {v1 : Nat} {v2 : Int32} {v3 : Int32} (h_v0 : isX7 v0) (h_v1 : isX1 v1) {M : Mem} {K : Int32 → Mem → Prop} (h : f_X7_changeOf v0 v1 v2 v3 M K) : CTi l yX7_changeOf cX7_changeOf 4 (some .int) rm_X7_changeOf (fun ad => [.ref (ad v0), .ref (ad v1), .int v2, .int v3]) M K := by
  refine rw_enti (by decide +kernel) (fun ad => Nat.le_of_ble_eq_true rfl) (fun p e s m args below meth c D cy ad C => ?_)
  change rw_W p l e _ s m args below meth c D cy ad 4 0 0 _ 0 [(0, .ref (ad v0)), (1, .ref (ad v1)), (2, .int v2), (3, .int v3)] [] M
  unfold f_X7_changeOf at h
  refine r_aload_n C 0 dX7_changeOf_0 rfl rfl ?_
  refine gX7_35 C h_v0 dX7_changeOf_1 ?_
  refine r_if_eq C 14 dX7_changeOf_4 (by decide) (fun hc => ?_) (fun hc => ?_)
  · replace h := h.1 hc
    refine r_iload_n C 3 dX7_changeOf_14 rfl rfl ?_
    refine r_bipush (v := (8 : Int32)) C dX7_changeOf_15 rfl ?_
    refine r_icmp_ge C 29 dX7_changeOf_17 (by decide) (fun hc => ?_) (fun hc => ?_)
    · replace h := h.1 hc
      refine r_iconst (v := (0 : Int32)) C dX7_changeOf_29 rfl ?_
      exact r_iret C dX7_changeOf_30 h
    · replace h := h.2 hc
      refine r_aload_n C 1 dX7_changeOf_20 rfl rfl ?_
      refine r_iload_n C 3 dX7_changeOf_21 rfl rfl ?_
      refine r_iload_n C 2 dX7_changeOf_22 rfl rfl ?_
      refine cX7_73 C h_v1 (m_X1_change l h_v1 h) ⟨Nat.le_of_ble_eq_true rfl, Nat.le_of_ble_eq_true rfl⟩ (Nat.le_of_ble_eq_true rfl) ⟨Nat.le_refl 0, Nat.le_refl 0⟩ dX7_changeOf_23 (fun r M_2 h => ?_)
      refine r_goto C 30 dX7_changeOf_26 (by decide) ?_
      exact r_iret C dX7_changeOf_30 h
  · replace h := h.2 hc
    refine r_aload_n C 1 dX7_changeOf_7 rfl rfl ?_
    refine r_iload_n C 2 dX7_changeOf_8 rfl rfl ?_
    refine r_iload_n C 3 dX7_changeOf_9 rfl rfl ?_
    refine cX7_73 C h_v1 (m_X1_change l h_v1 h) ⟨Nat.le_of_ble_eq_true rfl, Nat.le_of_ble_eq_true rfl⟩ (Nat.le_of_ble_eq_true rfl) ⟨Nat.le_refl 0, Nat.le_refl 0⟩ dX7_changeOf_10 (fun r_2 M_3 h => ?_)
    exact r_iret C dX7_changeOf_13 h
set_option maxHeartbeats 1000000 in
set_option maxRecDepth 10000 in
theorem mD_X7_isIndependent_50 (C : rw_C p s m meth c cX7_isIndependent 6 RX7 (some .boolean) D cy ad) {Q : State → Prop} {st : List Value} {M : Mem} {v0 : Nat} {v1 : Nat} {v2 : Int32} {v3 : Int32} {v4 : Int32} {v5 : Int32} {o0 : Int32} {o1 : Int32} (h_v0 : isX7 v0) (h_v1 : isX1 v1) (kk : rw_W p l e R s m args below meth c D cy ad 6 0 0 Q 58 [(0, .ref (ad v0)), (1, .ref (ad v1)), (2, .int v2), (3, .int v3), (4, .int v4), (5, .int v5)] (.long (if ¬ o1 = o0 then (0 : Int64) else (1 : Int64)) :: st) M) : rw_W p l e R s m args below meth c D cy ad 6 0 0 Q 50 [(0, .ref (ad v0)), (1, .ref (ad v1)), (2, .int v2), (3, .int v3), (4, .int v4), (5, .int v5)] (.int o0 :: .int o1 :: st) M := by
  refine r_icmp_ne C 57 dX7_isIndependent_50 (by decide) (fun z0 => ?_) (fun z0 => ?_)
  · skip
    refine r_lconst (v := (0 : Int64)) C dX7_isIndependent_57 rfl ?_
    first | rw [if_pos z0] at kk | rw [if_neg (fun q9 => q9 z0)] at kk
    exact kk
  · skip
    refine r_lconst (v := (1 : Int64)) C dX7_isIndependent_53 rfl ?_
    refine r_goto C 58 dX7_isIndependent_54 (by decide) ?_
    first | rw [if_neg z0] at kk | rw [if_neg (fun q9 => q9 z0)] at kk
    exact kk

def L_X7_isIndependent_9 (v0 : Nat) (v1 : Nat) (v2 : Int32) (v3 : Int32) (v4 : Int32) (X65 : Mem → Prop) (K : Int32 → Mem → Prop) : Nat → Int32 → Mem → Prop
  | 0, _, _ => False
  | n + 1, v5, M => (((10 : Int32) ≤ v5 → X65 M) ∧ (¬ (10 : Int32) ≤ v5 → f_X7_changeOf v0 v1 v2 v5 M (fun (r : Int32) (M_2 : Mem) => vp_in (v4 + v5) 220 ∧ ∀ M_3 : Mem, M_3 = wL M_2 (v0 + 1) (v4 + v5).toNatClampNeg r.toInt64 → vp_in ((v4 + (10 : Int32)) + v5) 220 ∧ ∀ M_4 : Mem, M_4 = wL M_3 (v0 + 1) ((v4 + (10 : Int32)) + v5).toNatClampNeg (if ¬ v5 = v2 then (0 : Int64) else (1 : Int64)) → L_X7_isIndependent_9 v0 v1 v2 v3 v4 X65 K n (v5 + (1 : Int32)) M_4)))

set_option maxHeartbeats 1000000 in
set_option maxRecDepth 10000 in
theorem mL_X7_isIndependent_9 (C : rw_C p s m meth c cX7_isIndependent 6 RX7 (some .boolean) D cy ad) {v0 : Nat} {v1 : Nat} {v2 : Int32} {v3 : Int32} {v4 : Int32} (h_v0 : isX7 v0) (h_v1 : isX1 v1) {X65 : Mem → Prop} {K : Int32 → Mem → Prop} (hX65 : ∀  (M : Mem), X65 M → rw_W p l e rm_X7_isIndependent s m args below meth c D cy ad 6 0 0 (rw_Qi below args s D cy ad K) 65 [(0, .ref (ad v0)), (3, .int v3), (4, .int v4)] [] M) : ∀ (n : Nat) (v5 : Int32) (M : Mem), L_X7_isIndependent_9 v0 v1 v2 v3 v4 X65 K n v5 M → rw_W p l e rm_X7_isIndependent s m args below meth c D cy ad 6 0 0 (rw_Qi below args s D cy ad K) 9 [(0, .ref (ad v0)), (1, .ref (ad v1)), (2, .int v2), (3, .int v3), (4, .int v4), (5, .int v5)] [] M := by
  intro n
  induction n with
  | zero => intro v5 M h; exact h.elim
  | succ n ih =>
    intro v5 M h
    refine r_iload C 5 dX7_isIndependent_9 rfl ?_
    refine r_bipush (v := (10 : Int32)) C dX7_isIndependent_11 rfl ?_
    refine r_icmp_ge C 65 dX7_isIndependent_13 (by decide) (fun hc => ?_) (fun hc => ?_)
    · replace h := h.1 hc
      exact r_sub [0, 3, 4] rfl (hX65 _ h)
    · replace h := h.2 hc
      refine r_aload_n C 0 dX7_isIndependent_16 rfl rfl ?_
      refine gX7_11 C h_v0 dX7_isIndependent_17 ?_
      refine r_iload C 4 dX7_isIndependent_20 rfl ?_
      refine r_iload C 5 dX7_isIndependent_22 rfl ?_
      refine r_iadd C dX7_isIndependent_24 ?_
      refine r_aload_n C 0 dX7_isIndependent_25 rfl rfl ?_
      refine r_aload_n C 1 dX7_isIndependent_26 rfl rfl ?_
      refine r_iload_n C 2 dX7_isIndependent_27 rfl rfl ?_
      refine r_iload C 5 dX7_isIndependent_28 rfl ?_
      refine cX7_65 C h_v0 (m_X7_changeOf l h_v0 h_v1 h) ⟨Nat.le_of_ble_eq_true rfl, Nat.le_of_ble_eq_true rfl⟩ (Nat.le_of_ble_eq_true rfl) ⟨Nat.le_refl 0, Nat.le_refl 0⟩ dX7_isIndependent_30 (fun r M_2 h => ?_)
      refine r_i2l C dX7_isIndependent_33 ?_
      obtain ⟨q, h⟩ := h
      refine r_last C (isX7_A1 h_v0) q dX7_isIndependent_34 ?_
      replace h := h _ rfl
      refine r_aload_n C 0 dX7_isIndependent_35 rfl rfl ?_
      refine gX7_11 C h_v0 dX7_isIndependent_36 ?_
      refine r_iload C 4 dX7_isIndependent_39 rfl ?_
      refine r_bipush (v := (10 : Int32)) C dX7_isIndependent_41 rfl ?_
      refine r_iadd C dX7_isIndependent_43 ?_
      refine r_iload C 5 dX7_isIndependent_44 rfl ?_
      refine r_iadd C dX7_isIndependent_46 ?_
      refine r_iload C 5 dX7_isIndependent_47 rfl ?_
      refine r_iload_n C 2 dX7_isIndependent_49 rfl rfl ?_
      refine mD_X7_isIndependent_50 C h_v0 h_v1 ?_
      obtain ⟨q_2, h⟩ := h
      refine r_last C (isX7_A1 h_v0) q_2 dX7_isIndependent_58 ?_
      replace h := h _ rfl
      refine r_iinc C 5 (v := _) [(5, .int _), (0, .ref _), (1, .ref _), (2, .int _), (3, .int _), (4, .int _)] dX7_isIndependent_59 rfl rfl (by decide) rfl ?_
      refine r_goto C 9 dX7_isIndependent_62 (by decide) ?_
      exact r_sub [1, 2, 3, 4, 5, 0] rfl (ih _ _ h)

def L_X7_isIndependent_68 (v0 : Nat) (v3 : Int32) (v4 : Int32) (X99 : Mem → Prop) (K : Int32 → Mem → Prop) : Nat → Int32 → Mem → Prop
  | 0, _, _ => False
  | n + 1, v5, M => ((v3 ≤ v5 → X99 M) ∧ (¬ v3 ≤ v5 → vp_in v5 11 ∧ f_X8_clearColumn (v0 + 1) v3 v5 (gI M (v0 + 2) v5) (20 : Int32) M (fun (M_6 : Mem) => L_X7_isIndependent_68 v0 v3 v4 X99 K n (v5 + (1 : Int32)) M_6)))

set_option maxHeartbeats 1000000 in
set_option maxRecDepth 10000 in
theorem mL_X7_isIndependent_68 (C : rw_C p s m meth c cX7_isIndependent 6 RX7 (some .boolean) D cy ad) {v0 : Nat} {v3 : Int32} {v4 : Int32} (h_v0 : isX7 v0) {X99 : Mem → Prop} {K : Int32 → Mem → Prop} (hX99 : ∀  (M : Mem), X99 M → rw_W p l e rm_X7_isIndependent s m args below meth c D cy ad 6 0 0 (rw_Qi below args s D cy ad K) 99 [(0, .ref (ad v0)), (3, .int v3), (4, .int v4)] [] M) : ∀ (n : Nat) (v5 : Int32) (M : Mem), L_X7_isIndependent_68 v0 v3 v4 X99 K n v5 M → rw_W p l e rm_X7_isIndependent s m args below meth c D cy ad 6 0 0 (rw_Qi below args s D cy ad K) 68 [(0, .ref (ad v0)), (3, .int v3), (4, .int v4), (5, .int v5)] [] M := by
  intro n
  induction n with
  | zero => intro v5 M h; exact h.elim
  | succ n ih =>
    intro v5 M h
    refine r_iload C 3 dX7_isIndependent_68 rfl ?_
    refine r_iload_n C 1 dX7_isIndependent_70 rfl rfl ?_
    refine r_icmp_ge C 99 dX7_isIndependent_71 (by decide) (fun hc => ?_) (fun hc => ?_)
    · replace h := h.1 hc
      exact r_sub [0, 1, 2] rfl (hX99 _ h)
    · replace h := h.2 hc
      refine r_aload_n C 0 dX7_isIndependent_74 rfl rfl ?_
      refine gX7_11 C h_v0 dX7_isIndependent_75 ?_
      refine r_iload_n C 1 dX7_isIndependent_78 rfl rfl ?_
      refine r_iload C 3 dX7_isIndependent_79 rfl ?_
      refine r_aload_n C 0 dX7_isIndependent_81 rfl rfl ?_
      refine gX7_15 C h_v0 dX7_isIndependent_82 ?_
      refine r_iload C 3 dX7_isIndependent_85 rfl ?_
      obtain ⟨q_3, h⟩ := h
      refine r_iald C (isX7_A2 h_v0) q_3 dX7_isIndependent_87 ?_
      refine r_bipush (v := (20 : Int32)) C dX7_isIndependent_88 rfl ?_
      refine cX7_69 C (m_X8_clearColumn l (isLg_of (isX7_A1 h_v0)) h) ⟨Nat.le_of_ble_eq_true rfl, Nat.le_of_ble_eq_true rfl⟩ (Nat.le_of_ble_eq_true rfl) ⟨Nat.le_refl 0, Nat.le_refl 0⟩ dX7_isIndependent_90 (fun M_6 h => ?_)
      refine r_iinc C 3 (v := _) [(5, .int _), (0, .ref _), (3, .int _), (4, .int _)] dX7_isIndependent_93 rfl rfl (by decide) rfl ?_
      refine r_goto C 68 dX7_isIndependent_96 (by decide) ?_
      exact r_sub [1, 2, 3, 0] rfl (ih _ _ h)

def L_X7_isIndependent_102 (v0 : Nat) (v3 : Int32) (v4 : Int32) (X140 : Mem → Prop) (K : Int32 → Mem → Prop) : Nat → Int32 → Mem → Prop
  | 0, _, _ => False
  | n + 1, v5, M => (((10 : Int32) ≤ v5 → X140 M) ∧ (¬ (10 : Int32) ≤ v5 → vp_in (v4 + v5) 220 ∧ (((gL M (v0 + 1) (v4 + v5)) = (0 : Int64) → L_X7_isIndependent_102 v0 v3 v4 X140 K n (v5 + (1 : Int32)) M) ∧ (¬ (gL M (v0 + 1) (v4 + v5)) = (0 : Int64) → vp_in v3 11 ∧ ∀ M_8 : Mem, M_8 = wI M (v0 + 2) v3.toNatClampNeg v5 → K (1 : Int32) M_8))))

set_option maxHeartbeats 1000000 in
set_option maxRecDepth 10000 in
theorem mL_X7_isIndependent_102 (C : rw_C p s m meth c cX7_isIndependent 6 RX7 (some .boolean) D cy ad) {v0 : Nat} {v3 : Int32} {v4 : Int32} (h_v0 : isX7 v0) {X140 : Mem → Prop} {K : Int32 → Mem → Prop} (hX140 : ∀  (M : Mem), X140 M → rw_W p l e rm_X7_isIndependent s m args below meth c D cy ad 6 0 0 (rw_Qi below args s D cy ad K) 140 [] [] M) : ∀ (n : Nat) (v5 : Int32) (M : Mem), L_X7_isIndependent_102 v0 v3 v4 X140 K n v5 M → rw_W p l e rm_X7_isIndependent s m args below meth c D cy ad 6 0 0 (rw_Qi below args s D cy ad K) 102 [(0, .ref (ad v0)), (3, .int v3), (4, .int v4), (5, .int v5)] [] M := by
  intro n
  induction n with
  | zero => intro v5 M h; exact h.elim
  | succ n ih =>
    intro v5 M h
    refine r_iload C 3 dX7_isIndependent_102 rfl ?_
    refine r_bipush (v := (10 : Int32)) C dX7_isIndependent_104 rfl ?_
    refine r_icmp_ge C 140 dX7_isIndependent_106 (by decide) (fun hc => ?_) (fun hc => ?_)
    · replace h := h.1 hc
      exact r_sub [] rfl (hX140 _ h)
    · replace h := h.2 hc
      refine r_aload_n C 0 dX7_isIndependent_109 rfl rfl ?_
      refine gX7_11 C h_v0 dX7_isIndependent_110 ?_
      refine r_iload C 2 dX7_isIndependent_113 rfl ?_
      refine r_iload C 3 dX7_isIndependent_115 rfl ?_
      refine r_iadd C dX7_isIndependent_117 ?_
      obtain ⟨q_4, h⟩ := h
      refine r_lald C (isX7_A1 h_v0) q_4 dX7_isIndependent_118 ?_
      refine r_lconst (v := (0 : Int64)) C dX7_isIndependent_119 rfl ?_
      refine r_lcmp C dX7_isIndependent_120 ?_
      refine r_if_eq C 134 dX7_isIndependent_121 (by decide) (fun hc => ?_) (fun hc => ?_)
      · replace h := h.1 ((lg_cmp_eq _ _).mp hc)
        refine r_iinc C 3 (v := _) [(5, .int _), (0, .ref _), (3, .int _), (4, .int _)] dX7_isIndependent_134 rfl rfl (by decide) rfl ?_
        refine r_goto C 102 dX7_isIndependent_137 (by decide) ?_
        exact r_sub [1, 2, 3, 0] rfl (ih _ _ h)
      · replace h := h.2 (fun q9 => hc ((lg_cmp_eq _ _).mpr q9))
        refine r_aload_n C 0 dX7_isIndependent_124 rfl rfl ?_
        refine gX7_15 C h_v0 dX7_isIndependent_125 ?_
        refine r_iload_n C 1 dX7_isIndependent_128 rfl rfl ?_
        refine r_iload C 3 dX7_isIndependent_129 rfl ?_
        obtain ⟨q_5, h⟩ := h
        refine r_iast C (isX7_A2 h_v0) q_5 dX7_isIndependent_131 ?_
        replace h := h _ rfl
        refine r_iconst (v := (1 : Int32)) C dX7_isIndependent_132 rfl ?_
        exact r_zret C (by decide) dX7_isIndependent_133 h

def f_X7_isIndependent (v0 : Nat) (v1 : Nat) (v2 : Int32) (v3 : Int32) (M : Mem) (K : Int32 → Mem → Prop) : Prop := ∀ x4 : Int32, x4 = v3 * (20 : Int32) → (∃ k9 : Nat, L_X7_isIndependent_9 v0 v1 v2 v3 x4 (fun  (M_5 : Mem) => (∃ k68 : Nat, L_X7_isIndependent_68 v0 v3 x4 (fun  (M_7 : Mem) => (∃ k102 : Nat, L_X7_isIndependent_102 v0 v3 x4 (fun  (M_9 : Mem) => K (0 : Int32) M_9) K k102 (0 : Int32) M_7)) K k68 (0 : Int32) M_5)) K k9 (0 : Int32) M)

set_option maxHeartbeats 1000000 in
set_option maxRecDepth 10000 in
theorem m_X7_isIndependent (l : Launch) {v0 : Nat} {v1 : Nat} {v2 : Int32} {v3 : Int32} (h_v0 : isX7 v0) (h_v1 : isX1 v1) {M : Mem} {K : Int32 → Mem → Prop} (h : f_X7_isIndependent v0 v1 v2 v3 M K) : CTi l yX7_isIndependent cX7_isIndependent 6 (some .boolean) rm_X7_isIndependent (fun ad => [.ref (ad v0), .ref (ad v1), .int v2, .int v3]) M K := by
  refine rw_enti (by decide +kernel) (fun ad => Nat.le_of_ble_eq_true rfl) (fun p e s m args below meth c D cy ad C => ?_)
  change rw_W p l e _ s m args below meth c D cy ad 6 0 0 _ 0 [(0, .ref (ad v0)), (1, .ref (ad v1)), (2, .int v2), (3, .int v3)] [] M
  unfold f_X7_isIndependent at h
  refine r_iload_n C 3 dX7_isIndependent_0 rfl rfl ?_
  refine r_bipush (v := (20 : Int32)) C dX7_isIndependent_1 rfl ?_
  refine r_imul C dX7_isIndependent_3 ?_
  refine r_istore C [(4, .int _), (0, .ref _), (1, .ref _), (2, .int _), (3, .int _)] dX7_isIndependent_4 (by decide) rfl ?_
  replace h := h _ rfl
  refine r_iconst (v := (0 : Int32)) C dX7_isIndependent_6 rfl ?_
  refine r_istore C [(5, .int _), (4, .int _), (0, .ref _), (1, .ref _), (2, .int _), (3, .int _)] dX7_isIndependent_7 (by decide) rfl ?_
  obtain ⟨n9, h⟩ := h
  refine r_sub [2, 3, 4, 5, 1, 0] rfl (mL_X7_isIndependent_9 C h_v0 h_v1 (fun M_5 h => ?_) n9 _ _ h)
  refine r_iconst (v := (0 : Int32)) C dX7_isIndependent_65 rfl ?_
  refine r_istore C [(5, .int _), (0, .ref _), (3, .int _), (4, .int _)] dX7_isIndependent_66 (by decide) rfl ?_
  obtain ⟨n68, h⟩ := h
  refine r_sub [1, 2, 3, 0] rfl (mL_X7_isIndependent_68 C h_v0 (fun M_7 h => ?_) n68 _ _ h)
  refine r_iconst (v := (0 : Int32)) C dX7_isIndependent_99 rfl ?_
  refine r_istore C [(5, .int _), (0, .ref _), (3, .int _), (4, .int _)] dX7_isIndependent_100 (by decide) rfl ?_
  obtain ⟨n102, h⟩ := h
  refine r_sub [1, 2, 3, 0] rfl (mL_X7_isIndependent_102 C h_v0 (fun M_9 h => ?_) n102 _ _ h)
  refine r_iconst (v := (0 : Int32)) C dX7_isIndependent_140 rfl ?_
  exact r_zret C (by decide) dX7_isIndependent_141 h
def S_X7_keepIfAbove_26 (v0 : Nat) (v1 : Int32) (v2 : Int32) (v3 : Int32) (v4 : Int32) (v5 : Int32) (o0 : Int32) (X48 : Int32 → Mem → Prop) (K : Mem → Prop) (M : Mem) : Prop := (o0 = 0 → X48 (0 : Int32) M) ∧ (¬ o0 = 0 → vp_in (v2 + v5) 220 ∧ (((gL M (v0 + 1) (v2 + v5)) ≤ (0 : Int64) → X48 (0 : Int32) M) ∧ (¬ (gL M (v0 + 1) (v2 + v5)) ≤ (0 : Int64) → X48 (1 : Int32) M)))

set_option maxHeartbeats 1000000 in
set_option maxRecDepth 10000 in
theorem mS_X7_keepIfAbove_26 (C : rw_C p s m meth c cX7_keepIfAbove 6 RX7 none D cy ad) {v0 : Nat} {v1 : Int32} {v2 : Int32} {v3 : Int32} {v4 : Int32} {v5 : Int32} {o0 : Int32} (h_v0 : isX7 v0) {X48 : Int32 → Mem → Prop} {K : Mem → Prop} {M : Mem} (hX48 : ∀  (w0 : Int32) (M : Mem), X48 w0 M → rw_W p l e rm_X7_keepIfAbove s m args below meth c D cy ad 6 0 0 (rw_Qv below args s D cy ad K) 48 [(0, .ref (ad v0)), (1, .int v1), (2, .int v2), (4, .int v4), (5, .int v5)] [.int w0] M) (h : S_X7_keepIfAbove_26 v0 v1 v2 v3 v4 v5 o0 X48 K M) : rw_W p l e rm_X7_keepIfAbove s m args below meth c D cy ad 6 0 0 (rw_Qv below args s D cy ad K) 26 [(0, .ref (ad v0)), (1, .int v1), (2, .int v2), (3, .int v3), (4, .int v4), (5, .int v5)] [.int o0] M := by
  refine r_if_eq C 47 dX7_keepIfAbove_26 (by decide) (fun hc => ?_) (fun hc => ?_)
  · replace h := h.1 hc
    refine r_iconst (v := (0 : Int32)) C dX7_keepIfAbove_47 rfl ?_
    exact r_sub [0, 1, 2, 4, 5] rfl (hX48 _ _ h)
  · replace h := h.2 hc
    refine r_aload_n C 0 dX7_keepIfAbove_29 rfl rfl ?_
    refine gX7_11 C h_v0 dX7_keepIfAbove_30 ?_
    refine r_iload_n C 2 dX7_keepIfAbove_33 rfl rfl ?_
    refine r_iload C 5 dX7_keepIfAbove_34 rfl ?_
    refine r_iadd C dX7_keepIfAbove_36 ?_
    obtain ⟨q, h⟩ := h
    refine r_lald C (isX7_A1 h_v0) q dX7_keepIfAbove_37 ?_
    refine r_lconst (v := (0 : Int64)) C dX7_keepIfAbove_38 rfl ?_
    refine r_lcmp C dX7_keepIfAbove_39 ?_
    refine r_if_le C 47 dX7_keepIfAbove_40 (by decide) (fun hc => ?_) (fun hc => ?_)
    · replace h := h.1 ((lg_cmp_le _ _).mp hc)
      refine r_iconst (v := (0 : Int32)) C dX7_keepIfAbove_47 rfl ?_
      exact r_sub [0, 1, 2, 4, 5] rfl (hX48 _ _ h)
    · replace h := h.2 (fun q9 => hc ((lg_cmp_le _ _).mpr q9))
      refine r_iconst (v := (1 : Int32)) C dX7_keepIfAbove_43 rfl ?_
      refine r_goto C 48 dX7_keepIfAbove_44 (by decide) ?_
      exact r_sub [0, 1, 2, 4, 5] rfl (hX48 _ _ h)

def L_X7_keepIfAbove_8 (v0 : Nat) (v1 : Int32) (v2 : Int32) (X81 : Int32 → Int32 → Mem → Prop) (K : Mem → Prop) : Nat → Int32 → Int32 → Int32 → Mem → Prop
  | 0, _, _, _, _ => False
  | n + 1, v3, v4, v5, M => (((10 : Int32) ≤ v5 → X81 v3 v4 M) ∧ (¬ (10 : Int32) ≤ v5 → ((¬ ((v1 >>> (v5 &&& 31)) &&& (1 : Int32)) = (1 : Int32) → L_X7_keepIfAbove_8 v0 v1 v2 X81 K n v3 v4 (v5 + (1 : Int32)) M) ∧ (((v1 >>> (v5 &&& 31)) &&& (1 : Int32)) = (1 : Int32) → (S_X7_keepIfAbove_26 v0 v1 v2 v3 v4 v5 v3 (fun (w : Int32) (M_2 : Mem) => ((v4 = 0 → L_X7_keepIfAbove_8 v0 v1 v2 X81 K n w (0 : Int32) (v5 + (1 : Int32)) M_2) ∧ (¬ v4 = 0 → vp_in (v2 + v5) 220 ∧ (((0 : Int64) ≤ (gL M_2 (v0 + 1) (v2 + v5)) → L_X7_keepIfAbove_8 v0 v1 v2 X81 K n w (0 : Int32) (v5 + (1 : Int32)) M_2) ∧ (¬ (0 : Int64) ≤ (gL M_2 (v0 + 1) (v2 + v5)) → L_X7_keepIfAbove_8 v0 v1 v2 X81 K n w (1 : Int32) (v5 + (1 : Int32)) M_2))))) K M)))))

set_option maxHeartbeats 1000000 in
set_option maxRecDepth 10000 in
theorem mL_X7_keepIfAbove_8 (C : rw_C p s m meth c cX7_keepIfAbove 6 RX7 none D cy ad) {v0 : Nat} {v1 : Int32} {v2 : Int32} (h_v0 : isX7 v0) {X81 : Int32 → Int32 → Mem → Prop} {K : Mem → Prop} (hX81 : ∀ (u3 : Int32) (u4 : Int32) (M : Mem), X81 u3 u4 M → rw_W p l e rm_X7_keepIfAbove s m args below meth c D cy ad 6 0 0 (rw_Qv below args s D cy ad K) 81 [(0, .ref (ad v0)), (1, .int v1), (2, .int v2), (3, .int u3), (4, .int u4)] [] M) : ∀ (n : Nat) (v3 : Int32) (v4 : Int32) (v5 : Int32) (M : Mem), L_X7_keepIfAbove_8 v0 v1 v2 X81 K n v3 v4 v5 M → rw_W p l e rm_X7_keepIfAbove s m args below meth c D cy ad 6 0 0 (rw_Qv below args s D cy ad K) 8 [(0, .ref (ad v0)), (1, .int v1), (2, .int v2), (3, .int v3), (4, .int v4), (5, .int v5)] [] M := by
  intro n
  induction n with
  | zero => intro v3 v4 v5 M h; exact h.elim
  | succ n ih =>
    intro v3 v4 v5 M h
    refine r_iload C 5 dX7_keepIfAbove_8 rfl ?_
    refine r_bipush (v := (10 : Int32)) C dX7_keepIfAbove_10 rfl ?_
    refine r_icmp_ge C 81 dX7_keepIfAbove_12 (by decide) (fun hc => ?_) (fun hc => ?_)
    · replace h := h.1 hc
      exact r_sub [0, 1, 2, 3, 4] rfl (hX81 _ _ _ h)
    · replace h := h.2 hc
      refine r_iload_n C 1 dX7_keepIfAbove_15 rfl rfl ?_
      refine r_iload C 5 dX7_keepIfAbove_16 rfl ?_
      refine r_ishr C dX7_keepIfAbove_18 ?_
      refine r_iconst (v := (1 : Int32)) C dX7_keepIfAbove_19 rfl ?_
      refine r_iand C dX7_keepIfAbove_20 ?_
      refine r_iconst (v := (1 : Int32)) C dX7_keepIfAbove_21 rfl ?_
      refine r_icmp_ne C 75 dX7_keepIfAbove_22 (by decide) (fun hc => ?_) (fun hc => ?_)
      · replace h := h.1 hc
        refine r_iinc C 5 (v := _) [(5, .int _), (0, .ref _), (1, .int _), (2, .int _), (3, .int _), (4, .int _)] dX7_keepIfAbove_75 rfl rfl (by decide) rfl ?_
        refine r_goto C 8 dX7_keepIfAbove_78 (by decide) ?_
        exact r_sub [1, 2, 3, 4, 5, 0] rfl (ih _ _ _ _ h)
      · replace h := h.2 hc
        refine r_iload_n C 3 dX7_keepIfAbove_25 rfl rfl ?_
        refine mS_X7_keepIfAbove_26 C h_v0 (fun w M_2 h => ?_) h
        refine r_istore_n C [(3, .int _), (0, .ref _), (1, .int _), (2, .int _), (4, .int _), (5, .int _)] dX7_keepIfAbove_48 rfl (by decide) rfl ?_
        refine r_iload C 4 dX7_keepIfAbove_49 rfl ?_
        refine r_if_eq C 72 dX7_keepIfAbove_51 (by decide) (fun hc => ?_) (fun hc => ?_)
        · replace h := h.1 hc
          refine r_iconst (v := (0 : Int32)) C dX7_keepIfAbove_72 rfl ?_
          refine r_istore C [(4, .int _), (3, .int _), (0, .ref _), (1, .int _), (2, .int _), (5, .int _)] dX7_keepIfAbove_73 (by decide) rfl ?_
          refine r_iinc C 5 (v := _) [(5, .int _), (4, .int _), (3, .int _), (0, .ref _), (1, .int _), (2, .int _)] dX7_keepIfAbove_75 rfl rfl (by decide) rfl ?_
          refine r_goto C 8 dX7_keepIfAbove_78 (by decide) ?_
          exact r_sub [3, 4, 5, 2, 1, 0] rfl (ih _ _ _ _ h)
        · replace h := h.2 hc
          refine r_aload_n C 1 dX7_keepIfAbove_54 rfl rfl ?_
          refine gX7_11 C h_v0 dX7_keepIfAbove_55 ?_
          refine r_iload_n C 3 dX7_keepIfAbove_58 rfl rfl ?_
          refine r_iload C 5 dX7_keepIfAbove_59 rfl ?_
          refine r_iadd C dX7_keepIfAbove_61 ?_
          obtain ⟨q_2, h⟩ := h
          refine r_lald C (isX7_A1 h_v0) q_2 dX7_keepIfAbove_62 ?_
          refine r_lconst (v := (0 : Int64)) C dX7_keepIfAbove_63 rfl ?_
          refine r_lcmp C dX7_keepIfAbove_64 ?_
          refine r_if_ge C 72 dX7_keepIfAbove_65 (by decide) (fun hc => ?_) (fun hc => ?_)
          · replace h := h.1 ((lg_cmp_ge _ _).mp hc)
            refine r_iconst (v := (0 : Int32)) C dX7_keepIfAbove_72 rfl ?_
            refine r_istore C [(4, .int _), (3, .int _), (0, .ref _), (1, .int _), (2, .int _), (5, .int _)] dX7_keepIfAbove_73 (by decide) rfl ?_
            refine r_iinc C 5 (v := _) [(5, .int _), (4, .int _), (3, .int _), (0, .ref _), (1, .int _), (2, .int _)] dX7_keepIfAbove_75 rfl rfl (by decide) rfl ?_
            refine r_goto C 8 dX7_keepIfAbove_78 (by decide) ?_
            exact r_sub [3, 4, 5, 2, 1, 0] rfl (ih _ _ _ _ h)
          · replace h := h.2 (fun q9 => hc ((lg_cmp_ge _ _).mpr q9))
            refine r_iconst (v := (1 : Int32)) C dX7_keepIfAbove_68 rfl ?_
            refine r_goto C 73 dX7_keepIfAbove_69 (by decide) ?_
            refine r_istore C [(4, .int _), (3, .int _), (0, .ref _), (1, .int _), (2, .int _), (5, .int _)] dX7_keepIfAbove_73 (by decide) rfl ?_
            refine r_iinc C 5 (v := _) [(5, .int _), (4, .int _), (3, .int _), (0, .ref _), (1, .int _), (2, .int _)] dX7_keepIfAbove_75 rfl rfl (by decide) rfl ?_
            refine r_goto C 8 dX7_keepIfAbove_78 (by decide) ?_
            exact r_sub [3, 4, 5, 2, 1, 0] rfl (ih _ _ _ _ h)

def S_X7_keepIfAbove_92 (v0 : Nat) (v1 : Int32) (v2 : Int32) (v4 : Int32) (o0 : Int32) (X101 : Mem → Prop) (K : Mem → Prop) (M : Mem) : Prop := (¬ o0 = 0 → X101 M) ∧ (o0 = 0 → ((¬ v4 = 0 → X101 M) ∧ (v4 = 0 → K M)))

set_option maxHeartbeats 1000000 in
set_option maxRecDepth 10000 in
theorem mS_X7_keepIfAbove_92 (C : rw_C p s m meth c cX7_keepIfAbove 6 RX7 none D cy ad) {v0 : Nat} {v1 : Int32} {v2 : Int32} {v4 : Int32} {o0 : Int32} (h_v0 : isX7 v0) {X101 : Mem → Prop} {K : Mem → Prop} {M : Mem} (hX101 : ∀  (M : Mem), X101 M → rw_W p l e rm_X7_keepIfAbove s m args below meth c D cy ad 6 0 0 (rw_Qv below args s D cy ad K) 101 [(0, .ref (ad v0)), (1, .int v1), (2, .int v2)] [] M) (h : S_X7_keepIfAbove_92 v0 v1 v2 v4 o0 X101 K M) : rw_W p l e rm_X7_keepIfAbove s m args below meth c D cy ad 6 0 0 (rw_Qv below args s D cy ad K) 92 [(0, .ref (ad v0)), (1, .int v1), (2, .int v2), (4, .int v4)] [.int o0] M := by
  refine r_if_ne C 101 dX7_keepIfAbove_92 (by decide) (fun hc => ?_) (fun hc => ?_)
  · replace h := h.1 hc
    exact r_sub [0, 1, 2] rfl (hX101 _ h)
  · replace h := h.2 hc
    refine r_iload C 3 dX7_keepIfAbove_95 rfl ?_
    refine r_if_ne C 101 dX7_keepIfAbove_97 (by decide) (fun hc => ?_) (fun hc => ?_)
    · replace h := h.1 hc
      exact r_sub [0, 1, 2] rfl (hX101 _ h)
    · replace h := h.2 hc
      exact r_vret C dX7_keepIfAbove_100 h

def L_X7_keepIfAbove_114 (v0 : Nat) (v1 : Int32) (v2 : Int32) (X155 : Mem → Prop) (K : Mem → Prop) : Nat → Int32 → Mem → Prop
  | 0, _, _ => False
  | n + 1, v5, M => (((10 : Int32) ≤ v5 → X155 M) ∧ (¬ (10 : Int32) ≤ v5 → vp_in (v2 + v5) 220 ∧ vp_in (((M.1 v0 5) * (10 : Int32)) + v5) 2560 ∧ ∀ M_6 : Mem, M_6 = wI M (v0 + 4) (((M.1 v0 5) * (10 : Int32)) + v5).toNatClampNeg ((if 0 < (gL M (v0 + 1) (v2 + v5)) then (gL M (v0 + 1) (v2 + v5)) else -(gL M (v0 + 1) (v2 + v5))).toInt32) → L_X7_keepIfAbove_114 v0 v1 v2 X155 K n (v5 + (1 : Int32)) M_6))

set_option maxHeartbeats 1000000 in
set_option maxRecDepth 10000 in
theorem mL_X7_keepIfAbove_114 (C : rw_C p s m meth c cX7_keepIfAbove 6 RX7 none D cy ad) {v0 : Nat} {v1 : Int32} {v2 : Int32} (h_v0 : isX7 v0) {X155 : Mem → Prop} {K : Mem → Prop} (hX155 : ∀  (M : Mem), X155 M → rw_W p l e rm_X7_keepIfAbove s m args below meth c D cy ad 6 0 0 (rw_Qv below args s D cy ad K) 155 [(0, .ref (ad v0)), (1, .int v1)] [] M) : ∀ (n : Nat) (v5 : Int32) (M : Mem), L_X7_keepIfAbove_114 v0 v1 v2 X155 K n v5 M → rw_W p l e rm_X7_keepIfAbove s m args below meth c D cy ad 6 0 0 (rw_Qv below args s D cy ad K) 114 [(0, .ref (ad v0)), (1, .int v1), (2, .int v2), (5, .int v5)] [] M := by
  intro n
  induction n with
  | zero => intro v5 M h; exact h.elim
  | succ n ih =>
    intro v5 M h
    refine r_iload C 3 dX7_keepIfAbove_114 rfl ?_
    refine r_bipush (v := (10 : Int32)) C dX7_keepIfAbove_116 rfl ?_
    refine r_icmp_ge C 155 dX7_keepIfAbove_118 (by decide) (fun hc => ?_) (fun hc => ?_)
    · replace h := h.1 hc
      exact r_sub [0, 1] rfl (hX155 _ h)
    · replace h := h.2 hc
      refine r_aload_n C 0 dX7_keepIfAbove_121 rfl rfl ?_
      refine gX7_22 C h_v0 dX7_keepIfAbove_122 ?_
      refine r_aload_n C 0 dX7_keepIfAbove_125 rfl rfl ?_
      refine gX7_25 C h_v0 dX7_keepIfAbove_126 ?_
      refine r_bipush (v := (10 : Int32)) C dX7_keepIfAbove_129 rfl ?_
      refine r_imul C dX7_keepIfAbove_131 ?_
      refine r_iload C 3 dX7_keepIfAbove_132 rfl ?_
      refine r_iadd C dX7_keepIfAbove_134 ?_
      refine r_aload_n C 0 dX7_keepIfAbove_135 rfl rfl ?_
      refine gX7_11 C h_v0 dX7_keepIfAbove_136 ?_
      refine r_iload_n C 2 dX7_keepIfAbove_139 rfl rfl ?_
      refine r_iload C 3 dX7_keepIfAbove_140 rfl ?_
      refine r_iadd C dX7_keepIfAbove_142 ?_
      obtain ⟨q_4, h⟩ := h
      refine r_lald C (isX7_A1 h_v0) q_4 dX7_keepIfAbove_143 ?_
      refine cX7_77 C ⟨Nat.le_of_ble_eq_true rfl, Nat.le_of_ble_eq_true rfl⟩ (Nat.le_refl 0) (Nat.le_refl 0) dX7_keepIfAbove_144 ?_
      refine r_l2i C dX7_keepIfAbove_147 ?_
      obtain ⟨q_5, h⟩ := h
      refine r_iast C (isX7_A4 h_v0) q_5 dX7_keepIfAbove_148 ?_
      replace h := h _ rfl
      refine r_iinc C 3 (v := _) [(5, .int _), (0, .ref _), (1, .int _), (2, .int _)] dX7_keepIfAbove_149 rfl rfl (by decide) rfl ?_
      refine r_goto C 114 dX7_keepIfAbove_152 (by decide) ?_
      exact r_sub [1, 2, 3, 0] rfl (ih _ _ h)

def f_X7_keepIfAbove (v0 : Nat) (v1 : Int32) (v2 : Int32) (M : Mem) (K : Mem → Prop) : Prop := (∃ k8 : Nat, L_X7_keepIfAbove_8 v0 v1 v2 (fun (v3_2 : Int32) (v4_2 : Int32) (M_3 : Mem) => (((256 : Int32) ≤ (M_3.1 v0 5) → K M_3) ∧ (¬ (256 : Int32) ≤ (M_3.1 v0 5) → (S_X7_keepIfAbove_92 v0 v1 v2 v4_2 v3_2 (fun  (M_4 : Mem) => vp_in (M_4.1 v0 5) 256 ∧ ∀ M_5 : Mem, M_5 = wI M_4 (v0 + 3) (M_4.1 v0 5).toNatClampNeg v1 → (∃ k114 : Nat, L_X7_keepIfAbove_114 v0 v1 v2 (fun  (M_7 : Mem) => ∀ M_8 : Mem, M_8 = wI M_7 v0 6 ((M_7.1 v0 6) ||| v1) → ∀ M_9 : Mem, M_9 = wI M_8 v0 5 ((M_8.1 v0 5) + (1 : Int32)) → K M_9) K k114 (0 : Int32) M_5)) K M_3)))) K k8 (1 : Int32) (1 : Int32) (0 : Int32) M)

set_option maxHeartbeats 1000000 in
set_option maxRecDepth 10000 in
theorem m_X7_keepIfAbove (l : Launch) {v0 : Nat} {v1 : Int32} {v2 : Int32} (h_v0 : isX7 v0) {M : Mem} {K : Mem → Prop} (h : f_X7_keepIfAbove v0 v1 v2 M K) : CTv l yX7_keepIfAbove cX7_keepIfAbove 6 none rm_X7_keepIfAbove (fun ad => [.ref (ad v0), .int v1, .int v2]) M K := by
  refine rw_entv (by decide +kernel) (fun ad => Nat.le_of_ble_eq_true rfl) (fun p e s m args below meth c D cy ad C => ?_)
  change rw_W p l e _ s m args below meth c D cy ad 6 0 0 _ 0 [(0, .ref (ad v0)), (1, .int v1), (2, .int v2)] [] M
  unfold f_X7_keepIfAbove at h
  refine r_iconst (v := (1 : Int32)) C dX7_keepIfAbove_0 rfl ?_
  refine r_istore_n C [(3, .int _), (0, .ref _), (1, .int _), (2, .int _)] dX7_keepIfAbove_1 rfl (by decide) rfl ?_
  refine r_iconst (v := (1 : Int32)) C dX7_keepIfAbove_2 rfl ?_
  refine r_istore C [(4, .int _), (3, .int _), (0, .ref _), (1, .int _), (2, .int _)] dX7_keepIfAbove_3 (by decide) rfl ?_
  refine r_iconst (v := (0 : Int32)) C dX7_keepIfAbove_5 rfl ?_
  refine r_istore C [(5, .int _), (4, .int _), (3, .int _), (0, .ref _), (1, .int _), (2, .int _)] dX7_keepIfAbove_6 (by decide) rfl ?_
  obtain ⟨n8, h⟩ := h
  refine r_sub [3, 4, 5, 2, 1, 0] rfl (mL_X7_keepIfAbove_8 C h_v0 (fun v3_2 v4_2 M_3 h => ?_) n8 _ _ _ _ h)
  refine r_aload_n C 0 dX7_keepIfAbove_81 rfl rfl ?_
  refine gX7_25 C h_v0 dX7_keepIfAbove_82 ?_
  refine r_sipush (v := (256 : Int32)) C dX7_keepIfAbove_85 rfl ?_
  refine r_icmp_ge C 100 dX7_keepIfAbove_88 (by decide) (fun hc => ?_) (fun hc => ?_)
  · replace h := h.1 hc
    exact r_vret C dX7_keepIfAbove_100 h
  · replace h := h.2 hc
    refine r_iload_n C 3 dX7_keepIfAbove_91 rfl rfl ?_
    refine r_sub [0, 1, 2, 4] rfl (mS_X7_keepIfAbove_92 C h_v0 (fun M_4 h => ?_) h)
    refine r_aload_n C 0 dX7_keepIfAbove_101 rfl rfl ?_
    refine gX7_19 C h_v0 dX7_keepIfAbove_102 ?_
    refine r_aload_n C 0 dX7_keepIfAbove_105 rfl rfl ?_
    refine gX7_25 C h_v0 dX7_keepIfAbove_106 ?_
    refine r_iload_n C 1 dX7_keepIfAbove_109 rfl rfl ?_
    obtain ⟨q_3, h⟩ := h
    refine r_iast C (isX7_A3 h_v0) q_3 dX7_keepIfAbove_110 ?_
    replace h := h _ rfl
    refine r_iconst (v := (0 : Int32)) C dX7_keepIfAbove_111 rfl ?_
    refine r_istore C [(5, .int _), (0, .ref _), (1, .int _), (2, .int _)] dX7_keepIfAbove_112 (by decide) rfl ?_
    obtain ⟨n114, h⟩ := h
    refine r_sub [1, 2, 3, 0] rfl (mL_X7_keepIfAbove_114 C h_v0 (fun M_7 h => ?_) n114 _ _ h)
    refine r_aload_n C 0 dX7_keepIfAbove_155 rfl rfl ?_
    refine r_dup C dX7_keepIfAbove_156 rfl ?_
    refine gX7_29 C h_v0 dX7_keepIfAbove_157 ?_
    refine r_iload_n C 1 dX7_keepIfAbove_160 rfl rfl ?_
    refine r_ior C dX7_keepIfAbove_161 ?_
    refine pX7_29 C h_v0 dX7_keepIfAbove_162 ?_
    replace h := h _ rfl
    refine r_aload_n C 0 dX7_keepIfAbove_165 rfl rfl ?_
    refine r_dup C dX7_keepIfAbove_166 rfl ?_
    refine gX7_25 C h_v0 dX7_keepIfAbove_167 ?_
    refine r_iconst (v := (1 : Int32)) C dX7_keepIfAbove_170 rfl ?_
    refine r_iadd C dX7_keepIfAbove_171 ?_
    refine pX7_25 C h_v0 dX7_keepIfAbove_172 ?_
    replace h := h _ rfl
    exact r_vret C dX7_keepIfAbove_175 h
def f_X7_searchB (rec : Nat → Nat → Int32 → Int32 → Int32 → Mem → (Mem → Prop) → Prop) (v0 : Nat) (v1 : Nat) (v2 : Int32) (v3 : Int32) (v4 : Int32) (M : Mem) (K : Mem → Prop) : Prop := ((v2 < 0 → K M) ∧ (¬ v2 < 0 → ((v4 ≤ (10 : Int32) → rec v0 v1 (v2 - (1 : Int32)) v3 v4 M (fun (M_2 : Mem) => f_X7_isUnit v0 v1 v2 M_2 (fun (r_2 : Int32) (M_3 : Mem) => ((¬ r_2 = 0 → f_X7_isIndependent v0 v1 v2 v4 M_3 (fun (r_3 : Int32) (M_4 : Mem) => ((r_3 = 0 → f_X7_keepIfAbove v0 (v3 ||| ((1 : Int32) <<< (v2 &&& 31))) ((v4 * (20 : Int32)) + (10 : Int32)) M_4 (fun (M_5 : Mem) => K M_5)) ∧ (¬ r_3 = 0 → rec v0 v1 (v2 - (1 : Int32)) (v3 ||| ((1 : Int32) <<< (v2 &&& 31))) (v4 + (1 : Int32)) M_4 (fun (M_6 : Mem) => K M_6))))) ∧ (r_2 = 0 → K M_3))))) ∧ (¬ v4 ≤ (10 : Int32) → K M))))

def f_X7_search : Nat → Nat → Nat → Int32 → Int32 → Int32 → Mem → (Mem → Prop) → Prop
  | 0, _, _, _, _, _, _, _ => False
  | dp + 1, v0, v1, v2, v3, v4, M, K => f_X7_searchB (f_X7_search dp) v0 v1 v2 v3 v4 M K

set_option maxHeartbeats 1000000 in
set_option maxRecDepth 10000 in
theorem m_X7_search (l : Launch) : ∀ (dp : Nat) {v0 : Nat} {v1 : Nat} {v2 : Int32} {v3 : Int32} {v4 : Int32} (h_v0 : isX7 v0) (h_v1 : isX1 v1) {M : Mem} {K : Mem → Prop} (h : f_X7_search dp v0 v1 v2 v3 v4 M K), CTv l yX7_search cX7_search 5 none (rm_X7_search dp) (fun ad => [.ref (ad v0), .ref (ad v1), .int v2, .int v3, .int v4]) M K := by
  intro dp
  induction dp with
  | zero => intro v0 v1 v2 v3 v4 h_v0 h_v1 M K h; exact False.elim h
  | succ dp ih =>
    intro v0 v1 v2 v3 v4 h_v0 h_v1 M K h
    refine rw_entv (by decide +kernel) (fun ad => Nat.le_of_ble_eq_true rfl) (fun p e s m args below meth c D cy ad C => ?_)
    change rw_W p l e _ s m args below meth c D cy ad 5 0 0 _ 0 [(0, .ref (ad v0)), (1, .ref (ad v1)), (2, .int v2), (3, .int v3), (4, .int v4)] [] M
    have hrec : ∀ (a0 : Nat) (a1 : Nat) (a2 : Int32) (a3 : Int32) (a4 : Int32), isX7 a0 → isX1 a1 → ∀ (M : Mem) (K : Mem → Prop), f_X7_search dp a0 a1 a2 a3 a4 M K → CTv l yX7_search cX7_search 5 none (rm_X7_search dp) (fun ad => [.ref (ad a0), .ref (ad a1), .int a2, .int a3, .int a4]) M K := fun a0 a1 a2 a3 a4 hp0 hp1 M K hh => ih hp0 hp1 hh
    change f_X7_searchB (f_X7_search dp) v0 v1 v2 v3 v4 M K at h
    unfold f_X7_searchB at h
    refine r_iload_n C 2 dX7_search_0 rfl rfl ?_
    refine r_if_lt C 11 dX7_search_1 (by decide) (fun hc => ?_) (fun hc => ?_)
    · replace h := h.1 hc
      exact r_vret C dX7_search_11 h
    · replace h := h.2 hc
      refine r_iload C 4 dX7_search_4 rfl ?_
      refine r_bipush (v := (10 : Int32)) C dX7_search_6 rfl ?_
      refine r_icmp_le C 12 dX7_search_8 (by decide) (fun hc => ?_) (fun hc => ?_)
      · replace h := h.1 hc
        refine r_aload_n C 0 dX7_search_12 rfl rfl ?_
        refine r_aload_n C 1 dX7_search_13 rfl rfl ?_
        refine r_iload_n C 2 dX7_search_14 rfl rfl ?_
        refine r_iconst (v := (1 : Int32)) C dX7_search_15 rfl ?_
        refine r_isub C dX7_search_16 ?_
        refine r_iload_n C 3 dX7_search_17 rfl rfl ?_
        refine r_iload C 4 dX7_search_18 rfl ?_
        refine cX7_42 C h_v0 (hrec _ _ _ _ _ h_v0 h_v1 _ _ h) ⟨by show _ ≤ _; simp only [rm_X7_search]; omega, by show _ ≤ _; simp only [rm_X7_search]; omega⟩ (Nat.le_of_ble_eq_true rfl) ⟨Nat.le_refl 0, Nat.le_refl 0⟩ dX7_search_20 (fun M_2 h => ?_)
        refine r_aload_n C 0 dX7_search_23 rfl rfl ?_
        refine r_aload_n C 1 dX7_search_24 rfl rfl ?_
        refine r_iload_n C 2 dX7_search_25 rfl rfl ?_
        refine cX7_46 C h_v0 (m_X7_isUnit l h_v0 h_v1 h) ⟨by show _ ≤ _; simp only [rm_X7_search, rm_X7_isUnit]; omega, by show _ ≤ _; simp only [rm_X7_search, rm_X7_isUnit]; omega⟩ (Nat.le_of_ble_eq_true rfl) ⟨Nat.le_refl 0, Nat.le_refl 0⟩ dX7_search_26 (fun r_2 M_3 h => ?_)
        refine r_if_ne C 33 dX7_search_29 (by decide) (fun hc => ?_) (fun hc => ?_)
        · replace h := h.1 hc
          refine r_aload_n C 0 dX7_search_33 rfl rfl ?_
          refine r_aload_n C 1 dX7_search_34 rfl rfl ?_
          refine r_iload_n C 2 dX7_search_35 rfl rfl ?_
          refine r_iload C 4 dX7_search_36 rfl ?_
          refine cX7_50 C h_v0 (m_X7_isIndependent l h_v0 h_v1 h) ⟨by show _ ≤ _; simp only [rm_X7_search, rm_X7_isIndependent]; omega, by show _ ≤ _; simp only [rm_X7_search, rm_X7_isIndependent]; omega⟩ (Nat.le_of_ble_eq_true rfl) ⟨Nat.le_refl 0, Nat.le_refl 0⟩ dX7_search_38 (fun r_3 M_4 h => ?_)
          refine r_if_eq C 64 dX7_search_41 (by decide) (fun hc => ?_) (fun hc => ?_)
          · replace h := h.1 hc
            refine r_aload_n C 0 dX7_search_64 rfl rfl ?_
            refine r_iload_n C 3 dX7_search_65 rfl rfl ?_
            refine r_iconst (v := (1 : Int32)) C dX7_search_66 rfl ?_
            refine r_iload_n C 2 dX7_search_67 rfl rfl ?_
            refine r_ishl C dX7_search_68 ?_
            refine r_ior C dX7_search_69 ?_
            refine r_iload C 4 dX7_search_70 rfl ?_
            refine r_bipush (v := (20 : Int32)) C dX7_search_72 rfl ?_
            refine r_imul C dX7_search_74 ?_
            refine r_bipush (v := (10 : Int32)) C dX7_search_75 rfl ?_
            refine r_iadd C dX7_search_77 ?_
            refine cX7_54 C h_v0 (m_X7_keepIfAbove l h_v0 h) ⟨by show _ ≤ _; simp only [rm_X7_search, rm_X7_keepIfAbove]; omega, by show _ ≤ _; simp only [rm_X7_search, rm_X7_keepIfAbove]; omega⟩ (Nat.le_of_ble_eq_true rfl) ⟨Nat.le_refl 0, Nat.le_refl 0⟩ dX7_search_78 (fun M_5 h => ?_)
            exact r_vret C dX7_search_81 h
          · replace h := h.2 hc
            refine r_aload_n C 0 dX7_search_44 rfl rfl ?_
            refine r_aload_n C 1 dX7_search_45 rfl rfl ?_
            refine r_iload_n C 2 dX7_search_46 rfl rfl ?_
            refine r_iconst (v := (1 : Int32)) C dX7_search_47 rfl ?_
            refine r_isub C dX7_search_48 ?_
            refine r_iload_n C 3 dX7_search_49 rfl rfl ?_
            refine r_iconst (v := (1 : Int32)) C dX7_search_50 rfl ?_
            refine r_iload_n C 2 dX7_search_51 rfl rfl ?_
            refine r_ishl C dX7_search_52 ?_
            refine r_ior C dX7_search_53 ?_
            refine r_iload C 4 dX7_search_54 rfl ?_
            refine r_iconst (v := (1 : Int32)) C dX7_search_56 rfl ?_
            refine r_iadd C dX7_search_57 ?_
            refine cX7_42 C h_v0 (hrec _ _ _ _ _ h_v0 h_v1 _ _ h) ⟨by show _ ≤ _; simp only [rm_X7_search]; omega, by show _ ≤ _; simp only [rm_X7_search]; omega⟩ (Nat.le_of_ble_eq_true rfl) ⟨Nat.le_refl 0, Nat.le_refl 0⟩ dX7_search_58 (fun M_6 h => ?_)
            refine r_goto C 81 dX7_search_61 (by decide) ?_
            exact r_vret C dX7_search_81 h
        · replace h := h.2 hc
          exact r_vret C dX7_search_32 h
      · replace h := h.2 hc
        exact r_vret C dX7_search_11 h
def f_X7_findLeast (v0 : Nat) (v1 : Nat) (M : Mem) (K : Mem → Prop) : Prop := ((¬ (M.1 v0 7) = (M.1 v1 7) → ∀ M_2 : Mem, M_2 = wI M v0 7 (M.1 v1 7) → ∀ M_3 : Mem, M_3 = wI M_2 v0 5 (0 : Int32) → ∀ M_4 : Mem, M_4 = wI M_3 v0 6 (0 : Int32) → f_X7_search 16 v0 v1 (9 : Int32) (0 : Int32) (0 : Int32) M_4 (fun (M_5 : Mem) => K M_5)) ∧ ((M.1 v0 7) = (M.1 v1 7) → K M))

set_option maxHeartbeats 1000000 in
set_option maxRecDepth 10000 in
theorem m_X7_findLeast (l : Launch) {v0 : Nat} {v1 : Nat} (h_v0 : isX7 v0) (h_v1 : isX1 v1) {M : Mem} {K : Mem → Prop} (h : f_X7_findLeast v0 v1 M K) : CTv l yX7_findLeast cX7_findLeast 2 none rm_X7_findLeast (fun ad => [.ref (ad v0), .ref (ad v1)]) M K := by
  refine rw_entv (by decide +kernel) (fun ad => Nat.le_of_ble_eq_true rfl) (fun p e s m args below meth c D cy ad C => ?_)
  change rw_W p l e _ s m args below meth c D cy ad 2 0 0 _ 0 [(0, .ref (ad v0)), (1, .ref (ad v1))] [] M
  unfold f_X7_findLeast at h
  refine r_aload_n C 0 dX7_findLeast_0 rfl rfl ?_
  refine gX7_32 C h_v0 dX7_findLeast_1 ?_
  refine r_aload_n C 1 dX7_findLeast_4 rfl rfl ?_
  refine gX7_39 C h_v1 dX7_findLeast_5 ?_
  refine r_icmp_ne C 12 dX7_findLeast_8 (by decide) (fun hc => ?_) (fun hc => ?_)
  · replace h := h.1 hc
    refine r_aload_n C 0 dX7_findLeast_12 rfl rfl ?_
    refine r_aload_n C 1 dX7_findLeast_13 rfl rfl ?_
    refine gX7_39 C h_v1 dX7_findLeast_14 ?_
    refine pX7_32 C h_v0 dX7_findLeast_17 ?_
    replace h := h _ rfl
    refine r_aload_n C 0 dX7_findLeast_20 rfl rfl ?_
    refine r_iconst (v := (0 : Int32)) C dX7_findLeast_21 rfl ?_
    refine pX7_25 C h_v0 dX7_findLeast_22 ?_
    replace h := h _ rfl
    refine r_aload_n C 0 dX7_findLeast_25 rfl rfl ?_
    refine r_iconst (v := (0 : Int32)) C dX7_findLeast_26 rfl ?_
    refine pX7_29 C h_v0 dX7_findLeast_27 ?_
    replace h := h _ rfl
    refine r_aload_n C 0 dX7_findLeast_30 rfl rfl ?_
    refine r_aload_n C 1 dX7_findLeast_31 rfl rfl ?_
    refine r_bipush (v := (9 : Int32)) C dX7_findLeast_32 rfl ?_
    refine r_iconst (v := (0 : Int32)) C dX7_findLeast_34 rfl ?_
    refine r_iconst (v := (0 : Int32)) C dX7_findLeast_35 rfl ?_
    refine cX7_42 C h_v0 (m_X7_search l 16 h_v0 h_v1 h) ⟨Nat.le_of_ble_eq_true rfl, Nat.le_of_ble_eq_true rfl⟩ (Nat.le_of_ble_eq_true rfl) ⟨Nat.le_refl 0, Nat.le_refl 0⟩ dX7_findLeast_36 (fun M_5 h => ?_)
    exact r_vret C dX7_findLeast_39 h
  · replace h := h.2 hc
    exact r_vret C dX7_findLeast_11 h
end MG
