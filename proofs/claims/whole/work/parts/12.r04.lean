section MG
variable {p : Program} {l : Launch} {e : Env} {R : Room} {s : State} {m : MethodId} {args : Array Value} {below : List Frame} {meth : Method} {c : Code} {D : va_G} {cy : Nat → ClassId} {ad : Nat → Nat}
def L_X9_run_78 (v2 : Int32) (v3 : Int32) (v4 : Int32) (v5 : Int32) (X119 : Int32 → Mem → Prop) (K : Int32 → Mem → Prop) : Nat → Int32 → Int32 → Mem → Prop
  | 0, _, _, _ => False
  | n + 1, v6, v7, M => f_X9_isOf v5 v7 M (fun (r_5 : Int32) (M_7 : Mem) => ((r_5 = 0 → f_X9_isOf v5 v7 M_7 (fun (r_6 : Int32) (M_8 : Mem) => ((r_6 = 0 → ∀ x6_2 : Int32, x6_2 = v6 - (0 : Int32) → L_X9_run_78 v2 v3 v4 v5 X119 K n x6_2 (v7 + (1 : Int32)) M_8) ∧ (¬ r_6 = 0 → ∀ x6_3 : Int32, x6_3 = v6 - (1 : Int32) → L_X9_run_78 v2 v3 v4 v5 X119 K n x6_3 (v7 + (1 : Int32)) M_8)))) ∧ (¬ r_5 = 0 → ((v6 ≤ 0 → X119 v7 M_7) ∧ (¬ v6 ≤ 0 → f_X9_isOf v5 v7 M_7 (fun (r_7 : Int32) (M_9 : Mem) => ((r_7 = 0 → ∀ x6_4 : Int32, x6_4 = v6 - (0 : Int32) → L_X9_run_78 v2 v3 v4 v5 X119 K n x6_4 (v7 + (1 : Int32)) M_9) ∧ (¬ r_7 = 0 → ∀ x6_5 : Int32, x6_5 = v6 - (1 : Int32) → L_X9_run_78 v2 v3 v4 v5 X119 K n x6_5 (v7 + (1 : Int32)) M_9))))))))

set_option maxHeartbeats 1000000 in
set_option maxRecDepth 10000 in
theorem mL_X9_run_78 (C : rw_C p s m meth c cX9_run 8 RX9 (some .int) D cy ad) {v2 : Int32} {v3 : Int32} {v4 : Int32} {v5 : Int32} {X119 : Int32 → Mem → Prop} {K : Int32 → Mem → Prop} (hX119 : ∀ (u7 : Int32) (M : Mem), X119 u7 M → rw_W p l e rm_X9_run s m args below meth c D cy ad 8 0 0 (rw_Qi below args s D cy ad K) 119 [(0, .ref (ad 0)), (2, .int v2), (3, .int v3), (4, .int v4), (7, .int u7)] [] M) : ∀ (n : Nat) (v6 : Int32) (v7 : Int32) (M : Mem), L_X9_run_78 v2 v3 v4 v5 X119 K n v6 v7 M → rw_W p l e rm_X9_run s m args below meth c D cy ad 8 0 0 (rw_Qi below args s D cy ad K) 78 [(0, .ref (ad 0)), (2, .int v2), (3, .int v3), (4, .int v4), (5, .int v5), (6, .int v6), (7, .int v7)] [] M := by
  intro n
  induction n with
  | zero => intro v6 v7 M h; exact h.elim
  | succ n ih =>
    intro v6 v7 M h
    refine r_iload C 4 dX9_run_78 rfl ?_
    refine r_iload C 6 dX9_run_80 rfl ?_
    refine cX9_140 C (m_X9_isOf l h) ⟨Nat.le_of_ble_eq_true rfl, Nat.le_of_ble_eq_true rfl⟩ (Nat.le_of_ble_eq_true rfl) ⟨Nat.le_refl 0, Nat.le_refl 0⟩ dX9_run_82 (fun r_5 M_7 h => ?_)
    refine r_if_eq C 93 dX9_run_85 (by decide) (fun hc => ?_) (fun hc => ?_)
    · replace h := h.1 hc
      refine r_iload C 5 dX9_run_93 rfl ?_
      refine r_iload C 4 dX9_run_95 rfl ?_
      refine r_iload C 6 dX9_run_97 rfl ?_
      refine cX9_140 C (m_X9_isOf l h) ⟨Nat.le_of_ble_eq_true rfl, Nat.le_of_ble_eq_true rfl⟩ (Nat.le_of_ble_eq_true rfl) ⟨Nat.le_refl 0, Nat.le_refl 0⟩ dX9_run_99 (fun r_6 M_8 h => ?_)
      refine r_if_eq C 109 dX9_run_102 (by decide) (fun hc => ?_) (fun hc => ?_)
      · replace h := h.1 hc
        refine r_iconst (v := (0 : Int32)) C dX9_run_109 rfl ?_
        refine r_isub C dX9_run_110 ?_
        refine r_istore C [(6, .int _), (0, .ref _), (2, .int _), (3, .int _), (4, .int _), (5, .int _), (7, .int _)] dX9_run_111 (by decide) rfl ?_
        replace h := h _ rfl
        refine r_iinc C 6 (v := _) [(7, .int _), (6, .int _), (0, .ref _), (2, .int _), (3, .int _), (4, .int _), (5, .int _)] dX9_run_113 rfl rfl (by decide) rfl ?_
        refine r_goto C 78 dX9_run_116 (by decide) ?_
        exact r_sub [2, 3, 4, 5, 6, 1, 0] rfl (ih _ _ _ h)
      · replace h := h.2 hc
        refine r_iconst (v := (1 : Int32)) C dX9_run_105 rfl ?_
        refine r_goto C 110 dX9_run_106 (by decide) ?_
        refine r_isub C dX9_run_110 ?_
        refine r_istore C [(6, .int _), (0, .ref _), (2, .int _), (3, .int _), (4, .int _), (5, .int _), (7, .int _)] dX9_run_111 (by decide) rfl ?_
        replace h := h _ rfl
        refine r_iinc C 6 (v := _) [(7, .int _), (6, .int _), (0, .ref _), (2, .int _), (3, .int _), (4, .int _), (5, .int _)] dX9_run_113 rfl rfl (by decide) rfl ?_
        refine r_goto C 78 dX9_run_116 (by decide) ?_
        exact r_sub [2, 3, 4, 5, 6, 1, 0] rfl (ih _ _ _ h)
    · replace h := h.2 hc
      refine r_iload C 5 dX9_run_88 rfl ?_
      refine r_if_le C 119 dX9_run_90 (by decide) (fun hc => ?_) (fun hc => ?_)
      · replace h := h.1 hc
        exact r_sub [0, 1, 2, 3, 6] rfl (hX119 _ _ h)
      · replace h := h.2 hc
        refine r_iload C 5 dX9_run_93 rfl ?_
        refine r_iload C 4 dX9_run_95 rfl ?_
        refine r_iload C 6 dX9_run_97 rfl ?_
        refine cX9_140 C (m_X9_isOf l h) ⟨Nat.le_of_ble_eq_true rfl, Nat.le_of_ble_eq_true rfl⟩ (Nat.le_of_ble_eq_true rfl) ⟨Nat.le_refl 0, Nat.le_refl 0⟩ dX9_run_99 (fun r_7 M_9 h => ?_)
        refine r_if_eq C 109 dX9_run_102 (by decide) (fun hc => ?_) (fun hc => ?_)
        · replace h := h.1 hc
          refine r_iconst (v := (0 : Int32)) C dX9_run_109 rfl ?_
          refine r_isub C dX9_run_110 ?_
          refine r_istore C [(6, .int _), (0, .ref _), (2, .int _), (3, .int _), (4, .int _), (5, .int _), (7, .int _)] dX9_run_111 (by decide) rfl ?_
          replace h := h _ rfl
          refine r_iinc C 6 (v := _) [(7, .int _), (6, .int _), (0, .ref _), (2, .int _), (3, .int _), (4, .int _), (5, .int _)] dX9_run_113 rfl rfl (by decide) rfl ?_
          refine r_goto C 78 dX9_run_116 (by decide) ?_
          exact r_sub [2, 3, 4, 5, 6, 1, 0] rfl (ih _ _ _ h)
        · replace h := h.2 hc
          refine r_iconst (v := (1 : Int32)) C dX9_run_105 rfl ?_
          refine r_goto C 110 dX9_run_106 (by decide) ?_
          refine r_isub C dX9_run_110 ?_
          refine r_istore C [(6, .int _), (0, .ref _), (2, .int _), (3, .int _), (4, .int _), (5, .int _), (7, .int _)] dX9_run_111 (by decide) rfl ?_
          replace h := h _ rfl
          refine r_iinc C 6 (v := _) [(7, .int _), (6, .int _), (0, .ref _), (2, .int _), (3, .int _), (4, .int _), (5, .int _)] dX9_run_113 rfl rfl (by decide) rfl ?_
          refine r_goto C 78 dX9_run_116 (by decide) ?_
          exact r_sub [2, 3, 4, 5, 6, 1, 0] rfl (ih _ _ _ h)

def L_X9_run_42 (v2 : Int32) (X137 : Int32 → Mem → Prop) (K : Int32 → Mem → Prop) : Nat → Int32 → Int32 → Int32 → Mem → Prop
  | 0, _, _, _, _ => False
  | n + 1, v3, v4, v5, M => ((v2 ≤ v4 → X137 v4 M) ∧ (¬ v2 ≤ v4 → ((v5 = 0 → X137 v4 M) ∧ (¬ v5 = 0 → ∀ x3 : Int32, x3 = (v3 * (1103515245 : Int32)) + (12345 : Int32) → f_X9_many v5 M (fun (r_4 : Int32) (M_6 : Mem) => (¬ r_4 = 0) ∧ ∀ x6 : Int32, x6 = irem (ushr x3 (16 : Int32)) r_4 → (∃ k78 : Nat, L_X9_run_78 v2 x3 v4 v5 (fun (v7_2 : Int32) (M_10 : Mem) => f_X9_does v7_2 M_10 (fun (M_11 : Mem) => f_X9_allThatCan  M_11 (fun (r_9 : Int32) (M_12 : Mem) => L_X9_run_42 v2 X137 K n x3 (v4 + (1 : Int32)) r_9 M_12))) K k78 x6 (0 : Int32) M_6))))))

set_option maxHeartbeats 1000000 in
set_option maxRecDepth 10000 in
theorem mL_X9_run_42 (C : rw_C p s m meth c cX9_run 8 RX9 (some .int) D cy ad) {v2 : Int32} {X137 : Int32 → Mem → Prop} {K : Int32 → Mem → Prop} (hX137 : ∀ (u4 : Int32) (M : Mem), X137 u4 M → rw_W p l e rm_X9_run s m args below meth c D cy ad 8 0 0 (rw_Qi below args s D cy ad K) 137 [(0, .ref (ad 0)), (4, .int u4)] [] M) : ∀ (n : Nat) (v3 : Int32) (v4 : Int32) (v5 : Int32) (M : Mem), L_X9_run_42 v2 X137 K n v3 v4 v5 M → rw_W p l e rm_X9_run s m args below meth c D cy ad 8 0 0 (rw_Qi below args s D cy ad K) 42 [(0, .ref (ad 0)), (2, .int v2), (3, .int v3), (4, .int v4), (5, .int v5)] [] M := by
  intro n
  induction n with
  | zero => intro v3 v4 v5 M h; exact h.elim
  | succ n ih =>
    intro v3 v4 v5 M h
    refine r_iload C 3 dX9_run_42 rfl ?_
    refine r_iload_n C 1 dX9_run_44 rfl rfl ?_
    refine r_icmp_ge C 137 dX9_run_45 (by decide) (fun hc => ?_) (fun hc => ?_)
    · replace h := h.1 hc
      exact r_sub [0, 3] rfl (hX137 _ _ h)
    · replace h := h.2 hc
      refine r_iload C 4 dX9_run_48 rfl ?_
      refine r_if_eq C 137 dX9_run_50 (by decide) (fun hc => ?_) (fun hc => ?_)
      · replace h := h.1 hc
        exact r_sub [0, 3] rfl (hX137 _ _ h)
      · replace h := h.2 hc
        refine r_iload_n C 2 dX9_run_53 rfl rfl ?_
        refine kX9_305 C dX9_run_54 ?_
        refine r_imul C dX9_run_57 ?_
        refine r_sipush (v := (12345 : Int32)) C dX9_run_58 rfl ?_
        refine r_iadd C dX9_run_61 ?_
        refine r_istore_n C [(3, .int _), (0, .ref _), (2, .int _), (4, .int _), (5, .int _)] dX9_run_62 rfl (by decide) rfl ?_
        replace h := h _ rfl
        refine r_iload_n C 0 dX9_run_63 rfl rfl ?_
        refine r_bipush (v := (16 : Int32)) C dX9_run_64 rfl ?_
        refine r_iushr C dX9_run_66 ?_
        refine r_iload C 4 dX9_run_67 rfl ?_
        refine cX9_266 C (m_X9_many l h) ⟨Nat.le_of_ble_eq_true rfl, Nat.le_of_ble_eq_true rfl⟩ (Nat.le_of_ble_eq_true rfl) ⟨Nat.le_refl 0, Nat.le_refl 0⟩ dX9_run_69 (fun r_4 M_6 h => ?_)
        obtain ⟨q, h⟩ := h
        refine r_irem C dX9_run_72 q ?_
        refine r_istore C [(6, .int _), (3, .int _), (0, .ref _), (2, .int _), (4, .int _), (5, .int _)] dX9_run_73 (by decide) rfl ?_
        replace h := h _ rfl
        refine r_iconst (v := (0 : Int32)) C dX9_run_75 rfl ?_
        refine r_istore C [(7, .int _), (6, .int _), (3, .int _), (0, .ref _), (2, .int _), (4, .int _), (5, .int _)] dX9_run_76 (by decide) rfl ?_
        obtain ⟨n78, h⟩ := h
        refine r_sub [3, 4, 2, 5, 6, 1, 0] rfl (mL_X9_run_78 C (fun v7_2 M_10 h => ?_) n78 _ _ _ h)
        refine r_aload_n C 0 dX9_run_119 rfl rfl ?_
        refine r_iload C 4 dX9_run_120 rfl ?_
        refine cX9_299 C (m_X9_does l h) ⟨Nat.le_of_ble_eq_true rfl, Nat.le_of_ble_eq_true rfl⟩ (Nat.le_of_ble_eq_true rfl) ⟨Nat.le_refl 0, Nat.le_refl 0⟩ dX9_run_122 (fun M_11 h => ?_)
        refine r_iinc C 3 (v := _) [(4, .int _), (0, .ref _), (2, .int _), (3, .int _), (7, .int _)] dX9_run_125 rfl rfl (by decide) rfl ?_
        refine r_aload_n C 1 dX9_run_128 rfl rfl ?_
        refine cX9_302 C (m_X9_allThatCan l h) ⟨Nat.le_of_ble_eq_true rfl, Nat.le_of_ble_eq_true rfl⟩ (Nat.le_of_ble_eq_true rfl) ⟨Nat.le_refl 0, Nat.le_refl 0⟩ dX9_run_129 (fun r_9 M_12 h => ?_)
        refine r_istore C [(5, .int _), (4, .int _), (0, .ref _), (2, .int _), (3, .int _), (7, .int _)] dX9_run_132 (by decide) rfl ?_
        refine r_goto C 42 dX9_run_134 (by decide) ?_
        exact r_sub [2, 3, 4, 1, 0] rfl (ih _ _ _ _ h)

def f_X9_run (v1 : Int32) (v2 : Int32) (M : Mem) (K : Int32 → Mem → Prop) : Prop := ∀ M_2 : Mem, M_2 = wI M 0 0 (0 : Int32) → f_X9_in v2 (1 : Int32) (200 : Int32) M_2 (fun (r : Int32) (M_3 : Mem) => ((r = 0 → K (-1 : Int32) M_3) ∧ (¬ r = 0 → ((¬ (gI M_3 5 (0 : Int32)) = 0 → f_X9_keep  M_3 (fun (M_4 : Mem) => f_X9_allThatCan  M_4 (fun (r_3 : Int32) (M_5 : Mem) => (∃ k42 : Nat, L_X9_run_42 v2 (fun (v4_2 : Int32) (M_13 : Mem) => f_X9_moved  M_13 (fun (M_14 : Mem) => K v4_2 M_14)) K k42 v1 (0 : Int32) r_3 M_5)))) ∧ ((gI M_3 5 (0 : Int32)) = 0 → K (-1 : Int32) M_3)))))

set_option maxHeartbeats 1000000 in
set_option maxRecDepth 10000 in
theorem m_X9_run (l : Launch) {v1 : Int32} {v2 : Int32}  {M : Mem} {K : Int32 → Mem → Prop} (h : f_X9_run v1 v2 M K) : CTi l yX9_run cX9_run 8 (some .int) rm_X9_run (fun ad => [.ref (ad 0), .int v1, .int v2]) M K := by
  refine rw_enti (by decide +kernel) (fun ad => Nat.le_of_ble_eq_true rfl) (fun p e s m args below meth c D cy ad C => ?_)
  change rw_W p l e _ s m args below meth c D cy ad 8 0 0 _ 0 [(0, .ref (ad 0)), (1, .int v1), (2, .int v2)] [] M
  unfold f_X9_run at h
  refine r_aload_n C 0 dX9_run_0 rfl rfl ?_
  refine r_iconst (v := (0 : Int32)) C dX9_run_1 rfl ?_
  refine pX9_133 C dX9_run_2 ?_
  replace h := h _ rfl
  refine r_iload_n C 2 dX9_run_5 rfl rfl ?_
  refine r_iconst (v := (1 : Int32)) C dX9_run_6 rfl ?_
  refine r_sipush (v := (200 : Int32)) C dX9_run_7 rfl ?_
  refine cX9_136 C (m_X9_in l h) ⟨Nat.le_of_ble_eq_true rfl, Nat.le_of_ble_eq_true rfl⟩ (Nat.le_of_ble_eq_true rfl) ⟨Nat.le_refl 0, Nat.le_refl 0⟩ dX9_run_10 (fun r M_3 h => ?_)
  refine r_if_eq C 25 dX9_run_13 (by decide) (fun hc => ?_) (fun hc => ?_)
  · replace h := h.1 hc
    refine r_iconst (v := (-1 : Int32)) C dX9_run_25 rfl ?_
    exact r_iret C dX9_run_26 h
  · replace h := h.2 hc
    refine r_aload_n C 0 dX9_run_16 rfl rfl ?_
    refine gX9_22 C dX9_run_17 ?_
    refine r_iconst (v := (0 : Int32)) C dX9_run_20 rfl ?_
    refine r_iald C sh_5 (vpd (i := (0 : Int32)) (n := 3) (by decide +kernel)) dX9_run_21 ?_
    refine r_if_ne C 27 dX9_run_22 (by decide) (fun hc => ?_) (fun hc => ?_)
    · replace h := h.1 hc
      refine r_aload_n C 0 dX9_run_27 rfl rfl ?_
      refine cX9_296 C (m_X9_keep l h) ⟨Nat.le_of_ble_eq_true rfl, Nat.le_of_ble_eq_true rfl⟩ (Nat.le_of_ble_eq_true rfl) ⟨Nat.le_refl 0, Nat.le_refl 0⟩ dX9_run_28 (fun M_4 h => ?_)
      refine r_iload_n C 1 dX9_run_31 rfl rfl ?_
      refine r_istore_n C [(3, .int _), (0, .ref _), (1, .int _), (2, .int _)] dX9_run_32 rfl (by decide) rfl ?_
      refine r_iconst (v := (0 : Int32)) C dX9_run_33 rfl ?_
      refine r_istore C [(4, .int _), (3, .int _), (0, .ref _), (1, .int _), (2, .int _)] dX9_run_34 (by decide) rfl ?_
      refine r_aload_n C 2 dX9_run_36 rfl rfl ?_
      refine cX9_302 C (m_X9_allThatCan l h) ⟨Nat.le_of_ble_eq_true rfl, Nat.le_of_ble_eq_true rfl⟩ (Nat.le_of_ble_eq_true rfl) ⟨Nat.le_refl 0, Nat.le_refl 0⟩ dX9_run_37 (fun r_3 M_5 h => ?_)
      refine r_istore C [(5, .int _), (4, .int _), (3, .int _), (0, .ref _), (1, .int _), (2, .int _)] dX9_run_40 (by decide) rfl ?_
      obtain ⟨n42, h⟩ := h
      refine r_sub [3, 5, 2, 1, 0] rfl (mL_X9_run_42 C (fun v4_2 M_13 h => ?_) n42 _ _ _ _ h)
      refine r_aload_n C 0 dX9_run_137 rfl rfl ?_
      refine cX9_263 C (m_X9_moved l h) ⟨Nat.le_of_ble_eq_true rfl, Nat.le_of_ble_eq_true rfl⟩ (Nat.le_of_ble_eq_true rfl) ⟨Nat.le_refl 0, Nat.le_refl 0⟩ dX9_run_138 (fun M_14 h => ?_)
      refine r_iload C 1 dX9_run_141 rfl ?_
      exact r_iret C dX9_run_143 h
    · replace h := h.2 hc
      refine r_iconst (v := (-1 : Int32)) C dX9_run_25 rfl ?_
      exact r_iret C dX9_run_26 h
def f_X9_can (M : Mem) (K : Int32 → Mem → Prop) : Prop := ∀ M_2 : Mem, M_2 = wI M 0 0 (0 : Int32) → f_X9_allThatCan  M_2 (fun (r : Int32) (M_3 : Mem) => K r M_3)

set_option maxHeartbeats 1000000 in
set_option maxRecDepth 10000 in
theorem m_X9_can (l : Launch)   {M : Mem} {K : Int32 → Mem → Prop} (h : f_X9_can M K) : CTi l yX9_can cX9_can 1 (some .int) rm_X9_can (fun ad => [.ref (ad 0)]) M K := by
  refine rw_enti (by decide +kernel) (fun ad => Nat.le_of_ble_eq_true rfl) (fun p e s m args below meth c D cy ad C => ?_)
  change rw_W p l e _ s m args below meth c D cy ad 1 0 0 _ 0 [(0, .ref (ad 0))] [] M
  unfold f_X9_can at h
  refine r_aload_n C 0 dX9_can_0 rfl rfl ?_
  refine r_iconst (v := (0 : Int32)) C dX9_can_1 rfl ?_
  refine pX9_133 C dX9_can_2 ?_
  replace h := h _ rfl
  refine r_aload_n C 0 dX9_can_5 rfl rfl ?_
  refine cX9_302 C (m_X9_allThatCan l h) ⟨Nat.le_of_ble_eq_true rfl, Nat.le_of_ble_eq_true rfl⟩ (Nat.le_of_ble_eq_true rfl) ⟨Nat.le_refl 0, Nat.le_refl 0⟩ dX9_can_6 (fun r M_3 h => ?_)
  exact r_iret C dX9_can_9 h
def L_X9_solves_23 (v2 : Int32) (X46 : Int32 → Mem → Prop) (K : Int32 → Mem → Prop) : Nat → Int32 → Mem → Prop
  | 0, _, _ => False
  | n + 1, v3, M => f_X9_isOf v2 v3 M (fun (r_4 : Int32) (M_5 : Mem) => ((r_4 = 0 → L_X9_solves_23 v2 X46 K n (v3 + (1 : Int32)) M_5) ∧ (¬ r_4 = 0 → vp_in v3 10 ∧ (((gI M_5 13 v3) < 0 → X46 v3 M_5) ∧ (¬ (gI M_5 13 v3) < 0 → L_X9_solves_23 v2 X46 K n (v3 + (1 : Int32)) M_5)))))

set_option maxHeartbeats 1000000 in
set_option maxRecDepth 10000 in
theorem mL_X9_solves_23 (C : rw_C p s m meth c cX9_solves 13 RX9 (some .boolean) D cy ad) {v2 : Int32} {X46 : Int32 → Mem → Prop} {K : Int32 → Mem → Prop} (hX46 : ∀ (u3 : Int32) (M : Mem), X46 u3 M → rw_W p l e rm_X9_solves s m args below meth c D cy ad 13 0 0 (rw_Qi below args s D cy ad K) 46 [(0, .ref (ad 0)), (3, .int u3)] [] M) : ∀ (n : Nat) (v3 : Int32) (M : Mem), L_X9_solves_23 v2 X46 K n v3 M → rw_W p l e rm_X9_solves s m args below meth c D cy ad 13 0 0 (rw_Qi below args s D cy ad K) 23 [(0, .ref (ad 0)), (2, .int v2), (3, .int v3)] [] M := by
  intro n
  induction n with
  | zero => intro v3 M h; exact h.elim
  | succ n ih =>
    intro v3 M h
    refine r_iload_n C 1 dX9_solves_23 rfl rfl ?_
    refine r_iload_n C 2 dX9_solves_24 rfl rfl ?_
    refine cX9_140 C (m_X9_isOf l h) ⟨Nat.le_of_ble_eq_true rfl, Nat.le_of_ble_eq_true rfl⟩ (Nat.le_of_ble_eq_true rfl) ⟨Nat.le_refl 0, Nat.le_refl 0⟩ dX9_solves_25 (fun r_4 M_5 h => ?_)
    refine r_if_eq C 40 dX9_solves_28 (by decide) (fun hc => ?_) (fun hc => ?_)
    · replace h := h.1 hc
      refine r_iinc C 2 (v := _) [(3, .int _), (0, .ref _), (2, .int _)] dX9_solves_40 rfl rfl (by decide) rfl ?_
      refine r_goto C 23 dX9_solves_43 (by decide) ?_
      exact r_sub [1, 2, 0] rfl (ih _ _ h)
    · replace h := h.2 hc
      refine r_aload_n C 0 dX9_solves_31 rfl rfl ?_
      refine gX9_51 C dX9_solves_32 ?_
      refine r_iload_n C 2 dX9_solves_35 rfl rfl ?_
      obtain ⟨q, h⟩ := h
      refine r_iald C sh_13 q dX9_solves_36 ?_
      refine r_if_lt C 46 dX9_solves_37 (by decide) (fun hc => ?_) (fun hc => ?_)
      · replace h := h.1 hc
        exact r_sub [0, 2] rfl (hX46 _ _ h)
      · replace h := h.2 hc
        refine r_iinc C 2 (v := _) [(3, .int _), (0, .ref _), (2, .int _)] dX9_solves_40 rfl rfl (by decide) rfl ?_
        refine r_goto C 23 dX9_solves_43 (by decide) ?_
        exact r_sub [1, 2, 0] rfl (ih _ _ h)

set_option maxHeartbeats 1000000 in
set_option maxRecDepth 10000 in
theorem mD_X9_solves_130 (C : rw_C p s m meth c cX9_solves 13 RX9 (some .boolean) D cy ad) {Q : State → Prop} {st : List Value} {M : Mem} {v9 : Int64} {v7 : Int64} {v3 : Int32} {v4 : Int64} {v6 : Int32} {y0 y1 : Int64} (kk : rw_W p l e R s m args below meth c D cy ad 13 0 0 Q 138 [(9, .long v9), (7, .long v7), (0, .ref (ad 0)), (3, .int v3), (4, .long v4), (6, .int v6)] (.int (if y0 ≤ y1 then (0 : Int32) else (1 : Int32)) :: st) M) : rw_W p l e R s m args below meth c D cy ad 13 0 0 Q 130 [(9, .long v9), (7, .long v7), (0, .ref (ad 0)), (3, .int v3), (4, .long v4), (6, .int v6)] (.int (lg_cmp y0 y1) :: st) M := by
  refine r_if_le C 137 dX9_solves_130 (by decide) (fun z0 => ?_) (fun z0 => ?_)
  · have z0 : y0 ≤ y1 := ((lg_cmp_le _ _).mp z0)
    refine r_iconst (v := (0 : Int32)) C dX9_solves_137 rfl ?_
    first | rw [if_pos z0] at kk | rw [if_neg (fun q9 => q9 z0)] at kk
    exact kk
  · have z0 : ¬ y0 ≤ y1 := (fun q9 => z0 ((lg_cmp_le _ _).mpr q9))
    refine r_iconst (v := (1 : Int32)) C dX9_solves_133 rfl ?_
    refine r_goto C 138 dX9_solves_134 (by decide) ?_
    first | rw [if_neg z0] at kk | rw [if_neg (fun q9 => q9 z0)] at kk
    exact kk

set_option maxHeartbeats 1000000 in
set_option maxRecDepth 10000 in
theorem mD_X9_solves_142 (C : rw_C p s m meth c cX9_solves 13 RX9 (some .boolean) D cy ad) {Q : State → Prop} {st : List Value} {M : Mem} {v9 : Int64} {v7 : Int64} {v3 : Int32} {v4 : Int64} {v6 : Int32} {y0 y1 : Int64} (kk : rw_W p l e R s m args below meth c D cy ad 13 0 0 Q 150 [(9, .long v9), (7, .long v7), (0, .ref (ad 0)), (3, .int v3), (4, .long v4), (6, .int v6)] (.int (if y0 ≤ y1 then (0 : Int32) else (1 : Int32)) :: st) M) : rw_W p l e R s m args below meth c D cy ad 13 0 0 Q 142 [(9, .long v9), (7, .long v7), (0, .ref (ad 0)), (3, .int v3), (4, .long v4), (6, .int v6)] (.int (lg_cmp y0 y1) :: st) M := by
  refine r_if_le C 149 dX9_solves_142 (by decide) (fun z0 => ?_) (fun z0 => ?_)
  · have z0 : y0 ≤ y1 := ((lg_cmp_le _ _).mp z0)
    refine r_iconst (v := (0 : Int32)) C dX9_solves_149 rfl ?_
    first | rw [if_pos z0] at kk | rw [if_neg (fun q9 => q9 z0)] at kk
    exact kk
  · have z0 : ¬ y0 ≤ y1 := (fun q9 => z0 ((lg_cmp_le _ _).mpr q9))
    refine r_iconst (v := (1 : Int32)) C dX9_solves_145 rfl ?_
    refine r_goto C 150 dX9_solves_146 (by decide) ?_
    first | rw [if_neg z0] at kk | rw [if_neg (fun q9 => q9 z0)] at kk
    exact kk

set_option maxHeartbeats 1000000 in
set_option maxRecDepth 10000 in
theorem mD_X9_solves_159 (C : rw_C p s m meth c cX9_solves 13 RX9 (some .boolean) D cy ad) {Q : State → Prop} {st : List Value} {M : Mem} {v9 : Int64} {v7 : Int64} {v3 : Int32} {v4 : Int64} {v6 : Int32} {y0 y1 : Int64} (kk : rw_W p l e R s m args below meth c D cy ad 13 0 0 Q 170 [(9, .long v9), (7, .long v7), (0, .ref (ad 0)), (3, .int v3), (4, .long v4), (6, .int v6)] (.long (if y1 ≤ y0 then v7 else (-v7)) :: st) M) : rw_W p l e R s m args below meth c D cy ad 13 0 0 Q 159 [(9, .long v9), (7, .long v7), (0, .ref (ad 0)), (3, .int v3), (4, .long v4), (6, .int v6)] (.int (lg_cmp y0 y1) :: st) M := by
  refine r_if_ge C 168 dX9_solves_159 (by decide) (fun z0 => ?_) (fun z0 => ?_)
  · have z0 : y1 ≤ y0 := ((lg_cmp_ge _ _).mp z0)
    refine r_lload C 1 dX9_solves_168 rfl ?_
    first | rw [if_pos z0] at kk | rw [if_neg (fun q9 => q9 z0)] at kk
    exact kk
  · have z0 : ¬ y1 ≤ y0 := (fun q9 => z0 ((lg_cmp_ge _ _).mpr q9))
    refine r_lload C 1 dX9_solves_162 rfl ?_
    refine r_lneg C dX9_solves_164 ?_
    refine r_goto C 170 dX9_solves_165 (by decide) ?_
    first | rw [if_neg z0] at kk | rw [if_neg (fun q9 => q9 z0)] at kk
    exact kk

def L_X9_solves_52 (v3 : Int32) (X201 : Int64 → Mem → Prop) (K : Int32 → Mem → Prop) : Nat → Int64 → Int32 → Mem → Prop
  | 0, _, _, _ => False
  | n + 1, v4, v6, M => (((10 : Int32) ≤ v6 → X201 v4 M) ∧ (¬ (10 : Int32) ≤ v6 → vp_in v6 10 ∧ ∀ M_7 : Mem, M_7 = wL M 12 v6.toNatClampNeg (0 : Int64) → ((0 ≤ (gI M_7 13 v6) → vp_in (((10 : Int32) * (gI M_7 13 v6)) + v6) 100 ∧ ∀ x7 : Int64, x7 = gL M_7 11 (((10 : Int32) * (gI M_7 13 v6)) + v6) → vp_in (((10 : Int32) * (gI M_7 13 v6)) + v3) 100 ∧ ∀ x9 : Int64, x9 = gL M_7 11 (((10 : Int32) * (gI M_7 13 v6)) + v3) → ((x9 = (0 : Int64) → K (0 : Int32) M_7) ∧ (¬ x9 = (0 : Int64) → ((¬ (if x7 ≤ (0 : Int64) then (0 : Int32) else (1 : Int32)) = (if x9 ≤ (0 : Int64) then (0 : Int32) else (1 : Int32)) → f_X9_common x7 x9 M_7 (fun (r_5 : Int64) (M_8 : Mem) => (¬ r_5 = 0) ∧ ∀ x11 : Int64, x11 = (if (0 : Int64) ≤ x7 then x7 else (-x7)) / r_5 → f_X9_common v4 x11 M_8 (fun (r_6 : Int64) (M_9 : Mem) => (¬ r_6 = 0) ∧ ∀ x4_2 : Int64, x4_2 = (v4 / r_6) * x11 → L_X9_solves_52 v3 X201 K n x4_2 (v6 + (1 : Int32)) M_9))) ∧ ((if x7 ≤ (0 : Int64) then (0 : Int32) else (1 : Int32)) = (if x9 ≤ (0 : Int64) then (0 : Int32) else (1 : Int32)) → K (0 : Int32) M_7))))) ∧ (¬ 0 ≤ (gI M_7 13 v6) → L_X9_solves_52 v3 X201 K n v4 (v6 + (1 : Int32)) M_7))))

set_option maxHeartbeats 1000000 in
set_option maxRecDepth 10000 in
theorem mL_X9_solves_52 (C : rw_C p s m meth c cX9_solves 13 RX9 (some .boolean) D cy ad) {v3 : Int32} {X201 : Int64 → Mem → Prop} {K : Int32 → Mem → Prop} (hX201 : ∀ (u4 : Int64) (M : Mem), X201 u4 M → rw_W p l e rm_X9_solves s m args below meth c D cy ad 13 0 0 (rw_Qi below args s D cy ad K) 201 [(0, .ref (ad 0)), (3, .int v3), (4, .long u4)] [] M) : ∀ (n : Nat) (v4 : Int64) (v6 : Int32) (M : Mem), L_X9_solves_52 v3 X201 K n v4 v6 M → rw_W p l e rm_X9_solves s m args below meth c D cy ad 13 0 0 (rw_Qi below args s D cy ad K) 52 [(0, .ref (ad 0)), (3, .int v3), (4, .long v4), (6, .int v6)] [] M := by
  intro n
  induction n with
  | zero => intro v4 v6 M h; exact h.elim
  | succ n ih =>
    intro v4 v6 M h
    refine r_iload C 3 dX9_solves_52 rfl ?_
    refine r_bipush (v := (10 : Int32)) C dX9_solves_54 rfl ?_
    refine r_icmp_ge C 201 dX9_solves_56 (by decide) (fun hc => ?_) (fun hc => ?_)
    · replace h := h.1 hc
      exact r_sub [0, 1, 2] rfl (hX201 _ _ h)
    · replace h := h.2 hc
      refine r_aload_n C 0 dX9_solves_59 rfl rfl ?_
      refine gX9_48 C dX9_solves_60 ?_
      refine r_iload C 3 dX9_solves_63 rfl ?_
      refine r_lconst (v := (0 : Int64)) C dX9_solves_65 rfl ?_
      obtain ⟨q_2, h⟩ := h
      refine r_last C sh_12 q_2 dX9_solves_66 ?_
      replace h := h _ rfl
      refine r_aload_n C 0 dX9_solves_67 rfl rfl ?_
      refine gX9_51 C dX9_solves_68 ?_
      refine r_iload C 3 dX9_solves_71 rfl ?_
      refine r_iald C sh_13 q_2 dX9_solves_73 ?_
      refine r_if_ge C 80 dX9_solves_74 (by decide) (fun hc => ?_) (fun hc => ?_)
      · replace h := h.1 hc
        refine r_aload_n C 0 dX9_solves_80 rfl rfl ?_
        refine gX9_44 C dX9_solves_81 ?_
        refine r_bipush (v := (10 : Int32)) C dX9_solves_84 rfl ?_
        refine r_aload_n C 0 dX9_solves_86 rfl rfl ?_
        refine gX9_51 C dX9_solves_87 ?_
        refine r_iload C 3 dX9_solves_90 rfl ?_
        refine r_iald C sh_13 q_2 dX9_solves_92 ?_
        refine r_imul C dX9_solves_93 ?_
        refine r_iload C 3 dX9_solves_94 rfl ?_
        refine r_iadd C dX9_solves_96 ?_
        obtain ⟨q_3, h⟩ := h
        refine r_lald C sh_11 q_3 dX9_solves_97 ?_
        refine r_lstore C [(7, .long _), (0, .ref _), (3, .int _), (4, .long _), (6, .int _)] dX9_solves_98 (by decide) rfl ?_
        replace h := h _ rfl
        refine r_aload_n C 1 dX9_solves_100 rfl rfl ?_
        refine gX9_44 C dX9_solves_101 ?_
        refine r_bipush (v := (10 : Int32)) C dX9_solves_104 rfl ?_
        refine r_aload_n C 1 dX9_solves_106 rfl rfl ?_
        refine gX9_51 C dX9_solves_107 ?_
        refine r_iload C 4 dX9_solves_110 rfl ?_
        refine r_iald C sh_13 q_2 dX9_solves_112 ?_
        refine r_imul C dX9_solves_113 ?_
        refine r_iload_n C 2 dX9_solves_114 rfl rfl ?_
        refine r_iadd C dX9_solves_115 ?_
        obtain ⟨q_4, h⟩ := h
        refine r_lald C sh_11 q_4 dX9_solves_116 ?_
        refine r_lstore C [(9, .long _), (7, .long _), (0, .ref _), (3, .int _), (4, .long _), (6, .int _)] dX9_solves_117 (by decide) rfl ?_
        replace h := h _ rfl
        refine r_lload C 0 dX9_solves_119 rfl ?_
        refine r_lconst (v := (0 : Int64)) C dX9_solves_121 rfl ?_
        refine r_lcmp C dX9_solves_122 ?_
        refine r_if_eq C 153 dX9_solves_123 (by decide) (fun hc => ?_) (fun hc => ?_)
        · replace h := h.1 ((lg_cmp_eq _ _).mp hc)
          refine r_iconst (v := (0 : Int32)) C dX9_solves_153 rfl ?_
          exact r_zret C (by decide) dX9_solves_154 h
        · replace h := h.2 (fun q9 => hc ((lg_cmp_eq _ _).mpr q9))
          refine r_lload C 1 dX9_solves_126 rfl ?_
          refine r_lconst (v := (0 : Int64)) C dX9_solves_128 rfl ?_
          refine r_lcmp C dX9_solves_129 ?_
          refine mD_X9_solves_130 C ?_
          refine r_lload C 0 dX9_solves_138 rfl ?_
          refine r_lconst (v := (0 : Int64)) C dX9_solves_140 rfl ?_
          refine r_lcmp C dX9_solves_141 ?_
          refine mD_X9_solves_142 C ?_
          refine r_icmp_ne C 155 dX9_solves_150 (by decide) (fun hc => ?_) (fun hc => ?_)
          · replace h := h.1 hc
            refine r_lload C 1 dX9_solves_155 rfl ?_
            refine r_lconst (v := (0 : Int64)) C dX9_solves_157 rfl ?_
            refine r_lcmp C dX9_solves_158 ?_
            refine mD_X9_solves_159 C ?_
            refine r_lload C 1 dX9_solves_170 rfl ?_
            refine r_lload C 0 dX9_solves_172 rfl ?_
            refine cX9_306 C (m_X9_common l h) ⟨Nat.le_of_ble_eq_true rfl, Nat.le_of_ble_eq_true rfl⟩ (Nat.le_of_ble_eq_true rfl) ⟨Nat.le_refl 0, Nat.le_refl 0⟩ dX9_solves_174 (fun r_5 M_8 h => ?_)
            obtain ⟨q_5, h⟩ := h
            refine r_ldiv C dX9_solves_177 q_5 ?_
            refine r_lstore C [(11, .long _), (9, .long _), (7, .long _), (0, .ref _), (3, .int _), (4, .long _), (6, .int _)] dX9_solves_178 (by decide) rfl ?_
            replace h := h _ rfl
            refine r_lload C 5 dX9_solves_180 rfl ?_
            refine r_lload C 5 dX9_solves_182 rfl ?_
            refine r_lload C 0 dX9_solves_184 rfl ?_
            refine cX9_306 C (m_X9_common l h) ⟨Nat.le_of_ble_eq_true rfl, Nat.le_of_ble_eq_true rfl⟩ (Nat.le_of_ble_eq_true rfl) ⟨Nat.le_refl 0, Nat.le_refl 0⟩ dX9_solves_186 (fun r_6 M_9 h => ?_)
            obtain ⟨q_6, h⟩ := h
            refine r_ldiv C dX9_solves_189 q_6 ?_
            refine r_lload C 0 dX9_solves_190 rfl ?_
            refine r_lmul C dX9_solves_192 ?_
            refine r_lstore C [(4, .long _), (11, .long _), (9, .long _), (7, .long _), (0, .ref _), (3, .int _), (6, .int _)] dX9_solves_193 (by decide) rfl ?_
            replace h := h _ rfl
            refine r_iinc C 6 (v := _) [(6, .int _), (4, .long _), (11, .long _), (9, .long _), (7, .long _), (0, .ref _), (3, .int _)] dX9_solves_195 rfl rfl (by decide) rfl ?_
            refine r_goto C 52 dX9_solves_198 (by decide) ?_
            exact r_sub [5, 6, 1, 0] rfl (ih _ _ _ h)
          · replace h := h.2 hc
            refine r_iconst (v := (0 : Int32)) C dX9_solves_153 rfl ?_
            exact r_zret C (by decide) dX9_solves_154 h
      · replace h := h.2 hc
        refine r_goto C 195 dX9_solves_77 (by decide) ?_
        refine r_iinc C 3 (v := _) [(6, .int _), (0, .ref _), (3, .int _), (4, .long _)] dX9_solves_195 rfl rfl (by decide) rfl ?_
        refine r_goto C 52 dX9_solves_198 (by decide) ?_
        exact r_sub [1, 2, 3, 0] rfl (ih _ _ _ h)

set_option maxHeartbeats 1000000 in
set_option maxRecDepth 10000 in
theorem mD_X9_solves_289 (C : rw_C p s m meth c cX9_solves 13 RX9 (some .boolean) D cy ad) {Q : State → Prop} {st : List Value} {M : Mem} {v11 : Int64} {v9 : Int64} {v7 : Int64} {v3 : Int32} {v4 : Int64} {v6 : Int32} {y0 y1 : Int64} (kk : rw_W p l e R s m args below meth c D cy ad 13 0 0 Q 300 [(11, .long v11), (9, .long v9), (7, .long v7), (0, .ref (ad 0)), (3, .int v3), (4, .long v4), (6, .int v6)] (.long (if y1 ≤ y0 then v7 else (-v7)) :: st) M) : rw_W p l e R s m args below meth c D cy ad 13 0 0 Q 289 [(11, .long v11), (9, .long v9), (7, .long v7), (0, .ref (ad 0)), (3, .int v3), (4, .long v4), (6, .int v6)] (.int (lg_cmp y0 y1) :: st) M := by
  refine r_if_ge C 298 dX9_solves_289 (by decide) (fun z0 => ?_) (fun z0 => ?_)
  · have z0 : y1 ≤ y0 := ((lg_cmp_ge _ _).mp z0)
    refine r_lload C 2 dX9_solves_298 rfl ?_
    first | rw [if_pos z0] at kk | rw [if_neg (fun q9 => q9 z0)] at kk
    exact kk
  · have z0 : ¬ y1 ≤ y0 := (fun q9 => z0 ((lg_cmp_ge _ _).mpr q9))
    refine r_lload C 2 dX9_solves_292 rfl ?_
    refine r_lneg C dX9_solves_294 ?_
    refine r_goto C 300 dX9_solves_295 (by decide) ?_
    first | rw [if_neg z0] at kk | rw [if_neg (fun q9 => q9 z0)] at kk
    exact kk

set_option maxHeartbeats 1000000 in
set_option maxRecDepth 10000 in
theorem mD_X9_solves_308 (C : rw_C p s m meth c cX9_solves 13 RX9 (some .boolean) D cy ad) {Q : State → Prop} {st : List Value} {M : Mem} {v11 : Int64} {v9 : Int64} {v7 : Int64} {v3 : Int32} {v4 : Int64} {v6 : Int32} {y0 y1 : Int64} (kk : rw_W p l e R s m args below meth c D cy ad 13 0 0 Q 319 [(11, .long v11), (9, .long v9), (7, .long v7), (0, .ref (ad 0)), (3, .int v3), (4, .long v4), (6, .int v6)] (.long (if y1 ≤ y0 then v9 else (-v9)) :: st) M) : rw_W p l e R s m args below meth c D cy ad 13 0 0 Q 308 [(11, .long v11), (9, .long v9), (7, .long v7), (0, .ref (ad 0)), (3, .int v3), (4, .long v4), (6, .int v6)] (.int (lg_cmp y0 y1) :: st) M := by
  refine r_if_ge C 317 dX9_solves_308 (by decide) (fun z0 => ?_) (fun z0 => ?_)
  · have z0 : y1 ≤ y0 := ((lg_cmp_ge _ _).mp z0)
    refine r_lload C 1 dX9_solves_317 rfl ?_
    first | rw [if_pos z0] at kk | rw [if_neg (fun q9 => q9 z0)] at kk
    exact kk
  · have z0 : ¬ y1 ≤ y0 := (fun q9 => z0 ((lg_cmp_ge _ _).mpr q9))
    refine r_lload C 1 dX9_solves_311 rfl ?_
    refine r_lneg C dX9_solves_313 ?_
    refine r_goto C 319 dX9_solves_314 (by decide) ?_
    first | rw [if_neg z0] at kk | rw [if_neg (fun q9 => q9 z0)] at kk
    exact kk

def L_X9_solves_212 (v3 : Int32) (v4 : Int64) (X330 : Mem → Prop) (K : Int32 → Mem → Prop) : Nat → Int32 → Mem → Prop
  | 0, _, _ => False
  | n + 1, v6, M => (((10 : Int32) ≤ v6 → X330 M) ∧ (¬ (10 : Int32) ≤ v6 → vp_in v6 10 ∧ (((gI M 13 v6) < 0 → L_X9_solves_212 v3 v4 X330 K n (v6 + (1 : Int32)) M) ∧ (¬ (gI M 13 v6) < 0 → vp_in (((10 : Int32) * (gI M 13 v6)) + v6) 100 ∧ ∀ x7_2 : Int64, x7_2 = gL M 11 (((10 : Int32) * (gI M 13 v6)) + v6) → vp_in (((10 : Int32) * (gI M 13 v6)) + v3) 100 ∧ ∀ x9_2 : Int64, x9_2 = gL M 11 (((10 : Int32) * (gI M 13 v6)) + v3) → f_X9_common x7_2 x9_2 M (fun (r_7 : Int64) (M_12 : Mem) => (¬ r_7 = 0) ∧ (¬ ((if (0 : Int64) ≤ x7_2 then x7_2 else (-x7_2)) / r_7) = 0) ∧ ∀ M_13 : Mem, M_13 = wL M_12 12 v6.toNatClampNeg ((v4 / ((if (0 : Int64) ≤ x7_2 then x7_2 else (-x7_2)) / r_7)) * ((if (0 : Int64) ≤ x9_2 then x9_2 else (-x9_2)) / r_7)) → L_X9_solves_212 v3 v4 X330 K n (v6 + (1 : Int32)) M_13)))))

set_option maxHeartbeats 1000000 in
set_option maxRecDepth 10000 in
theorem mL_X9_solves_212 (C : rw_C p s m meth c cX9_solves 13 RX9 (some .boolean) D cy ad) {v3 : Int32} {v4 : Int64} {X330 : Mem → Prop} {K : Int32 → Mem → Prop} (hX330 : ∀  (M : Mem), X330 M → rw_W p l e rm_X9_solves s m args below meth c D cy ad 13 0 0 (rw_Qi below args s D cy ad K) 330 [] [] M) : ∀ (n : Nat) (v6 : Int32) (M : Mem), L_X9_solves_212 v3 v4 X330 K n v6 M → rw_W p l e rm_X9_solves s m args below meth c D cy ad 13 0 0 (rw_Qi below args s D cy ad K) 212 [(0, .ref (ad 0)), (3, .int v3), (4, .long v4), (6, .int v6)] [] M := by
  intro n
  induction n with
  | zero => intro v6 M h; exact h.elim
  | succ n ih =>
    intro v6 M h
    refine r_iload C 3 dX9_solves_212 rfl ?_
    refine r_bipush (v := (10 : Int32)) C dX9_solves_214 rfl ?_
    refine r_icmp_ge C 330 dX9_solves_216 (by decide) (fun hc => ?_) (fun hc => ?_)
    · replace h := h.1 hc
      exact r_sub [] rfl (hX330 _ h)
    · replace h := h.2 hc
      refine r_aload_n C 0 dX9_solves_219 rfl rfl ?_
      refine gX9_51 C dX9_solves_220 ?_
      refine r_iload C 3 dX9_solves_223 rfl ?_
      obtain ⟨q_8, h⟩ := h
      refine r_iald C sh_13 q_8 dX9_solves_225 ?_
      refine r_if_lt C 324 dX9_solves_226 (by decide) (fun hc => ?_) (fun hc => ?_)
      · replace h := h.1 hc
        refine r_iinc C 3 (v := _) [(6, .int _), (0, .ref _), (3, .int _), (4, .long _)] dX9_solves_324 rfl rfl (by decide) rfl ?_
        refine r_goto C 212 dX9_solves_327 (by decide) ?_
        exact r_sub [1, 2, 3, 0] rfl (ih _ _ h)
      · replace h := h.2 hc
        refine r_aload_n C 0 dX9_solves_229 rfl rfl ?_
        refine gX9_44 C dX9_solves_230 ?_
        refine r_bipush (v := (10 : Int32)) C dX9_solves_233 rfl ?_
        refine r_aload_n C 0 dX9_solves_235 rfl rfl ?_
        refine gX9_51 C dX9_solves_236 ?_
        refine r_iload C 3 dX9_solves_239 rfl ?_
        refine r_iald C sh_13 q_8 dX9_solves_241 ?_
        refine r_imul C dX9_solves_242 ?_
        refine r_iload C 3 dX9_solves_243 rfl ?_
        refine r_iadd C dX9_solves_245 ?_
        obtain ⟨q_9, h⟩ := h
        refine r_lald C sh_11 q_9 dX9_solves_246 ?_
        refine r_lstore C [(7, .long _), (0, .ref _), (3, .int _), (4, .long _), (6, .int _)] dX9_solves_247 (by decide) rfl ?_
        replace h := h _ rfl
        refine r_aload_n C 1 dX9_solves_249 rfl rfl ?_
        refine gX9_44 C dX9_solves_250 ?_
        refine r_bipush (v := (10 : Int32)) C dX9_solves_253 rfl ?_
        refine r_aload_n C 1 dX9_solves_255 rfl rfl ?_
        refine gX9_51 C dX9_solves_256 ?_
        refine r_iload C 4 dX9_solves_259 rfl ?_
        refine r_iald C sh_13 q_8 dX9_solves_261 ?_
        refine r_imul C dX9_solves_262 ?_
        refine r_iload_n C 2 dX9_solves_263 rfl rfl ?_
        refine r_iadd C dX9_solves_264 ?_
        obtain ⟨q_10, h⟩ := h
        refine r_lald C sh_11 q_10 dX9_solves_265 ?_
        refine r_lstore C [(9, .long _), (7, .long _), (0, .ref _), (3, .int _), (4, .long _), (6, .int _)] dX9_solves_266 (by decide) rfl ?_
        replace h := h _ rfl
        refine r_lload C 1 dX9_solves_268 rfl ?_
        refine r_lload C 0 dX9_solves_270 rfl ?_
        refine cX9_306 C (m_X9_common l h) ⟨Nat.le_of_ble_eq_true rfl, Nat.le_of_ble_eq_true rfl⟩ (Nat.le_of_ble_eq_true rfl) ⟨Nat.le_refl 0, Nat.le_refl 0⟩ dX9_solves_272 (fun r_7 M_12 h => ?_)
        refine r_lstore C [(11, .long _), (9, .long _), (7, .long _), (0, .ref _), (3, .int _), (4, .long _), (6, .int _)] dX9_solves_275 (by decide) rfl ?_
        refine r_aload_n C 3 dX9_solves_277 rfl rfl ?_
        refine gX9_48 C dX9_solves_278 ?_
        refine r_iload C 6 dX9_solves_281 rfl ?_
        refine r_lload C 5 dX9_solves_283 rfl ?_
        refine r_lload C 2 dX9_solves_285 rfl ?_
        refine r_lconst (v := (0 : Int64)) C dX9_solves_287 rfl ?_
        refine r_lcmp C dX9_solves_288 ?_
        refine mD_X9_solves_289 C ?_
        refine r_lload C 0 dX9_solves_300 rfl ?_
        obtain ⟨q_11, h⟩ := h
        refine r_ldiv C dX9_solves_302 q_11 ?_
        obtain ⟨q_12, h⟩ := h
        refine r_ldiv C dX9_solves_303 q_12 ?_
        refine r_lload C 1 dX9_solves_304 rfl ?_
        refine r_lconst (v := (0 : Int64)) C dX9_solves_306 rfl ?_
        refine r_lcmp C dX9_solves_307 ?_
        refine mD_X9_solves_308 C ?_
        refine r_lload C 0 dX9_solves_319 rfl ?_
        refine r_ldiv C dX9_solves_321 q_11 ?_
        refine r_lmul C dX9_solves_322 ?_
        refine r_last C sh_12 q_8 dX9_solves_323 ?_
        replace h := h _ rfl
        refine r_iinc C 6 (v := _) [(6, .int _), (11, .long _), (9, .long _), (7, .long _), (0, .ref _), (3, .int _), (4, .long _)] dX9_solves_324 rfl rfl (by decide) rfl ?_
        refine r_goto C 212 dX9_solves_327 (by decide) ?_
        exact r_sub [4, 5, 6, 0] rfl (ih _ _ h)

def f_X9_solves (v1 : Int32) (v2 : Int32) (M : Mem) (K : Int32 → Mem → Prop) : Prop := f_X9_layRows v1 v2 M (fun (M_2 : Mem) => f_X9_many v2 M_2 (fun (r_2 : Int32) (M_3 : Mem) => f_X9_eliminates  M_3 (fun (r_3 : Int32) (M_4 : Mem) => (((r_2 - r_3) = (1 : Int32) → (∃ k23 : Nat, L_X9_solves_23 v2 (fun (v3_2 : Int32) (M_6 : Mem) => ∀ x4 : Int64, x4 = (1 : Int64) → (∃ k52 : Nat, L_X9_solves_52 v3_2 (fun (v4_2 : Int64) (M_10 : Mem) => vp_in v3_2 10 ∧ ∀ M_11 : Mem, M_11 = wL M_10 12 v3_2.toNatClampNeg v4_2 → (∃ k212 : Nat, L_X9_solves_212 v3_2 v4_2 (fun  (M_14 : Mem) => K (1 : Int32) M_14) K k212 (0 : Int32) M_11)) K k52 x4 (0 : Int32) M_6)) K k23 (0 : Int32) M_4)) ∧ (¬ (r_2 - r_3) = (1 : Int32) → K (0 : Int32) M_4)))))

set_option maxHeartbeats 1000000 in
set_option maxRecDepth 10000 in
theorem m_X9_solves (l : Launch) {v1 : Int32} {v2 : Int32}  {M : Mem} {K : Int32 → Mem → Prop} (h : f_X9_solves v1 v2 M K) : CTi l yX9_solves cX9_solves 13 (some .boolean) rm_X9_solves (fun ad => [.ref (ad 0), .int v1, .int v2]) M K := by
  refine rw_enti (by decide +kernel) (fun ad => Nat.le_of_ble_eq_true rfl) (fun p e s m args below meth c D cy ad C => ?_)
  change rw_W p l e _ s m args below meth c D cy ad 13 0 0 _ 0 [(0, .ref (ad 0)), (1, .int v1), (2, .int v2)] [] M
  unfold f_X9_solves at h
  refine r_aload_n C 0 dX9_solves_0 rfl rfl ?_
  refine r_iload_n C 1 dX9_solves_1 rfl rfl ?_
  refine r_iload_n C 2 dX9_solves_2 rfl rfl ?_
  refine cX9_317 C (m_X9_layRows l h) ⟨Nat.le_of_ble_eq_true rfl, Nat.le_of_ble_eq_true rfl⟩ (Nat.le_of_ble_eq_true rfl) ⟨Nat.le_refl 0, Nat.le_refl 0⟩ dX9_solves_3 (fun M_2 h => ?_)
  refine r_iload_n C 2 dX9_solves_6 rfl rfl ?_
  refine cX9_266 C (m_X9_many l h) ⟨Nat.le_of_ble_eq_true rfl, Nat.le_of_ble_eq_true rfl⟩ (Nat.le_of_ble_eq_true rfl) ⟨Nat.le_refl 0, Nat.le_refl 0⟩ dX9_solves_7 (fun r_2 M_3 h => ?_)
  refine r_aload_n C 0 dX9_solves_10 rfl rfl ?_
  refine cX9_320 C (m_X9_eliminates l h) ⟨Nat.le_of_ble_eq_true rfl, Nat.le_of_ble_eq_true rfl⟩ (Nat.le_of_ble_eq_true rfl) ⟨Nat.le_refl 0, Nat.le_refl 0⟩ dX9_solves_11 (fun r_3 M_4 h => ?_)
  refine r_isub C dX9_solves_14 ?_
  refine r_iconst (v := (1 : Int32)) C dX9_solves_15 rfl ?_
  refine r_icmp_eq C 21 dX9_solves_16 (by decide) (fun hc => ?_) (fun hc => ?_)
  · replace h := h.1 hc
    refine r_iconst (v := (0 : Int32)) C dX9_solves_21 rfl ?_
    refine r_istore_n C [(3, .int _), (0, .ref _), (1, .int _), (2, .int _)] dX9_solves_22 rfl (by decide) rfl ?_
    obtain ⟨n23, h⟩ := h
    refine r_sub [1, 3, 0] rfl (mL_X9_solves_23 C (fun v3_2 M_6 h => ?_) n23 _ _ h)
    refine r_lconst (v := (1 : Int64)) C dX9_solves_46 rfl ?_
    refine r_lstore C [(4, .long _), (0, .ref _), (3, .int _)] dX9_solves_47 (by decide) rfl ?_
    replace h := h _ rfl
    refine r_iconst (v := (0 : Int32)) C dX9_solves_49 rfl ?_
    refine r_istore C [(6, .int _), (4, .long _), (0, .ref _), (3, .int _)] dX9_solves_50 (by decide) rfl ?_
    obtain ⟨n52, h⟩ := h
    refine r_sub [2, 3, 1, 0] rfl (mL_X9_solves_52 C (fun v4_2 M_10 h => ?_) n52 _ _ _ h)
    refine r_aload_n C 0 dX9_solves_201 rfl rfl ?_
    refine gX9_48 C dX9_solves_202 ?_
    refine r_iload_n C 1 dX9_solves_205 rfl rfl ?_
    refine r_lload C 2 dX9_solves_206 rfl ?_
    obtain ⟨q_7, h⟩ := h
    refine r_last C sh_12 q_7 dX9_solves_208 ?_
    replace h := h _ rfl
    refine r_iconst (v := (0 : Int32)) C dX9_solves_209 rfl ?_
    refine r_istore C [(6, .int _), (0, .ref _), (3, .int _), (4, .long _)] dX9_solves_210 (by decide) rfl ?_
    obtain ⟨n212, h⟩ := h
    refine r_sub [1, 2, 3, 0] rfl (mL_X9_solves_212 C (fun M_14 h => ?_) n212 _ _ h)
    refine r_iconst (v := (1 : Int32)) C dX9_solves_330 rfl ?_
    exact r_zret C (by decide) dX9_solves_331 h
  · replace h := h.2 hc
    refine r_iconst (v := (0 : Int32)) C dX9_solves_19 rfl ?_
    exact r_zret C (by decide) dX9_solves_20 h
def S_X9_placesOf_14 (v1 : Int32) (v2 : Int32) (v3 : Int32) (v4 : Int32) (o0 : Int32) (b0 : Int32) (X46 : Int32 → Mem → Prop) (K : Int32 → Mem → Prop) (M : Mem) : Prop := (o0 = 0 → f_X9_arcAt (0 : Int32) v1 v4 M (fun (r : Int32) (M_2 : Mem) => vp_in r 240 ∧ X46 (gI M_2 2 r) M_2)) ∧ (¬ o0 = 0 → f_X9_arcAt (0 : Int32) v1 v4 M (fun (r_2 : Int32) (M_3 : Mem) => vp_in r_2 240 ∧ X46 (gI M_3 1 r_2) M_3))

set_option maxHeartbeats 1000000 in
set_option maxRecDepth 10000 in
theorem mS_X9_placesOf_14 (C : rw_C p s m meth c cX9_placesOf 5 RX9 (some .int) D cy ad) {v1 : Int32} {v2 : Int32} {v3 : Int32} {v4 : Int32} {o0 : Int32} {b0 : Int32} {X46 : Int32 → Mem → Prop} {K : Int32 → Mem → Prop} {M : Mem} (hX46 : ∀  (w0 : Int32) (M : Mem), X46 w0 M → rw_W p l e rm_X9_placesOf s m args below meth c D cy ad 5 0 0 (rw_Qi below args s D cy ad K) 46 [(0, .ref (ad 0)), (1, .int v1), (2, .int v2), (4, .int v4)] [.int w0, .int b0] M) (h : S_X9_placesOf_14 v1 v2 v3 v4 o0 b0 X46 K M) : rw_W p l e rm_X9_placesOf s m args below meth c D cy ad 5 0 0 (rw_Qi below args s D cy ad K) 14 [(0, .ref (ad 0)), (1, .int v1), (2, .int v2), (3, .int v3), (4, .int v4)] [.int o0, .int b0] M := by
  refine r_if_eq C 33 dX9_placesOf_14 (by decide) (fun hc => ?_) (fun hc => ?_)
  · replace h := h.1 hc
    refine r_aload_n C 0 dX9_placesOf_33 rfl rfl ?_
    refine gX9_13 C dX9_placesOf_34 ?_
    refine r_aload_n C 0 dX9_placesOf_37 rfl rfl ?_
    refine r_iconst (v := (0 : Int32)) C dX9_placesOf_38 rfl ?_
    refine r_iload_n C 1 dX9_placesOf_39 rfl rfl ?_
    refine r_iload C 4 dX9_placesOf_40 rfl ?_
    refine cX9_144 C (m_X9_arcAt l h) ⟨Nat.le_of_ble_eq_true rfl, Nat.le_of_ble_eq_true rfl⟩ (Nat.le_of_ble_eq_true rfl) ⟨Nat.le_refl 0, Nat.le_refl 0⟩ dX9_placesOf_42 (fun r M_2 h => ?_)
    obtain ⟨q, h⟩ := h
    refine r_iald C sh_2 q dX9_placesOf_45 ?_
    exact r_sub [0, 1, 2, 4] rfl (hX46 _ _ h)
  · replace h := h.2 hc
    refine r_aload_n C 0 dX9_placesOf_17 rfl rfl ?_
    refine gX9_7 C dX9_placesOf_18 ?_
    refine r_aload_n C 0 dX9_placesOf_21 rfl rfl ?_
    refine r_iconst (v := (0 : Int32)) C dX9_placesOf_22 rfl ?_
    refine r_iload_n C 1 dX9_placesOf_23 rfl rfl ?_
    refine r_iload C 4 dX9_placesOf_24 rfl ?_
    refine cX9_144 C (m_X9_arcAt l h) ⟨Nat.le_of_ble_eq_true rfl, Nat.le_of_ble_eq_true rfl⟩ (Nat.le_of_ble_eq_true rfl) ⟨Nat.le_refl 0, Nat.le_refl 0⟩ dX9_placesOf_26 (fun r_2 M_3 h => ?_)
    obtain ⟨q_2, h⟩ := h
    refine r_iald C sh_1 q_2 dX9_placesOf_29 ?_
    refine r_goto C 46 dX9_placesOf_30 (by decide) ?_
    exact r_sub [0, 1, 2, 4] rfl (hX46 _ _ h)

def L_X9_placesOf_5 (v1 : Int32) (v2 : Int32) (X65 : Int32 → Mem → Prop) (K : Int32 → Mem → Prop) : Nat → Int32 → Int32 → Mem → Prop
  | 0, _, _, _ => False
  | n + 1, v3, v4, M => (((10 : Int32) ≤ v4 → X65 v3 M) ∧ (¬ (10 : Int32) ≤ v4 → (S_X9_placesOf_14 v1 v2 v3 v4 v2 v3 (fun (w : Int32) (M_4 : Mem) => ((w ≤ 0 → ∀ x3 : Int32, x3 = v3 ||| (0 : Int32) → L_X9_placesOf_5 v1 v2 X65 K n x3 (v4 + (1 : Int32)) M_4) ∧ (¬ w ≤ 0 → ∀ x3_2 : Int32, x3_2 = v3 ||| ((1 : Int32) <<< (v4 &&& 31)) → L_X9_placesOf_5 v1 v2 X65 K n x3_2 (v4 + (1 : Int32)) M_4))) K M)))

set_option maxHeartbeats 1000000 in
set_option maxRecDepth 10000 in
theorem mL_X9_placesOf_5 (C : rw_C p s m meth c cX9_placesOf 5 RX9 (some .int) D cy ad) {v1 : Int32} {v2 : Int32} {X65 : Int32 → Mem → Prop} {K : Int32 → Mem → Prop} (hX65 : ∀ (u3 : Int32) (M : Mem), X65 u3 M → rw_W p l e rm_X9_placesOf s m args below meth c D cy ad 5 0 0 (rw_Qi below args s D cy ad K) 65 [(3, .int u3)] [] M) : ∀ (n : Nat) (v3 : Int32) (v4 : Int32) (M : Mem), L_X9_placesOf_5 v1 v2 X65 K n v3 v4 M → rw_W p l e rm_X9_placesOf s m args below meth c D cy ad 5 0 0 (rw_Qi below args s D cy ad K) 5 [(0, .ref (ad 0)), (1, .int v1), (2, .int v2), (3, .int v3), (4, .int v4)] [] M := by
  intro n
  induction n with
  | zero => intro v3 v4 M h; exact h.elim
  | succ n ih =>
    intro v3 v4 M h
    refine r_iload C 4 dX9_placesOf_5 rfl ?_
    refine r_bipush (v := (10 : Int32)) C dX9_placesOf_7 rfl ?_
    refine r_icmp_ge C 65 dX9_placesOf_9 (by decide) (fun hc => ?_) (fun hc => ?_)
    · replace h := h.1 hc
      exact r_sub [3] rfl (hX65 _ _ h)
    · replace h := h.2 hc
      refine r_iload_n C 3 dX9_placesOf_12 rfl rfl ?_
      refine r_iload_n C 2 dX9_placesOf_13 rfl rfl ?_
      refine mS_X9_placesOf_14 C (fun w M_4 h => ?_) h
      refine r_if_le C 56 dX9_placesOf_46 (by decide) (fun hc => ?_) (fun hc => ?_)
      · replace h := h.1 hc
        refine r_iconst (v := (0 : Int32)) C dX9_placesOf_56 rfl ?_
        refine r_ior C dX9_placesOf_57 ?_
        refine r_istore_n C [(3, .int _), (0, .ref _), (1, .int _), (2, .int _), (4, .int _)] dX9_placesOf_58 rfl (by decide) rfl ?_
        replace h := h _ rfl
        refine r_iinc C 4 (v := _) [(4, .int _), (3, .int _), (0, .ref _), (1, .int _), (2, .int _)] dX9_placesOf_59 rfl rfl (by decide) rfl ?_
        refine r_goto C 5 dX9_placesOf_62 (by decide) ?_
        exact r_sub [2, 3, 4, 1, 0] rfl (ih _ _ _ h)
      · replace h := h.2 hc
        refine r_iconst (v := (1 : Int32)) C dX9_placesOf_49 rfl ?_
        refine r_iload C 3 dX9_placesOf_50 rfl ?_
        refine r_ishl C dX9_placesOf_52 ?_
        refine r_goto C 57 dX9_placesOf_53 (by decide) ?_
        refine r_ior C dX9_placesOf_57 ?_
        refine r_istore_n C [(3, .int _), (0, .ref _), (1, .int _), (2, .int _), (4, .int _)] dX9_placesOf_58 rfl (by decide) rfl ?_
        replace h := h _ rfl
        refine r_iinc C 4 (v := _) [(4, .int _), (3, .int _), (0, .ref _), (1, .int _), (2, .int _)] dX9_placesOf_59 rfl rfl (by decide) rfl ?_
        refine r_goto C 5 dX9_placesOf_62 (by decide) ?_
        exact r_sub [2, 3, 4, 1, 0] rfl (ih _ _ _ h)

def f_X9_placesOf (v1 : Int32) (v2 : Int32) (M : Mem) (K : Int32 → Mem → Prop) : Prop := (∃ k5 : Nat, L_X9_placesOf_5 v1 v2 (fun (v3_2 : Int32) (M_5 : Mem) => K v3_2 M_5) K k5 (0 : Int32) (0 : Int32) M)

set_option maxHeartbeats 1000000 in
set_option maxRecDepth 10000 in
theorem m_X9_placesOf (l : Launch) {v1 : Int32} {v2 : Int32}  {M : Mem} {K : Int32 → Mem → Prop} (h : f_X9_placesOf v1 v2 M K) : CTi l yX9_placesOf cX9_placesOf 5 (some .int) rm_X9_placesOf (fun ad => [.ref (ad 0), .int v1, .int v2]) M K := by
  refine rw_enti (by decide +kernel) (fun ad => Nat.le_of_ble_eq_true rfl) (fun p e s m args below meth c D cy ad C => ?_)
  change rw_W p l e _ s m args below meth c D cy ad 5 0 0 _ 0 [(0, .ref (ad 0)), (1, .int v1), (2, .int v2)] [] M
  unfold f_X9_placesOf at h
  refine r_iconst (v := (0 : Int32)) C dX9_placesOf_0 rfl ?_
  refine r_istore_n C [(3, .int _), (0, .ref _), (1, .int _), (2, .int _)] dX9_placesOf_1 rfl (by decide) rfl ?_
  refine r_iconst (v := (0 : Int32)) C dX9_placesOf_2 rfl ?_
  refine r_istore C [(4, .int _), (3, .int _), (0, .ref _), (1, .int _), (2, .int _)] dX9_placesOf_3 (by decide) rfl ?_
  obtain ⟨n5, h⟩ := h
  refine r_sub [2, 3, 4, 1, 0] rfl (mL_X9_placesOf_5 C (fun v3_2 M_5 h => ?_) n5 _ _ _ h)
  refine r_iload_n C 0 dX9_placesOf_65 rfl rfl ?_
  exact r_iret C dX9_placesOf_66 h
set_option maxHeartbeats 1000000 in
set_option maxRecDepth 10000 in
theorem mD_X9_isClosed_12 (C : rw_C p s m meth c cX9_isClosed 4 RX9 (some .boolean) D cy ad) {Q : State → Prop} {st : List Value} {M : Mem} {v1 : Int32} {v2 : Int32} {v3 : Int32} {o0 : Int32} {o1 : Int32} (kk : rw_W p l e R s m args below meth c D cy ad 4 0 0 Q 20 [(0, .ref (ad 0)), (1, .int v1), (2, .int v2), (3, .int v3)] (.int (if ¬ o1 = o0 then (0 : Int32) else (1 : Int32)) :: st) M) : rw_W p l e R s m args below meth c D cy ad 4 0 0 Q 12 [(0, .ref (ad 0)), (1, .int v1), (2, .int v2), (3, .int v3)] (.int o0 :: .int o1 :: st) M := by
  refine r_icmp_ne C 19 dX9_isClosed_12 (by decide) (fun z0 => ?_) (fun z0 => ?_)
  · skip
    refine r_iconst (v := (0 : Int32)) C dX9_isClosed_19 rfl ?_
    first | rw [if_pos z0] at kk | rw [if_neg (fun q9 => q9 z0)] at kk
    exact kk
  · skip
    refine r_iconst (v := (1 : Int32)) C dX9_isClosed_15 rfl ?_
    refine r_goto C 20 dX9_isClosed_16 (by decide) ?_
    first | rw [if_neg z0] at kk | rw [if_neg (fun q9 => q9 z0)] at kk
    exact kk

set_option maxHeartbeats 1000000 in
set_option maxRecDepth 10000 in
theorem mD_X9_isClosed_31 (C : rw_C p s m meth c cX9_isClosed 4 RX9 (some .boolean) D cy ad) {Q : State → Prop} {st : List Value} {M : Mem} {v1 : Int32} {v2 : Int32} {v3 : Int32} {o0 : Int32} (kk : rw_W p l e R s m args below meth c D cy ad 4 0 0 Q 39 [(0, .ref (ad 0)), (1, .int v1), (2, .int v2), (3, .int v3)] (.int (if ¬ o0 = 0 then (0 : Int32) else (1 : Int32)) :: st) M) : rw_W p l e R s m args below meth c D cy ad 4 0 0 Q 31 [(0, .ref (ad 0)), (1, .int v1), (2, .int v2), (3, .int v3)] (.int o0 :: st) M := by
  refine r_if_ne C 38 dX9_isClosed_31 (by decide) (fun z0 => ?_) (fun z0 => ?_)
  · skip
    refine r_iconst (v := (0 : Int32)) C dX9_isClosed_38 rfl ?_
    first | rw [if_pos z0] at kk | rw [if_neg (fun q9 => q9 z0)] at kk
    exact kk
  · skip
    refine r_iconst (v := (1 : Int32)) C dX9_isClosed_34 rfl ?_
    refine r_goto C 39 dX9_isClosed_35 (by decide) ?_
    first | rw [if_neg z0] at kk | rw [if_neg (fun q9 => q9 z0)] at kk
    exact kk

def L_X9_isClosed_2 (v1 : Int32) (v2 : Int32) (X55 : Mem → Prop) (K : Int32 → Mem → Prop) : Nat → Int32 → Mem → Prop
  | 0, _, _ => False
  | n + 1, v3, M => (((8 : Int32) ≤ v3 → X55 M) ∧ (¬ (8 : Int32) ≤ v3 → f_X9_placesOf v3 (if ¬ v1 = (1 : Int32) then (0 : Int32) else (1 : Int32)) M (fun (r : Int32) (M_2 : Mem) => (((r &&& v2) = 0 → L_X9_isClosed_2 v1 v2 X55 K n (v3 + (1 : Int32)) M_2) ∧ (¬ (r &&& v2) = 0 → f_X9_placesOf v3 (if ¬ v1 = 0 then (0 : Int32) else (1 : Int32)) M_2 (fun (r_2 : Int32) (M_3 : Mem) => ((¬ (r_2 &&& v2) = 0 → L_X9_isClosed_2 v1 v2 X55 K n (v3 + (1 : Int32)) M_3) ∧ ((r_2 &&& v2) = 0 → K (0 : Int32) M_3))))))))

set_option maxHeartbeats 1000000 in
set_option maxRecDepth 10000 in
theorem mL_X9_isClosed_2 (C : rw_C p s m meth c cX9_isClosed 4 RX9 (some .boolean) D cy ad) {v1 : Int32} {v2 : Int32} {X55 : Mem → Prop} {K : Int32 → Mem → Prop} (hX55 : ∀  (M : Mem), X55 M → rw_W p l e rm_X9_isClosed s m args below meth c D cy ad 4 0 0 (rw_Qi below args s D cy ad K) 55 [] [] M) : ∀ (n : Nat) (v3 : Int32) (M : Mem), L_X9_isClosed_2 v1 v2 X55 K n v3 M → rw_W p l e rm_X9_isClosed s m args below meth c D cy ad 4 0 0 (rw_Qi below args s D cy ad K) 2 [(0, .ref (ad 0)), (1, .int v1), (2, .int v2), (3, .int v3)] [] M := by
  intro n
  induction n with
  | zero => intro v3 M h; exact h.elim
  | succ n ih =>
    intro v3 M h
    refine r_iload_n C 3 dX9_isClosed_2 rfl rfl ?_
    refine r_bipush (v := (8 : Int32)) C dX9_isClosed_3 rfl ?_
    refine r_icmp_ge C 55 dX9_isClosed_5 (by decide) (fun hc => ?_) (fun hc => ?_)
    · replace h := h.1 hc
      exact r_sub [] rfl (hX55 _ h)
    · replace h := h.2 hc
      refine r_aload_n C 0 dX9_isClosed_8 rfl rfl ?_
      refine r_iload_n C 3 dX9_isClosed_9 rfl rfl ?_
      refine r_iload_n C 1 dX9_isClosed_10 rfl rfl ?_
      refine r_iconst (v := (1 : Int32)) C dX9_isClosed_11 rfl ?_
      refine mD_X9_isClosed_12 C ?_
      refine cX9_332 C (m_X9_placesOf l h) ⟨Nat.le_of_ble_eq_true rfl, Nat.le_of_ble_eq_true rfl⟩ (Nat.le_of_ble_eq_true rfl) ⟨Nat.le_refl 0, Nat.le_refl 0⟩ dX9_isClosed_20 (fun r M_2 h => ?_)
      refine r_iload_n C 2 dX9_isClosed_23 rfl rfl ?_
      refine r_iand C dX9_isClosed_24 ?_
      refine r_if_eq C 49 dX9_isClosed_25 (by decide) (fun hc => ?_) (fun hc => ?_)
      · replace h := h.1 hc
        refine r_iinc C 3 (v := _) [(3, .int _), (0, .ref _), (1, .int _), (2, .int _)] dX9_isClosed_49 rfl rfl (by decide) rfl ?_
        refine r_goto C 2 dX9_isClosed_52 (by decide) ?_
        exact r_sub [1, 2, 3, 0] rfl (ih _ _ h)
      · replace h := h.2 hc
        refine r_aload_n C 0 dX9_isClosed_28 rfl rfl ?_
        refine r_iload_n C 3 dX9_isClosed_29 rfl rfl ?_
        refine r_iload_n C 1 dX9_isClosed_30 rfl rfl ?_
        refine mD_X9_isClosed_31 C ?_
        refine cX9_332 C (m_X9_placesOf l h) ⟨Nat.le_of_ble_eq_true rfl, Nat.le_of_ble_eq_true rfl⟩ (Nat.le_of_ble_eq_true rfl) ⟨Nat.le_refl 0, Nat.le_refl 0⟩ dX9_isClosed_39 (fun r_2 M_3 h => ?_)
        refine r_iload_n C 2 dX9_isClosed_42 rfl rfl ?_
        refine r_iand C dX9_isClosed_43 ?_
        refine r_if_ne C 49 dX9_isClosed_44 (by decide) (fun hc => ?_) (fun hc => ?_)
        · replace h := h.1 hc
          refine r_iinc C 3 (v := _) [(3, .int _), (0, .ref _), (1, .int _), (2, .int _)] dX9_isClosed_49 rfl rfl (by decide) rfl ?_
          refine r_goto C 2 dX9_isClosed_52 (by decide) ?_
          exact r_sub [1, 2, 3, 0] rfl (ih _ _ h)
        · replace h := h.2 hc
          refine r_iconst (v := (0 : Int32)) C dX9_isClosed_47 rfl ?_
          exact r_zret C (by decide) dX9_isClosed_48 h

def f_X9_isClosed (v1 : Int32) (v2 : Int32) (M : Mem) (K : Int32 → Mem → Prop) : Prop := (∃ k2 : Nat, L_X9_isClosed_2 v1 v2 (fun  (M_4 : Mem) => K (1 : Int32) M_4) K k2 (0 : Int32) M)

set_option maxHeartbeats 1000000 in
set_option maxRecDepth 10000 in
theorem m_X9_isClosed (l : Launch) {v1 : Int32} {v2 : Int32}  {M : Mem} {K : Int32 → Mem → Prop} (h : f_X9_isClosed v1 v2 M K) : CTi l yX9_isClosed cX9_isClosed 4 (some .boolean) rm_X9_isClosed (fun ad => [.ref (ad 0), .int v1, .int v2]) M K := by
  refine rw_enti (by decide +kernel) (fun ad => Nat.le_of_ble_eq_true rfl) (fun p e s m args below meth c D cy ad C => ?_)
  change rw_W p l e _ s m args below meth c D cy ad 4 0 0 _ 0 [(0, .ref (ad 0)), (1, .int v1), (2, .int v2)] [] M
  unfold f_X9_isClosed at h
  refine r_iconst (v := (0 : Int32)) C dX9_isClosed_0 rfl ?_
  refine r_istore_n C [(3, .int _), (0, .ref _), (1, .int _), (2, .int _)] dX9_isClosed_1 rfl (by decide) rfl ?_
  obtain ⟨n2, h⟩ := h
  refine r_sub [1, 2, 3, 0] rfl (mL_X9_isClosed_2 C (fun M_4 h => ?_) n2 _ _ h)
  refine r_iconst (v := (1 : Int32)) C dX9_isClosed_55 rfl ?_
  exact r_zret C (by decide) dX9_isClosed_56 h
def L_X9_hasLess_2 (v1 : Int32) (v2 : Int32) (X39 : Mem → Prop) (K : Int32 → Mem → Prop) : Nat → Int32 → Mem → Prop
  | 0, _, _ => False
  | n + 1, v3, M => vp_in v1 2 ∧ (((gI M 18 v1) ≤ v3 → X39 M) ∧ (¬ (gI M 18 v1) ≤ v3 → vp_in (((260 : Int32) * v1) + v3) 520 ∧ ((¬ ((gI M 16 (((260 : Int32) * v1) + v3)) &&& (v2 ^^^ (-1 : Int32))) = 0 → L_X9_hasLess_2 v1 v2 X39 K n (v3 + (1 : Int32)) M) ∧ (((gI M 16 (((260 : Int32) * v1) + v3)) &&& (v2 ^^^ (-1 : Int32))) = 0 → K (1 : Int32) M))))

set_option maxHeartbeats 1000000 in
set_option maxRecDepth 10000 in
theorem mL_X9_hasLess_2 (C : rw_C p s m meth c cX9_hasLess 4 RX9 (some .boolean) D cy ad) {v1 : Int32} {v2 : Int32} {X39 : Mem → Prop} {K : Int32 → Mem → Prop} (hX39 : ∀  (M : Mem), X39 M → rw_W p l e rm_X9_hasLess s m args below meth c D cy ad 4 0 0 (rw_Qi below args s D cy ad K) 39 [] [] M) : ∀ (n : Nat) (v3 : Int32) (M : Mem), L_X9_hasLess_2 v1 v2 X39 K n v3 M → rw_W p l e rm_X9_hasLess s m args below meth c D cy ad 4 0 0 (rw_Qi below args s D cy ad K) 2 [(0, .ref (ad 0)), (1, .int v1), (2, .int v2), (3, .int v3)] [] M := by
  intro n
  induction n with
  | zero => intro v3 M h; exact h.elim
  | succ n ih =>
    intro v3 M h
    refine r_iload_n C 3 dX9_hasLess_2 rfl rfl ?_
    refine r_aload_n C 0 dX9_hasLess_3 rfl rfl ?_
    refine gX9_66 C dX9_hasLess_4 ?_
    refine r_iload_n C 1 dX9_hasLess_7 rfl rfl ?_
    obtain ⟨q, h⟩ := h
    refine r_iald C sh_18 q dX9_hasLess_8 ?_
    refine r_icmp_ge C 39 dX9_hasLess_9 (by decide) (fun hc => ?_) (fun hc => ?_)
    · replace h := h.1 hc
      exact r_sub [] rfl (hX39 _ h)
    · replace h := h.2 hc
      refine r_aload_n C 0 dX9_hasLess_12 rfl rfl ?_
      refine gX9_60 C dX9_hasLess_13 ?_
      refine r_sipush (v := (260 : Int32)) C dX9_hasLess_16 rfl ?_
      refine r_iload_n C 1 dX9_hasLess_19 rfl rfl ?_
      refine r_imul C dX9_hasLess_20 ?_
      refine r_iload_n C 3 dX9_hasLess_21 rfl rfl ?_
      refine r_iadd C dX9_hasLess_22 ?_
      obtain ⟨q_2, h⟩ := h
      refine r_iald C sh_16 q_2 dX9_hasLess_23 ?_
      refine r_iload_n C 2 dX9_hasLess_24 rfl rfl ?_
      refine r_iconst (v := (-1 : Int32)) C dX9_hasLess_25 rfl ?_
      refine r_ixor C dX9_hasLess_26 ?_
      refine r_iand C dX9_hasLess_27 ?_
      refine r_if_ne C 33 dX9_hasLess_28 (by decide) (fun hc => ?_) (fun hc => ?_)
      · replace h := h.1 hc
        refine r_iinc C 3 (v := _) [(3, .int _), (0, .ref _), (1, .int _), (2, .int _)] dX9_hasLess_33 rfl rfl (by decide) rfl ?_
        refine r_goto C 2 dX9_hasLess_36 (by decide) ?_
        exact r_sub [1, 2, 3, 0] rfl (ih _ _ h)
      · replace h := h.2 hc
        refine r_iconst (v := (1 : Int32)) C dX9_hasLess_31 rfl ?_
        exact r_zret C (by decide) dX9_hasLess_32 h

def f_X9_hasLess (v1 : Int32) (v2 : Int32) (M : Mem) (K : Int32 → Mem → Prop) : Prop := (∃ k2 : Nat, L_X9_hasLess_2 v1 v2 (fun  (M_2 : Mem) => K (0 : Int32) M_2) K k2 (0 : Int32) M)

set_option maxHeartbeats 1000000 in
set_option maxRecDepth 10000 in
theorem m_X9_hasLess (l : Launch) {v1 : Int32} {v2 : Int32}  {M : Mem} {K : Int32 → Mem → Prop} (h : f_X9_hasLess v1 v2 M K) : CTi l yX9_hasLess cX9_hasLess 4 (some .boolean) rm_X9_hasLess (fun ad => [.ref (ad 0), .int v1, .int v2]) M K := by
  refine rw_enti (by decide +kernel) (fun ad => Nat.le_of_ble_eq_true rfl) (fun p e s m args below meth c D cy ad C => ?_)
  change rw_W p l e _ s m args below meth c D cy ad 4 0 0 _ 0 [(0, .ref (ad 0)), (1, .int v1), (2, .int v2)] [] M
  unfold f_X9_hasLess at h
  refine r_iconst (v := (0 : Int32)) C dX9_hasLess_0 rfl ?_
  refine r_istore_n C [(3, .int _), (0, .ref _), (1, .int _), (2, .int _)] dX9_hasLess_1 rfl (by decide) rfl ?_
  obtain ⟨n2, h⟩ := h
  refine r_sub [1, 2, 3, 0] rfl (mL_X9_hasLess_2 C (fun M_2 h => ?_) n2 _ _ h)
  refine r_iconst (v := (0 : Int32)) C dX9_hasLess_39 rfl ?_
  exact r_zret C (by decide) dX9_hasLess_40 h
def S_X9_laySums_35 (v1 : Int32) (o0 : Int32) (X53 : Int32 → Mem → Prop) (K : Mem → Prop) (M : Mem) : Prop := (¬ o0 = 0 → X53 (gI M 5 (0 : Int32)) M) ∧ (o0 = 0 → X53 (gI M 4 (0 : Int32)) M)

set_option maxHeartbeats 1000000 in
set_option maxRecDepth 10000 in
theorem mS_X9_laySums_35 (C : rw_C p s m meth c cX9_laySums 6 RX9 none D cy ad) {v1 : Int32} {o0 : Int32} {X53 : Int32 → Mem → Prop} {K : Mem → Prop} {M : Mem} (hX53 : ∀  (w0 : Int32) (M : Mem), X53 w0 M → rw_W p l e rm_X9_laySums s m args below meth c D cy ad 6 0 0 (rw_Qv below args s D cy ad K) 53 [(0, .ref (ad 0)), (1, .int v1)] [.int w0] M) (h : S_X9_laySums_35 v1 o0 X53 K M) : rw_W p l e rm_X9_laySums s m args below meth c D cy ad 6 0 0 (rw_Qv below args s D cy ad K) 35 [(0, .ref (ad 0)), (1, .int v1)] [.int o0] M := by
  refine r_if_ne C 47 dX9_laySums_35 (by decide) (fun hc => ?_) (fun hc => ?_)
  · replace h := h.1 hc
    refine r_aload_n C 0 dX9_laySums_47 rfl rfl ?_
    refine gX9_22 C dX9_laySums_48 ?_
    refine r_iconst (v := (0 : Int32)) C dX9_laySums_51 rfl ?_
    refine r_iald C sh_5 (vpd (i := (0 : Int32)) (n := 3) (by decide +kernel)) dX9_laySums_52 ?_
    exact hX53 _ _ h
  · replace h := h.2 hc
    refine r_aload_n C 0 dX9_laySums_38 rfl rfl ?_
    refine gX9_19 C dX9_laySums_39 ?_
    refine r_iconst (v := (0 : Int32)) C dX9_laySums_42 rfl ?_
    refine r_iald C sh_4 (vpd (i := (0 : Int32)) (n := 3) (by decide +kernel)) dX9_laySums_43 ?_
    refine r_goto C 53 dX9_laySums_44 (by decide) ?_
    exact hX53 _ _ h

def L_X9_laySums_105 (v1 : Int32) (v2 : Int32) (v3 : Int32) (v4 : Int32) (X139 : Mem → Prop) (K : Mem → Prop) : Nat → Int32 → Mem → Prop
  | 0, _, _ => False
  | n + 1, v5, M => (((10 : Int32) ≤ v5 → X139 M) ∧ (¬ (10 : Int32) ≤ v5 → vp_in v5 10 ∧ vp_in (((10 : Int32) * v4) + v5) 5200 ∧ ∀ M_8 : Mem, M_8 = wI M 15 (((10 : Int32) * v4) + v5).toNatClampNeg ((gL M 12 v5).toInt32) → L_X9_laySums_105 v1 v2 v3 v4 X139 K n (v5 + (1 : Int32)) M_8))

set_option maxHeartbeats 1000000 in
set_option maxRecDepth 10000 in
theorem mL_X9_laySums_105 (C : rw_C p s m meth c cX9_laySums 6 RX9 none D cy ad) {v1 : Int32} {v2 : Int32} {v3 : Int32} {v4 : Int32} {X139 : Mem → Prop} {K : Mem → Prop} (hX139 : ∀  (M : Mem), X139 M → rw_W p l e rm_X9_laySums s m args below meth c D cy ad 6 0 0 (rw_Qv below args s D cy ad K) 139 [(0, .ref (ad 0)), (1, .int v1), (2, .int v2), (3, .int v3)] [] M) : ∀ (n : Nat) (v5 : Int32) (M : Mem), L_X9_laySums_105 v1 v2 v3 v4 X139 K n v5 M → rw_W p l e rm_X9_laySums s m args below meth c D cy ad 6 0 0 (rw_Qv below args s D cy ad K) 105 [(0, .ref (ad 0)), (1, .int v1), (2, .int v2), (3, .int v3), (4, .int v4), (5, .int v5)] [] M := by
  intro n
  induction n with
  | zero => intro v5 M h; exact h.elim
  | succ n ih =>
    intro v5 M h
    refine r_iload C 5 dX9_laySums_105 rfl ?_
    refine r_bipush (v := (10 : Int32)) C dX9_laySums_107 rfl ?_
    refine r_icmp_ge C 139 dX9_laySums_109 (by decide) (fun hc => ?_) (fun hc => ?_)
    · replace h := h.1 hc
      exact r_sub [0, 1, 2, 3] rfl (hX139 _ h)
    · replace h := h.2 hc
      refine r_aload_n C 0 dX9_laySums_112 rfl rfl ?_
      refine gX9_57 C dX9_laySums_113 ?_
      refine r_bipush (v := (10 : Int32)) C dX9_laySums_116 rfl ?_
      refine r_iload C 4 dX9_laySums_118 rfl ?_
      refine r_imul C dX9_laySums_120 ?_
      refine r_iload C 5 dX9_laySums_121 rfl ?_
      refine r_iadd C dX9_laySums_123 ?_
      refine r_aload_n C 0 dX9_laySums_124 rfl rfl ?_
      refine gX9_48 C dX9_laySums_125 ?_
      refine r_iload C 5 dX9_laySums_128 rfl ?_
      obtain ⟨q_4, h⟩ := h
      refine r_lald C sh_12 q_4 dX9_laySums_130 ?_
      refine r_l2i C dX9_laySums_131 ?_
      obtain ⟨q_5, h⟩ := h
      refine r_iast C sh_15 q_5 dX9_laySums_132 ?_
      replace h := h _ rfl
      refine r_iinc C 5 (v := _) [(5, .int _), (0, .ref _), (1, .int _), (2, .int _), (3, .int _), (4, .int _)] dX9_laySums_133 rfl rfl (by decide) rfl ?_
      refine r_goto C 105 dX9_laySums_136 (by decide) ?_
      exact r_sub [1, 2, 3, 4, 5, 0] rfl (ih _ _ h)

def S_X9_laySums_68 (v1 : Int32) (v2 : Int32) (v3 : Int32) (o0 : Int32) (X149 : Mem → Prop) (K : Mem → Prop) (M : Mem) : Prop := (¬ o0 = 0 → X149 M) ∧ (o0 = 0 → f_X9_solves v1 v3 M (fun (r : Int32) (M_6 : Mem) => ((r = 0 → X149 M_6) ∧ (¬ r = 0 → vp_in v1 2 ∧ ∀ x4 : Int32, x4 = ((260 : Int32) * v1) + (gI M_6 17 v1) → vp_in x4 520 ∧ ∀ M_7 : Mem, M_7 = wI M_6 14 x4.toNatClampNeg v3 → (∃ k105 : Nat, L_X9_laySums_105 v1 v2 v3 x4 (fun  (M_9 : Mem) => vp_in v1 2 ∧ ∀ M_10 : Mem, M_10 = wI M_9 17 v1.toNatClampNeg ((gI M_9 17 v1) + (1 : Int32)) → X149 M_10) K k105 (0 : Int32) M_7)))))

set_option maxHeartbeats 1000000 in
set_option maxRecDepth 10000 in
theorem mS_X9_laySums_68 (C : rw_C p s m meth c cX9_laySums 6 RX9 none D cy ad) {v1 : Int32} {v2 : Int32} {v3 : Int32} {o0 : Int32} {X149 : Mem → Prop} {K : Mem → Prop} {M : Mem} (hX149 : ∀  (M : Mem), X149 M → rw_W p l e rm_X9_laySums s m args below meth c D cy ad 6 0 0 (rw_Qv below args s D cy ad K) 149 [(0, .ref (ad 0)), (1, .int v1), (2, .int v2), (3, .int v3)] [] M) (h : S_X9_laySums_68 v1 v2 v3 o0 X149 K M) : rw_W p l e rm_X9_laySums s m args below meth c D cy ad 6 0 0 (rw_Qv below args s D cy ad K) 68 [(0, .ref (ad 0)), (1, .int v1), (2, .int v2), (3, .int v3)] [.int o0] M := by
  refine r_if_ne C 149 dX9_laySums_68 (by decide) (fun hc => ?_) (fun hc => ?_)
  · replace h := h.1 hc
    exact hX149 _ h
  · replace h := h.2 hc
    refine r_aload_n C 0 dX9_laySums_71 rfl rfl ?_
    refine r_iload_n C 1 dX9_laySums_72 rfl rfl ?_
    refine r_iload_n C 3 dX9_laySums_73 rfl rfl ?_
    refine cX9_323 C (m_X9_solves l h) ⟨Nat.le_of_ble_eq_true rfl, Nat.le_of_ble_eq_true rfl⟩ (Nat.le_of_ble_eq_true rfl) ⟨Nat.le_refl 0, Nat.le_refl 0⟩ dX9_laySums_74 (fun r M_6 h => ?_)
    refine r_if_eq C 149 dX9_laySums_77 (by decide) (fun hc => ?_) (fun hc => ?_)
    · replace h := h.1 hc
      exact hX149 _ h
    · replace h := h.2 hc
      refine r_sipush (v := (260 : Int32)) C dX9_laySums_80 rfl ?_
      refine r_iload_n C 1 dX9_laySums_83 rfl rfl ?_
      refine r_imul C dX9_laySums_84 ?_
      refine r_aload_n C 0 dX9_laySums_85 rfl rfl ?_
      refine gX9_63 C dX9_laySums_86 ?_
      refine r_iload_n C 1 dX9_laySums_89 rfl rfl ?_
      obtain ⟨q_2, h⟩ := h
      refine r_iald C sh_17 q_2 dX9_laySums_90 ?_
      refine r_iadd C dX9_laySums_91 ?_
      refine r_istore C [(4, .int _), (0, .ref _), (1, .int _), (2, .int _), (3, .int _)] dX9_laySums_92 (by decide) rfl ?_
      replace h := h _ rfl
      refine r_aload_n C 1 dX9_laySums_94 rfl rfl ?_
      refine gX9_54 C dX9_laySums_95 ?_
      refine r_iload C 0 dX9_laySums_98 rfl ?_
      refine r_iload_n C 4 dX9_laySums_100 rfl rfl ?_
      obtain ⟨q_3, h⟩ := h
      refine r_iast C sh_14 q_3 dX9_laySums_101 ?_
      replace h := h _ rfl
      refine r_iconst (v := (0 : Int32)) C dX9_laySums_102 rfl ?_
      refine r_istore C [(5, .int _), (4, .int _), (0, .ref _), (1, .int _), (2, .int _), (3, .int _)] dX9_laySums_103 (by decide) rfl ?_
      obtain ⟨n105, h⟩ := h
      refine r_sub [2, 3, 4, 5, 1, 0] rfl (mL_X9_laySums_105 C (fun M_9 h => ?_) n105 _ _ h)
      refine r_aload_n C 0 dX9_laySums_139 rfl rfl ?_
      refine gX9_63 C dX9_laySums_140 ?_
      refine r_iload_n C 1 dX9_laySums_143 rfl rfl ?_
      refine r_dup2_11 C dX9_laySums_144 rfl rfl ?_
      obtain ⟨q_6, h⟩ := h
      refine r_iald C sh_17 q_6 dX9_laySums_145 ?_
      refine r_iconst (v := (1 : Int32)) C dX9_laySums_146 rfl ?_
      refine r_iadd C dX9_laySums_147 ?_
      refine r_iast C sh_17 q_6 dX9_laySums_148 ?_
      replace h := h _ rfl
      exact hX149 _ h

def L_X9_laySums_56 (v1 : Int32) (v2 : Int32) (X214 : Mem → Prop) (K : Mem → Prop) : Nat → Int32 → Mem → Prop
  | 0, _, _ => False
  | n + 1, v3, M => (((1024 : Int32) ≤ v3 → X214 M) ∧ (¬ (1024 : Int32) ≤ v3 → (S_X9_laySums_68 v1 v2 v3 (v3 &&& (v2 ^^^ (-1 : Int32))) (fun  (M_11 : Mem) => ((¬ (v3 &&& ((gI M_11 4 (0 : Int32)) ^^^ (-1 : Int32))) = 0 → L_X9_laySums_56 v1 v2 X214 K n (v3 + (1 : Int32)) M_11) ∧ ((v3 &&& ((gI M_11 4 (0 : Int32)) ^^^ (-1 : Int32))) = 0 → f_X9_isClosed v1 v3 M_11 (fun (r_2 : Int32) (M_12 : Mem) => ((r_2 = 0 → L_X9_laySums_56 v1 v2 X214 K n (v3 + (1 : Int32)) M_12) ∧ (¬ r_2 = 0 → f_X9_hasLess v1 v3 M_12 (fun (r_3 : Int32) (M_13 : Mem) => ((¬ r_3 = 0 → L_X9_laySums_56 v1 v2 X214 K n (v3 + (1 : Int32)) M_13) ∧ (r_3 = 0 → vp_in v1 2 ∧ vp_in (((260 : Int32) * v1) + (gI M_13 18 v1)) 520 ∧ ∀ M_14 : Mem, M_14 = wI M_13 16 (((260 : Int32) * v1) + (gI M_13 18 v1)).toNatClampNeg v3 → ∀ M_15 : Mem, M_15 = wI M_14 18 v1.toNatClampNeg ((gI M_14 18 v1) + (1 : Int32)) → L_X9_laySums_56 v1 v2 X214 K n (v3 + (1 : Int32)) M_15))))))))) K M)))

set_option maxHeartbeats 1000000 in
set_option maxRecDepth 10000 in
theorem mL_X9_laySums_56 (C : rw_C p s m meth c cX9_laySums 6 RX9 none D cy ad) {v1 : Int32} {v2 : Int32} {X214 : Mem → Prop} {K : Mem → Prop} (hX214 : ∀  (M : Mem), X214 M → rw_W p l e rm_X9_laySums s m args below meth c D cy ad 6 0 0 (rw_Qv below args s D cy ad K) 214 [(0, .ref (ad 0)), (1, .int v1)] [] M) : ∀ (n : Nat) (v3 : Int32) (M : Mem), L_X9_laySums_56 v1 v2 X214 K n v3 M → rw_W p l e rm_X9_laySums s m args below meth c D cy ad 6 0 0 (rw_Qv below args s D cy ad K) 56 [(0, .ref (ad 0)), (1, .int v1), (2, .int v2), (3, .int v3)] [] M := by
  intro n
  induction n with
  | zero => intro v3 M h; exact h.elim
  | succ n ih =>
    intro v3 M h
    refine r_iload_n C 3 dX9_laySums_56 rfl rfl ?_
    refine r_sipush (v := (1024 : Int32)) C dX9_laySums_57 rfl ?_
    refine r_icmp_ge C 214 dX9_laySums_60 (by decide) (fun hc => ?_) (fun hc => ?_)
    · replace h := h.1 hc
      exact r_sub [0, 1] rfl (hX214 _ h)
    · replace h := h.2 hc
      refine r_iload_n C 3 dX9_laySums_63 rfl rfl ?_
      refine r_iload_n C 2 dX9_laySums_64 rfl rfl ?_
      refine r_iconst (v := (-1 : Int32)) C dX9_laySums_65 rfl ?_
      refine r_ixor C dX9_laySums_66 ?_
      refine r_iand C dX9_laySums_67 ?_
      refine mS_X9_laySums_68 C (fun M_11 h => ?_) h
      refine r_iload_n C 3 dX9_laySums_149 rfl rfl ?_
      refine r_aload_n C 0 dX9_laySums_150 rfl rfl ?_
      refine gX9_19 C dX9_laySums_151 ?_
      refine r_iconst (v := (0 : Int32)) C dX9_laySums_154 rfl ?_
      refine r_iald C sh_4 (vpd (i := (0 : Int32)) (n := 3) (by decide +kernel)) dX9_laySums_155 ?_
      refine r_iconst (v := (-1 : Int32)) C dX9_laySums_156 rfl ?_
      refine r_ixor C dX9_laySums_157 ?_
      refine r_iand C dX9_laySums_158 ?_
      refine r_if_ne C 208 dX9_laySums_159 (by decide) (fun hc => ?_) (fun hc => ?_)
      · replace h := h.1 hc
        refine r_iinc C 3 (v := _) [(3, .int _), (0, .ref _), (1, .int _), (2, .int _)] dX9_laySums_208 rfl rfl (by decide) rfl ?_
        refine r_goto C 56 dX9_laySums_211 (by decide) ?_
        exact r_sub [1, 2, 3, 0] rfl (ih _ _ h)
      · replace h := h.2 hc
        refine r_aload_n C 0 dX9_laySums_162 rfl rfl ?_
        refine r_iload_n C 1 dX9_laySums_163 rfl rfl ?_
        refine r_iload_n C 3 dX9_laySums_164 rfl rfl ?_
        refine cX9_326 C (m_X9_isClosed l h) ⟨Nat.le_of_ble_eq_true rfl, Nat.le_of_ble_eq_true rfl⟩ (Nat.le_of_ble_eq_true rfl) ⟨Nat.le_refl 0, Nat.le_refl 0⟩ dX9_laySums_165 (fun r_2 M_12 h => ?_)
        refine r_if_eq C 208 dX9_laySums_168 (by decide) (fun hc => ?_) (fun hc => ?_)
        · replace h := h.1 hc
          refine r_iinc C 3 (v := _) [(3, .int _), (0, .ref _), (1, .int _), (2, .int _)] dX9_laySums_208 rfl rfl (by decide) rfl ?_
          refine r_goto C 56 dX9_laySums_211 (by decide) ?_
          exact r_sub [1, 2, 3, 0] rfl (ih _ _ h)
        · replace h := h.2 hc
          refine r_aload_n C 0 dX9_laySums_171 rfl rfl ?_
          refine r_iload_n C 1 dX9_laySums_172 rfl rfl ?_
          refine r_iload_n C 3 dX9_laySums_173 rfl rfl ?_
          refine cX9_329 C (m_X9_hasLess l h) ⟨Nat.le_of_ble_eq_true rfl, Nat.le_of_ble_eq_true rfl⟩ (Nat.le_of_ble_eq_true rfl) ⟨Nat.le_refl 0, Nat.le_refl 0⟩ dX9_laySums_174 (fun r_3 M_13 h => ?_)
          refine r_if_ne C 208 dX9_laySums_177 (by decide) (fun hc => ?_) (fun hc => ?_)
          · replace h := h.1 hc
            refine r_iinc C 3 (v := _) [(3, .int _), (0, .ref _), (1, .int _), (2, .int _)] dX9_laySums_208 rfl rfl (by decide) rfl ?_
            refine r_goto C 56 dX9_laySums_211 (by decide) ?_
            exact r_sub [1, 2, 3, 0] rfl (ih _ _ h)
          · replace h := h.2 hc
            refine r_aload_n C 0 dX9_laySums_180 rfl rfl ?_
            refine gX9_60 C dX9_laySums_181 ?_
            refine r_sipush (v := (260 : Int32)) C dX9_laySums_184 rfl ?_
            refine r_iload_n C 1 dX9_laySums_187 rfl rfl ?_
            refine r_imul C dX9_laySums_188 ?_
            refine r_aload_n C 0 dX9_laySums_189 rfl rfl ?_
            refine gX9_66 C dX9_laySums_190 ?_
            refine r_iload_n C 1 dX9_laySums_193 rfl rfl ?_
            obtain ⟨q_7, h⟩ := h
            refine r_iald C sh_18 q_7 dX9_laySums_194 ?_
            refine r_iadd C dX9_laySums_195 ?_
            refine r_iload_n C 3 dX9_laySums_196 rfl rfl ?_
            obtain ⟨q_8, h⟩ := h
            refine r_iast C sh_16 q_8 dX9_laySums_197 ?_
            replace h := h _ rfl
            refine r_aload_n C 0 dX9_laySums_198 rfl rfl ?_
            refine gX9_66 C dX9_laySums_199 ?_
            refine r_iload_n C 1 dX9_laySums_202 rfl rfl ?_
            refine r_dup2_11 C dX9_laySums_203 rfl rfl ?_
            refine r_iald C sh_18 q_7 dX9_laySums_204 ?_
            refine r_iconst (v := (1 : Int32)) C dX9_laySums_205 rfl ?_
            refine r_iadd C dX9_laySums_206 ?_
            refine r_iast C sh_18 q_7 dX9_laySums_207 ?_
            replace h := h _ rfl
            refine r_iinc C 3 (v := _) [(3, .int _), (0, .ref _), (1, .int _), (2, .int _)] dX9_laySums_208 rfl rfl (by decide) rfl ?_
            refine r_goto C 56 dX9_laySums_211 (by decide) ?_
            exact r_sub [1, 2, 3, 0] rfl (ih _ _ h)

def L_X9_laySums_15 (X220 : Mem → Prop) (K : Mem → Prop) : Nat → Int32 → Mem → Prop
  | 0, _, _ => False
  | n + 1, v1, M => (((2 : Int32) ≤ v1 → X220 M) ∧ (¬ (2 : Int32) ≤ v1 → vp_in v1 2 ∧ ∀ M_3 : Mem, M_3 = wI M 17 v1.toNatClampNeg (0 : Int32) → ∀ M_4 : Mem, M_4 = wI M_3 18 v1.toNatClampNeg (0 : Int32) → (S_X9_laySums_35 v1 v1 (fun (w : Int32) (M_5 : Mem) => (∃ k56 : Nat, L_X9_laySums_56 v1 w (fun  (M_16 : Mem) => L_X9_laySums_15 X220 K n (v1 + (1 : Int32)) M_16) K k56 (1 : Int32) M_5)) K M_4)))

set_option maxHeartbeats 1000000 in
set_option maxRecDepth 10000 in
theorem mL_X9_laySums_15 (C : rw_C p s m meth c cX9_laySums 6 RX9 none D cy ad) {X220 : Mem → Prop} {K : Mem → Prop} (hX220 : ∀  (M : Mem), X220 M → rw_W p l e rm_X9_laySums s m args below meth c D cy ad 6 0 0 (rw_Qv below args s D cy ad K) 220 [] [] M) : ∀ (n : Nat) (v1 : Int32) (M : Mem), L_X9_laySums_15 X220 K n v1 M → rw_W p l e rm_X9_laySums s m args below meth c D cy ad 6 0 0 (rw_Qv below args s D cy ad K) 15 [(0, .ref (ad 0)), (1, .int v1)] [] M := by
  intro n
  induction n with
  | zero => intro v1 M h; exact h.elim
  | succ n ih =>
    intro v1 M h
    refine r_iload_n C 1 dX9_laySums_15 rfl rfl ?_
    refine r_iconst (v := (2 : Int32)) C dX9_laySums_16 rfl ?_
    refine r_icmp_ge C 220 dX9_laySums_17 (by decide) (fun hc => ?_) (fun hc => ?_)
    · replace h := h.1 hc
      exact r_sub [] rfl (hX220 _ h)
    · replace h := h.2 hc
      refine r_aload_n C 0 dX9_laySums_20 rfl rfl ?_
      refine gX9_63 C dX9_laySums_21 ?_
      refine r_iload_n C 1 dX9_laySums_24 rfl rfl ?_
      refine r_iconst (v := (0 : Int32)) C dX9_laySums_25 rfl ?_
      obtain ⟨q, h⟩ := h
      refine r_iast C sh_17 q dX9_laySums_26 ?_
      replace h := h _ rfl
      refine r_aload_n C 0 dX9_laySums_27 rfl rfl ?_
      refine gX9_66 C dX9_laySums_28 ?_
      refine r_iload_n C 1 dX9_laySums_31 rfl rfl ?_
      refine r_iconst (v := (0 : Int32)) C dX9_laySums_32 rfl ?_
      refine r_iast C sh_18 q dX9_laySums_33 ?_
      replace h := h _ rfl
      refine r_iload_n C 1 dX9_laySums_34 rfl rfl ?_
      refine mS_X9_laySums_35 C (fun w M_5 h => ?_) h
      refine r_istore_n C [(2, .int _), (0, .ref _), (1, .int _)] dX9_laySums_53 rfl (by decide) rfl ?_
      refine r_iconst (v := (1 : Int32)) C dX9_laySums_54 rfl ?_
      refine r_istore_n C [(3, .int _), (2, .int _), (0, .ref _), (1, .int _)] dX9_laySums_55 rfl (by decide) rfl ?_
      obtain ⟨n56, h⟩ := h
      refine r_sub [2, 3, 1, 0] rfl (mL_X9_laySums_56 C (fun M_16 h => ?_) n56 _ _ h)
      refine r_iinc C 1 (v := _) [(1, .int _), (0, .ref _)] dX9_laySums_214 rfl rfl (by decide) rfl ?_
      refine r_goto C 15 dX9_laySums_217 (by decide) ?_
      exact r_sub [1, 0] rfl (ih _ _ h)

def f_X9_laySums (M : Mem) (K : Mem → Prop) : Prop := (((M.1 0 22) = 0 → ∀ M_2 : Mem, M_2 = wI M 0 22 (1 : Int32) → (∃ k15 : Nat, L_X9_laySums_15 (fun  (M_17 : Mem) => K M_17) K k15 (0 : Int32) M_2)) ∧ (¬ (M.1 0 22) = 0 → K M))

set_option maxHeartbeats 1000000 in
set_option maxRecDepth 10000 in
theorem m_X9_laySums (l : Launch)   {M : Mem} {K : Mem → Prop} (h : f_X9_laySums M K) : CTv l yX9_laySums cX9_laySums 6 none rm_X9_laySums (fun ad => [.ref (ad 0)]) M K := by
  refine rw_entv (by decide +kernel) (fun ad => Nat.le_of_ble_eq_true rfl) (fun p e s m args below meth c D cy ad C => ?_)
  change rw_W p l e _ s m args below meth c D cy ad 6 0 0 _ 0 [(0, .ref (ad 0))] [] M
  unfold f_X9_laySums at h
  refine r_aload_n C 0 dX9_laySums_0 rfl rfl ?_
  refine gX9_260 C dX9_laySums_1 ?_
  refine r_if_eq C 8 dX9_laySums_4 (by decide) (fun hc => ?_) (fun hc => ?_)
  · replace h := h.1 hc
    refine r_aload_n C 0 dX9_laySums_8 rfl rfl ?_
    refine r_iconst (v := (1 : Int32)) C dX9_laySums_9 rfl ?_
    refine pX9_260 C (by decide) dX9_laySums_10 ?_
    replace h := h _ rfl
    refine r_iconst (v := (0 : Int32)) C dX9_laySums_13 rfl ?_
    refine r_istore_n C [(1, .int _), (0, .ref _)] dX9_laySums_14 rfl (by decide) rfl ?_
    obtain ⟨n15, h⟩ := h
    refine r_sub [1, 0] rfl (mL_X9_laySums_15 C (fun M_17 h => ?_) n15 _ _ h)
    exact r_vret C dX9_laySums_220 h
  · replace h := h.2 hc
    exact r_vret C dX9_laySums_7 h
set_option maxHeartbeats 1000000 in
set_option maxRecDepth 10000 in
theorem mD_X9_within_35 (C : rw_C p s m meth c cX9_within 7 RX9 (some .int) D cy ad) {Q : State → Prop} {st : List Value} {M : Mem} {v1 : Int32} {v3 : Int32} {v4 : Int32} {v5 : Int32} {o0 : Int32} {o1 : Int32} (kk : rw_W p l e R s m args below meth c D cy ad 7 0 0 Q 43 [(0, .ref (ad 0)), (1, .int v1), (3, .int v3), (4, .int v4), (5, .int v5)] (.int (if ¬ o1 = o0 then (0 : Int32) else (1 : Int32)) :: st) M) : rw_W p l e R s m args below meth c D cy ad 7 0 0 Q 35 [(0, .ref (ad 0)), (1, .int v1), (3, .int v3), (4, .int v4), (5, .int v5)] (.int o0 :: .int o1 :: st) M := by
  refine r_icmp_ne C 42 dX9_within_35 (by decide) (fun z0 => ?_) (fun z0 => ?_)
  · skip
    refine r_iconst (v := (0 : Int32)) C dX9_within_42 rfl ?_
    first | rw [if_pos z0] at kk | rw [if_neg (fun q9 => q9 z0)] at kk
    exact kk
  · skip
    refine r_iconst (v := (1 : Int32)) C dX9_within_38 rfl ?_
    refine r_goto C 43 dX9_within_39 (by decide) ?_
    first | rw [if_neg z0] at kk | rw [if_neg (fun q9 => q9 z0)] at kk
    exact kk

set_option maxHeartbeats 1000000 in
set_option maxRecDepth 10000 in
theorem mD_X9_within_59 (C : rw_C p s m meth c cX9_within 7 RX9 (some .int) D cy ad) {Q : State → Prop} {st : List Value} {M : Mem} {v6 : Int32} {v1 : Int32} {v3 : Int32} {v4 : Int32} {v5 : Int32} {o0 : Int32} (kk : rw_W p l e R s m args below meth c D cy ad 7 0 0 Q 67 [(6, .int v6), (0, .ref (ad 0)), (1, .int v1), (3, .int v3), (4, .int v4), (5, .int v5)] (.int (if ¬ o0 = 0 then (0 : Int32) else (1 : Int32)) :: st) M) : rw_W p l e R s m args below meth c D cy ad 7 0 0 Q 59 [(6, .int v6), (0, .ref (ad 0)), (1, .int v1), (3, .int v3), (4, .int v4), (5, .int v5)] (.int o0 :: st) M := by
  refine r_if_ne C 66 dX9_within_59 (by decide) (fun z0 => ?_) (fun z0 => ?_)
  · skip
    refine r_iconst (v := (0 : Int32)) C dX9_within_66 rfl ?_
    first | rw [if_pos z0] at kk | rw [if_neg (fun q9 => q9 z0)] at kk
    exact kk
  · skip
    refine r_iconst (v := (1 : Int32)) C dX9_within_62 rfl ?_
    refine r_goto C 67 dX9_within_63 (by decide) ?_
    first | rw [if_neg z0] at kk | rw [if_neg (fun q9 => q9 z0)] at kk
    exact kk

def L_X9_within_23 (v1 : Int32) (X91 : Int32 → Int32 → Mem → Prop) (K : Int32 → Mem → Prop) : Nat → Int32 → Int32 → Int32 → Mem → Prop
  | 0, _, _, _, _ => False
  | n + 1, v3, v4, v5, M => (((8 : Int32) ≤ v5 → X91 v3 v4 M) ∧ (¬ (8 : Int32) ≤ v5 → f_X9_placesOf v5 (if ¬ v1 = (1 : Int32) then (0 : Int32) else (1 : Int32)) M (fun (r : Int32) (M_2 : Mem) => ∀ x6 : Int32, x6 = r &&& v3 → ((x6 = 0 → L_X9_within_23 v1 X91 K n v3 v4 (v5 + (1 : Int32)) M_2) ∧ (¬ x6 = 0 → f_X9_placesOf v5 (if ¬ v1 = 0 then (0 : Int32) else (1 : Int32)) M_2 (fun (r_2 : Int32) (M_3 : Mem) => ((¬ (r_2 &&& v3) = 0 → L_X9_within_23 v1 X91 K n v3 v4 (v5 + (1 : Int32)) M_3) ∧ ((r_2 &&& v3) = 0 → ∀ x3_2 : Int32, x3_2 = v3 &&& (x6 ^^^ (-1 : Int32)) → L_X9_within_23 v1 X91 K n x3_2 (1 : Int32) (v5 + (1 : Int32)) M_3))))))))

set_option maxHeartbeats 1000000 in
set_option maxRecDepth 10000 in
theorem mL_X9_within_23 (C : rw_C p s m meth c cX9_within 7 RX9 (some .int) D cy ad) {v1 : Int32} {X91 : Int32 → Int32 → Mem → Prop} {K : Int32 → Mem → Prop} (hX91 : ∀ (u3 : Int32) (u4 : Int32) (M : Mem), X91 u3 u4 M → rw_W p l e rm_X9_within s m args below meth c D cy ad 7 0 0 (rw_Qi below args s D cy ad K) 91 [(0, .ref (ad 0)), (1, .int v1), (3, .int u3), (4, .int u4)] [] M) : ∀ (n : Nat) (v3 : Int32) (v4 : Int32) (v5 : Int32) (M : Mem), L_X9_within_23 v1 X91 K n v3 v4 v5 M → rw_W p l e rm_X9_within s m args below meth c D cy ad 7 0 0 (rw_Qi below args s D cy ad K) 23 [(0, .ref (ad 0)), (1, .int v1), (3, .int v3), (4, .int v4), (5, .int v5)] [] M := by
  intro n
  induction n with
  | zero => intro v3 v4 v5 M h; exact h.elim
  | succ n ih =>
    intro v3 v4 v5 M h
    refine r_iload C 4 dX9_within_23 rfl ?_
    refine r_bipush (v := (8 : Int32)) C dX9_within_25 rfl ?_
    refine r_icmp_ge C 91 dX9_within_27 (by decide) (fun hc => ?_) (fun hc => ?_)
    · replace h := h.1 hc
      exact r_sub [0, 1, 2, 3] rfl (hX91 _ _ _ h)
    · replace h := h.2 hc
      refine r_aload_n C 0 dX9_within_30 rfl rfl ?_
      refine r_iload C 4 dX9_within_31 rfl ?_
      refine r_iload_n C 1 dX9_within_33 rfl rfl ?_
      refine r_iconst (v := (1 : Int32)) C dX9_within_34 rfl ?_
      refine mD_X9_within_35 C ?_
      refine cX9_332 C (m_X9_placesOf l h) ⟨Nat.le_of_ble_eq_true rfl, Nat.le_of_ble_eq_true rfl⟩ (Nat.le_of_ble_eq_true rfl) ⟨Nat.le_refl 0, Nat.le_refl 0⟩ dX9_within_43 (fun r M_2 h => ?_)
      refine r_iload_n C 2 dX9_within_46 rfl rfl ?_
      refine r_iand C dX9_within_47 ?_
      refine r_istore C [(6, .int _), (0, .ref _), (1, .int _), (3, .int _), (4, .int _), (5, .int _)] dX9_within_48 (by decide) rfl ?_
      replace h := h _ rfl
      refine r_iload C 0 dX9_within_50 rfl ?_
      refine r_if_eq C 85 dX9_within_52 (by decide) (fun hc => ?_) (fun hc => ?_)
      · replace h := h.1 hc
        refine r_iinc C 5 (v := _) [(5, .int _), (6, .int _), (0, .ref _), (1, .int _), (3, .int _), (4, .int _)] dX9_within_85 rfl rfl (by decide) rfl ?_
        refine r_goto C 23 dX9_within_88 (by decide) ?_
        exact r_sub [2, 3, 4, 5, 0] rfl (ih _ _ _ _ h)
      · replace h := h.2 hc
        refine r_aload_n C 1 dX9_within_55 rfl rfl ?_
        refine r_iload C 5 dX9_within_56 rfl ?_
        refine r_iload_n C 2 dX9_within_58 rfl rfl ?_
        refine mD_X9_within_59 C ?_
        refine cX9_332 C (m_X9_placesOf l h) ⟨Nat.le_of_ble_eq_true rfl, Nat.le_of_ble_eq_true rfl⟩ (Nat.le_of_ble_eq_true rfl) ⟨Nat.le_refl 0, Nat.le_refl 0⟩ dX9_within_67 (fun r_2 M_3 h => ?_)
        refine r_iload_n C 3 dX9_within_70 rfl rfl ?_
        refine r_iand C dX9_within_71 ?_
        refine r_if_ne C 85 dX9_within_72 (by decide) (fun hc => ?_) (fun hc => ?_)
        · replace h := h.1 hc
          refine r_iinc C 5 (v := _) [(5, .int _), (6, .int _), (0, .ref _), (1, .int _), (3, .int _), (4, .int _)] dX9_within_85 rfl rfl (by decide) rfl ?_
          refine r_goto C 23 dX9_within_88 (by decide) ?_
          exact r_sub [2, 3, 4, 5, 0] rfl (ih _ _ _ _ h)
        · replace h := h.2 hc
          refine r_iload_n C 3 dX9_within_75 rfl rfl ?_
          refine r_iload C 0 dX9_within_76 rfl ?_
          refine r_iconst (v := (-1 : Int32)) C dX9_within_78 rfl ?_
          refine r_ixor C dX9_within_79 ?_
          refine r_iand C dX9_within_80 ?_
          refine r_istore_n C [(3, .int _), (6, .int _), (0, .ref _), (1, .int _), (4, .int _), (5, .int _)] dX9_within_81 rfl (by decide) rfl ?_
          replace h := h _ rfl
          refine r_iconst (v := (1 : Int32)) C dX9_within_82 rfl ?_
          refine r_istore C [(4, .int _), (3, .int _), (6, .int _), (0, .ref _), (1, .int _), (5, .int _)] dX9_within_83 (by decide) rfl ?_
          refine r_iinc C 5 (v := _) [(5, .int _), (4, .int _), (3, .int _), (6, .int _), (0, .ref _), (1, .int _)] dX9_within_85 rfl rfl (by decide) rfl ?_
          refine r_goto C 23 dX9_within_88 (by decide) ?_
          exact r_sub [4, 5, 2, 1, 0] rfl (ih _ _ _ _ h)

def L_X9_within_12 (v1 : Int32) (X94 : Int32 → Mem → Prop) (K : Int32 → Mem → Prop) : Nat → Int32 → Int32 → Mem → Prop
  | 0, _, _, _ => False
  | n + 1, v3, v4, M => ((v4 = 0 → X94 v3 M) ∧ (¬ v4 = 0 → (∃ k23 : Nat, L_X9_within_23 v1 (fun (v3_2 : Int32) (v4_2 : Int32) (M_4 : Mem) => L_X9_within_12 v1 X94 K n v3_2 v4_2 M_4) K k23 v3 (0 : Int32) (0 : Int32) M)))

set_option maxHeartbeats 1000000 in
set_option maxRecDepth 10000 in
theorem mL_X9_within_12 (C : rw_C p s m meth c cX9_within 7 RX9 (some .int) D cy ad) {v1 : Int32} {X94 : Int32 → Mem → Prop} {K : Int32 → Mem → Prop} (hX94 : ∀ (u3 : Int32) (M : Mem), X94 u3 M → rw_W p l e rm_X9_within s m args below meth c D cy ad 7 0 0 (rw_Qi below args s D cy ad K) 94 [(3, .int u3)] [] M) : ∀ (n : Nat) (v3 : Int32) (v4 : Int32) (M : Mem), L_X9_within_12 v1 X94 K n v3 v4 M → rw_W p l e rm_X9_within s m args below meth c D cy ad 7 0 0 (rw_Qi below args s D cy ad K) 12 [(0, .ref (ad 0)), (1, .int v1), (3, .int v3), (4, .int v4)] [] M := by
  intro n
  induction n with
  | zero => intro v3 v4 M h; exact h.elim
  | succ n ih =>
    intro v3 v4 M h
    refine r_iload C 3 dX9_within_12 rfl ?_
    refine r_if_eq C 94 dX9_within_14 (by decide) (fun hc => ?_) (fun hc => ?_)
    · replace h := h.1 hc
      exact r_sub [2] rfl (hX94 _ _ h)
    · replace h := h.2 hc
      refine r_iconst (v := (0 : Int32)) C dX9_within_17 rfl ?_
      refine r_istore C [(4, .int _), (0, .ref _), (1, .int _), (3, .int _)] dX9_within_18 (by decide) rfl ?_
      refine r_iconst (v := (0 : Int32)) C dX9_within_20 rfl ?_
      refine r_istore C [(5, .int _), (4, .int _), (0, .ref _), (1, .int _), (3, .int _)] dX9_within_21 (by decide) rfl ?_
      obtain ⟨n23, h⟩ := h
      refine r_sub [2, 3, 4, 1, 0] rfl (mL_X9_within_23 C (fun v3_2 v4_2 M_4 h => ?_) n23 _ _ _ _ h)
      refine r_goto C 12 dX9_within_91 (by decide) ?_
      exact ih _ _ _ h

def f_X9_within (v1 : Int32) (v2 : Int32) (M : Mem) (K : Int32 → Mem → Prop) : Prop := ∀ x3 : Int32, x3 = v2 &&& (gI M 4 (0 : Int32)) → (∃ k12 : Nat, L_X9_within_12 v1 (fun (v3_3 : Int32) (M_5 : Mem) => K v3_3 M_5) K k12 x3 (1 : Int32) M)

set_option maxHeartbeats 1000000 in
set_option maxRecDepth 10000 in
theorem m_X9_within (l : Launch) {v1 : Int32} {v2 : Int32}  {M : Mem} {K : Int32 → Mem → Prop} (h : f_X9_within v1 v2 M K) : CTi l yX9_within cX9_within 7 (some .int) rm_X9_within (fun ad => [.ref (ad 0), .int v1, .int v2]) M K := by
  refine rw_enti (by decide +kernel) (fun ad => Nat.le_of_ble_eq_true rfl) (fun p e s m args below meth c D cy ad C => ?_)
  change rw_W p l e _ s m args below meth c D cy ad 7 0 0 _ 0 [(0, .ref (ad 0)), (1, .int v1), (2, .int v2)] [] M
  unfold f_X9_within at h
  refine r_iload_n C 2 dX9_within_0 rfl rfl ?_
  refine r_aload_n C 0 dX9_within_1 rfl rfl ?_
  refine gX9_19 C dX9_within_2 ?_
  refine r_iconst (v := (0 : Int32)) C dX9_within_5 rfl ?_
  refine r_iald C sh_4 (vpd (i := (0 : Int32)) (n := 3) (by decide +kernel)) dX9_within_6 ?_
  refine r_iand C dX9_within_7 ?_
  refine r_istore_n C [(3, .int _), (0, .ref _), (1, .int _), (2, .int _)] dX9_within_8 rfl (by decide) rfl ?_
  replace h := h _ rfl
  refine r_iconst (v := (1 : Int32)) C dX9_within_9 rfl ?_
  refine r_istore C [(4, .int _), (3, .int _), (0, .ref _), (1, .int _), (2, .int _)] dX9_within_10 (by decide) rfl ?_
  obtain ⟨n12, h⟩ := h
  refine r_sub [2, 3, 1, 0] rfl (mL_X9_within_12 C (fun v3_3 M_5 h => ?_) n12 _ _ _ h)
  refine r_iload_n C 0 dX9_within_94 rfl rfl ?_
  exact r_iret C dX9_within_95 h
def f_X9_sums (v1 : Int32) (M : Mem) (K : Int32 → Mem → Prop) : Prop := ∀ M_2 : Mem, M_2 = wI M 0 0 (0 : Int32) → f_X9_in v1 (0 : Int32) (1 : Int32) M_2 (fun (r : Int32) (M_3 : Mem) => ((¬ r = 0 → f_X9_laySums  M_3 (fun (M_4 : Mem) => vp_in v1 2 ∧ K (gI M_4 17 v1) M_4)) ∧ (r = 0 → K (-1 : Int32) M_3)))

set_option maxHeartbeats 1000000 in
set_option maxRecDepth 10000 in
theorem m_X9_sums (l : Launch) {v1 : Int32}  {M : Mem} {K : Int32 → Mem → Prop} (h : f_X9_sums v1 M K) : CTi l yX9_sums cX9_sums 2 (some .int) rm_X9_sums (fun ad => [.ref (ad 0), .int v1]) M K := by
  refine rw_enti (by decide +kernel) (fun ad => Nat.le_of_ble_eq_true rfl) (fun p e s m args below meth c D cy ad C => ?_)
  change rw_W p l e _ s m args below meth c D cy ad 2 0 0 _ 0 [(0, .ref (ad 0)), (1, .int v1)] [] M
  unfold f_X9_sums at h
  refine r_aload_n C 0 dX9_sums_0 rfl rfl ?_
  refine r_iconst (v := (0 : Int32)) C dX9_sums_1 rfl ?_
  refine pX9_133 C dX9_sums_2 ?_
  replace h := h _ rfl
  refine r_iload_n C 1 dX9_sums_5 rfl rfl ?_
  refine r_iconst (v := (0 : Int32)) C dX9_sums_6 rfl ?_
  refine r_iconst (v := (1 : Int32)) C dX9_sums_7 rfl ?_
  refine cX9_136 C (m_X9_in l h) ⟨Nat.le_of_ble_eq_true rfl, Nat.le_of_ble_eq_true rfl⟩ (Nat.le_of_ble_eq_true rfl) ⟨Nat.le_refl 0, Nat.le_refl 0⟩ dX9_sums_8 (fun r M_3 h => ?_)
  refine r_if_ne C 16 dX9_sums_11 (by decide) (fun hc => ?_) (fun hc => ?_)
  · replace h := h.1 hc
    refine r_aload_n C 0 dX9_sums_16 rfl rfl ?_
    refine cX9_336 C (m_X9_laySums l h) ⟨Nat.le_of_ble_eq_true rfl, Nat.le_of_ble_eq_true rfl⟩ (Nat.le_of_ble_eq_true rfl) ⟨Nat.le_refl 0, Nat.le_refl 0⟩ dX9_sums_17 (fun M_4 h => ?_)
    refine r_aload_n C 0 dX9_sums_20 rfl rfl ?_
    refine gX9_63 C dX9_sums_21 ?_
    refine r_iload_n C 1 dX9_sums_24 rfl rfl ?_
    obtain ⟨q, h⟩ := h
    refine r_iald C sh_17 q dX9_sums_25 ?_
    exact r_iret C dX9_sums_26 h
  · replace h := h.2 hc
    refine r_iconst (v := (-1 : Int32)) C dX9_sums_14 rfl ?_
    exact r_iret C dX9_sums_15 h
def f_X9_isSum (v1 : Int32) (v2 : Int32) (M : Mem) (K : Int32 → Mem → Prop) : Prop := f_X9_laySums  M (fun (M_2 : Mem) => f_X9_in v1 (0 : Int32) (1 : Int32) M_2 (fun (r_2 : Int32) (M_3 : Mem) => ((r_2 = 0 → K (0 : Int32) M_3) ∧ (¬ r_2 = 0 → vp_in v1 2 ∧ f_X9_in v2 (0 : Int32) ((gI M_3 17 v1) - (1 : Int32)) M_3 (fun (r_3 : Int32) (M_4 : Mem) => ((r_3 = 0 → K (0 : Int32) M_4) ∧ (¬ r_3 = 0 → K (1 : Int32) M_4)))))))

set_option maxHeartbeats 1000000 in
set_option maxRecDepth 10000 in
theorem m_X9_isSum (l : Launch) {v1 : Int32} {v2 : Int32}  {M : Mem} {K : Int32 → Mem → Prop} (h : f_X9_isSum v1 v2 M K) : CTi l yX9_isSum cX9_isSum 3 (some .boolean) rm_X9_isSum (fun ad => [.ref (ad 0), .int v1, .int v2]) M K := by
  refine rw_enti (by decide +kernel) (fun ad => Nat.le_of_ble_eq_true rfl) (fun p e s m args below meth c D cy ad C => ?_)
  change rw_W p l e _ s m args below meth c D cy ad 3 0 0 _ 0 [(0, .ref (ad 0)), (1, .int v1), (2, .int v2)] [] M
  unfold f_X9_isSum at h
  refine r_aload_n C 0 dX9_isSum_0 rfl rfl ?_
  refine cX9_336 C (m_X9_laySums l h) ⟨Nat.le_of_ble_eq_true rfl, Nat.le_of_ble_eq_true rfl⟩ (Nat.le_of_ble_eq_true rfl) ⟨Nat.le_refl 0, Nat.le_refl 0⟩ dX9_isSum_1 (fun M_2 h => ?_)
  refine r_iload_n C 1 dX9_isSum_4 rfl rfl ?_
  refine r_iconst (v := (0 : Int32)) C dX9_isSum_5 rfl ?_
  refine r_iconst (v := (1 : Int32)) C dX9_isSum_6 rfl ?_
  refine cX9_136 C (m_X9_in l h) ⟨Nat.le_of_ble_eq_true rfl, Nat.le_of_ble_eq_true rfl⟩ (Nat.le_of_ble_eq_true rfl) ⟨Nat.le_refl 0, Nat.le_refl 0⟩ dX9_isSum_7 (fun r_2 M_3 h => ?_)
  refine r_if_eq C 33 dX9_isSum_10 (by decide) (fun hc => ?_) (fun hc => ?_)
  · replace h := h.1 hc
    refine r_iconst (v := (0 : Int32)) C dX9_isSum_33 rfl ?_
    exact r_zret C (by decide) dX9_isSum_34 h
  · replace h := h.2 hc
    refine r_iload_n C 2 dX9_isSum_13 rfl rfl ?_
    refine r_iconst (v := (0 : Int32)) C dX9_isSum_14 rfl ?_
    refine r_aload_n C 0 dX9_isSum_15 rfl rfl ?_
    refine gX9_63 C dX9_isSum_16 ?_
    refine r_iload_n C 1 dX9_isSum_19 rfl rfl ?_
    obtain ⟨q, h⟩ := h
    refine r_iald C sh_17 q dX9_isSum_20 ?_
    refine r_iconst (v := (1 : Int32)) C dX9_isSum_21 rfl ?_
    refine r_isub C dX9_isSum_22 ?_
    refine cX9_136 C (m_X9_in l h) ⟨Nat.le_of_ble_eq_true rfl, Nat.le_of_ble_eq_true rfl⟩ (Nat.le_of_ble_eq_true rfl) ⟨Nat.le_refl 0, Nat.le_refl 0⟩ dX9_isSum_23 (fun r_3 M_4 h => ?_)
    refine r_if_eq C 33 dX9_isSum_26 (by decide) (fun hc => ?_) (fun hc => ?_)
    · replace h := h.1 hc
      refine r_iconst (v := (0 : Int32)) C dX9_isSum_33 rfl ?_
      exact r_zret C (by decide) dX9_isSum_34 h
    · replace h := h.2 hc
      refine r_iconst (v := (1 : Int32)) C dX9_isSum_29 rfl ?_
      refine r_goto C 34 dX9_isSum_30 (by decide) ?_
      exact r_zret C (by decide) dX9_isSum_34 h
def f_X9_sum (v1 : Int32) (v2 : Int32) (v3 : Int32) (M : Mem) (K : Int32 → Mem → Prop) : Prop := ∀ M_2 : Mem, M_2 = wI M 0 0 (0 : Int32) → f_X9_isSum v1 v2 M_2 (fun (r : Int32) (M_3 : Mem) => ((r = 0 → K (-1 : Int32) M_3) ∧ (¬ r = 0 → ((¬ v1 = 0 → f_X9_isStep v3 M_3 (fun (r_2 : Int32) (M_4 : Mem) => ((r_2 = 0 → K (-1 : Int32) M_4) ∧ (¬ r_2 = 0 → vp_in (((10 : Int32) * (((260 : Int32) * v1) + v2)) + v3) 5200 ∧ K (gI M_4 15 (((10 : Int32) * (((260 : Int32) * v1) + v2)) + v3)) M_4)))) ∧ (v1 = 0 → f_X9_isPlace v3 M_3 (fun (r_3 : Int32) (M_5 : Mem) => ((r_3 = 0 → K (-1 : Int32) M_5) ∧ (¬ r_3 = 0 → vp_in (((10 : Int32) * (((260 : Int32) * v1) + v2)) + v3) 5200 ∧ K (gI M_5 15 (((10 : Int32) * (((260 : Int32) * v1) + v2)) + v3)) M_5))))))))

set_option maxHeartbeats 1000000 in
set_option maxRecDepth 10000 in
theorem m_X9_sum (l : Launch) {v1 : Int32} {v2 : Int32} {v3 : Int32}  {M : Mem} {K : Int32 → Mem → Prop} (h : f_X9_sum v1 v2 v3 M K) : CTi l yX9_sum cX9_sum 4 (some .int) rm_X9_sum (fun ad => [.ref (ad 0), .int v1, .int v2, .int v3]) M K := by
  refine rw_enti (by decide +kernel) (fun ad => Nat.le_of_ble_eq_true rfl) (fun p e s m args below meth c D cy ad C => ?_)
  change rw_W p l e _ s m args below meth c D cy ad 4 0 0 _ 0 [(0, .ref (ad 0)), (1, .int v1), (2, .int v2), (3, .int v3)] [] M
  unfold f_X9_sum at h
  refine r_aload_n C 0 dX9_sum_0 rfl rfl ?_
  refine r_iconst (v := (0 : Int32)) C dX9_sum_1 rfl ?_
  refine pX9_133 C dX9_sum_2 ?_
  replace h := h _ rfl
  refine r_aload_n C 0 dX9_sum_5 rfl rfl ?_
  refine r_iload_n C 1 dX9_sum_6 rfl rfl ?_
  refine r_iload_n C 2 dX9_sum_7 rfl rfl ?_
  refine cX9_339 C (m_X9_isSum l h) ⟨Nat.le_of_ble_eq_true rfl, Nat.le_of_ble_eq_true rfl⟩ (Nat.le_of_ble_eq_true rfl) ⟨Nat.le_refl 0, Nat.le_refl 0⟩ dX9_sum_8 (fun r M_3 h => ?_)
  refine r_if_eq C 57 dX9_sum_11 (by decide) (fun hc => ?_) (fun hc => ?_)
  · replace h := h.1 hc
    refine r_iconst (v := (-1 : Int32)) C dX9_sum_57 rfl ?_
    exact r_iret C dX9_sum_58 h
  · replace h := h.2 hc
    refine r_iload_n C 1 dX9_sum_14 rfl rfl ?_
    refine r_if_ne C 29 dX9_sum_15 (by decide) (fun hc => ?_) (fun hc => ?_)
    · replace h := h.1 hc
      refine r_aload_n C 0 dX9_sum_29 rfl rfl ?_
      refine r_iload_n C 3 dX9_sum_30 rfl rfl ?_
      refine cX9_272 C (m_X9_isStep l h) ⟨Nat.le_of_ble_eq_true rfl, Nat.le_of_ble_eq_true rfl⟩ (Nat.le_of_ble_eq_true rfl) ⟨Nat.le_refl 0, Nat.le_refl 0⟩ dX9_sum_31 (fun r_2 M_4 h => ?_)
      refine r_if_eq C 57 dX9_sum_34 (by decide) (fun hc => ?_) (fun hc => ?_)
      · replace h := h.1 hc
        refine r_iconst (v := (-1 : Int32)) C dX9_sum_57 rfl ?_
        exact r_iret C dX9_sum_58 h
      · replace h := h.2 hc
        refine r_aload_n C 0 dX9_sum_37 rfl rfl ?_
        refine gX9_57 C dX9_sum_38 ?_
        refine r_bipush (v := (10 : Int32)) C dX9_sum_41 rfl ?_
        refine r_sipush (v := (260 : Int32)) C dX9_sum_43 rfl ?_
        refine r_iload_n C 1 dX9_sum_46 rfl rfl ?_
        refine r_imul C dX9_sum_47 ?_
        refine r_iload_n C 2 dX9_sum_48 rfl rfl ?_
        refine r_iadd C dX9_sum_49 ?_
        refine r_imul C dX9_sum_50 ?_
        refine r_iload_n C 3 dX9_sum_51 rfl rfl ?_
        refine r_iadd C dX9_sum_52 ?_
        obtain ⟨q, h⟩ := h
        refine r_iald C sh_15 q dX9_sum_53 ?_
        refine r_goto C 58 dX9_sum_54 (by decide) ?_
        exact r_iret C dX9_sum_58 h
    · replace h := h.2 hc
      refine r_aload_n C 0 dX9_sum_18 rfl rfl ?_
      refine r_iload_n C 3 dX9_sum_19 rfl rfl ?_
      refine cX9_275 C (m_X9_isPlace l h) ⟨Nat.le_of_ble_eq_true rfl, Nat.le_of_ble_eq_true rfl⟩ (Nat.le_of_ble_eq_true rfl) ⟨Nat.le_refl 0, Nat.le_refl 0⟩ dX9_sum_20 (fun r_3 M_5 h => ?_)
      refine r_if_eq C 57 dX9_sum_23 (by decide) (fun hc => ?_) (fun hc => ?_)
      · replace h := h.1 hc
        refine r_iconst (v := (-1 : Int32)) C dX9_sum_57 rfl ?_
        exact r_iret C dX9_sum_58 h
      · replace h := h.2 hc
        refine r_goto C 37 dX9_sum_26 (by decide) ?_
        refine r_aload_n C 0 dX9_sum_37 rfl rfl ?_
        refine gX9_57 C dX9_sum_38 ?_
        refine r_bipush (v := (10 : Int32)) C dX9_sum_41 rfl ?_
        refine r_sipush (v := (260 : Int32)) C dX9_sum_43 rfl ?_
        refine r_iload_n C 1 dX9_sum_46 rfl rfl ?_
        refine r_imul C dX9_sum_47 ?_
        refine r_iload_n C 2 dX9_sum_48 rfl rfl ?_
        refine r_iadd C dX9_sum_49 ?_
        refine r_imul C dX9_sum_50 ?_
        refine r_iload_n C 3 dX9_sum_51 rfl rfl ?_
        refine r_iadd C dX9_sum_52 ?_
        obtain ⟨q_2, h⟩ := h
        refine r_iald C sh_15 q_2 dX9_sum_53 ?_
        refine r_goto C 58 dX9_sum_54 (by decide) ?_
        exact r_iret C dX9_sum_58 h
set_option maxHeartbeats 1000000 in
set_option maxRecDepth 10000 in
theorem mD_X9_support_7 (C : rw_C p s m meth c cX9_support 3 RX9 (some .int) D cy ad) {Q : State → Prop} {st : List Value} {M : Mem} {v1 : Int32} {v2 : Int32} {o0 : Int32} (kk : rw_W p l e R s m args below meth c D cy ad 3 0 0 Q 15 [(0, .ref (ad 0)), (1, .int v1), (2, .int v2)] (.int (if o0 = 0 then (1 : Int32) else (0 : Int32)) :: st) M) : rw_W p l e R s m args below meth c D cy ad 3 0 0 Q 7 [(0, .ref (ad 0)), (1, .int v1), (2, .int v2)] (.int o0 :: st) M := by
  refine r_if_eq C 14 dX9_support_7 (by decide) (fun z0 => ?_) (fun z0 => ?_)
  · skip
    refine r_iconst (v := (1 : Int32)) C dX9_support_14 rfl ?_
    first | rw [if_pos z0] at kk | rw [if_neg (fun q9 => q9 z0)] at kk
    exact kk
  · skip
    refine r_iconst (v := (0 : Int32)) C dX9_support_10 rfl ?_
    refine r_goto C 15 dX9_support_11 (by decide) ?_
    first | rw [if_neg z0] at kk | rw [if_neg (fun q9 => q9 z0)] at kk
    exact kk

def f_X9_support (v1 : Int32) (v2 : Int32) (M : Mem) (K : Int32 → Mem → Prop) : Prop := f_X9_isSum v1 v2 M (fun (r : Int32) (M_2 : Mem) => ∀ M_3 : Mem, M_3 = wI M_2 0 0 (if r = 0 then (1 : Int32) else (0 : Int32)) → ((¬ (M_3.1 0 0) = 0 → K (0 : Int32) M_3) ∧ ((M_3.1 0 0) = 0 → vp_in (((260 : Int32) * v1) + v2) 520 ∧ K (gI M_3 14 (((260 : Int32) * v1) + v2)) M_3)))

set_option maxHeartbeats 1000000 in
set_option maxRecDepth 10000 in
theorem m_X9_support (l : Launch) {v1 : Int32} {v2 : Int32}  {M : Mem} {K : Int32 → Mem → Prop} (h : f_X9_support v1 v2 M K) : CTi l yX9_support cX9_support 3 (some .int) rm_X9_support (fun ad => [.ref (ad 0), .int v1, .int v2]) M K := by
  refine rw_enti (by decide +kernel) (fun ad => Nat.le_of_ble_eq_true rfl) (fun p e s m args below meth c D cy ad C => ?_)
  change rw_W p l e _ s m args below meth c D cy ad 3 0 0 _ 0 [(0, .ref (ad 0)), (1, .int v1), (2, .int v2)] [] M
  unfold f_X9_support at h
  refine r_aload_n C 0 dX9_support_0 rfl rfl ?_
  refine r_aload_n C 0 dX9_support_1 rfl rfl ?_
  refine r_iload_n C 1 dX9_support_2 rfl rfl ?_
  refine r_iload_n C 2 dX9_support_3 rfl rfl ?_
  refine cX9_339 C (m_X9_isSum l h) ⟨Nat.le_of_ble_eq_true rfl, Nat.le_of_ble_eq_true rfl⟩ (Nat.le_of_ble_eq_true rfl) ⟨Nat.le_refl 0, Nat.le_refl 0⟩ dX9_support_4 (fun r M_2 h => ?_)
  refine mD_X9_support_7 C ?_
  refine pX9_133 C dX9_support_15 ?_
  replace h := h _ rfl
  refine r_aload_n C 0 dX9_support_18 rfl rfl ?_
  refine gX9_133 C dX9_support_19 ?_
  refine r_if_ne C 40 dX9_support_22 (by decide) (fun hc => ?_) (fun hc => ?_)
  · replace h := h.1 hc
    refine r_iconst (v := (0 : Int32)) C dX9_support_40 rfl ?_
    exact r_iret C dX9_support_41 h
  · replace h := h.2 hc
    refine r_aload_n C 0 dX9_support_25 rfl rfl ?_
    refine gX9_54 C dX9_support_26 ?_
    refine r_sipush (v := (260 : Int32)) C dX9_support_29 rfl ?_
    refine r_iload_n C 1 dX9_support_32 rfl rfl ?_
    refine r_imul C dX9_support_33 ?_
    refine r_iload_n C 2 dX9_support_34 rfl rfl ?_
    refine r_iadd C dX9_support_35 ?_
    obtain ⟨q, h⟩ := h
    refine r_iald C sh_14 q dX9_support_36 ?_
    refine r_goto C 41 dX9_support_37 (by decide) ?_
    exact r_iret C dX9_support_41 h
def L_X9_covered_24 (v1 : Int32) (X55 : Int32 → Mem → Prop) (K : Int32 → Mem → Prop) : Nat → Int32 → Int32 → Mem → Prop
  | 0, _, _, _ => False
  | n + 1, v2, v3, M => vp_in v1 2 ∧ (((gI M 17 v1) ≤ v3 → X55 v2 M) ∧ (¬ (gI M 17 v1) ≤ v3 → vp_in (((260 : Int32) * v1) + v3) 520 ∧ ∀ x2 : Int32, x2 = v2 ||| (gI M 14 (((260 : Int32) * v1) + v3)) → L_X9_covered_24 v1 X55 K n x2 (v3 + (1 : Int32)) M))

set_option maxHeartbeats 1000000 in
set_option maxRecDepth 10000 in
theorem mL_X9_covered_24 (C : rw_C p s m meth c cX9_covered 4 RX9 (some .int) D cy ad) {v1 : Int32} {X55 : Int32 → Mem → Prop} {K : Int32 → Mem → Prop} (hX55 : ∀ (u2 : Int32) (M : Mem), X55 u2 M → rw_W p l e rm_X9_covered s m args below meth c D cy ad 4 0 0 (rw_Qi below args s D cy ad K) 55 [(2, .int u2)] [] M) : ∀ (n : Nat) (v2 : Int32) (v3 : Int32) (M : Mem), L_X9_covered_24 v1 X55 K n v2 v3 M → rw_W p l e rm_X9_covered s m args below meth c D cy ad 4 0 0 (rw_Qi below args s D cy ad K) 24 [(0, .ref (ad 0)), (1, .int v1), (2, .int v2), (3, .int v3)] [] M := by
  intro n
  induction n with
  | zero => intro v2 v3 M h; exact h.elim
  | succ n ih =>
    intro v2 v3 M h
    refine r_iload_n C 3 dX9_covered_24 rfl rfl ?_
    refine r_aload_n C 0 dX9_covered_25 rfl rfl ?_
    refine gX9_63 C dX9_covered_26 ?_
    refine r_iload_n C 1 dX9_covered_29 rfl rfl ?_
    obtain ⟨q, h⟩ := h
    refine r_iald C sh_17 q dX9_covered_30 ?_
    refine r_icmp_ge C 55 dX9_covered_31 (by decide) (fun hc => ?_) (fun hc => ?_)
    · replace h := h.1 hc
      exact r_sub [2] rfl (hX55 _ _ h)
    · replace h := h.2 hc
      refine r_iload_n C 2 dX9_covered_34 rfl rfl ?_
      refine r_aload_n C 0 dX9_covered_35 rfl rfl ?_
      refine gX9_54 C dX9_covered_36 ?_
      refine r_sipush (v := (260 : Int32)) C dX9_covered_39 rfl ?_
      refine r_iload_n C 1 dX9_covered_42 rfl rfl ?_
      refine r_imul C dX9_covered_43 ?_
      refine r_iload_n C 3 dX9_covered_44 rfl rfl ?_
      refine r_iadd C dX9_covered_45 ?_
      obtain ⟨q_2, h⟩ := h
      refine r_iald C sh_14 q_2 dX9_covered_46 ?_
      refine r_ior C dX9_covered_47 ?_
      refine r_istore_n C [(2, .int _), (0, .ref _), (1, .int _), (3, .int _)] dX9_covered_48 rfl (by decide) rfl ?_
      replace h := h _ rfl
      refine r_iinc C 3 (v := _) [(3, .int _), (2, .int _), (0, .ref _), (1, .int _)] dX9_covered_49 rfl rfl (by decide) rfl ?_
      refine r_goto C 24 dX9_covered_52 (by decide) ?_
      exact r_sub [2, 3, 1, 0] rfl (ih _ _ _ h)

def f_X9_covered (v1 : Int32) (M : Mem) (K : Int32 → Mem → Prop) : Prop := ∀ M_2 : Mem, M_2 = wI M 0 0 (0 : Int32) → f_X9_in v1 (0 : Int32) (1 : Int32) M_2 (fun (r : Int32) (M_3 : Mem) => ((¬ r = 0 → f_X9_laySums  M_3 (fun (M_4 : Mem) => (∃ k24 : Nat, L_X9_covered_24 v1 (fun (v2_2 : Int32) (M_5 : Mem) => K v2_2 M_5) K k24 (0 : Int32) (0 : Int32) M_4))) ∧ (r = 0 → K (-1 : Int32) M_3)))

set_option maxHeartbeats 1000000 in
set_option maxRecDepth 10000 in
theorem m_X9_covered (l : Launch) {v1 : Int32}  {M : Mem} {K : Int32 → Mem → Prop} (h : f_X9_covered v1 M K) : CTi l yX9_covered cX9_covered 4 (some .int) rm_X9_covered (fun ad => [.ref (ad 0), .int v1]) M K := by
  refine rw_enti (by decide +kernel) (fun ad => Nat.le_of_ble_eq_true rfl) (fun p e s m args below meth c D cy ad C => ?_)
  change rw_W p l e _ s m args below meth c D cy ad 4 0 0 _ 0 [(0, .ref (ad 0)), (1, .int v1)] [] M
  unfold f_X9_covered at h
  refine r_aload_n C 0 dX9_covered_0 rfl rfl ?_
  refine r_iconst (v := (0 : Int32)) C dX9_covered_1 rfl ?_
  refine pX9_133 C dX9_covered_2 ?_
  replace h := h _ rfl
  refine r_iload_n C 1 dX9_covered_5 rfl rfl ?_
  refine r_iconst (v := (0 : Int32)) C dX9_covered_6 rfl ?_
  refine r_iconst (v := (1 : Int32)) C dX9_covered_7 rfl ?_
  refine cX9_136 C (m_X9_in l h) ⟨Nat.le_of_ble_eq_true rfl, Nat.le_of_ble_eq_true rfl⟩ (Nat.le_of_ble_eq_true rfl) ⟨Nat.le_refl 0, Nat.le_refl 0⟩ dX9_covered_8 (fun r M_3 h => ?_)
  refine r_if_ne C 16 dX9_covered_11 (by decide) (fun hc => ?_) (fun hc => ?_)
  · replace h := h.1 hc
    refine r_aload_n C 0 dX9_covered_16 rfl rfl ?_
    refine cX9_336 C (m_X9_laySums l h) ⟨Nat.le_of_ble_eq_true rfl, Nat.le_of_ble_eq_true rfl⟩ (Nat.le_of_ble_eq_true rfl) ⟨Nat.le_refl 0, Nat.le_refl 0⟩ dX9_covered_17 (fun M_4 h => ?_)
    refine r_iconst (v := (0 : Int32)) C dX9_covered_20 rfl ?_
    refine r_istore_n C [(2, .int _), (0, .ref _), (1, .int _)] dX9_covered_21 rfl (by decide) rfl ?_
    refine r_iconst (v := (0 : Int32)) C dX9_covered_22 rfl ?_
    refine r_istore_n C [(3, .int _), (2, .int _), (0, .ref _), (1, .int _)] dX9_covered_23 rfl (by decide) rfl ?_
    obtain ⟨n24, h⟩ := h
    refine r_sub [2, 3, 1, 0] rfl (mL_X9_covered_24 C (fun v2_2 M_5 h => ?_) n24 _ _ _ h)
    refine r_iload_n C 0 dX9_covered_55 rfl rfl ?_
    exact r_iret C dX9_covered_56 h
  · replace h := h.2 hc
    refine r_iconst (v := (-1 : Int32)) C dX9_covered_14 rfl ?_
    exact r_iret C dX9_covered_15 h
end MG
