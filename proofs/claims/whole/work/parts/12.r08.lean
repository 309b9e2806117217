section MG
variable {p : Program} {l : Launch} {e : Env} {R : Room} {s : State} {m : MethodId} {args : Array Value} {below : List Frame} {meth : Method} {c : Code} {D : va_G} {cy : Nat → ClassId} {ad : Nat → Nat}
def S_X9_onePlace_16 (v1 : Int32) (v2 : Int32) (v3 : Int32) (v4 : Int32) (v5 : Int32) (o0 : Int32) (X36 : Int32 → Mem → Prop) (K : Int32 → Mem → Prop) (M : Mem) : Prop := (o0 = 0 → f_X9_given v1 v5 M (fun (r : Int32) (M_2 : Mem) => X36 r M_2)) ∧ (¬ o0 = 0 → f_X9_taken v1 v5 M (fun (r_2 : Int32) (M_3 : Mem) => X36 r_2 M_3))

set_option maxHeartbeats 1000000 in
set_option maxRecDepth 10000 in
theorem mS_X9_onePlace_16 (C : rw_C p s m meth c cX9_onePlace 7 RX9 (some .int) D cy ad) {v1 : Int32} {v2 : Int32} {v3 : Int32} {v4 : Int32} {v5 : Int32} {o0 : Int32} {X36 : Int32 → Mem → Prop} {K : Int32 → Mem → Prop} {M : Mem} (hX36 : ∀  (w0 : Int32) (M : Mem), X36 w0 M → rw_W p l e rm_X9_onePlace s m args below meth c D cy ad 7 0 0 (rw_Qi below args s D cy ad K) 36 [(0, .ref (ad 0)), (1, .int v1), (2, .int v2), (3, .int v3), (4, .int v4), (5, .int v5)] [.int w0] M) (h : S_X9_onePlace_16 v1 v2 v3 v4 v5 o0 X36 K M) : rw_W p l e rm_X9_onePlace s m args below meth c D cy ad 7 0 0 (rw_Qi below args s D cy ad K) 16 [(0, .ref (ad 0)), (1, .int v1), (2, .int v2), (3, .int v3), (4, .int v4), (5, .int v5)] [.int o0] M := by
  refine r_if_eq C 29 dX9_onePlace_16 (by decide) (fun hc => ?_) (fun hc => ?_)
  · replace h := h.1 hc
    refine r_aload_n C 0 dX9_onePlace_29 rfl rfl ?_
    refine r_iload_n C 1 dX9_onePlace_30 rfl rfl ?_
    refine r_iload C 5 dX9_onePlace_31 rfl ?_
    refine cX9_418 C (m_X9_given l h) ⟨Nat.le_of_ble_eq_true rfl, Nat.le_of_ble_eq_true rfl⟩ (Nat.le_of_ble_eq_true rfl) ⟨Nat.le_refl 0, Nat.le_refl 0⟩ dX9_onePlace_33 (fun r M_2 h => ?_)
    exact hX36 _ _ h
  · replace h := h.2 hc
    refine r_aload_n C 0 dX9_onePlace_19 rfl rfl ?_
    refine r_iload_n C 1 dX9_onePlace_20 rfl rfl ?_
    refine r_iload C 5 dX9_onePlace_21 rfl ?_
    refine cX9_415 C (m_X9_taken l h) ⟨Nat.le_of_ble_eq_true rfl, Nat.le_of_ble_eq_true rfl⟩ (Nat.le_of_ble_eq_true rfl) ⟨Nat.le_refl 0, Nat.le_refl 0⟩ dX9_onePlace_23 (fun r_2 M_3 h => ?_)
    refine r_goto C 36 dX9_onePlace_26 (by decide) ?_
    exact hX36 _ _ h

def L_X9_onePlace_8 (v1 : Int32) (v2 : Int32) (X63 : Int32 → Int32 → Mem → Prop) (K : Int32 → Mem → Prop) : Nat → Int32 → Int32 → Int32 → Mem → Prop
  | 0, _, _, _, _ => False
  | n + 1, v3, v4, v5, M => (((10 : Int32) ≤ v5 → X63 v3 v4 M) ∧ (¬ (10 : Int32) ≤ v5 → (S_X9_onePlace_16 v1 v2 v3 v4 v5 v2 (fun (w : Int32) (M_4 : Mem) => ∀ x4 : Int32, x4 = v4 + w → ((w ≤ 0 → L_X9_onePlace_8 v1 v2 X63 K n v3 x4 (v5 + (1 : Int32)) M_4) ∧ (¬ w ≤ 0 → L_X9_onePlace_8 v1 v2 X63 K n v5 x4 (v5 + (1 : Int32)) M_4))) K M)))

set_option maxHeartbeats 1000000 in
set_option maxRecDepth 10000 in
theorem mL_X9_onePlace_8 (C : rw_C p s m meth c cX9_onePlace 7 RX9 (some .int) D cy ad) {v1 : Int32} {v2 : Int32} {X63 : Int32 → Int32 → Mem → Prop} {K : Int32 → Mem → Prop} (hX63 : ∀ (u3 : Int32) (u4 : Int32) (M : Mem), X63 u3 u4 M → rw_W p l e rm_X9_onePlace s m args below meth c D cy ad 7 0 0 (rw_Qi below args s D cy ad K) 63 [(3, .int u3), (4, .int u4)] [] M) : ∀ (n : Nat) (v3 : Int32) (v4 : Int32) (v5 : Int32) (M : Mem), L_X9_onePlace_8 v1 v2 X63 K n v3 v4 v5 M → rw_W p l e rm_X9_onePlace s m args below meth c D cy ad 7 0 0 (rw_Qi below args s D cy ad K) 8 [(0, .ref (ad 0)), (1, .int v1), (2, .int v2), (3, .int v3), (4, .int v4), (5, .int v5)] [] M := by
  intro n
  induction n with
  | zero => intro v3 v4 v5 M h; exact h.elim
  | succ n ih =>
    intro v3 v4 v5 M h
    refine r_iload C 5 dX9_onePlace_8 rfl ?_
    refine r_bipush (v := (10 : Int32)) C dX9_onePlace_10 rfl ?_
    refine r_icmp_ge C 63 dX9_onePlace_12 (by decide) (fun hc => ?_) (fun hc => ?_)
    · replace h := h.1 hc
      exact r_sub [3, 4] rfl (hX63 _ _ _ h)
    · replace h := h.2 hc
      refine r_iload_n C 2 dX9_onePlace_15 rfl rfl ?_
      refine mS_X9_onePlace_16 C (fun w M_4 h => ?_) h
      refine r_istore C [(6, .int _), (0, .ref _), (1, .int _), (2, .int _), (3, .int _), (4, .int _), (5, .int _)] dX9_onePlace_36 (by decide) rfl ?_
      refine r_iload C 5 dX9_onePlace_38 rfl ?_
      refine r_iload C 0 dX9_onePlace_40 rfl ?_
      refine r_iadd C dX9_onePlace_42 ?_
      refine r_istore C [(4, .int _), (6, .int _), (0, .ref _), (1, .int _), (2, .int _), (3, .int _), (5, .int _)] dX9_onePlace_43 (by decide) rfl ?_
      replace h := h _ rfl
      refine r_iload C 1 dX9_onePlace_45 rfl ?_
      refine r_if_le C 55 dX9_onePlace_47 (by decide) (fun hc => ?_) (fun hc => ?_)
      · replace h := h.1 hc
        refine r_iload_n C 5 dX9_onePlace_55 rfl rfl ?_
        refine r_istore_n C [(3, .int _), (4, .int _), (6, .int _), (0, .ref _), (1, .int _), (2, .int _), (5, .int _)] dX9_onePlace_56 rfl (by decide) rfl ?_
        refine r_iinc C 6 (v := _) [(5, .int _), (3, .int _), (4, .int _), (6, .int _), (0, .ref _), (1, .int _), (2, .int _)] dX9_onePlace_57 rfl rfl (by decide) rfl ?_
        refine r_goto C 8 dX9_onePlace_60 (by decide) ?_
        exact r_sub [4, 5, 6, 1, 2, 0] rfl (ih _ _ _ _ h)
      · replace h := h.2 hc
        refine r_iload C 6 dX9_onePlace_50 rfl ?_
        refine r_goto C 56 dX9_onePlace_52 (by decide) ?_
        refine r_istore_n C [(3, .int _), (4, .int _), (6, .int _), (0, .ref _), (1, .int _), (2, .int _), (5, .int _)] dX9_onePlace_56 rfl (by decide) rfl ?_
        refine r_iinc C 6 (v := _) [(5, .int _), (3, .int _), (4, .int _), (6, .int _), (0, .ref _), (1, .int _), (2, .int _)] dX9_onePlace_57 rfl rfl (by decide) rfl ?_
        refine r_goto C 8 dX9_onePlace_60 (by decide) ?_
        exact r_sub [4, 5, 6, 1, 2, 0] rfl (ih _ _ _ _ h)

def f_X9_onePlace (v1 : Int32) (v2 : Int32) (M : Mem) (K : Int32 → Mem → Prop) : Prop := (∃ k8 : Nat, L_X9_onePlace_8 v1 v2 (fun (v3_2 : Int32) (v4_2 : Int32) (M_5 : Mem) => ((¬ v4_2 = (1 : Int32) → K (-1 : Int32) M_5) ∧ (v4_2 = (1 : Int32) → K v3_2 M_5))) K k8 (-1 : Int32) (0 : Int32) (0 : Int32) M)

set_option maxHeartbeats 1000000 in
set_option maxRecDepth 10000 in
theorem m_X9_onePlace (l : Launch) {v1 : Int32} {v2 : Int32}  {M : Mem} {K : Int32 → Mem → Prop} (h : f_X9_onePlace v1 v2 M K) : CTi l yX9_onePlace cX9_onePlace 7 (some .int) rm_X9_onePlace (fun ad => [.ref (ad 0), .int v1, .int v2]) M K := by
  refine rw_enti (by decide +kernel) (fun ad => Nat.le_of_ble_eq_true rfl) (fun p e s m args below meth c D cy ad C => ?_)
  change rw_W p l e _ s m args below meth c D cy ad 7 0 0 _ 0 [(0, .ref (ad 0)), (1, .int v1), (2, .int v2)] [] M
  unfold f_X9_onePlace at h
  refine r_iconst (v := (-1 : Int32)) C dX9_onePlace_0 rfl ?_
  refine r_istore_n C [(3, .int _), (0, .ref _), (1, .int _), (2, .int _)] dX9_onePlace_1 rfl (by decide) rfl ?_
  refine r_iconst (v := (0 : Int32)) C dX9_onePlace_2 rfl ?_
  refine r_istore C [(4, .int _), (3, .int _), (0, .ref _), (1, .int _), (2, .int _)] dX9_onePlace_3 (by decide) rfl ?_
  refine r_iconst (v := (0 : Int32)) C dX9_onePlace_5 rfl ?_
  refine r_istore C [(5, .int _), (4, .int _), (3, .int _), (0, .ref _), (1, .int _), (2, .int _)] dX9_onePlace_6 (by decide) rfl ?_
  obtain ⟨n8, h⟩ := h
  refine r_sub [3, 4, 5, 2, 1, 0] rfl (mL_X9_onePlace_8 C (fun v3_2 v4_2 M_5 h => ?_) n8 _ _ _ _ h)
  refine r_iload C 1 dX9_onePlace_63 rfl ?_
  refine r_iconst (v := (1 : Int32)) C dX9_onePlace_65 rfl ?_
  refine r_icmp_ne C 73 dX9_onePlace_66 (by decide) (fun hc => ?_) (fun hc => ?_)
  · replace h := h.1 hc
    refine r_iconst (v := (-1 : Int32)) C dX9_onePlace_73 rfl ?_
    exact r_iret C dX9_onePlace_74 h
  · replace h := h.2 hc
    refine r_iload_n C 0 dX9_onePlace_69 rfl rfl ?_
    refine r_goto C 74 dX9_onePlace_70 (by decide) ?_
    exact r_iret C dX9_onePlace_74 h
def S_X9_fitsFive_46 (v1 : Int32) (v2 : Int32) (v3 : Int32) (o0 : Int32) (X73 : Int32 → Mem → Prop) (K : Int32 → Mem → Prop) (M : Mem) : Prop := (o0 < 0 → X73 (0 : Int32) M) ∧ (¬ o0 < 0 → ((v3 < 0 → X73 (0 : Int32) M) ∧ (¬ v3 < 0 → ((v2 = v3 → X73 (0 : Int32) M) ∧ (¬ v2 = v3 → f_X9_onePlace v3 (1 : Int32) M (fun (r_4 : Int32) (M_5 : Mem) => ((¬ r_4 = v1 → X73 (0 : Int32) M_5) ∧ (r_4 = v1 → X73 (1 : Int32) M_5))))))))

set_option maxHeartbeats 1000000 in
set_option maxRecDepth 10000 in
theorem mS_X9_fitsFive_46 (C : rw_C p s m meth c cX9_fitsFive 6 RX9 (some .boolean) D cy ad) {v1 : Int32} {v2 : Int32} {v3 : Int32} {o0 : Int32} {X73 : Int32 → Mem → Prop} {K : Int32 → Mem → Prop} {M : Mem} (hX73 : ∀  (w0 : Int32) (M : Mem), X73 w0 M → rw_W p l e rm_X9_fitsFive s m args below meth c D cy ad 6 0 0 (rw_Qi below args s D cy ad K) 73 [(0, .ref (ad 0)), (1, .int v1), (2, .int v2), (3, .int v3)] [.int w0] M) (h : S_X9_fitsFive_46 v1 v2 v3 o0 X73 K M) : rw_W p l e rm_X9_fitsFive s m args below meth c D cy ad 6 0 0 (rw_Qi below args s D cy ad K) 46 [(0, .ref (ad 0)), (1, .int v1), (2, .int v2), (3, .int v3)] [.int o0] M := by
  refine r_if_lt C 72 dX9_fitsFive_46 (by decide) (fun hc => ?_) (fun hc => ?_)
  · replace h := h.1 hc
    refine r_iconst (v := (0 : Int32)) C dX9_fitsFive_72 rfl ?_
    exact hX73 _ _ h
  · replace h := h.2 hc
    refine r_iload_n C 3 dX9_fitsFive_49 rfl rfl ?_
    refine r_if_lt C 72 dX9_fitsFive_50 (by decide) (fun hc => ?_) (fun hc => ?_)
    · replace h := h.1 hc
      refine r_iconst (v := (0 : Int32)) C dX9_fitsFive_72 rfl ?_
      exact hX73 _ _ h
    · replace h := h.2 hc
      refine r_iload_n C 2 dX9_fitsFive_53 rfl rfl ?_
      refine r_iload_n C 3 dX9_fitsFive_54 rfl rfl ?_
      refine r_icmp_eq C 72 dX9_fitsFive_55 (by decide) (fun hc => ?_) (fun hc => ?_)
      · replace h := h.1 hc
        refine r_iconst (v := (0 : Int32)) C dX9_fitsFive_72 rfl ?_
        exact hX73 _ _ h
      · replace h := h.2 hc
        refine r_aload_n C 0 dX9_fitsFive_58 rfl rfl ?_
        refine r_iload_n C 3 dX9_fitsFive_59 rfl rfl ?_
        refine r_iconst (v := (1 : Int32)) C dX9_fitsFive_60 rfl ?_
        refine cX9_439 C (m_X9_onePlace l h) ⟨Nat.le_of_ble_eq_true rfl, Nat.le_of_ble_eq_true rfl⟩ (Nat.le_of_ble_eq_true rfl) ⟨Nat.le_refl 0, Nat.le_refl 0⟩ dX9_fitsFive_61 (fun r_4 M_5 h => ?_)
        refine r_iload_n C 1 dX9_fitsFive_64 rfl rfl ?_
        refine r_icmp_ne C 72 dX9_fitsFive_65 (by decide) (fun hc => ?_) (fun hc => ?_)
        · replace h := h.1 hc
          refine r_iconst (v := (0 : Int32)) C dX9_fitsFive_72 rfl ?_
          exact hX73 _ _ h
        · replace h := h.2 hc
          refine r_iconst (v := (1 : Int32)) C dX9_fitsFive_68 rfl ?_
          refine r_goto C 73 dX9_fitsFive_69 (by decide) ?_
          exact hX73 _ _ h

def L_X9_fitsFive_78 (v1 : Int32) (v2 : Int32) (v3 : Int32) (X128 : Int32 → Mem → Prop) (K : Int32 → Mem → Prop) : Nat → Int32 → Int32 → Mem → Prop
  | 0, _, _, _ => False
  | n + 1, v4, v5, M => (((10 : Int32) ≤ v5 → X128 v4 M) ∧ (¬ (10 : Int32) ≤ v5 → ((v4 = 0 → X128 v4 M) ∧ (¬ v4 = 0 → ((v5 = v1 → L_X9_fitsFive_78 v1 v2 v3 X128 K n (1 : Int32) (v5 + (1 : Int32)) M) ∧ (¬ v5 = v1 → f_X9_given v2 v5 M (fun (r_5 : Int32) (M_7 : Mem) => f_X9_given v3 v5 M_7 (fun (r_6 : Int32) (M_8 : Mem) => (((3 : Int32) < (r_5 + r_6) → L_X9_fitsFive_78 v1 v2 v3 X128 K n (0 : Int32) (v5 + (1 : Int32)) M_8) ∧ (¬ (3 : Int32) < (r_5 + r_6) → L_X9_fitsFive_78 v1 v2 v3 X128 K n (1 : Int32) (v5 + (1 : Int32)) M_8))))))))))

set_option maxHeartbeats 1000000 in
set_option maxRecDepth 10000 in
theorem mL_X9_fitsFive_78 (C : rw_C p s m meth c cX9_fitsFive 6 RX9 (some .boolean) D cy ad) {v1 : Int32} {v2 : Int32} {v3 : Int32} {X128 : Int32 → Mem → Prop} {K : Int32 → Mem → Prop} (hX128 : ∀ (u4 : Int32) (M : Mem), X128 u4 M → rw_W p l e rm_X9_fitsFive s m args below meth c D cy ad 6 0 0 (rw_Qi below args s D cy ad K) 128 [(0, .ref (ad 0)), (1, .int v1), (2, .int v2), (3, .int v3), (4, .int u4)] [] M) : ∀ (n : Nat) (v4 : Int32) (v5 : Int32) (M : Mem), L_X9_fitsFive_78 v1 v2 v3 X128 K n v4 v5 M → rw_W p l e rm_X9_fitsFive s m args below meth c D cy ad 6 0 0 (rw_Qi below args s D cy ad K) 78 [(0, .ref (ad 0)), (1, .int v1), (2, .int v2), (3, .int v3), (4, .int v4), (5, .int v5)] [] M := by
  intro n
  induction n with
  | zero => intro v4 v5 M h; exact h.elim
  | succ n ih =>
    intro v4 v5 M h
    refine r_iload C 5 dX9_fitsFive_78 rfl ?_
    refine r_bipush (v := (10 : Int32)) C dX9_fitsFive_80 rfl ?_
    refine r_icmp_ge C 128 dX9_fitsFive_82 (by decide) (fun hc => ?_) (fun hc => ?_)
    · replace h := h.1 hc
      exact r_sub [0, 1, 2, 3, 4] rfl (hX128 _ _ h)
    · replace h := h.2 hc
      refine r_iload C 4 dX9_fitsFive_85 rfl ?_
      refine r_if_eq C 128 dX9_fitsFive_87 (by decide) (fun hc => ?_) (fun hc => ?_)
      · replace h := h.1 hc
        exact r_sub [0, 1, 2, 3, 4] rfl (hX128 _ _ h)
      · replace h := h.2 hc
        refine r_iload C 5 dX9_fitsFive_90 rfl ?_
        refine r_iload_n C 1 dX9_fitsFive_92 rfl rfl ?_
        refine r_icmp_eq C 115 dX9_fitsFive_93 (by decide) (fun hc => ?_) (fun hc => ?_)
        · replace h := h.1 hc
          refine r_iconst (v := (1 : Int32)) C dX9_fitsFive_115 rfl ?_
          refine r_goto C 120 dX9_fitsFive_116 (by decide) ?_
          refine r_istore C [(4, .int _), (0, .ref _), (1, .int _), (2, .int _), (3, .int _), (5, .int _)] dX9_fitsFive_120 (by decide) rfl ?_
          refine r_iinc C 5 (v := _) [(5, .int _), (4, .int _), (0, .ref _), (1, .int _), (2, .int _), (3, .int _)] dX9_fitsFive_122 rfl rfl (by decide) rfl ?_
          refine r_goto C 78 dX9_fitsFive_125 (by decide) ?_
          exact r_sub [2, 3, 4, 5, 1, 0] rfl (ih _ _ _ h)
        · replace h := h.2 hc
          refine r_aload_n C 0 dX9_fitsFive_96 rfl rfl ?_
          refine r_iload_n C 2 dX9_fitsFive_97 rfl rfl ?_
          refine r_iload C 5 dX9_fitsFive_98 rfl ?_
          refine cX9_418 C (m_X9_given l h) ⟨Nat.le_of_ble_eq_true rfl, Nat.le_of_ble_eq_true rfl⟩ (Nat.le_of_ble_eq_true rfl) ⟨Nat.le_refl 0, Nat.le_refl 0⟩ dX9_fitsFive_100 (fun r_5 M_7 h => ?_)
          refine r_aload_n C 0 dX9_fitsFive_103 rfl rfl ?_
          refine r_iload_n C 3 dX9_fitsFive_104 rfl rfl ?_
          refine r_iload C 5 dX9_fitsFive_105 rfl ?_
          refine cX9_418 C (m_X9_given l h) ⟨Nat.le_of_ble_eq_true rfl, Nat.le_of_ble_eq_true rfl⟩ (Nat.le_of_ble_eq_true rfl) ⟨Nat.le_refl 0, Nat.le_refl 0⟩ dX9_fitsFive_107 (fun r_6 M_8 h => ?_)
          refine r_iadd C dX9_fitsFive_110 ?_
          refine r_iconst (v := (3 : Int32)) C dX9_fitsFive_111 rfl ?_
          refine r_icmp_gt C 119 dX9_fitsFive_112 (by decide) (fun hc => ?_) (fun hc => ?_)
          · replace h := h.1 hc
            refine r_iconst (v := (0 : Int32)) C dX9_fitsFive_119 rfl ?_
            refine r_istore C [(4, .int _), (0, .ref _), (1, .int _), (2, .int _), (3, .int _), (5, .int _)] dX9_fitsFive_120 (by decide) rfl ?_
            refine r_iinc C 5 (v := _) [(5, .int _), (4, .int _), (0, .ref _), (1, .int _), (2, .int _), (3, .int _)] dX9_fitsFive_122 rfl rfl (by decide) rfl ?_
            refine r_goto C 78 dX9_fitsFive_125 (by decide) ?_
            exact r_sub [2, 3, 4, 5, 1, 0] rfl (ih _ _ _ h)
          · replace h := h.2 hc
            refine r_iconst (v := (1 : Int32)) C dX9_fitsFive_115 rfl ?_
            refine r_goto C 120 dX9_fitsFive_116 (by decide) ?_
            refine r_istore C [(4, .int _), (0, .ref _), (1, .int _), (2, .int _), (3, .int _), (5, .int _)] dX9_fitsFive_120 (by decide) rfl ?_
            refine r_iinc C 5 (v := _) [(5, .int _), (4, .int _), (0, .ref _), (1, .int _), (2, .int _), (3, .int _)] dX9_fitsFive_122 rfl rfl (by decide) rfl ?_
            refine r_goto C 78 dX9_fitsFive_125 (by decide) ?_
            exact r_sub [2, 3, 4, 5, 1, 0] rfl (ih _ _ _ h)

def L_X9_fitsFive_139 (v1 : Int32) (v2 : Int32) (v3 : Int32) (X175 : Mem → Prop) (K : Int32 → Mem → Prop) : Nat → Int32 → Mem → Prop
  | 0, _, _ => False
  | n + 1, v5, M => (((10 : Int32) ≤ v5 → X175 M) ∧ (¬ (10 : Int32) ≤ v5 → f_X9_arcAt (1 : Int32) v2 v5 M (fun (r_7 : Int32) (M_10 : Mem) => vp_in r_7 240 ∧ f_X9_given v3 v5 M_10 (fun (r_8 : Int32) (M_11 : Mem) => ∀ M_12 : Mem, M_12 = wI M_11 2 r_7.toNatClampNeg ((gI M_10 2 r_7) + r_8) → L_X9_fitsFive_139 v1 v2 v3 X175 K n (v5 + (1 : Int32)) M_12))))

set_option maxHeartbeats 1000000 in
set_option maxRecDepth 10000 in
theorem mL_X9_fitsFive_139 (C : rw_C p s m meth c cX9_fitsFive 6 RX9 (some .boolean) D cy ad) {v1 : Int32} {v2 : Int32} {v3 : Int32} {X175 : Mem → Prop} {K : Int32 → Mem → Prop} (hX175 : ∀  (M : Mem), X175 M → rw_W p l e rm_X9_fitsFive s m args below meth c D cy ad 6 0 0 (rw_Qi below args s D cy ad K) 175 [(0, .ref (ad 0)), (1, .int v1), (3, .int v3)] [] M) : ∀ (n : Nat) (v5 : Int32) (M : Mem), L_X9_fitsFive_139 v1 v2 v3 X175 K n v5 M → rw_W p l e rm_X9_fitsFive s m args below meth c D cy ad 6 0 0 (rw_Qi below args s D cy ad K) 139 [(0, .ref (ad 0)), (1, .int v1), (2, .int v2), (3, .int v3), (5, .int v5)] [] M := by
  intro n
  induction n with
  | zero => intro v5 M h; exact h.elim
  | succ n ih =>
    intro v5 M h
    refine r_iload C 4 dX9_fitsFive_139 rfl ?_
    refine r_bipush (v := (10 : Int32)) C dX9_fitsFive_141 rfl ?_
    refine r_icmp_ge C 175 dX9_fitsFive_143 (by decide) (fun hc => ?_) (fun hc => ?_)
    · replace h := h.1 hc
      exact r_sub [0, 1, 3] rfl (hX175 _ h)
    · replace h := h.2 hc
      refine r_aload_n C 0 dX9_fitsFive_146 rfl rfl ?_
      refine gX9_13 C dX9_fitsFive_147 ?_
      refine r_aload_n C 0 dX9_fitsFive_150 rfl rfl ?_
      refine r_iconst (v := (1 : Int32)) C dX9_fitsFive_151 rfl ?_
      refine r_iload_n C 2 dX9_fitsFive_152 rfl rfl ?_
      refine r_iload C 4 dX9_fitsFive_153 rfl ?_
      refine cX9_144 C (m_X9_arcAt l h) ⟨Nat.le_of_ble_eq_true rfl, Nat.le_of_ble_eq_true rfl⟩ (Nat.le_of_ble_eq_true rfl) ⟨Nat.le_refl 0, Nat.le_refl 0⟩ dX9_fitsFive_155 (fun r_7 M_10 h => ?_)
      refine r_dup2_11 C dX9_fitsFive_158 rfl rfl ?_
      obtain ⟨q_2, h⟩ := h
      refine r_iald C sh_2 q_2 dX9_fitsFive_159 ?_
      refine r_aload_n C 0 dX9_fitsFive_160 rfl rfl ?_
      refine r_iload_n C 3 dX9_fitsFive_161 rfl rfl ?_
      refine r_iload C 4 dX9_fitsFive_162 rfl ?_
      refine cX9_418 C (m_X9_given l h) ⟨Nat.le_of_ble_eq_true rfl, Nat.le_of_ble_eq_true rfl⟩ (Nat.le_of_ble_eq_true rfl) ⟨Nat.le_refl 0, Nat.le_refl 0⟩ dX9_fitsFive_164 (fun r_8 M_11 h => ?_)
      refine r_iadd C dX9_fitsFive_167 ?_
      refine r_iast C sh_2 q_2 dX9_fitsFive_168 ?_
      replace h := h _ rfl
      refine r_iinc C 4 (v := _) [(5, .int _), (0, .ref _), (1, .int _), (2, .int _), (3, .int _)] dX9_fitsFive_169 rfl rfl (by decide) rfl ?_
      refine r_goto C 139 dX9_fitsFive_172 (by decide) ?_
      exact r_sub [1, 2, 3, 4, 0] rfl (ih _ _ h)

def L_X9_fitsFive_2 (X190 : Mem → Prop) (K : Int32 → Mem → Prop) : Nat → Int32 → Mem → Prop
  | 0, _, _ => False
  | n + 1, v1, M => (((10 : Int32) ≤ v1 → X190 M) ∧ (¬ (10 : Int32) ≤ v1 → f_X9_isThere v1 M (fun (r : Int32) (M_2 : Mem) => ((r = 0 → L_X9_fitsFive_2 X190 K n (v1 + (1 : Int32)) M_2) ∧ (¬ r = 0 → vp_in ((10 : Int32) + v1) 30 ∧ (((gI M_2 3 ((10 : Int32) + v1)) ≤ 0 → f_X9_oneAt v1 (0 : Int32) M_2 (fun (r_2 : Int32) (M_3 : Mem) => f_X9_oneAt v1 (1 : Int32) M_3 (fun (r_3 : Int32) (M_4 : Mem) => (S_X9_fitsFive_46 v1 r_2 r_3 r_2 (fun (w : Int32) (M_6 : Mem) => (∃ k78 : Nat, L_X9_fitsFive_78 v1 r_2 r_3 (fun (v4_2 : Int32) (M_9 : Mem) => ((¬ v4_2 = 0 → (∃ k139 : Nat, L_X9_fitsFive_139 v1 r_2 r_3 (fun  (M_13 : Mem) => f_X9_notes (5 : Int32) v1 r_3 M_13 (fun (M_14 : Mem) => K (1 : Int32) M_14)) K k139 (0 : Int32) M_9)) ∧ (v4_2 = 0 → L_X9_fitsFive_2 X190 K n (v1 + (1 : Int32)) M_9))) K k78 w (0 : Int32) M_6)) K M_4)))) ∧ (¬ (gI M_2 3 ((10 : Int32) + v1)) ≤ 0 → L_X9_fitsFive_2 X190 K n (v1 + (1 : Int32)) M_2)))))))

set_option maxHeartbeats 1000000 in
set_option maxRecDepth 10000 in
theorem mL_X9_fitsFive_2 (C : rw_C p s m meth c cX9_fitsFive 6 RX9 (some .boolean) D cy ad) {X190 : Mem → Prop} {K : Int32 → Mem → Prop} (hX190 : ∀  (M : Mem), X190 M → rw_W p l e rm_X9_fitsFive s m args below meth c D cy ad 6 0 0 (rw_Qi below args s D cy ad K) 190 [] [] M) : ∀ (n : Nat) (v1 : Int32) (M : Mem), L_X9_fitsFive_2 X190 K n v1 M → rw_W p l e rm_X9_fitsFive s m args below meth c D cy ad 6 0 0 (rw_Qi below args s D cy ad K) 2 [(0, .ref (ad 0)), (1, .int v1)] [] M := by
  intro n
  induction n with
  | zero => intro v1 M h; exact h.elim
  | succ n ih =>
    intro v1 M h
    refine r_iload_n C 1 dX9_fitsFive_2 rfl rfl ?_
    refine r_bipush (v := (10 : Int32)) C dX9_fitsFive_3 rfl ?_
    refine r_icmp_ge C 190 dX9_fitsFive_5 (by decide) (fun hc => ?_) (fun hc => ?_)
    · replace h := h.1 hc
      exact r_sub [] rfl (hX190 _ h)
    · replace h := h.2 hc
      refine r_aload_n C 0 dX9_fitsFive_8 rfl rfl ?_
      refine r_iload_n C 1 dX9_fitsFive_9 rfl rfl ?_
      refine cX9_421 C (m_X9_isThere l h) ⟨Nat.le_of_ble_eq_true rfl, Nat.le_of_ble_eq_true rfl⟩ (Nat.le_of_ble_eq_true rfl) ⟨Nat.le_refl 0, Nat.le_refl 0⟩ dX9_fitsFive_10 (fun r M_2 h => ?_)
      refine r_if_eq C 184 dX9_fitsFive_13 (by decide) (fun hc => ?_) (fun hc => ?_)
      · replace h := h.1 hc
        refine r_iinc C 1 (v := _) [(1, .int _), (0, .ref _)] dX9_fitsFive_184 rfl rfl (by decide) rfl ?_
        refine r_goto C 2 dX9_fitsFive_187 (by decide) ?_
        exact r_sub [1, 0] rfl (ih _ _ h)
      · replace h := h.2 hc
        refine r_aload_n C 0 dX9_fitsFive_16 rfl rfl ?_
        refine gX9_16 C dX9_fitsFive_17 ?_
        refine r_bipush (v := (10 : Int32)) C dX9_fitsFive_20 rfl ?_
        refine r_iload_n C 1 dX9_fitsFive_22 rfl rfl ?_
        refine r_iadd C dX9_fitsFive_23 ?_
        obtain ⟨q, h⟩ := h
        refine r_iald C sh_3 q dX9_fitsFive_24 ?_
        refine r_if_le C 31 dX9_fitsFive_25 (by decide) (fun hc => ?_) (fun hc => ?_)
        · replace h := h.1 hc
          refine r_aload_n C 0 dX9_fitsFive_31 rfl rfl ?_
          refine r_iload_n C 1 dX9_fitsFive_32 rfl rfl ?_
          refine r_iconst (v := (0 : Int32)) C dX9_fitsFive_33 rfl ?_
          refine cX9_436 C (m_X9_oneAt l h) ⟨Nat.le_of_ble_eq_true rfl, Nat.le_of_ble_eq_true rfl⟩ (Nat.le_of_ble_eq_true rfl) ⟨Nat.le_refl 0, Nat.le_refl 0⟩ dX9_fitsFive_34 (fun r_2 M_3 h => ?_)
          refine r_istore_n C [(2, .int _), (0, .ref _), (1, .int _)] dX9_fitsFive_37 rfl (by decide) rfl ?_
          refine r_aload_n C 1 dX9_fitsFive_38 rfl rfl ?_
          refine r_iload_n C 2 dX9_fitsFive_39 rfl rfl ?_
          refine r_iconst (v := (1 : Int32)) C dX9_fitsFive_40 rfl ?_
          refine cX9_436 C (m_X9_oneAt l h) ⟨Nat.le_of_ble_eq_true rfl, Nat.le_of_ble_eq_true rfl⟩ (Nat.le_of_ble_eq_true rfl) ⟨Nat.le_refl 0, Nat.le_refl 0⟩ dX9_fitsFive_41 (fun r_3 M_4 h => ?_)
          refine r_istore_n C [(3, .int _), (2, .int _), (0, .ref _), (1, .int _)] dX9_fitsFive_44 rfl (by decide) rfl ?_
          refine r_iload_n C 1 dX9_fitsFive_45 rfl rfl ?_
          refine r_sub [2, 3, 1, 0] rfl (mS_X9_fitsFive_46 C (fun w M_6 h => ?_) h)
          refine r_istore C [(4, .int _), (0, .ref _), (1, .int _), (2, .int _), (3, .int _)] dX9_fitsFive_73 (by decide) rfl ?_
          refine r_iconst (v := (0 : Int32)) C dX9_fitsFive_75 rfl ?_
          refine r_istore C [(5, .int _), (4, .int _), (0, .ref _), (1, .int _), (2, .int _), (3, .int _)] dX9_fitsFive_76 (by decide) rfl ?_
          obtain ⟨n78, h⟩ := h
          refine r_sub [2, 3, 4, 5, 1, 0] rfl (mL_X9_fitsFive_78 C (fun v4_2 M_9 h => ?_) n78 _ _ _ h)
          refine r_iload C 4 dX9_fitsFive_128 rfl ?_
          refine r_if_ne C 136 dX9_fitsFive_130 (by decide) (fun hc => ?_) (fun hc => ?_)
          · replace h := h.1 hc
            refine r_iconst (v := (0 : Int32)) C dX9_fitsFive_136 rfl ?_
            refine r_istore C [(5, .int _), (0, .ref _), (1, .int _), (2, .int _), (3, .int _), (4, .int _)] dX9_fitsFive_137 (by decide) rfl ?_
            obtain ⟨n139, h⟩ := h
            refine r_sub [1, 2, 3, 4, 0] rfl (mL_X9_fitsFive_139 C (fun M_13 h => ?_) n139 _ _ h)
            refine r_aload_n C 0 dX9_fitsFive_175 rfl rfl ?_
            refine r_iconst (v := (5 : Int32)) C dX9_fitsFive_176 rfl ?_
            refine r_iload_n C 1 dX9_fitsFive_177 rfl rfl ?_
            refine r_iload_n C 2 dX9_fitsFive_178 rfl rfl ?_
            refine cX9_427 C (m_X9_notes l h) ⟨Nat.le_of_ble_eq_true rfl, Nat.le_of_ble_eq_true rfl⟩ (Nat.le_of_ble_eq_true rfl) ⟨Nat.le_refl 0, Nat.le_refl 0⟩ dX9_fitsFive_179 (fun M_14 h => ?_)
            refine r_iconst (v := (1 : Int32)) C dX9_fitsFive_182 rfl ?_
            exact r_zret C (by decide) dX9_fitsFive_183 h
          · replace h := h.2 hc
            refine r_goto C 184 dX9_fitsFive_133 (by decide) ?_
            refine r_iinc C 1 (v := _) [(1, .int _), (0, .ref _), (2, .int _), (3, .int _), (4, .int _)] dX9_fitsFive_184 rfl rfl (by decide) rfl ?_
            refine r_goto C 2 dX9_fitsFive_187 (by decide) ?_
            exact r_sub [1, 0] rfl (ih _ _ h)
        · replace h := h.2 hc
          refine r_goto C 184 dX9_fitsFive_28 (by decide) ?_
          refine r_iinc C 1 (v := _) [(1, .int _), (0, .ref _)] dX9_fitsFive_184 rfl rfl (by decide) rfl ?_
          refine r_goto C 2 dX9_fitsFive_187 (by decide) ?_
          exact r_sub [1, 0] rfl (ih _ _ h)

def f_X9_fitsFive (M : Mem) (K : Int32 → Mem → Prop) : Prop := (∃ k2 : Nat, L_X9_fitsFive_2 (fun  (M_15 : Mem) => K (0 : Int32) M_15) K k2 (0 : Int32) M)

set_option maxHeartbeats 1000000 in
set_option maxRecDepth 10000 in
theorem m_X9_fitsFive (l : Launch)   {M : Mem} {K : Int32 → Mem → Prop} (h : f_X9_fitsFive M K) : CTi l yX9_fitsFive cX9_fitsFive 6 (some .boolean) rm_X9_fitsFive (fun ad => [.ref (ad 0)]) M K := by
  refine rw_enti (by decide +kernel) (fun ad => Nat.le_of_ble_eq_true rfl) (fun p e s m args below meth c D cy ad C => ?_)
  change rw_W p l e _ s m args below meth c D cy ad 6 0 0 _ 0 [(0, .ref (ad 0))] [] M
  unfold f_X9_fitsFive at h
  refine r_iconst (v := (0 : Int32)) C dX9_fitsFive_0 rfl ?_
  refine r_istore_n C [(1, .int _), (0, .ref _)] dX9_fitsFive_1 rfl (by decide) rfl ?_
  obtain ⟨n2, h⟩ := h
  refine r_sub [1, 0] rfl (mL_X9_fitsFive_2 C (fun M_15 h => ?_) n2 _ _ h)
  refine r_iconst (v := (0 : Int32)) C dX9_fitsFive_190 rfl ?_
  exact r_zret C (by decide) dX9_fitsFive_191 h
def S_X9_fitsSix_13 (v1 : Int32) (o0 : Int32) (X26 : Int32 → Mem → Prop) (K : Int32 → Mem → Prop) (M : Mem) : Prop := (o0 = 0 → X26 (-1 : Int32) M) ∧ (¬ o0 = 0 → f_X9_onePlace v1 (1 : Int32) M (fun (r_2 : Int32) (M_3 : Mem) => X26 r_2 M_3))

set_option maxHeartbeats 1000000 in
set_option maxRecDepth 10000 in
theorem mS_X9_fitsSix_13 (C : rw_C p s m meth c cX9_fitsSix 6 RX9 (some .boolean) D cy ad) {v1 : Int32} {o0 : Int32} {X26 : Int32 → Mem → Prop} {K : Int32 → Mem → Prop} {M : Mem} (hX26 : ∀  (w0 : Int32) (M : Mem), X26 w0 M → rw_W p l e rm_X9_fitsSix s m args below meth c D cy ad 6 0 0 (rw_Qi below args s D cy ad K) 26 [(0, .ref (ad 0)), (1, .int v1)] [.int w0] M) (h : S_X9_fitsSix_13 v1 o0 X26 K M) : rw_W p l e rm_X9_fitsSix s m args below meth c D cy ad 6 0 0 (rw_Qi below args s D cy ad K) 13 [(0, .ref (ad 0)), (1, .int v1)] [.int o0] M := by
  refine r_if_eq C 25 dX9_fitsSix_13 (by decide) (fun hc => ?_) (fun hc => ?_)
  · replace h := h.1 hc
    refine r_iconst (v := (-1 : Int32)) C dX9_fitsSix_25 rfl ?_
    exact hX26 _ _ h
  · replace h := h.2 hc
    refine r_aload_n C 0 dX9_fitsSix_16 rfl rfl ?_
    refine r_iload_n C 1 dX9_fitsSix_17 rfl rfl ?_
    refine r_iconst (v := (1 : Int32)) C dX9_fitsSix_18 rfl ?_
    refine cX9_439 C (m_X9_onePlace l h) ⟨Nat.le_of_ble_eq_true rfl, Nat.le_of_ble_eq_true rfl⟩ (Nat.le_of_ble_eq_true rfl) ⟨Nat.le_refl 0, Nat.le_refl 0⟩ dX9_fitsSix_19 (fun r_2 M_3 h => ?_)
    refine r_goto C 26 dX9_fitsSix_22 (by decide) ?_
    exact hX26 _ _ h

def S_X9_fitsSix_32 (v1 : Int32) (v2 : Int32) (o0 : Int32) (X45 : Int32 → Mem → Prop) (K : Int32 → Mem → Prop) (M : Mem) : Prop := (o0 = 0 → X45 (-1 : Int32) M) ∧ (¬ o0 = 0 → f_X9_onePlace v1 (0 : Int32) M (fun (r_4 : Int32) (M_6 : Mem) => X45 r_4 M_6))

set_option maxHeartbeats 1000000 in
set_option maxRecDepth 10000 in
theorem mS_X9_fitsSix_32 (C : rw_C p s m meth c cX9_fitsSix 6 RX9 (some .boolean) D cy ad) {v1 : Int32} {v2 : Int32} {o0 : Int32} {X45 : Int32 → Mem → Prop} {K : Int32 → Mem → Prop} {M : Mem} (hX45 : ∀  (w0 : Int32) (M : Mem), X45 w0 M → rw_W p l e rm_X9_fitsSix s m args below meth c D cy ad 6 0 0 (rw_Qi below args s D cy ad K) 45 [(0, .ref (ad 0)), (1, .int v1), (2, .int v2)] [.int w0] M) (h : S_X9_fitsSix_32 v1 v2 o0 X45 K M) : rw_W p l e rm_X9_fitsSix s m args below meth c D cy ad 6 0 0 (rw_Qi below args s D cy ad K) 32 [(0, .ref (ad 0)), (1, .int v1), (2, .int v2)] [.int o0] M := by
  refine r_if_eq C 44 dX9_fitsSix_32 (by decide) (fun hc => ?_) (fun hc => ?_)
  · replace h := h.1 hc
    refine r_iconst (v := (-1 : Int32)) C dX9_fitsSix_44 rfl ?_
    exact hX45 _ _ h
  · replace h := h.2 hc
    refine r_aload_n C 0 dX9_fitsSix_35 rfl rfl ?_
    refine r_iload_n C 1 dX9_fitsSix_36 rfl rfl ?_
    refine r_iconst (v := (0 : Int32)) C dX9_fitsSix_37 rfl ?_
    refine cX9_439 C (m_X9_onePlace l h) ⟨Nat.le_of_ble_eq_true rfl, Nat.le_of_ble_eq_true rfl⟩ (Nat.le_of_ble_eq_true rfl) ⟨Nat.le_refl 0, Nat.le_refl 0⟩ dX9_fitsSix_38 (fun r_4 M_6 h => ?_)
    refine r_goto C 45 dX9_fitsSix_41 (by decide) ?_
    exact hX45 _ _ h

def S_X9_fitsSix_47 (v1 : Int32) (v2 : Int32) (v3 : Int32) (o0 : Int32) (X99 : Int32 → Mem → Prop) (K : Int32 → Mem → Prop) (M : Mem) : Prop := (o0 < 0 → X99 (0 : Int32) M) ∧ (¬ o0 < 0 → ((v3 < 0 → X99 (0 : Int32) M) ∧ (¬ v3 < 0 → ((v2 = v3 → X99 (0 : Int32) M) ∧ (¬ v2 = v3 → f_X9_oneAt v2 (1 : Int32) M (fun (r_5 : Int32) (M_8 : Mem) => ((¬ r_5 = v1 → X99 (0 : Int32) M_8) ∧ (r_5 = v1 → vp_in ((10 : Int32) + v2) 30 ∧ vp_in ((10 : Int32) + v3) 30 ∧ (((999 : Int32) < ((gI M_8 3 ((10 : Int32) + v2)) + (gI M_8 3 ((10 : Int32) + v3))) → X99 (0 : Int32) M_8) ∧ (¬ (999 : Int32) < ((gI M_8 3 ((10 : Int32) + v2)) + (gI M_8 3 ((10 : Int32) + v3))) → X99 (1 : Int32) M_8))))))))))

set_option maxHeartbeats 1000000 in
set_option maxRecDepth 10000 in
theorem mS_X9_fitsSix_47 (C : rw_C p s m meth c cX9_fitsSix 6 RX9 (some .boolean) D cy ad) {v1 : Int32} {v2 : Int32} {v3 : Int32} {o0 : Int32} {X99 : Int32 → Mem → Prop} {K : Int32 → Mem → Prop} {M : Mem} (hX99 : ∀  (w0 : Int32) (M : Mem), X99 w0 M → rw_W p l e rm_X9_fitsSix s m args below meth c D cy ad 6 0 0 (rw_Qi below args s D cy ad K) 99 [(0, .ref (ad 0)), (1, .int v1), (2, .int v2), (3, .int v3)] [.int w0] M) (h : S_X9_fitsSix_47 v1 v2 v3 o0 X99 K M) : rw_W p l e rm_X9_fitsSix s m args below meth c D cy ad 6 0 0 (rw_Qi below args s D cy ad K) 47 [(0, .ref (ad 0)), (1, .int v1), (2, .int v2), (3, .int v3)] [.int o0] M := by
  refine r_if_lt C 98 dX9_fitsSix_47 (by decide) (fun hc => ?_) (fun hc => ?_)
  · replace h := h.1 hc
    refine r_iconst (v := (0 : Int32)) C dX9_fitsSix_98 rfl ?_
    exact hX99 _ _ h
  · replace h := h.2 hc
    refine r_iload_n C 3 dX9_fitsSix_50 rfl rfl ?_
    refine r_if_lt C 98 dX9_fitsSix_51 (by decide) (fun hc => ?_) (fun hc => ?_)
    · replace h := h.1 hc
      refine r_iconst (v := (0 : Int32)) C dX9_fitsSix_98 rfl ?_
      exact hX99 _ _ h
    · replace h := h.2 hc
      refine r_iload_n C 2 dX9_fitsSix_54 rfl rfl ?_
      refine r_iload_n C 3 dX9_fitsSix_55 rfl rfl ?_
      refine r_icmp_eq C 98 dX9_fitsSix_56 (by decide) (fun hc => ?_) (fun hc => ?_)
      · replace h := h.1 hc
        refine r_iconst (v := (0 : Int32)) C dX9_fitsSix_98 rfl ?_
        exact hX99 _ _ h
      · replace h := h.2 hc
        refine r_aload_n C 0 dX9_fitsSix_59 rfl rfl ?_
        refine r_iload_n C 2 dX9_fitsSix_60 rfl rfl ?_
        refine r_iconst (v := (1 : Int32)) C dX9_fitsSix_61 rfl ?_
        refine cX9_436 C (m_X9_oneAt l h) ⟨Nat.le_of_ble_eq_true rfl, Nat.le_of_ble_eq_true rfl⟩ (Nat.le_of_ble_eq_true rfl) ⟨Nat.le_refl 0, Nat.le_refl 0⟩ dX9_fitsSix_62 (fun r_5 M_8 h => ?_)
        refine r_iload_n C 1 dX9_fitsSix_65 rfl rfl ?_
        refine r_icmp_ne C 98 dX9_fitsSix_66 (by decide) (fun hc => ?_) (fun hc => ?_)
        · replace h := h.1 hc
          refine r_iconst (v := (0 : Int32)) C dX9_fitsSix_98 rfl ?_
          exact hX99 _ _ h
        · replace h := h.2 hc
          refine r_aload_n C 0 dX9_fitsSix_69 rfl rfl ?_
          refine gX9_16 C dX9_fitsSix_70 ?_
          refine r_bipush (v := (10 : Int32)) C dX9_fitsSix_73 rfl ?_
          refine r_iload_n C 2 dX9_fitsSix_75 rfl rfl ?_
          refine r_iadd C dX9_fitsSix_76 ?_
          obtain ⟨q, h⟩ := h
          refine r_iald C sh_3 q dX9_fitsSix_77 ?_
          refine r_aload_n C 0 dX9_fitsSix_78 rfl rfl ?_
          refine gX9_16 C dX9_fitsSix_79 ?_
          refine r_bipush (v := (10 : Int32)) C dX9_fitsSix_82 rfl ?_
          refine r_iload_n C 3 dX9_fitsSix_84 rfl rfl ?_
          refine r_iadd C dX9_fitsSix_85 ?_
          obtain ⟨q_2, h⟩ := h
          refine r_iald C sh_3 q_2 dX9_fitsSix_86 ?_
          refine r_iadd C dX9_fitsSix_87 ?_
          refine r_sipush (v := (999 : Int32)) C dX9_fitsSix_88 rfl ?_
          refine r_icmp_gt C 98 dX9_fitsSix_91 (by decide) (fun hc => ?_) (fun hc => ?_)
          · replace h := h.1 hc
            refine r_iconst (v := (0 : Int32)) C dX9_fitsSix_98 rfl ?_
            exact hX99 _ _ h
          · replace h := h.2 hc
            refine r_iconst (v := (1 : Int32)) C dX9_fitsSix_94 rfl ?_
            refine r_goto C 99 dX9_fitsSix_95 (by decide) ?_
            exact hX99 _ _ h

def L_X9_fitsSix_104 (v1 : Int32) (v2 : Int32) (v3 : Int32) (X154 : Int32 → Mem → Prop) (K : Int32 → Mem → Prop) : Nat → Int32 → Int32 → Mem → Prop
  | 0, _, _, _ => False
  | n + 1, v4, v5, M => (((8 : Int32) ≤ v5 → X154 v4 M) ∧ (¬ (8 : Int32) ≤ v5 → ((v4 = 0 → X154 v4 M) ∧ (¬ v4 = 0 → ((v5 = v1 → L_X9_fitsSix_104 v1 v2 v3 X154 K n (1 : Int32) (v5 + (1 : Int32)) M) ∧ (¬ v5 = v1 → f_X9_given v5 v2 M (fun (r_6 : Int32) (M_10 : Mem) => f_X9_given v5 v3 M_10 (fun (r_7 : Int32) (M_11 : Mem) => (((3 : Int32) < (r_6 + r_7) → L_X9_fitsSix_104 v1 v2 v3 X154 K n (0 : Int32) (v5 + (1 : Int32)) M_11) ∧ (¬ (3 : Int32) < (r_6 + r_7) → L_X9_fitsSix_104 v1 v2 v3 X154 K n (1 : Int32) (v5 + (1 : Int32)) M_11))))))))))

set_option maxHeartbeats 1000000 in
set_option maxRecDepth 10000 in
theorem mL_X9_fitsSix_104 (C : rw_C p s m meth c cX9_fitsSix 6 RX9 (some .boolean) D cy ad) {v1 : Int32} {v2 : Int32} {v3 : Int32} {X154 : Int32 → Mem → Prop} {K : Int32 → Mem → Prop} (hX154 : ∀ (u4 : Int32) (M : Mem), X154 u4 M → rw_W p l e rm_X9_fitsSix s m args below meth c D cy ad 6 0 0 (rw_Qi below args s D cy ad K) 154 [(0, .ref (ad 0)), (1, .int v1), (2, .int v2), (3, .int v3), (4, .int u4)] [] M) : ∀ (n : Nat) (v4 : Int32) (v5 : Int32) (M : Mem), L_X9_fitsSix_104 v1 v2 v3 X154 K n v4 v5 M → rw_W p l e rm_X9_fitsSix s m args below meth c D cy ad 6 0 0 (rw_Qi below args s D cy ad K) 104 [(0, .ref (ad 0)), (1, .int v1), (2, .int v2), (3, .int v3), (4, .int v4), (5, .int v5)] [] M := by
  intro n
  induction n with
  | zero => intro v4 v5 M h; exact h.elim
  | succ n ih =>
    intro v4 v5 M h
    refine r_iload C 5 dX9_fitsSix_104 rfl ?_
    refine r_bipush (v := (8 : Int32)) C dX9_fitsSix_106 rfl ?_
    refine r_icmp_ge C 154 dX9_fitsSix_108 (by decide) (fun hc => ?_) (fun hc => ?_)
    · replace h := h.1 hc
      exact r_sub [0, 1, 2, 3, 4] rfl (hX154 _ _ h)
    · replace h := h.2 hc
      refine r_iload C 4 dX9_fitsSix_111 rfl ?_
      refine r_if_eq C 154 dX9_fitsSix_113 (by decide) (fun hc => ?_) (fun hc => ?_)
      · replace h := h.1 hc
        exact r_sub [0, 1, 2, 3, 4] rfl (hX154 _ _ h)
      · replace h := h.2 hc
        refine r_iload C 5 dX9_fitsSix_116 rfl ?_
        refine r_iload_n C 1 dX9_fitsSix_118 rfl rfl ?_
        refine r_icmp_eq C 141 dX9_fitsSix_119 (by decide) (fun hc => ?_) (fun hc => ?_)
        · replace h := h.1 hc
          refine r_iconst (v := (1 : Int32)) C dX9_fitsSix_141 rfl ?_
          refine r_goto C 146 dX9_fitsSix_142 (by decide) ?_
          refine r_istore C [(4, .int _), (0, .ref _), (1, .int _), (2, .int _), (3, .int _), (5, .int _)] dX9_fitsSix_146 (by decide) rfl ?_
          refine r_iinc C 5 (v := _) [(5, .int _), (4, .int _), (0, .ref _), (1, .int _), (2, .int _), (3, .int _)] dX9_fitsSix_148 rfl rfl (by decide) rfl ?_
          refine r_goto C 104 dX9_fitsSix_151 (by decide) ?_
          exact r_sub [2, 3, 4, 5, 1, 0] rfl (ih _ _ _ h)
        · replace h := h.2 hc
          refine r_aload_n C 0 dX9_fitsSix_122 rfl rfl ?_
          refine r_iload C 5 dX9_fitsSix_123 rfl ?_
          refine r_iload_n C 2 dX9_fitsSix_125 rfl rfl ?_
          refine cX9_418 C (m_X9_given l h) ⟨Nat.le_of_ble_eq_true rfl, Nat.le_of_ble_eq_true rfl⟩ (Nat.le_of_ble_eq_true rfl) ⟨Nat.le_refl 0, Nat.le_refl 0⟩ dX9_fitsSix_126 (fun r_6 M_10 h => ?_)
          refine r_aload_n C 0 dX9_fitsSix_129 rfl rfl ?_
          refine r_iload C 5 dX9_fitsSix_130 rfl ?_
          refine r_iload_n C 3 dX9_fitsSix_132 rfl rfl ?_
          refine cX9_418 C (m_X9_given l h) ⟨Nat.le_of_ble_eq_true rfl, Nat.le_of_ble_eq_true rfl⟩ (Nat.le_of_ble_eq_true rfl) ⟨Nat.le_refl 0, Nat.le_refl 0⟩ dX9_fitsSix_133 (fun r_7 M_11 h => ?_)
          refine r_iadd C dX9_fitsSix_136 ?_
          refine r_iconst (v := (3 : Int32)) C dX9_fitsSix_137 rfl ?_
          refine r_icmp_gt C 145 dX9_fitsSix_138 (by decide) (fun hc => ?_) (fun hc => ?_)
          · replace h := h.1 hc
            refine r_iconst (v := (0 : Int32)) C dX9_fitsSix_145 rfl ?_
            refine r_istore C [(4, .int _), (0, .ref _), (1, .int _), (2, .int _), (3, .int _), (5, .int _)] dX9_fitsSix_146 (by decide) rfl ?_
            refine r_iinc C 5 (v := _) [(5, .int _), (4, .int _), (0, .ref _), (1, .int _), (2, .int _), (3, .int _)] dX9_fitsSix_148 rfl rfl (by decide) rfl ?_
            refine r_goto C 104 dX9_fitsSix_151 (by decide) ?_
            exact r_sub [2, 3, 4, 5, 1, 0] rfl (ih _ _ _ h)
          · replace h := h.2 hc
            refine r_iconst (v := (1 : Int32)) C dX9_fitsSix_141 rfl ?_
            refine r_goto C 146 dX9_fitsSix_142 (by decide) ?_
            refine r_istore C [(4, .int _), (0, .ref _), (1, .int _), (2, .int _), (3, .int _), (5, .int _)] dX9_fitsSix_146 (by decide) rfl ?_
            refine r_iinc C 5 (v := _) [(5, .int _), (4, .int _), (0, .ref _), (1, .int _), (2, .int _), (3, .int _)] dX9_fitsSix_148 rfl rfl (by decide) rfl ?_
            refine r_goto C 104 dX9_fitsSix_151 (by decide) ?_
            exact r_sub [2, 3, 4, 5, 1, 0] rfl (ih _ _ _ h)

def L_X9_fitsSix_165 (v1 : Int32) (v2 : Int32) (v3 : Int32) (X201 : Mem → Prop) (K : Int32 → Mem → Prop) : Nat → Int32 → Mem → Prop
  | 0, _, _ => False
  | n + 1, v5, M => (((8 : Int32) ≤ v5 → X201 M) ∧ (¬ (8 : Int32) ≤ v5 → f_X9_arcAt (1 : Int32) v5 v3 M (fun (r_8 : Int32) (M_13 : Mem) => vp_in r_8 240 ∧ f_X9_given v5 v2 M_13 (fun (r_9 : Int32) (M_14 : Mem) => ∀ M_15 : Mem, M_15 = wI M_14 2 r_8.toNatClampNeg ((gI M_13 2 r_8) + r_9) → L_X9_fitsSix_165 v1 v2 v3 X201 K n (v5 + (1 : Int32)) M_15))))

set_option maxHeartbeats 1000000 in
set_option maxRecDepth 10000 in
theorem mL_X9_fitsSix_165 (C : rw_C p s m meth c cX9_fitsSix 6 RX9 (some .boolean) D cy ad) {v1 : Int32} {v2 : Int32} {v3 : Int32} {X201 : Mem → Prop} {K : Int32 → Mem → Prop} (hX201 : ∀  (M : Mem), X201 M → rw_W p l e rm_X9_fitsSix s m args below meth c D cy ad 6 0 0 (rw_Qi below args s D cy ad K) 201 [(0, .ref (ad 0)), (1, .int v1), (2, .int v2), (3, .int v3)] [] M) : ∀ (n : Nat) (v5 : Int32) (M : Mem), L_X9_fitsSix_165 v1 v2 v3 X201 K n v5 M → rw_W p l e rm_X9_fitsSix s m args below meth c D cy ad 6 0 0 (rw_Qi below args s D cy ad K) 165 [(0, .ref (ad 0)), (1, .int v1), (2, .int v2), (3, .int v3), (5, .int v5)] [] M := by
  intro n
  induction n with
  | zero => intro v5 M h; exact h.elim
  | succ n ih =>
    intro v5 M h
    refine r_iload C 4 dX9_fitsSix_165 rfl ?_
    refine r_bipush (v := (8 : Int32)) C dX9_fitsSix_167 rfl ?_
    refine r_icmp_ge C 201 dX9_fitsSix_169 (by decide) (fun hc => ?_) (fun hc => ?_)
    · replace h := h.1 hc
      exact r_sub [0, 1, 2, 3] rfl (hX201 _ h)
    · replace h := h.2 hc
      refine r_aload_n C 0 dX9_fitsSix_172 rfl rfl ?_
      refine gX9_13 C dX9_fitsSix_173 ?_
      refine r_aload_n C 0 dX9_fitsSix_176 rfl rfl ?_
      refine r_iconst (v := (1 : Int32)) C dX9_fitsSix_177 rfl ?_
      refine r_iload C 4 dX9_fitsSix_178 rfl ?_
      refine r_iload_n C 3 dX9_fitsSix_180 rfl rfl ?_
      refine cX9_144 C (m_X9_arcAt l h) ⟨Nat.le_of_ble_eq_true rfl, Nat.le_of_ble_eq_true rfl⟩ (Nat.le_of_ble_eq_true rfl) ⟨Nat.le_refl 0, Nat.le_refl 0⟩ dX9_fitsSix_181 (fun r_8 M_13 h => ?_)
      refine r_dup2_11 C dX9_fitsSix_184 rfl rfl ?_
      obtain ⟨q_3, h⟩ := h
      refine r_iald C sh_2 q_3 dX9_fitsSix_185 ?_
      refine r_aload_n C 0 dX9_fitsSix_186 rfl rfl ?_
      refine r_iload C 4 dX9_fitsSix_187 rfl ?_
      refine r_iload_n C 2 dX9_fitsSix_189 rfl rfl ?_
      refine cX9_418 C (m_X9_given l h) ⟨Nat.le_of_ble_eq_true rfl, Nat.le_of_ble_eq_true rfl⟩ (Nat.le_of_ble_eq_true rfl) ⟨Nat.le_refl 0, Nat.le_refl 0⟩ dX9_fitsSix_190 (fun r_9 M_14 h => ?_)
      refine r_iadd C dX9_fitsSix_193 ?_
      refine r_iast C sh_2 q_3 dX9_fitsSix_194 ?_
      replace h := h _ rfl
      refine r_iinc C 4 (v := _) [(5, .int _), (0, .ref _), (1, .int _), (2, .int _), (3, .int _)] dX9_fitsSix_195 rfl rfl (by decide) rfl ?_
      refine r_goto C 165 dX9_fitsSix_198 (by decide) ?_
      exact r_sub [1, 2, 3, 4, 0] rfl (ih _ _ h)

def L_X9_fitsSix_2 (X238 : Mem → Prop) (K : Int32 → Mem → Prop) : Nat → Int32 → Mem → Prop
  | 0, _, _ => False
  | n + 1, v1, M => (((8 : Int32) ≤ v1 → X238 M) ∧ (¬ (8 : Int32) ≤ v1 → f_X9_isLeft v1 M (fun (r : Int32) (M_2 : Mem) => (S_X9_fitsSix_13 v1 r (fun (w : Int32) (M_4 : Mem) => f_X9_isLeft v1 M_4 (fun (r_3 : Int32) (M_5 : Mem) => (S_X9_fitsSix_32 v1 w r_3 (fun (w_2 : Int32) (M_7 : Mem) => (S_X9_fitsSix_47 v1 w w_2 w (fun (w_3 : Int32) (M_9 : Mem) => (∃ k104 : Nat, L_X9_fitsSix_104 v1 w w_2 (fun (v4_2 : Int32) (M_12 : Mem) => ((¬ v4_2 = 0 → (∃ k165 : Nat, L_X9_fitsSix_165 v1 w w_2 (fun  (M_16 : Mem) => vp_in ((10 : Int32) + w_2) 30 ∧ vp_in ((10 : Int32) + w) 30 ∧ ∀ M_17 : Mem, M_17 = wI M_16 3 ((10 : Int32) + w_2).toNatClampNeg ((gI M_16 3 ((10 : Int32) + w_2)) + (gI M_16 3 ((10 : Int32) + w))) → f_X9_notes (6 : Int32) w v1 M_17 (fun (M_18 : Mem) => K (1 : Int32) M_18)) K k165 (0 : Int32) M_12)) ∧ (v4_2 = 0 → L_X9_fitsSix_2 X238 K n (v1 + (1 : Int32)) M_12))) K k104 w_3 (0 : Int32) M_9)) K M_7)) K M_5))) K M_2))))

set_option maxHeartbeats 1000000 in
set_option maxRecDepth 10000 in
theorem mL_X9_fitsSix_2 (C : rw_C p s m meth c cX9_fitsSix 6 RX9 (some .boolean) D cy ad) {X238 : Mem → Prop} {K : Int32 → Mem → Prop} (hX238 : ∀  (M : Mem), X238 M → rw_W p l e rm_X9_fitsSix s m args below meth c D cy ad 6 0 0 (rw_Qi below args s D cy ad K) 238 [] [] M) : ∀ (n : Nat) (v1 : Int32) (M : Mem), L_X9_fitsSix_2 X238 K n v1 M → rw_W p l e rm_X9_fitsSix s m args below meth c D cy ad 6 0 0 (rw_Qi below args s D cy ad K) 2 [(0, .ref (ad 0)), (1, .int v1)] [] M := by
  intro n
  induction n with
  | zero => intro v1 M h; exact h.elim
  | succ n ih =>
    intro v1 M h
    refine r_iload_n C 1 dX9_fitsSix_2 rfl rfl ?_
    refine r_bipush (v := (8 : Int32)) C dX9_fitsSix_3 rfl ?_
    refine r_icmp_ge C 238 dX9_fitsSix_5 (by decide) (fun hc => ?_) (fun hc => ?_)
    · replace h := h.1 hc
      exact r_sub [] rfl (hX238 _ h)
    · replace h := h.2 hc
      refine r_aload_n C 0 dX9_fitsSix_8 rfl rfl ?_
      refine r_iload_n C 1 dX9_fitsSix_9 rfl rfl ?_
      refine cX9_430 C (m_X9_isLeft l h) ⟨Nat.le_of_ble_eq_true rfl, Nat.le_of_ble_eq_true rfl⟩ (Nat.le_of_ble_eq_true rfl) ⟨Nat.le_refl 0, Nat.le_refl 0⟩ dX9_fitsSix_10 (fun r M_2 h => ?_)
      refine mS_X9_fitsSix_13 C (fun w M_4 h => ?_) h
      refine r_istore_n C [(2, .int _), (0, .ref _), (1, .int _)] dX9_fitsSix_26 rfl (by decide) rfl ?_
      refine r_aload_n C 1 dX9_fitsSix_27 rfl rfl ?_
      refine r_iload_n C 2 dX9_fitsSix_28 rfl rfl ?_
      refine cX9_430 C (m_X9_isLeft l h) ⟨Nat.le_of_ble_eq_true rfl, Nat.le_of_ble_eq_true rfl⟩ (Nat.le_of_ble_eq_true rfl) ⟨Nat.le_refl 0, Nat.le_refl 0⟩ dX9_fitsSix_29 (fun r_3 M_5 h => ?_)
      refine r_sub [1, 2, 0] rfl (mS_X9_fitsSix_32 C (fun w_2 M_7 h => ?_) h)
      refine r_istore_n C [(3, .int _), (0, .ref _), (1, .int _), (2, .int _)] dX9_fitsSix_45 rfl (by decide) rfl ?_
      refine r_iload_n C 3 dX9_fitsSix_46 rfl rfl ?_
      refine r_sub [1, 2, 3, 0] rfl (mS_X9_fitsSix_47 C (fun w_3 M_9 h => ?_) h)
      refine r_istore C [(4, .int _), (0, .ref _), (1, .int _), (2, .int _), (3, .int _)] dX9_fitsSix_99 (by decide) rfl ?_
      refine r_iconst (v := (0 : Int32)) C dX9_fitsSix_101 rfl ?_
      refine r_istore C [(5, .int _), (4, .int _), (0, .ref _), (1, .int _), (2, .int _), (3, .int _)] dX9_fitsSix_102 (by decide) rfl ?_
      obtain ⟨n104, h⟩ := h
      refine r_sub [2, 3, 4, 5, 1, 0] rfl (mL_X9_fitsSix_104 C (fun v4_2 M_12 h => ?_) n104 _ _ _ h)
      refine r_iload C 4 dX9_fitsSix_154 rfl ?_
      refine r_if_ne C 162 dX9_fitsSix_156 (by decide) (fun hc => ?_) (fun hc => ?_)
      · replace h := h.1 hc
        refine r_iconst (v := (0 : Int32)) C dX9_fitsSix_162 rfl ?_
        refine r_istore C [(5, .int _), (0, .ref _), (1, .int _), (2, .int _), (3, .int _), (4, .int _)] dX9_fitsSix_163 (by decide) rfl ?_
        obtain ⟨n165, h⟩ := h
        refine r_sub [1, 2, 3, 4, 0] rfl (mL_X9_fitsSix_165 C (fun M_16 h => ?_) n165 _ _ h)
        refine r_aload_n C 0 dX9_fitsSix_201 rfl rfl ?_
        refine gX9_16 C dX9_fitsSix_202 ?_
        refine r_bipush (v := (10 : Int32)) C dX9_fitsSix_205 rfl ?_
        refine r_iload_n C 3 dX9_fitsSix_207 rfl rfl ?_
        refine r_iadd C dX9_fitsSix_208 ?_
        refine r_dup2_11 C dX9_fitsSix_209 rfl rfl ?_
        obtain ⟨q_4, h⟩ := h
        refine r_iald C sh_3 q_4 dX9_fitsSix_210 ?_
        refine r_aload_n C 0 dX9_fitsSix_211 rfl rfl ?_
        refine gX9_16 C dX9_fitsSix_212 ?_
        refine r_bipush (v := (10 : Int32)) C dX9_fitsSix_215 rfl ?_
        refine r_iload_n C 2 dX9_fitsSix_217 rfl rfl ?_
        refine r_iadd C dX9_fitsSix_218 ?_
        obtain ⟨q_5, h⟩ := h
        refine r_iald C sh_3 q_5 dX9_fitsSix_219 ?_
        refine r_iadd C dX9_fitsSix_220 ?_
        refine r_iast C sh_3 q_4 dX9_fitsSix_221 ?_
        replace h := h _ rfl
        refine r_aload_n C 0 dX9_fitsSix_222 rfl rfl ?_
        refine r_bipush (v := (6 : Int32)) C dX9_fitsSix_223 rfl ?_
        refine r_iload_n C 2 dX9_fitsSix_225 rfl rfl ?_
        refine r_iload_n C 1 dX9_fitsSix_226 rfl rfl ?_
        refine cX9_427 C (m_X9_notes l h) ⟨Nat.le_of_ble_eq_true rfl, Nat.le_of_ble_eq_true rfl⟩ (Nat.le_of_ble_eq_true rfl) ⟨Nat.le_refl 0, Nat.le_refl 0⟩ dX9_fitsSix_227 (fun M_18 h => ?_)
        refine r_iconst (v := (1 : Int32)) C dX9_fitsSix_230 rfl ?_
        exact r_zret C (by decide) dX9_fitsSix_231 h
      · replace h := h.2 hc
        refine r_goto C 232 dX9_fitsSix_159 (by decide) ?_
        refine r_iinc C 1 (v := _) [(1, .int _), (0, .ref _), (2, .int _), (3, .int _), (4, .int _)] dX9_fitsSix_232 rfl rfl (by decide) rfl ?_
        refine r_goto C 2 dX9_fitsSix_235 (by decide) ?_
        exact r_sub [1, 0] rfl (ih _ _ h)

def f_X9_fitsSix (M : Mem) (K : Int32 → Mem → Prop) : Prop := (∃ k2 : Nat, L_X9_fitsSix_2 (fun  (M_19 : Mem) => K (0 : Int32) M_19) K k2 (0 : Int32) M)

set_option maxHeartbeats 1000000 in
set_option maxRecDepth 10000 in
theorem m_X9_fitsSix (l : Launch)   {M : Mem} {K : Int32 → Mem → Prop} (h : f_X9_fitsSix M K) : CTi l yX9_fitsSix cX9_fitsSix 6 (some .boolean) rm_X9_fitsSix (fun ad => [.ref (ad 0)]) M K := by
  refine rw_enti (by decide +kernel) (fun ad => Nat.le_of_ble_eq_true rfl) (fun p e s m args below meth c D cy ad C => ?_)
  change rw_W p l e _ s m args below meth c D cy ad 6 0 0 _ 0 [(0, .ref (ad 0))] [] M
  unfold f_X9_fitsSix at h
  refine r_iconst (v := (0 : Int32)) C dX9_fitsSix_0 rfl ?_
  refine r_istore_n C [(1, .int _), (0, .ref _)] dX9_fitsSix_1 rfl (by decide) rfl ?_
  obtain ⟨n2, h⟩ := h
  refine r_sub [1, 0] rfl (mL_X9_fitsSix_2 C (fun M_19 h => ?_) n2 _ _ h)
  refine r_iconst (v := (0 : Int32)) C dX9_fitsSix_238 rfl ?_
  exact r_zret C (by decide) dX9_fitsSix_239 h
def L_X9_layReduced_13 (X68 : Mem → Prop) (K : Mem → Prop) : Nat → Int32 → Mem → Prop
  | 0, _, _ => False
  | n + 1, v1, M => ((v1 = 0 → X68 M) ∧ (¬ v1 = 0 → f_X9_fitsOne  M (fun (r_2 : Int32) (M_4 : Mem) => ((¬ r_2 = 0 → L_X9_layReduced_13 X68 K n (1 : Int32) M_4) ∧ (r_2 = 0 → f_X9_fitsTwo  M_4 (fun (r_3 : Int32) (M_5 : Mem) => ((¬ r_3 = 0 → L_X9_layReduced_13 X68 K n (1 : Int32) M_5) ∧ (r_3 = 0 → f_X9_fitsThree  M_5 (fun (r_4 : Int32) (M_6 : Mem) => ((¬ r_4 = 0 → L_X9_layReduced_13 X68 K n (1 : Int32) M_6) ∧ (r_4 = 0 → f_X9_fitsFour  M_6 (fun (r_5 : Int32) (M_7 : Mem) => ((¬ r_5 = 0 → L_X9_layReduced_13 X68 K n (1 : Int32) M_7) ∧ (r_5 = 0 → f_X9_fitsFive  M_7 (fun (r_6 : Int32) (M_8 : Mem) => ((¬ r_6 = 0 → L_X9_layReduced_13 X68 K n (1 : Int32) M_8) ∧ (r_6 = 0 → f_X9_fitsSix  M_8 (fun (r_7 : Int32) (M_9 : Mem) => ((r_7 = 0 → L_X9_layReduced_13 X68 K n (0 : Int32) M_9) ∧ (¬ r_7 = 0 → L_X9_layReduced_13 X68 K n (1 : Int32) M_9))))))))))))))))))))

set_option maxHeartbeats 1000000 in
set_option maxRecDepth 10000 in
theorem mL_X9_layReduced_13 (C : rw_C p s m meth c cX9_layReduced 2 RX9 none D cy ad) {X68 : Mem → Prop} {K : Mem → Prop} (hX68 : ∀  (M : Mem), X68 M → rw_W p l e rm_X9_layReduced s m args below meth c D cy ad 2 0 0 (rw_Qv below args s D cy ad K) 68 [] [] M) : ∀ (n : Nat) (v1 : Int32) (M : Mem), L_X9_layReduced_13 X68 K n v1 M → rw_W p l e rm_X9_layReduced s m args below meth c D cy ad 2 0 0 (rw_Qv below args s D cy ad K) 13 [(0, .ref (ad 0)), (1, .int v1)] [] M := by
  intro n
  induction n with
  | zero => intro v1 M h; exact h.elim
  | succ n ih =>
    intro v1 M h
    refine r_iload_n C 1 dX9_layReduced_13 rfl rfl ?_
    refine r_if_eq C 68 dX9_layReduced_14 (by decide) (fun hc => ?_) (fun hc => ?_)
    · replace h := h.1 hc
      exact r_sub [] rfl (hX68 _ h)
    · replace h := h.2 hc
      refine r_aload_n C 0 dX9_layReduced_17 rfl rfl ?_
      refine cX9_442 C (m_X9_fitsOne l h) ⟨Nat.le_of_ble_eq_true rfl, Nat.le_of_ble_eq_true rfl⟩ (Nat.le_of_ble_eq_true rfl) ⟨Nat.le_refl 0, Nat.le_refl 0⟩ dX9_layReduced_18 (fun r_2 M_4 h => ?_)
      refine r_if_ne C 59 dX9_layReduced_21 (by decide) (fun hc => ?_) (fun hc => ?_)
      · replace h := h.1 hc
        refine r_iconst (v := (1 : Int32)) C dX9_layReduced_59 rfl ?_
        refine r_goto C 64 dX9_layReduced_60 (by decide) ?_
        refine r_istore_n C [(1, .int _), (0, .ref _)] dX9_layReduced_64 rfl (by decide) rfl ?_
        refine r_goto C 13 dX9_layReduced_65 (by decide) ?_
        exact r_sub [1, 0] rfl (ih _ _ h)
      · replace h := h.2 hc
        refine r_aload_n C 0 dX9_layReduced_24 rfl rfl ?_
        refine cX9_445 C (m_X9_fitsTwo l h) ⟨Nat.le_of_ble_eq_true rfl, Nat.le_of_ble_eq_true rfl⟩ (Nat.le_of_ble_eq_true rfl) ⟨Nat.le_refl 0, Nat.le_refl 0⟩ dX9_layReduced_25 (fun r_3 M_5 h => ?_)
        refine r_if_ne C 59 dX9_layReduced_28 (by decide) (fun hc => ?_) (fun hc => ?_)
        · replace h := h.1 hc
          refine r_iconst (v := (1 : Int32)) C dX9_layReduced_59 rfl ?_
          refine r_goto C 64 dX9_layReduced_60 (by decide) ?_
          refine r_istore_n C [(1, .int _), (0, .ref _)] dX9_layReduced_64 rfl (by decide) rfl ?_
          refine r_goto C 13 dX9_layReduced_65 (by decide) ?_
          exact r_sub [1, 0] rfl (ih _ _ h)
        · replace h := h.2 hc
          refine r_aload_n C 0 dX9_layReduced_31 rfl rfl ?_
          refine cX9_448 C (m_X9_fitsThree l h) ⟨Nat.le_of_ble_eq_true rfl, Nat.le_of_ble_eq_true rfl⟩ (Nat.le_of_ble_eq_true rfl) ⟨Nat.le_refl 0, Nat.le_refl 0⟩ dX9_layReduced_32 (fun r_4 M_6 h => ?_)
          refine r_if_ne C 59 dX9_layReduced_35 (by decide) (fun hc => ?_) (fun hc => ?_)
          · replace h := h.1 hc
            refine r_iconst (v := (1 : Int32)) C dX9_layReduced_59 rfl ?_
            refine r_goto C 64 dX9_layReduced_60 (by decide) ?_
            refine r_istore_n C [(1, .int _), (0, .ref _)] dX9_layReduced_64 rfl (by decide) rfl ?_
            refine r_goto C 13 dX9_layReduced_65 (by decide) ?_
            exact r_sub [1, 0] rfl (ih _ _ h)
          · replace h := h.2 hc
            refine r_aload_n C 0 dX9_layReduced_38 rfl rfl ?_
            refine cX9_451 C (m_X9_fitsFour l h) ⟨Nat.le_of_ble_eq_true rfl, Nat.le_of_ble_eq_true rfl⟩ (Nat.le_of_ble_eq_true rfl) ⟨Nat.le_refl 0, Nat.le_refl 0⟩ dX9_layReduced_39 (fun r_5 M_7 h => ?_)
            refine r_if_ne C 59 dX9_layReduced_42 (by decide) (fun hc => ?_) (fun hc => ?_)
            · replace h := h.1 hc
              refine r_iconst (v := (1 : Int32)) C dX9_layReduced_59 rfl ?_
              refine r_goto C 64 dX9_layReduced_60 (by decide) ?_
              refine r_istore_n C [(1, .int _), (0, .ref _)] dX9_layReduced_64 rfl (by decide) rfl ?_
              refine r_goto C 13 dX9_layReduced_65 (by decide) ?_
              exact r_sub [1, 0] rfl (ih _ _ h)
            · replace h := h.2 hc
              refine r_aload_n C 0 dX9_layReduced_45 rfl rfl ?_
              refine cX9_454 C (m_X9_fitsFive l h) ⟨Nat.le_of_ble_eq_true rfl, Nat.le_of_ble_eq_true rfl⟩ (Nat.le_of_ble_eq_true rfl) ⟨Nat.le_refl 0, Nat.le_refl 0⟩ dX9_layReduced_46 (fun r_6 M_8 h => ?_)
              refine r_if_ne C 59 dX9_layReduced_49 (by decide) (fun hc => ?_) (fun hc => ?_)
              · replace h := h.1 hc
                refine r_iconst (v := (1 : Int32)) C dX9_layReduced_59 rfl ?_
                refine r_goto C 64 dX9_layReduced_60 (by decide) ?_
                refine r_istore_n C [(1, .int _), (0, .ref _)] dX9_layReduced_64 rfl (by decide) rfl ?_
                refine r_goto C 13 dX9_layReduced_65 (by decide) ?_
                exact r_sub [1, 0] rfl (ih _ _ h)
              · replace h := h.2 hc
                refine r_aload_n C 0 dX9_layReduced_52 rfl rfl ?_
                refine cX9_457 C (m_X9_fitsSix l h) ⟨Nat.le_of_ble_eq_true rfl, Nat.le_of_ble_eq_true rfl⟩ (Nat.le_of_ble_eq_true rfl) ⟨Nat.le_refl 0, Nat.le_refl 0⟩ dX9_layReduced_53 (fun r_7 M_9 h => ?_)
                refine r_if_eq C 63 dX9_layReduced_56 (by decide) (fun hc => ?_) (fun hc => ?_)
                · replace h := h.1 hc
                  refine r_iconst (v := (0 : Int32)) C dX9_layReduced_63 rfl ?_
                  refine r_istore_n C [(1, .int _), (0, .ref _)] dX9_layReduced_64 rfl (by decide) rfl ?_
                  refine r_goto C 13 dX9_layReduced_65 (by decide) ?_
                  exact r_sub [1, 0] rfl (ih _ _ h)
                · replace h := h.2 hc
                  refine r_iconst (v := (1 : Int32)) C dX9_layReduced_59 rfl ?_
                  refine r_goto C 64 dX9_layReduced_60 (by decide) ?_
                  refine r_istore_n C [(1, .int _), (0, .ref _)] dX9_layReduced_64 rfl (by decide) rfl ?_
                  refine r_goto C 13 dX9_layReduced_65 (by decide) ?_
                  exact r_sub [1, 0] rfl (ih _ _ h)

def f_X9_layReduced (M : Mem) (K : Mem → Prop) : Prop := f_X9_copies (0 : Int32) (1 : Int32) M (fun (M_2 : Mem) => ∀ M_3 : Mem, M_3 = wI M_2 0 58 (0 : Int32) → (∃ k13 : Nat, L_X9_layReduced_13 (fun  (M_10 : Mem) => K M_10) K k13 (1 : Int32) M_3))

set_option maxHeartbeats 1000000 in
set_option maxRecDepth 10000 in
theorem m_X9_layReduced (l : Launch)   {M : Mem} {K : Mem → Prop} (h : f_X9_layReduced M K) : CTv l yX9_layReduced cX9_layReduced 2 none rm_X9_layReduced (fun ad => [.ref (ad 0)]) M K := by
  refine rw_entv (by decide +kernel) (fun ad => Nat.le_of_ble_eq_true rfl) (fun p e s m args below meth c D cy ad C => ?_)
  change rw_W p l e _ s m args below meth c D cy ad 2 0 0 _ 0 [(0, .ref (ad 0))] [] M
  unfold f_X9_layReduced at h
  refine r_aload_n C 0 dX9_layReduced_0 rfl rfl ?_
  refine r_iconst (v := (0 : Int32)) C dX9_layReduced_1 rfl ?_
  refine r_iconst (v := (1 : Int32)) C dX9_layReduced_2 rfl ?_
  refine cX9_244 C (m_X9_copies l h) ⟨Nat.le_of_ble_eq_true rfl, Nat.le_of_ble_eq_true rfl⟩ (Nat.le_of_ble_eq_true rfl) ⟨Nat.le_refl 0, Nat.le_refl 0⟩ dX9_layReduced_3 (fun M_2 h => ?_)
  refine r_aload_n C 0 dX9_layReduced_6 rfl rfl ?_
  refine r_iconst (v := (0 : Int32)) C dX9_layReduced_7 rfl ?_
  refine pX9_412 C dX9_layReduced_8 ?_
  replace h := h _ rfl
  refine r_iconst (v := (1 : Int32)) C dX9_layReduced_11 rfl ?_
  refine r_istore_n C [(1, .int _), (0, .ref _)] dX9_layReduced_12 rfl (by decide) rfl ?_
  obtain ⟨n13, h⟩ := h
  refine r_sub [1, 0] rfl (mL_X9_layReduced_13 C (fun M_10 h => ?_) n13 _ _ h)
  exact r_vret C dX9_layReduced_68 h
def f_X9_reduce (M : Mem) (K : Int32 → Mem → Prop) : Prop := ∀ M_2 : Mem, M_2 = wI M 0 0 (0 : Int32) → f_X9_layReduced  M_2 (fun (M_3 : Mem) => K (M_3.1 0 58) M_3)

set_option maxHeartbeats 1000000 in
set_option maxRecDepth 10000 in
theorem m_X9_reduce (l : Launch)   {M : Mem} {K : Int32 → Mem → Prop} (h : f_X9_reduce M K) : CTi l yX9_reduce cX9_reduce 1 (some .int) rm_X9_reduce (fun ad => [.ref (ad 0)]) M K := by
  refine rw_enti (by decide +kernel) (fun ad => Nat.le_of_ble_eq_true rfl) (fun p e s m args below meth c D cy ad C => ?_)
  change rw_W p l e _ s m args below meth c D cy ad 1 0 0 _ 0 [(0, .ref (ad 0))] [] M
  unfold f_X9_reduce at h
  refine r_aload_n C 0 dX9_reduce_0 rfl rfl ?_
  refine r_iconst (v := (0 : Int32)) C dX9_reduce_1 rfl ?_
  refine pX9_133 C dX9_reduce_2 ?_
  replace h := h _ rfl
  refine r_aload_n C 0 dX9_reduce_5 rfl rfl ?_
  refine cX9_460 C (m_X9_layReduced l h) ⟨Nat.le_of_ble_eq_true rfl, Nat.le_of_ble_eq_true rfl⟩ (Nat.le_of_ble_eq_true rfl) ⟨Nat.le_refl 0, Nat.le_refl 0⟩ dX9_reduce_6 (fun M_3 h => ?_)
  refine r_aload_n C 0 dX9_reduce_9 rfl rfl ?_
  refine gX9_412 C dX9_reduce_10 ?_
  exact r_iret C dX9_reduce_13 h
def f_X9_rule (v1 : Int32) (v2 : Int32) (M : Mem) (K : Int32 → Mem → Prop) : Prop := ∀ M_2 : Mem, M_2 = wI M 0 0 (0 : Int32) → f_X9_layReduced  M_2 (fun (M_3 : Mem) => f_X9_in v1 (0 : Int32) ((M_3.1 0 58) - (1 : Int32)) M_3 (fun (r_2 : Int32) (M_4 : Mem) => ((r_2 = 0 → K (-1 : Int32) M_4) ∧ (¬ r_2 = 0 → f_X9_in v2 (0 : Int32) (2 : Int32) M_4 (fun (r_3 : Int32) (M_5 : Mem) => ((¬ r_3 = 0 → ((¬ v2 = 0 → ((¬ v2 = (1 : Int32) → vp_in v1 20 ∧ K (gI M_5 39 v1) M_5) ∧ (v2 = (1 : Int32) → vp_in v1 20 ∧ K (gI M_5 38 v1) M_5))) ∧ (v2 = 0 → vp_in v1 20 ∧ K (gI M_5 37 v1) M_5))) ∧ (r_3 = 0 → K (-1 : Int32) M_5)))))))

set_option maxHeartbeats 1000000 in
set_option maxRecDepth 10000 in
theorem m_X9_rule (l : Launch) {v1 : Int32} {v2 : Int32}  {M : Mem} {K : Int32 → Mem → Prop} (h : f_X9_rule v1 v2 M K) : CTi l yX9_rule cX9_rule 3 (some .int) rm_X9_rule (fun ad => [.ref (ad 0), .int v1, .int v2]) M K := by
  refine rw_enti (by decide +kernel) (fun ad => Nat.le_of_ble_eq_true rfl) (fun p e s m args below meth c D cy ad C => ?_)
  change rw_W p l e _ s m args below meth c D cy ad 3 0 0 _ 0 [(0, .ref (ad 0)), (1, .int v1), (2, .int v2)] [] M
  unfold f_X9_rule at h
  refine r_aload_n C 0 dX9_rule_0 rfl rfl ?_
  refine r_iconst (v := (0 : Int32)) C dX9_rule_1 rfl ?_
  refine pX9_133 C dX9_rule_2 ?_
  replace h := h _ rfl
  refine r_aload_n C 0 dX9_rule_5 rfl rfl ?_
  refine cX9_460 C (m_X9_layReduced l h) ⟨Nat.le_of_ble_eq_true rfl, Nat.le_of_ble_eq_true rfl⟩ (Nat.le_of_ble_eq_true rfl) ⟨Nat.le_refl 0, Nat.le_refl 0⟩ dX9_rule_6 (fun M_3 h => ?_)
  refine r_iload_n C 1 dX9_rule_9 rfl rfl ?_
  refine r_iconst (v := (0 : Int32)) C dX9_rule_10 rfl ?_
  refine r_aload_n C 0 dX9_rule_11 rfl rfl ?_
  refine gX9_412 C dX9_rule_12 ?_
  refine r_iconst (v := (1 : Int32)) C dX9_rule_15 rfl ?_
  refine r_isub C dX9_rule_16 ?_
  refine cX9_136 C (m_X9_in l h) ⟨Nat.le_of_ble_eq_true rfl, Nat.le_of_ble_eq_true rfl⟩ (Nat.le_of_ble_eq_true rfl) ⟨Nat.le_refl 0, Nat.le_refl 0⟩ dX9_rule_17 (fun r_2 M_4 h => ?_)
  refine r_if_eq C 32 dX9_rule_20 (by decide) (fun hc => ?_) (fun hc => ?_)
  · replace h := h.1 hc
    refine r_iconst (v := (-1 : Int32)) C dX9_rule_32 rfl ?_
    exact r_iret C dX9_rule_33 h
  · replace h := h.2 hc
    refine r_iload_n C 2 dX9_rule_23 rfl rfl ?_
    refine r_iconst (v := (0 : Int32)) C dX9_rule_24 rfl ?_
    refine r_iconst (v := (2 : Int32)) C dX9_rule_25 rfl ?_
    refine cX9_136 C (m_X9_in l h) ⟨Nat.le_of_ble_eq_true rfl, Nat.le_of_ble_eq_true rfl⟩ (Nat.le_of_ble_eq_true rfl) ⟨Nat.le_refl 0, Nat.le_refl 0⟩ dX9_rule_26 (fun r_3 M_5 h => ?_)
    refine r_if_ne C 34 dX9_rule_29 (by decide) (fun hc => ?_) (fun hc => ?_)
    · replace h := h.1 hc
      refine r_iload_n C 2 dX9_rule_34 rfl rfl ?_
      refine r_if_ne C 47 dX9_rule_35 (by decide) (fun hc => ?_) (fun hc => ?_)
      · replace h := h.1 hc
        refine r_iload_n C 2 dX9_rule_47 rfl rfl ?_
        refine r_iconst (v := (1 : Int32)) C dX9_rule_48 rfl ?_
        refine r_icmp_ne C 61 dX9_rule_49 (by decide) (fun hc => ?_) (fun hc => ?_)
        · replace h := h.1 hc
          refine r_aload_n C 0 dX9_rule_61 rfl rfl ?_
          refine gX9_130 C dX9_rule_62 ?_
          refine r_iload_n C 1 dX9_rule_65 rfl rfl ?_
          obtain ⟨q, h⟩ := h
          refine r_iald C sh_39 q dX9_rule_66 ?_
          exact r_iret C dX9_rule_67 h
        · replace h := h.2 hc
          refine r_aload_n C 0 dX9_rule_52 rfl rfl ?_
          refine gX9_127 C dX9_rule_53 ?_
          refine r_iload_n C 1 dX9_rule_56 rfl rfl ?_
          obtain ⟨q_2, h⟩ := h
          refine r_iald C sh_38 q_2 dX9_rule_57 ?_
          refine r_goto C 67 dX9_rule_58 (by decide) ?_
          exact r_iret C dX9_rule_67 h
      · replace h := h.2 hc
        refine r_aload_n C 0 dX9_rule_38 rfl rfl ?_
        refine gX9_124 C dX9_rule_39 ?_
        refine r_iload_n C 1 dX9_rule_42 rfl rfl ?_
        obtain ⟨q_3, h⟩ := h
        refine r_iald C sh_37 q_3 dX9_rule_43 ?_
        refine r_goto C 67 dX9_rule_44 (by decide) ?_
        exact r_iret C dX9_rule_67 h
    · replace h := h.2 hc
      refine r_iconst (v := (-1 : Int32)) C dX9_rule_32 rfl ?_
      exact r_iret C dX9_rule_33 h
def L_X9_reduced_54 (v1 : Int32) (X98 : Int32 → Mem → Prop) (K : Int32 → Mem → Prop) : Nat → Int32 → Int32 → Mem → Prop
  | 0, _, _, _ => False
  | n + 1, v2, v3, M => (((8 : Int32) ≤ v3 → X98 v2 M) ∧ (¬ (8 : Int32) ≤ v3 → ((¬ v1 = (4 : Int32) → X98 v2 M) ∧ (v1 = (4 : Int32) → f_X9_isLeft v3 M (fun (r_4 : Int32) (M_6 : Mem) => ((r_4 = 0 → ∀ x2 : Int32, x2 = v2 ||| (0 : Int32) → L_X9_reduced_54 v1 X98 K n x2 (v3 + (1 : Int32)) M_6) ∧ (¬ r_4 = 0 → f_X9_isLive (1 : Int32) v3 M_6 (fun (r_5 : Int32) (M_7 : Mem) => ((r_5 = 0 → ∀ x2_2 : Int32, x2_2 = v2 ||| (0 : Int32) → L_X9_reduced_54 v1 X98 K n x2_2 (v3 + (1 : Int32)) M_7) ∧ (¬ r_5 = 0 → ∀ x2_3 : Int32, x2_3 = v2 ||| ((1 : Int32) <<< (v3 &&& 31)) → L_X9_reduced_54 v1 X98 K n x2_3 (v3 + (1 : Int32)) M_7))))))))))

set_option maxHeartbeats 1000000 in
set_option maxRecDepth 10000 in
theorem mL_X9_reduced_54 (C : rw_C p s m meth c cX9_reduced 4 RX9 (some .int) D cy ad) {v1 : Int32} {X98 : Int32 → Mem → Prop} {K : Int32 → Mem → Prop} (hX98 : ∀ (u2 : Int32) (M : Mem), X98 u2 M → rw_W p l e rm_X9_reduced s m args below meth c D cy ad 4 0 0 (rw_Qi below args s D cy ad K) 98 [(0, .ref (ad 0)), (1, .int v1), (2, .int u2)] [] M) : ∀ (n : Nat) (v2 : Int32) (v3 : Int32) (M : Mem), L_X9_reduced_54 v1 X98 K n v2 v3 M → rw_W p l e rm_X9_reduced s m args below meth c D cy ad 4 0 0 (rw_Qi below args s D cy ad K) 54 [(0, .ref (ad 0)), (1, .int v1), (2, .int v2), (3, .int v3)] [] M := by
  intro n
  induction n with
  | zero => intro v2 v3 M h; exact h.elim
  | succ n ih =>
    intro v2 v3 M h
    refine r_iload_n C 3 dX9_reduced_54 rfl rfl ?_
    refine r_bipush (v := (8 : Int32)) C dX9_reduced_55 rfl ?_
    refine r_icmp_ge C 98 dX9_reduced_57 (by decide) (fun hc => ?_) (fun hc => ?_)
    · replace h := h.1 hc
      exact r_sub [0, 1, 2] rfl (hX98 _ _ h)
    · replace h := h.2 hc
      refine r_iload_n C 1 dX9_reduced_60 rfl rfl ?_
      refine r_iconst (v := (4 : Int32)) C dX9_reduced_61 rfl ?_
      refine r_icmp_ne C 98 dX9_reduced_62 (by decide) (fun hc => ?_) (fun hc => ?_)
      · replace h := h.1 hc
        exact r_sub [0, 1, 2] rfl (hX98 _ _ h)
      · replace h := h.2 hc
        refine r_iload_n C 2 dX9_reduced_65 rfl rfl ?_
        refine r_aload_n C 0 dX9_reduced_66 rfl rfl ?_
        refine r_iload_n C 3 dX9_reduced_67 rfl rfl ?_
        refine cX9_430 C (m_X9_isLeft l h) ⟨Nat.le_of_ble_eq_true rfl, Nat.le_of_ble_eq_true rfl⟩ (Nat.le_of_ble_eq_true rfl) ⟨Nat.le_refl 0, Nat.le_refl 0⟩ dX9_reduced_68 (fun r_4 M_6 h => ?_)
        refine r_if_eq C 89 dX9_reduced_71 (by decide) (fun hc => ?_) (fun hc => ?_)
        · replace h := h.1 hc
          refine r_iconst (v := (0 : Int32)) C dX9_reduced_89 rfl ?_
          refine r_ior C dX9_reduced_90 ?_
          refine r_istore_n C [(2, .int _), (0, .ref _), (1, .int _), (3, .int _)] dX9_reduced_91 rfl (by decide) rfl ?_
          replace h := h _ rfl
          refine r_iinc C 3 (v := _) [(3, .int _), (2, .int _), (0, .ref _), (1, .int _)] dX9_reduced_92 rfl rfl (by decide) rfl ?_
          refine r_goto C 54 dX9_reduced_95 (by decide) ?_
          exact r_sub [2, 3, 1, 0] rfl (ih _ _ _ h)
        · replace h := h.2 hc
          refine r_aload_n C 0 dX9_reduced_74 rfl rfl ?_
          refine r_iconst (v := (1 : Int32)) C dX9_reduced_75 rfl ?_
          refine r_iload_n C 3 dX9_reduced_76 rfl rfl ?_
          refine cX9_406 C (m_X9_isLive l h) ⟨Nat.le_of_ble_eq_true rfl, Nat.le_of_ble_eq_true rfl⟩ (Nat.le_of_ble_eq_true rfl) ⟨Nat.le_refl 0, Nat.le_refl 0⟩ dX9_reduced_77 (fun r_5 M_7 h => ?_)
          refine r_if_eq C 89 dX9_reduced_80 (by decide) (fun hc => ?_) (fun hc => ?_)
          · replace h := h.1 hc
            refine r_iconst (v := (0 : Int32)) C dX9_reduced_89 rfl ?_
            refine r_ior C dX9_reduced_90 ?_
            refine r_istore_n C [(2, .int _), (0, .ref _), (1, .int _), (3, .int _)] dX9_reduced_91 rfl (by decide) rfl ?_
            replace h := h _ rfl
            refine r_iinc C 3 (v := _) [(3, .int _), (2, .int _), (0, .ref _), (1, .int _)] dX9_reduced_92 rfl rfl (by decide) rfl ?_
            refine r_goto C 54 dX9_reduced_95 (by decide) ?_
            exact r_sub [2, 3, 1, 0] rfl (ih _ _ _ h)
          · replace h := h.2 hc
            refine r_iconst (v := (1 : Int32)) C dX9_reduced_83 rfl ?_
            refine r_iload_n C 3 dX9_reduced_84 rfl rfl ?_
            refine r_ishl C dX9_reduced_85 ?_
            refine r_goto C 90 dX9_reduced_86 (by decide) ?_
            refine r_ior C dX9_reduced_90 ?_
            refine r_istore_n C [(2, .int _), (0, .ref _), (1, .int _), (3, .int _)] dX9_reduced_91 rfl (by decide) rfl ?_
            replace h := h _ rfl
            refine r_iinc C 3 (v := _) [(3, .int _), (2, .int _), (0, .ref _), (1, .int _)] dX9_reduced_92 rfl rfl (by decide) rfl ?_
            refine r_goto C 54 dX9_reduced_95 (by decide) ?_
            exact r_sub [2, 3, 1, 0] rfl (ih _ _ _ h)

def f_X9_reduced (v1 : Int32) (M : Mem) (K : Int32 → Mem → Prop) : Prop := ∀ M_2 : Mem, M_2 = wI M 0 0 (0 : Int32) → f_X9_in v1 (0 : Int32) (5 : Int32) M_2 (fun (r : Int32) (M_3 : Mem) => ((¬ r = 0 → f_X9_layReduced  M_3 (fun (M_4 : Mem) => (((2 : Int32) ≤ v1 → f_X9_layGraph (1 : Int32) M_4 (fun (M_5 : Mem) => (∃ k54 : Nat, L_X9_reduced_54 v1 (fun (v2_2 : Int32) (M_8 : Mem) => ((¬ v1 = (2 : Int32) → ((¬ v1 = (3 : Int32) → ((¬ v1 = (4 : Int32) → f_X9_dead (1 : Int32) M_8 (fun (r_6 : Int32) (M_9 : Mem) => K r_6 M_9)) ∧ (v1 = (4 : Int32) → K v2_2 M_8))) ∧ (v1 = (3 : Int32) → (((gI M_8 33 (1 : Int32)) = 0 → K (0 : Int32) M_8) ∧ (¬ (gI M_8 33 (1 : Int32)) = 0 → K (1 : Int32) M_8))))) ∧ (v1 = (2 : Int32) → K (gI M_8 30 (1 : Int32)) M_8))) K k54 (0 : Int32) (0 : Int32) M_5))) ∧ (¬ (2 : Int32) ≤ v1 → ((¬ v1 = 0 → K (gI M_4 5 (1 : Int32)) M_4) ∧ (v1 = 0 → K (gI M_4 4 (1 : Int32)) M_4)))))) ∧ (r = 0 → K (-1 : Int32) M_3)))

set_option maxHeartbeats 1000000 in
set_option maxRecDepth 10000 in
theorem m_X9_reduced (l : Launch) {v1 : Int32}  {M : Mem} {K : Int32 → Mem → Prop} (h : f_X9_reduced v1 M K) : CTi l yX9_reduced cX9_reduced 4 (some .int) rm_X9_reduced (fun ad => [.ref (ad 0), .int v1]) M K := by
  refine rw_enti (by decide +kernel) (fun ad => Nat.le_of_ble_eq_true rfl) (fun p e s m args below meth c D cy ad C => ?_)
  change rw_W p l e _ s m args below meth c D cy ad 4 0 0 _ 0 [(0, .ref (ad 0)), (1, .int v1)] [] M
  unfold f_X9_reduced at h
  refine r_aload_n C 0 dX9_reduced_0 rfl rfl ?_
  refine r_iconst (v := (0 : Int32)) C dX9_reduced_1 rfl ?_
  refine pX9_133 C dX9_reduced_2 ?_
  replace h := h _ rfl
  refine r_iload_n C 1 dX9_reduced_5 rfl rfl ?_
  refine r_iconst (v := (0 : Int32)) C dX9_reduced_6 rfl ?_
  refine r_iconst (v := (5 : Int32)) C dX9_reduced_7 rfl ?_
  refine cX9_136 C (m_X9_in l h) ⟨Nat.le_of_ble_eq_true rfl, Nat.le_of_ble_eq_true rfl⟩ (Nat.le_of_ble_eq_true rfl) ⟨Nat.le_refl 0, Nat.le_refl 0⟩ dX9_reduced_8 (fun r M_3 h => ?_)
  refine r_if_ne C 16 dX9_reduced_11 (by decide) (fun hc => ?_) (fun hc => ?_)
  · replace h := h.1 hc
    refine r_aload_n C 0 dX9_reduced_16 rfl rfl ?_
    refine cX9_460 C (m_X9_layReduced l h) ⟨Nat.le_of_ble_eq_true rfl, Nat.le_of_ble_eq_true rfl⟩ (Nat.le_of_ble_eq_true rfl) ⟨Nat.le_refl 0, Nat.le_refl 0⟩ dX9_reduced_17 (fun M_4 h => ?_)
    refine r_iload_n C 1 dX9_reduced_20 rfl rfl ?_
    refine r_iconst (v := (2 : Int32)) C dX9_reduced_21 rfl ?_
    refine r_icmp_ge C 45 dX9_reduced_22 (by decide) (fun hc => ?_) (fun hc => ?_)
    · replace h := h.1 hc
      refine r_aload_n C 0 dX9_reduced_45 rfl rfl ?_
      refine r_iconst (v := (1 : Int32)) C dX9_reduced_46 rfl ?_
      refine cX9_385 C (m_X9_layGraph l h) ⟨Nat.le_of_ble_eq_true rfl, Nat.le_of_ble_eq_true rfl⟩ (Nat.le_of_ble_eq_true rfl) ⟨Nat.le_refl 0, Nat.le_refl 0⟩ dX9_reduced_47 (fun M_5 h => ?_)
      refine r_iconst (v := (0 : Int32)) C dX9_reduced_50 rfl ?_
      refine r_istore_n C [(2, .int _), (0, .ref _), (1, .int _)] dX9_reduced_51 rfl (by decide) rfl ?_
      refine r_iconst (v := (0 : Int32)) C dX9_reduced_52 rfl ?_
      refine r_istore_n C [(3, .int _), (2, .int _), (0, .ref _), (1, .int _)] dX9_reduced_53 rfl (by decide) rfl ?_
      obtain ⟨n54, h⟩ := h
      refine r_sub [2, 3, 1, 0] rfl (mL_X9_reduced_54 C (fun v2_2 M_8 h => ?_) n54 _ _ _ h)
      refine r_iload_n C 1 dX9_reduced_98 rfl rfl ?_
      refine r_iconst (v := (2 : Int32)) C dX9_reduced_99 rfl ?_
      refine r_icmp_ne C 112 dX9_reduced_100 (by decide) (fun hc => ?_) (fun hc => ?_)
      · replace h := h.1 hc
        refine r_iload_n C 1 dX9_reduced_112 rfl rfl ?_
        refine r_iconst (v := (3 : Int32)) C dX9_reduced_113 rfl ?_
        refine r_icmp_ne C 134 dX9_reduced_114 (by decide) (fun hc => ?_) (fun hc => ?_)
        · replace h := h.1 hc
          refine r_iload_n C 1 dX9_reduced_134 rfl rfl ?_
          refine r_iconst (v := (4 : Int32)) C dX9_reduced_135 rfl ?_
          refine r_icmp_ne C 143 dX9_reduced_136 (by decide) (fun hc => ?_) (fun hc => ?_)
          · replace h := h.1 hc
            refine r_aload_n C 0 dX9_reduced_143 rfl rfl ?_
            refine r_iconst (v := (1 : Int32)) C dX9_reduced_144 rfl ?_
            refine cX9_400 C (m_X9_dead l h) ⟨Nat.le_of_ble_eq_true rfl, Nat.le_of_ble_eq_true rfl⟩ (Nat.le_of_ble_eq_true rfl) ⟨Nat.le_refl 0, Nat.le_refl 0⟩ dX9_reduced_145 (fun r_6 M_9 h => ?_)
            exact r_iret C dX9_reduced_148 h
          · replace h := h.2 hc
            refine r_iload_n C 2 dX9_reduced_139 rfl rfl ?_
            refine r_goto C 148 dX9_reduced_140 (by decide) ?_
            exact r_iret C dX9_reduced_148 h
        · replace h := h.2 hc
          refine r_aload_n C 0 dX9_reduced_117 rfl rfl ?_
          refine gX9_112 C dX9_reduced_118 ?_
          refine r_iconst (v := (1 : Int32)) C dX9_reduced_121 rfl ?_
          refine r_zald C sh_33 (vpd (i := (1 : Int32)) (n := 2) (by decide +kernel)) dX9_reduced_122 ?_
          refine r_if_eq C 130 dX9_reduced_123 (by decide) (fun hc => ?_) (fun hc => ?_)
          · replace h := h.1 hc
            refine r_iconst (v := (0 : Int32)) C dX9_reduced_130 rfl ?_
            refine r_goto C 148 dX9_reduced_131 (by decide) ?_
            exact r_iret C dX9_reduced_148 h
          · replace h := h.2 hc
            refine r_iconst (v := (1 : Int32)) C dX9_reduced_126 rfl ?_
            refine r_goto C 148 dX9_reduced_127 (by decide) ?_
            exact r_iret C dX9_reduced_148 h
      · replace h := h.2 hc
        refine r_aload_n C 0 dX9_reduced_103 rfl rfl ?_
        refine gX9_103 C dX9_reduced_104 ?_
        refine r_iconst (v := (1 : Int32)) C dX9_reduced_107 rfl ?_
        refine r_iald C sh_30 (vpd (i := (1 : Int32)) (n := 2) (by decide +kernel)) dX9_reduced_108 ?_
        refine r_goto C 148 dX9_reduced_109 (by decide) ?_
        exact r_iret C dX9_reduced_148 h
    · replace h := h.2 hc
      refine r_iload_n C 1 dX9_reduced_25 rfl rfl ?_
      refine r_if_ne C 38 dX9_reduced_26 (by decide) (fun hc => ?_) (fun hc => ?_)
      · replace h := h.1 hc
        refine r_aload_n C 0 dX9_reduced_38 rfl rfl ?_
        refine gX9_22 C dX9_reduced_39 ?_
        refine r_iconst (v := (1 : Int32)) C dX9_reduced_42 rfl ?_
        refine r_iald C sh_5 (vpd (i := (1 : Int32)) (n := 3) (by decide +kernel)) dX9_reduced_43 ?_
        exact r_iret C dX9_reduced_44 h
      · replace h := h.2 hc
        refine r_aload_n C 0 dX9_reduced_29 rfl rfl ?_
        refine gX9_19 C dX9_reduced_30 ?_
        refine r_iconst (v := (1 : Int32)) C dX9_reduced_33 rfl ?_
        refine r_iald C sh_4 (vpd (i := (1 : Int32)) (n := 3) (by decide +kernel)) dX9_reduced_34 ?_
        refine r_goto C 44 dX9_reduced_35 (by decide) ?_
        exact r_iret C dX9_reduced_44 h
  · replace h := h.2 hc
    refine r_iconst (v := (-1 : Int32)) C dX9_reduced_14 rfl ?_
    exact r_iret C dX9_reduced_15 h
def f_X9_become (M : Mem) (K : Int32 → Mem → Prop) : Prop := ∀ M_2 : Mem, M_2 = wI M 0 0 (0 : Int32) → f_X9_layReduced  M_2 (fun (M_3 : Mem) => ((¬ (M_3.1 0 58) = 0 → f_X9_keep  M_3 (fun (M_4 : Mem) => f_X9_copies (1 : Int32) (0 : Int32) M_4 (fun (M_5 : Mem) => f_X9_another  M_5 (fun (M_6 : Mem) => K (M_6.1 0 58) M_6)))) ∧ ((M_3.1 0 58) = 0 → K (-1 : Int32) M_3)))

set_option maxHeartbeats 1000000 in
set_option maxRecDepth 10000 in
theorem m_X9_become (l : Launch)   {M : Mem} {K : Int32 → Mem → Prop} (h : f_X9_become M K) : CTi l yX9_become cX9_become 1 (some .int) rm_X9_become (fun ad => [.ref (ad 0)]) M K := by
  refine rw_enti (by decide +kernel) (fun ad => Nat.le_of_ble_eq_true rfl) (fun p e s m args below meth c D cy ad C => ?_)
  change rw_W p l e _ s m args below meth c D cy ad 1 0 0 _ 0 [(0, .ref (ad 0))] [] M
  unfold f_X9_become at h
  refine r_aload_n C 0 dX9_become_0 rfl rfl ?_
  refine r_iconst (v := (0 : Int32)) C dX9_become_1 rfl ?_
  refine pX9_133 C dX9_become_2 ?_
  replace h := h _ rfl
  refine r_aload_n C 0 dX9_become_5 rfl rfl ?_
  refine cX9_460 C (m_X9_layReduced l h) ⟨Nat.le_of_ble_eq_true rfl, Nat.le_of_ble_eq_true rfl⟩ (Nat.le_of_ble_eq_true rfl) ⟨Nat.le_refl 0, Nat.le_refl 0⟩ dX9_become_6 (fun M_3 h => ?_)
  refine r_aload_n C 0 dX9_become_9 rfl rfl ?_
  refine gX9_412 C dX9_become_10 ?_
  refine r_if_ne C 18 dX9_become_13 (by decide) (fun hc => ?_) (fun hc => ?_)
  · replace h := h.1 hc
    refine r_aload_n C 0 dX9_become_18 rfl rfl ?_
    refine cX9_296 C (m_X9_keep l h) ⟨Nat.le_of_ble_eq_true rfl, Nat.le_of_ble_eq_true rfl⟩ (Nat.le_of_ble_eq_true rfl) ⟨Nat.le_refl 0, Nat.le_refl 0⟩ dX9_become_19 (fun M_4 h => ?_)
    refine r_aload_n C 0 dX9_become_22 rfl rfl ?_
    refine r_iconst (v := (1 : Int32)) C dX9_become_23 rfl ?_
    refine r_iconst (v := (0 : Int32)) C dX9_become_24 rfl ?_
    refine cX9_244 C (m_X9_copies l h) ⟨Nat.le_of_ble_eq_true rfl, Nat.le_of_ble_eq_true rfl⟩ (Nat.le_of_ble_eq_true rfl) ⟨Nat.le_refl 0, Nat.le_refl 0⟩ dX9_become_25 (fun M_5 h => ?_)
    refine r_aload_n C 0 dX9_become_28 rfl rfl ?_
    refine cX9_250 C (m_X9_another l h) ⟨Nat.le_of_ble_eq_true rfl, Nat.le_of_ble_eq_true rfl⟩ (Nat.le_of_ble_eq_true rfl) ⟨Nat.le_refl 0, Nat.le_refl 0⟩ dX9_become_29 (fun M_6 h => ?_)
    refine r_aload_n C 0 dX9_become_32 rfl rfl ?_
    refine gX9_412 C dX9_become_33 ?_
    exact r_iret C dX9_become_36 h
  · replace h := h.2 hc
    refine r_iconst (v := (-1 : Int32)) C dX9_become_16 rfl ?_
    exact r_iret C dX9_become_17 h
end MG
