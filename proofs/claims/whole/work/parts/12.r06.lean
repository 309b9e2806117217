section MG
variable {p : Program} {l : Launch} {e : Env} {R : Room} {s : State} {m : MethodId} {args : Array Value} {below : List Frame} {meth : Method} {c : Code} {D : va_G} {cy : Nat → ClassId} {ad : Nat → Nat}
def S_X9_counts_20 (v1 : Int32) (o0 : Int32) (o1 : Int32) (X33 : Mem → Prop) (K : Int32 → Mem → Prop) (M : Mem) : Prop := (o1 = o0 → X33 M) ∧ (¬ o1 = o0 → f_X9_isStep v1 M (fun (r_2 : Int32) (M_4 : Mem) => ((¬ r_2 = 0 → X33 M_4) ∧ (r_2 = 0 → K (-1 : Int32) M_4))))

set_option maxHeartbeats 1000000 in
set_option maxRecDepth 10000 in
theorem mS_X9_counts_20 (C : rw_C p s m meth c cX9_counts 2 RX9 (some .int) D cy ad) {v1 : Int32} {o0 : Int32} {o1 : Int32} {X33 : Mem → Prop} {K : Int32 → Mem → Prop} {M : Mem} (hX33 : ∀  (M : Mem), X33 M → rw_W p l e rm_X9_counts s m args below meth c D cy ad 2 0 0 (rw_Qi below args s D cy ad K) 33 [(0, .ref (ad 0)), (1, .int v1)] [] M) (h : S_X9_counts_20 v1 o0 o1 X33 K M) : rw_W p l e rm_X9_counts s m args below meth c D cy ad 2 0 0 (rw_Qi below args s D cy ad K) 20 [(0, .ref (ad 0)), (1, .int v1)] [.int o0, .int o1] M := by
  refine r_icmp_eq C 33 dX9_counts_20 (by decide) (fun hc => ?_) (fun hc => ?_)
  · replace h := h.1 hc
    exact hX33 _ h
  · replace h := h.2 hc
    refine r_aload_n C 0 dX9_counts_23 rfl rfl ?_
    refine r_iload_n C 1 dX9_counts_24 rfl rfl ?_
    refine cX9_272 C (m_X9_isStep l h) ⟨Nat.le_of_ble_eq_true rfl, Nat.le_of_ble_eq_true rfl⟩ (Nat.le_of_ble_eq_true rfl) ⟨Nat.le_refl 0, Nat.le_refl 0⟩ dX9_counts_25 (fun r_2 M_4 h => ?_)
    refine r_if_ne C 33 dX9_counts_28 (by decide) (fun hc => ?_) (fun hc => ?_)
    · replace h := h.1 hc
      exact hX33 _ h
    · replace h := h.2 hc
      refine r_iconst (v := (-1 : Int32)) C dX9_counts_31 rfl ?_
      exact r_iret C dX9_counts_32 h

def f_X9_counts (v1 : Int32) (M : Mem) (K : Int32 → Mem → Prop) : Prop := ∀ M_2 : Mem, M_2 = wI M 0 0 (0 : Int32) → f_X9_layCounts  M_2 (fun (M_3 : Mem) => (((12 : Int32) < (M_3.1 0 40) → K (-1 : Int32) M_3) ∧ (¬ (12 : Int32) < (M_3.1 0 40) → (S_X9_counts_20 v1 (-1 : Int32) v1 (fun  (M_5 : Mem) => ((¬ v1 = (-1 : Int32) → vp_in v1 8 ∧ K (gI M_5 20 v1) M_5) ∧ (v1 = (-1 : Int32) → K (M_5.1 0 40) M_5))) K M_3))))

set_option maxHeartbeats 1000000 in
set_option maxRecDepth 10000 in
theorem m_X9_counts (l : Launch) {v1 : Int32}  {M : Mem} {K : Int32 → Mem → Prop} (h : f_X9_counts v1 M K) : CTi l yX9_counts cX9_counts 2 (some .int) rm_X9_counts (fun ad => [.ref (ad 0), .int v1]) M K := by
  refine rw_enti (by decide +kernel) (fun ad => Nat.le_of_ble_eq_true rfl) (fun p e s m args below meth c D cy ad C => ?_)
  change rw_W p l e _ s m args below meth c D cy ad 2 0 0 _ 0 [(0, .ref (ad 0)), (1, .int v1)] [] M
  unfold f_X9_counts at h
  refine r_aload_n C 0 dX9_counts_0 rfl rfl ?_
  refine r_iconst (v := (0 : Int32)) C dX9_counts_1 rfl ?_
  refine pX9_133 C dX9_counts_2 ?_
  replace h := h _ rfl
  refine r_aload_n C 0 dX9_counts_5 rfl rfl ?_
  refine cX9_376 C (m_X9_layCounts l h) ⟨Nat.le_of_ble_eq_true rfl, Nat.le_of_ble_eq_true rfl⟩ (Nat.le_of_ble_eq_true rfl) ⟨Nat.le_refl 0, Nat.le_refl 0⟩ dX9_counts_6 (fun M_3 h => ?_)
  refine r_aload_n C 0 dX9_counts_9 rfl rfl ?_
  refine gX9_354 C dX9_counts_10 ?_
  refine r_bipush (v := (12 : Int32)) C dX9_counts_13 rfl ?_
  refine r_icmp_gt C 31 dX9_counts_15 (by decide) (fun hc => ?_) (fun hc => ?_)
  · replace h := h.1 hc
    refine r_iconst (v := (-1 : Int32)) C dX9_counts_31 rfl ?_
    exact r_iret C dX9_counts_32 h
  · replace h := h.2 hc
    refine r_iload_n C 1 dX9_counts_18 rfl rfl ?_
    refine r_iconst (v := (-1 : Int32)) C dX9_counts_19 rfl ?_
    refine mS_X9_counts_20 C (fun M_5 h => ?_) h
    refine r_iload_n C 1 dX9_counts_33 rfl rfl ?_
    refine r_iconst (v := (-1 : Int32)) C dX9_counts_34 rfl ?_
    refine r_icmp_ne C 45 dX9_counts_35 (by decide) (fun hc => ?_) (fun hc => ?_)
    · replace h := h.1 hc
      refine r_aload_n C 0 dX9_counts_45 rfl rfl ?_
      refine gX9_72 C dX9_counts_46 ?_
      refine r_iload_n C 1 dX9_counts_49 rfl rfl ?_
      obtain ⟨q, h⟩ := h
      refine r_iald C sh_20 q dX9_counts_50 ?_
      exact r_iret C dX9_counts_51 h
    · replace h := h.2 hc
      refine r_aload_n C 0 dX9_counts_38 rfl rfl ?_
      refine gX9_354 C dX9_counts_39 ?_
      refine r_goto C 51 dX9_counts_42 (by decide) ?_
      exact r_iret C dX9_counts_51 h
def L_X9_order_68 (v1 : Int32) (v2 : Int32) (v4 : Int32) (X83 : Int32 → Mem → Prop) (K : Int32 → Mem → Prop) : Nat → Int32 → Mem → Prop
  | 0, _, _ => False
  | n + 1, v3, M => f_X9_goesOnBy v2 v3 M (fun (r_4 : Int32) (M_6 : Mem) => ((¬ r_4 = 0 → X83 v3 M_6) ∧ (r_4 = 0 → L_X9_order_68 v1 v2 v4 X83 K n (v3 + (1 : Int32)) M_6)))

set_option maxHeartbeats 1000000 in
set_option maxRecDepth 10000 in
theorem mL_X9_order_68 (C : rw_C p s m meth c cX9_order 5 RX9 (some .int) D cy ad) {v1 : Int32} {v2 : Int32} {v4 : Int32} {X83 : Int32 → Mem → Prop} {K : Int32 → Mem → Prop} (hX83 : ∀ (u3 : Int32) (M : Mem), X83 u3 M → rw_W p l e rm_X9_order s m args below meth c D cy ad 5 0 0 (rw_Qi below args s D cy ad K) 83 [(0, .ref (ad 0)), (1, .int v1), (2, .int v2), (3, .int u3), (4, .int v4)] [] M) : ∀ (n : Nat) (v3 : Int32) (M : Mem), L_X9_order_68 v1 v2 v4 X83 K n v3 M → rw_W p l e rm_X9_order s m args below meth c D cy ad 5 0 0 (rw_Qi below args s D cy ad K) 68 [(0, .ref (ad 0)), (1, .int v1), (2, .int v2), (3, .int v3), (4, .int v4)] [] M := by
  intro n
  induction n with
  | zero => intro v3 M h; exact h.elim
  | succ n ih =>
    intro v3 M h
    refine r_aload_n C 0 dX9_order_68 rfl rfl ?_
    refine r_iload_n C 2 dX9_order_69 rfl rfl ?_
    refine r_iload_n C 3 dX9_order_70 rfl rfl ?_
    refine cX9_373 C (m_X9_goesOnBy l h) ⟨Nat.le_of_ble_eq_true rfl, Nat.le_of_ble_eq_true rfl⟩ (Nat.le_of_ble_eq_true rfl) ⟨Nat.le_refl 0, Nat.le_refl 0⟩ dX9_order_71 (fun r_4 M_6 h => ?_)
    refine r_if_ne C 83 dX9_order_74 (by decide) (fun hc => ?_) (fun hc => ?_)
    · replace h := h.1 hc
      exact hX83 _ _ h
    · replace h := h.2 hc
      refine r_iinc C 3 (v := _) [(3, .int _), (0, .ref _), (1, .int _), (2, .int _), (4, .int _)] dX9_order_77 rfl rfl (by decide) rfl ?_
      refine r_goto C 68 dX9_order_80 (by decide) ?_
      exact r_sub [1, 2, 3, 0, 4] rfl (ih _ _ h)

def L_X9_order_55 (v1 : Int32) (X98 : Int32 → Mem → Prop) (K : Int32 → Mem → Prop) : Nat → Int32 → Int32 → Int32 → Mem → Prop
  | 0, _, _, _, _ => False
  | n + 1, v2, v3, v4, M => ((v1 < v4 → X98 v3 M) ∧ (¬ v1 < v4 → f_X9_layPart v2 M (fun (M_5 : Mem) => (∃ k68 : Nat, L_X9_order_68 v1 v2 v4 (fun (v3_2 : Int32) (M_7 : Mem) => vp_in v3_2 8 ∧ ∀ x2 : Int32, x2 = v2 + (gI M_7 22 v3_2) → L_X9_order_55 v1 X98 K n x2 v3_2 (v4 + (1 : Int32)) M_7) K k68 (0 : Int32) M_5))))

set_option maxHeartbeats 1000000 in
set_option maxRecDepth 10000 in
theorem mL_X9_order_55 (C : rw_C p s m meth c cX9_order 5 RX9 (some .int) D cy ad) {v1 : Int32} {X98 : Int32 → Mem → Prop} {K : Int32 → Mem → Prop} (hX98 : ∀ (u3 : Int32) (M : Mem), X98 u3 M → rw_W p l e rm_X9_order s m args below meth c D cy ad 5 0 0 (rw_Qi below args s D cy ad K) 98 [(3, .int u3)] [] M) : ∀ (n : Nat) (v2 : Int32) (v3 : Int32) (v4 : Int32) (M : Mem), L_X9_order_55 v1 X98 K n v2 v3 v4 M → rw_W p l e rm_X9_order s m args below meth c D cy ad 5 0 0 (rw_Qi below args s D cy ad K) 55 [(0, .ref (ad 0)), (1, .int v1), (2, .int v2), (3, .int v3), (4, .int v4)] [] M := by
  intro n
  induction n with
  | zero => intro v2 v3 v4 M h; exact h.elim
  | succ n ih =>
    intro v2 v3 v4 M h
    refine r_iload C 4 dX9_order_55 rfl ?_
    refine r_iload_n C 1 dX9_order_57 rfl rfl ?_
    refine r_icmp_gt C 98 dX9_order_58 (by decide) (fun hc => ?_) (fun hc => ?_)
    · replace h := h.1 hc
      exact r_sub [3] rfl (hX98 _ _ h)
    · replace h := h.2 hc
      refine r_aload_n C 0 dX9_order_61 rfl rfl ?_
      refine r_iload_n C 2 dX9_order_62 rfl rfl ?_
      refine cX9_370 C (m_X9_layPart l h) ⟨Nat.le_of_ble_eq_true rfl, Nat.le_of_ble_eq_true rfl⟩ (Nat.le_of_ble_eq_true rfl) ⟨Nat.le_refl 0, Nat.le_refl 0⟩ dX9_order_63 (fun M_5 h => ?_)
      refine r_iconst (v := (0 : Int32)) C dX9_order_66 rfl ?_
      refine r_istore_n C [(3, .int _), (0, .ref _), (1, .int _), (2, .int _), (4, .int _)] dX9_order_67 rfl (by decide) rfl ?_
      obtain ⟨n68, h⟩ := h
      refine r_sub [1, 2, 3, 0, 4] rfl (mL_X9_order_68 C (fun v3_2 M_7 h => ?_) n68 _ _ h)
      refine r_iload_n C 2 dX9_order_83 rfl rfl ?_
      refine r_aload_n C 0 dX9_order_84 rfl rfl ?_
      refine gX9_78 C dX9_order_85 ?_
      refine r_iload_n C 3 dX9_order_88 rfl rfl ?_
      obtain ⟨q, h⟩ := h
      refine r_iald C sh_22 q dX9_order_89 ?_
      refine r_iadd C dX9_order_90 ?_
      refine r_istore_n C [(2, .int _), (0, .ref _), (1, .int _), (3, .int _), (4, .int _)] dX9_order_91 rfl (by decide) rfl ?_
      replace h := h _ rfl
      refine r_iinc C 4 (v := _) [(4, .int _), (2, .int _), (0, .ref _), (1, .int _), (3, .int _)] dX9_order_92 rfl rfl (by decide) rfl ?_
      refine r_goto C 55 dX9_order_95 (by decide) ?_
      exact r_sub [2, 3, 1, 4, 0] rfl (ih _ _ _ _ h)

def f_X9_order (v1 : Int32) (M : Mem) (K : Int32 → Mem → Prop) : Prop := ∀ M_2 : Mem, M_2 = wI M 0 0 (0 : Int32) → f_X9_layCounts  M_2 (fun (M_3 : Mem) => (((M_3.1 0 40) ≤ (12 : Int32) → ((¬ (gI M_3 23 (0 : Int32)) = 0 → f_X9_in v1 (0 : Int32) ((M_3.1 0 40) - (1 : Int32)) M_3 (fun (r_2 : Int32) (M_4 : Mem) => ((¬ r_2 = 0 → (∃ k55 : Nat, L_X9_order_55 v1 (fun (v3_3 : Int32) (M_8 : Mem) => K v3_3 M_8) K k55 (0 : Int32) (-1 : Int32) (0 : Int32) M_4)) ∧ (r_2 = 0 → K (-1 : Int32) M_4)))) ∧ ((gI M_3 23 (0 : Int32)) = 0 → K (-2 : Int32) M_3))) ∧ (¬ (M_3.1 0 40) ≤ (12 : Int32) → K (-1 : Int32) M_3)))

set_option maxHeartbeats 1000000 in
set_option maxRecDepth 10000 in
theorem m_X9_order (l : Launch) {v1 : Int32}  {M : Mem} {K : Int32 → Mem → Prop} (h : f_X9_order v1 M K) : CTi l yX9_order cX9_order 5 (some .int) rm_X9_order (fun ad => [.ref (ad 0), .int v1]) M K := by
  refine rw_enti (by decide +kernel) (fun ad => Nat.le_of_ble_eq_true rfl) (fun p e s m args below meth c D cy ad C => ?_)
  change rw_W p l e _ s m args below meth c D cy ad 5 0 0 _ 0 [(0, .ref (ad 0)), (1, .int v1)] [] M
  unfold f_X9_order at h
  refine r_aload_n C 0 dX9_order_0 rfl rfl ?_
  refine r_iconst (v := (0 : Int32)) C dX9_order_1 rfl ?_
  refine pX9_133 C dX9_order_2 ?_
  replace h := h _ rfl
  refine r_aload_n C 0 dX9_order_5 rfl rfl ?_
  refine cX9_376 C (m_X9_layCounts l h) ⟨Nat.le_of_ble_eq_true rfl, Nat.le_of_ble_eq_true rfl⟩ (Nat.le_of_ble_eq_true rfl) ⟨Nat.le_refl 0, Nat.le_refl 0⟩ dX9_order_6 (fun M_3 h => ?_)
  refine r_aload_n C 0 dX9_order_9 rfl rfl ?_
  refine gX9_354 C dX9_order_10 ?_
  refine r_bipush (v := (12 : Int32)) C dX9_order_13 rfl ?_
  refine r_icmp_le C 20 dX9_order_15 (by decide) (fun hc => ?_) (fun hc => ?_)
  · replace h := h.1 hc
    refine r_aload_n C 0 dX9_order_20 rfl rfl ?_
    refine gX9_81 C dX9_order_21 ?_
    refine r_iconst (v := (0 : Int32)) C dX9_order_24 rfl ?_
    refine r_zald C sh_23 (vpd (i := (0 : Int32)) (n := 1300) (by decide +kernel)) dX9_order_25 ?_
    refine r_if_ne C 32 dX9_order_26 (by decide) (fun hc => ?_) (fun hc => ?_)
    · replace h := h.1 hc
      refine r_iload_n C 1 dX9_order_32 rfl rfl ?_
      refine r_iconst (v := (0 : Int32)) C dX9_order_33 rfl ?_
      refine r_aload_n C 0 dX9_order_34 rfl rfl ?_
      refine gX9_354 C dX9_order_35 ?_
      refine r_iconst (v := (1 : Int32)) C dX9_order_38 rfl ?_
      refine r_isub C dX9_order_39 ?_
      refine cX9_136 C (m_X9_in l h) ⟨Nat.le_of_ble_eq_true rfl, Nat.le_of_ble_eq_true rfl⟩ (Nat.le_of_ble_eq_true rfl) ⟨Nat.le_refl 0, Nat.le_refl 0⟩ dX9_order_40 (fun r_2 M_4 h => ?_)
      refine r_if_ne C 48 dX9_order_43 (by decide) (fun hc => ?_) (fun hc => ?_)
      · replace h := h.1 hc
        refine r_iconst (v := (0 : Int32)) C dX9_order_48 rfl ?_
        refine r_istore_n C [(2, .int _), (0, .ref _), (1, .int _)] dX9_order_49 rfl (by decide) rfl ?_
        refine r_iconst (v := (-1 : Int32)) C dX9_order_50 rfl ?_
        refine r_istore_n C [(3, .int _), (2, .int _), (0, .ref _), (1, .int _)] dX9_order_51 rfl (by decide) rfl ?_
        refine r_iconst (v := (0 : Int32)) C dX9_order_52 rfl ?_
        refine r_istore C [(4, .int _), (3, .int _), (2, .int _), (0, .ref _), (1, .int _)] dX9_order_53 (by decide) rfl ?_
        obtain ⟨n55, h⟩ := h
        refine r_sub [3, 4, 2, 1, 0] rfl (mL_X9_order_55 C (fun v3_3 M_8 h => ?_) n55 _ _ _ _ h)
        refine r_iload_n C 0 dX9_order_98 rfl rfl ?_
        exact r_iret C dX9_order_99 h
      · replace h := h.2 hc
        refine r_iconst (v := (-1 : Int32)) C dX9_order_46 rfl ?_
        exact r_iret C dX9_order_47 h
    · replace h := h.2 hc
      refine r_bipush (v := (-2 : Int32)) C dX9_order_29 rfl ?_
      exact r_iret C dX9_order_31 h
  · replace h := h.2 hc
    refine r_iconst (v := (-1 : Int32)) C dX9_order_18 rfl ?_
    exact r_iret C dX9_order_19 h
def L_X9_find_17 (v1 : Int32) (v2 : Int32) (X68 : Int32 → Mem → Prop) (K : Int32 → Mem → Prop) : Nat → Int32 → Int32 → Mem → Prop
  | 0, _, _, _ => False
  | n + 1, v3, v4, M => (((10 : Int32) ≤ v4 → X68 v3 M) ∧ (¬ (10 : Int32) ≤ v4 → ((v3 = 0 → X68 v3 M) ∧ (¬ v3 = 0 → vp_in (((10 : Int32) * (((300 : Int32) * v1) + v2)) + v4) 6000 ∧ vp_in v4 10 ∧ ((¬ (gI M 24 (((10 : Int32) * (((300 : Int32) * v1) + v2)) + v4)) = (gI M 31 v4) → L_X9_find_17 v1 v2 X68 K n (0 : Int32) (v4 + (1 : Int32)) M) ∧ ((gI M 24 (((10 : Int32) * (((300 : Int32) * v1) + v2)) + v4)) = (gI M 31 v4) → L_X9_find_17 v1 v2 X68 K n (1 : Int32) (v4 + (1 : Int32)) M))))))

set_option maxHeartbeats 1000000 in
set_option maxRecDepth 10000 in
theorem mL_X9_find_17 (C : rw_C p s m meth c cX9_find 5 RX9 (some .int) D cy ad) {v1 : Int32} {v2 : Int32} {X68 : Int32 → Mem → Prop} {K : Int32 → Mem → Prop} (hX68 : ∀ (u3 : Int32) (M : Mem), X68 u3 M → rw_W p l e rm_X9_find s m args below meth c D cy ad 5 0 0 (rw_Qi below args s D cy ad K) 68 [(0, .ref (ad 0)), (1, .int v1), (2, .int v2), (3, .int u3)] [] M) : ∀ (n : Nat) (v3 : Int32) (v4 : Int32) (M : Mem), L_X9_find_17 v1 v2 X68 K n v3 v4 M → rw_W p l e rm_X9_find s m args below meth c D cy ad 5 0 0 (rw_Qi below args s D cy ad K) 17 [(0, .ref (ad 0)), (1, .int v1), (2, .int v2), (3, .int v3), (4, .int v4)] [] M := by
  intro n
  induction n with
  | zero => intro v3 v4 M h; exact h.elim
  | succ n ih =>
    intro v3 v4 M h
    refine r_iload C 4 dX9_find_17 rfl ?_
    refine r_bipush (v := (10 : Int32)) C dX9_find_19 rfl ?_
    refine r_icmp_ge C 68 dX9_find_21 (by decide) (fun hc => ?_) (fun hc => ?_)
    · replace h := h.1 hc
      exact r_sub [0, 1, 2, 3] rfl (hX68 _ _ h)
    · replace h := h.2 hc
      refine r_iload_n C 3 dX9_find_24 rfl rfl ?_
      refine r_if_eq C 68 dX9_find_25 (by decide) (fun hc => ?_) (fun hc => ?_)
      · replace h := h.1 hc
        exact r_sub [0, 1, 2, 3] rfl (hX68 _ _ h)
      · replace h := h.2 hc
        refine r_aload_n C 0 dX9_find_28 rfl rfl ?_
        refine gX9_85 C dX9_find_29 ?_
        refine r_bipush (v := (10 : Int32)) C dX9_find_32 rfl ?_
        refine r_sipush (v := (300 : Int32)) C dX9_find_34 rfl ?_
        refine r_iload_n C 1 dX9_find_37 rfl rfl ?_
        refine r_imul C dX9_find_38 ?_
        refine r_iload_n C 2 dX9_find_39 rfl rfl ?_
        refine r_iadd C dX9_find_40 ?_
        refine r_imul C dX9_find_41 ?_
        refine r_iload C 4 dX9_find_42 rfl ?_
        refine r_iadd C dX9_find_44 ?_
        obtain ⟨q_2, h⟩ := h
        refine r_iald C sh_24 q_2 dX9_find_45 ?_
        refine r_aload_n C 0 dX9_find_46 rfl rfl ?_
        refine gX9_106 C dX9_find_47 ?_
        refine r_iload C 4 dX9_find_50 rfl ?_
        obtain ⟨q_3, h⟩ := h
        refine r_iald C sh_31 q_3 dX9_find_52 ?_
        refine r_icmp_ne C 60 dX9_find_53 (by decide) (fun hc => ?_) (fun hc => ?_)
        · replace h := h.1 hc
          refine r_iconst (v := (0 : Int32)) C dX9_find_60 rfl ?_
          refine r_istore_n C [(3, .int _), (0, .ref _), (1, .int _), (2, .int _), (4, .int _)] dX9_find_61 rfl (by decide) rfl ?_
          refine r_iinc C 4 (v := _) [(4, .int _), (3, .int _), (0, .ref _), (1, .int _), (2, .int _)] dX9_find_62 rfl rfl (by decide) rfl ?_
          refine r_goto C 17 dX9_find_65 (by decide) ?_
          exact r_sub [2, 3, 4, 1, 0] rfl (ih _ _ _ h)
        · replace h := h.2 hc
          refine r_iconst (v := (1 : Int32)) C dX9_find_56 rfl ?_
          refine r_goto C 61 dX9_find_57 (by decide) ?_
          refine r_istore_n C [(3, .int _), (0, .ref _), (1, .int _), (2, .int _), (4, .int _)] dX9_find_61 rfl (by decide) rfl ?_
          refine r_iinc C 4 (v := _) [(4, .int _), (3, .int _), (0, .ref _), (1, .int _), (2, .int _)] dX9_find_62 rfl rfl (by decide) rfl ?_
          refine r_goto C 17 dX9_find_65 (by decide) ?_
          exact r_sub [2, 3, 4, 1, 0] rfl (ih _ _ _ h)

def L_X9_find_2 (v1 : Int32) (X80 : Mem → Prop) (K : Int32 → Mem → Prop) : Nat → Int32 → Mem → Prop
  | 0, _, _ => False
  | n + 1, v2, M => vp_in v1 2 ∧ (((gI M 30 v1) ≤ v2 → X80 M) ∧ (¬ (gI M 30 v1) ≤ v2 → (∃ k17 : Nat, L_X9_find_17 v1 v2 (fun (v3_2 : Int32) (M_2 : Mem) => ((v3_2 = 0 → L_X9_find_2 v1 X80 K n (v2 + (1 : Int32)) M_2) ∧ (¬ v3_2 = 0 → K v2 M_2))) K k17 (1 : Int32) (0 : Int32) M)))

set_option maxHeartbeats 1000000 in
set_option maxRecDepth 10000 in
theorem mL_X9_find_2 (C : rw_C p s m meth c cX9_find 5 RX9 (some .int) D cy ad) {v1 : Int32} {X80 : Mem → Prop} {K : Int32 → Mem → Prop} (hX80 : ∀  (M : Mem), X80 M → rw_W p l e rm_X9_find s m args below meth c D cy ad 5 0 0 (rw_Qi below args s D cy ad K) 80 [] [] M) : ∀ (n : Nat) (v2 : Int32) (M : Mem), L_X9_find_2 v1 X80 K n v2 M → rw_W p l e rm_X9_find s m args below meth c D cy ad 5 0 0 (rw_Qi below args s D cy ad K) 2 [(0, .ref (ad 0)), (1, .int v1), (2, .int v2)] [] M := by
  intro n
  induction n with
  | zero => intro v2 M h; exact h.elim
  | succ n ih =>
    intro v2 M h
    refine r_iload_n C 2 dX9_find_2 rfl rfl ?_
    refine r_aload_n C 0 dX9_find_3 rfl rfl ?_
    refine gX9_103 C dX9_find_4 ?_
    refine r_iload_n C 1 dX9_find_7 rfl rfl ?_
    obtain ⟨q, h⟩ := h
    refine r_iald C sh_30 q dX9_find_8 ?_
    refine r_icmp_ge C 80 dX9_find_9 (by decide) (fun hc => ?_) (fun hc => ?_)
    · replace h := h.1 hc
      exact r_sub [] rfl (hX80 _ h)
    · replace h := h.2 hc
      refine r_iconst (v := (1 : Int32)) C dX9_find_12 rfl ?_
      refine r_istore_n C [(3, .int _), (0, .ref _), (1, .int _), (2, .int _)] dX9_find_13 rfl (by decide) rfl ?_
      refine r_iconst (v := (0 : Int32)) C dX9_find_14 rfl ?_
      refine r_istore C [(4, .int _), (3, .int _), (0, .ref _), (1, .int _), (2, .int _)] dX9_find_15 (by decide) rfl ?_
      obtain ⟨n17, h⟩ := h
      refine r_sub [2, 3, 4, 1, 0] rfl (mL_X9_find_17 C (fun v3_2 M_2 h => ?_) n17 _ _ _ h)
      refine r_iload_n C 3 dX9_find_68 rfl rfl ?_
      refine r_if_eq C 74 dX9_find_69 (by decide) (fun hc => ?_) (fun hc => ?_)
      · replace h := h.1 hc
        refine r_iinc C 2 (v := _) [(2, .int _), (0, .ref _), (1, .int _), (3, .int _)] dX9_find_74 rfl rfl (by decide) rfl ?_
        refine r_goto C 2 dX9_find_77 (by decide) ?_
        exact r_sub [1, 2, 0] rfl (ih _ _ h)
      · replace h := h.2 hc
        refine r_iload_n C 2 dX9_find_72 rfl rfl ?_
        exact r_iret C dX9_find_73 h

def f_X9_find (v1 : Int32) (M : Mem) (K : Int32 → Mem → Prop) : Prop := (∃ k2 : Nat, L_X9_find_2 v1 (fun  (M_3 : Mem) => K (-1 : Int32) M_3) K k2 (0 : Int32) M)

set_option maxHeartbeats 1000000 in
set_option maxRecDepth 10000 in
theorem m_X9_find (l : Launch) {v1 : Int32}  {M : Mem} {K : Int32 → Mem → Prop} (h : f_X9_find v1 M K) : CTi l yX9_find cX9_find 5 (some .int) rm_X9_find (fun ad => [.ref (ad 0), .int v1]) M K := by
  refine rw_enti (by decide +kernel) (fun ad => Nat.le_of_ble_eq_true rfl) (fun p e s m args below meth c D cy ad C => ?_)
  change rw_W p l e _ s m args below meth c D cy ad 5 0 0 _ 0 [(0, .ref (ad 0)), (1, .int v1)] [] M
  unfold f_X9_find at h
  refine r_iconst (v := (0 : Int32)) C dX9_find_0 rfl ?_
  refine r_istore_n C [(2, .int _), (0, .ref _), (1, .int _)] dX9_find_1 rfl (by decide) rfl ?_
  obtain ⟨n2, h⟩ := h
  refine r_sub [1, 2, 0] rfl (mL_X9_find_2 C (fun M_3 h => ?_) n2 _ _ h)
  refine r_iconst (v := (-1 : Int32)) C dX9_find_80 rfl ?_
  exact r_iret C dX9_find_81 h
def L_X9_comes_62 (v1 : Int32) (v2 : Int32) (v3 : Int32) (v5 : Int32) (X95 : Mem → Prop) (K : Int32 → Mem → Prop) : Nat → Int32 → Mem → Prop
  | 0, _, _ => False
  | n + 1, v6, M => (((10 : Int32) ≤ v6 → X95 M) ∧ (¬ (10 : Int32) ≤ v6 → vp_in v6 10 ∧ vp_in (((10 : Int32) * v5) + v6) 6000 ∧ ∀ M_3 : Mem, M_3 = wI M 24 (((10 : Int32) * v5) + v6).toNatClampNeg (gI M 31 v6) → L_X9_comes_62 v1 v2 v3 v5 X95 K n (v6 + (1 : Int32)) M_3))

set_option maxHeartbeats 1000000 in
set_option maxRecDepth 10000 in
theorem mL_X9_comes_62 (C : rw_C p s m meth c cX9_comes 7 RX9 (some .int) D cy ad) {v1 : Int32} {v2 : Int32} {v3 : Int32} {v5 : Int32} {X95 : Mem → Prop} {K : Int32 → Mem → Prop} (hX95 : ∀  (M : Mem), X95 M → rw_W p l e rm_X9_comes s m args below meth c D cy ad 7 0 0 (rw_Qi below args s D cy ad K) 95 [(0, .ref (ad 0)), (1, .int v1), (2, .int v2), (3, .int v3), (5, .int v5)] [] M) : ∀ (n : Nat) (v6 : Int32) (M : Mem), L_X9_comes_62 v1 v2 v3 v5 X95 K n v6 M → rw_W p l e rm_X9_comes s m args below meth c D cy ad 7 0 0 (rw_Qi below args s D cy ad K) 62 [(0, .ref (ad 0)), (1, .int v1), (2, .int v2), (3, .int v3), (5, .int v5), (6, .int v6)] [] M := by
  intro n
  induction n with
  | zero => intro v6 M h; exact h.elim
  | succ n ih =>
    intro v6 M h
    refine r_iload C 5 dX9_comes_62 rfl ?_
    refine r_bipush (v := (10 : Int32)) C dX9_comes_64 rfl ?_
    refine r_icmp_ge C 95 dX9_comes_66 (by decide) (fun hc => ?_) (fun hc => ?_)
    · replace h := h.1 hc
      exact r_sub [0, 1, 2, 3, 4] rfl (hX95 _ h)
    · replace h := h.2 hc
      refine r_aload_n C 0 dX9_comes_69 rfl rfl ?_
      refine gX9_85 C dX9_comes_70 ?_
      refine r_bipush (v := (10 : Int32)) C dX9_comes_73 rfl ?_
      refine r_iload C 4 dX9_comes_75 rfl ?_
      refine r_imul C dX9_comes_77 ?_
      refine r_iload C 5 dX9_comes_78 rfl ?_
      refine r_iadd C dX9_comes_80 ?_
      refine r_aload_n C 0 dX9_comes_81 rfl rfl ?_
      refine gX9_106 C dX9_comes_82 ?_
      refine r_iload C 5 dX9_comes_85 rfl ?_
      obtain ⟨q_3, h⟩ := h
      refine r_iald C sh_31 q_3 dX9_comes_87 ?_
      obtain ⟨q_4, h⟩ := h
      refine r_iast C sh_24 q_4 dX9_comes_88 ?_
      replace h := h _ rfl
      refine r_iinc C 5 (v := _) [(6, .int _), (0, .ref _), (1, .int _), (2, .int _), (3, .int _), (5, .int _)] dX9_comes_89 rfl rfl (by decide) rfl ?_
      refine r_goto C 62 dX9_comes_92 (by decide) ?_
      exact r_sub [1, 2, 3, 4, 5, 0] rfl (ih _ _ h)

def S_X9_comes_118 (v1 : Int32) (v2 : Int32) (o0 : Int32) (b0 : Int32) (X139 : Int32 → Mem → Prop) (K : Int32 → Mem → Prop) (M : Mem) : Prop := (0 ≤ o0 → vp_in (((300 : Int32) * v1) + v2) 600 ∧ X139 ((gI M 27 (((300 : Int32) * v1) + v2)) + (1 : Int32)) M) ∧ (¬ 0 ≤ o0 → X139 (0 : Int32) M)

set_option maxHeartbeats 1000000 in
set_option maxRecDepth 10000 in
theorem mS_X9_comes_118 (C : rw_C p s m meth c cX9_comes 7 RX9 (some .int) D cy ad) {v1 : Int32} {v2 : Int32} {o0 : Int32} {b0 : Int32} {X139 : Int32 → Mem → Prop} {K : Int32 → Mem → Prop} {M : Mem} (hX139 : ∀  (w0 : Int32) (M : Mem), X139 w0 M → rw_W p l e rm_X9_comes s m args below meth c D cy ad 7 0 0 (rw_Qi below args s D cy ad K) 139 [(0, .ref (ad 0)), (1, .int v1)] [.int w0, .int b0, .ref (ad 27)] M) (h : S_X9_comes_118 v1 v2 o0 b0 X139 K M) : rw_W p l e rm_X9_comes s m args below meth c D cy ad 7 0 0 (rw_Qi below args s D cy ad K) 118 [(0, .ref (ad 0)), (1, .int v1), (2, .int v2)] [.int o0, .int b0, .ref (ad 27)] M := by
  refine r_if_ge C 125 dX9_comes_118 (by decide) (fun hc => ?_) (fun hc => ?_)
  · replace h := h.1 hc
    refine r_aload_n C 0 dX9_comes_125 rfl rfl ?_
    refine gX9_94 C dX9_comes_126 ?_
    refine r_sipush (v := (300 : Int32)) C dX9_comes_129 rfl ?_
    refine r_iload_n C 1 dX9_comes_132 rfl rfl ?_
    refine r_imul C dX9_comes_133 ?_
    refine r_iload_n C 2 dX9_comes_134 rfl rfl ?_
    refine r_iadd C dX9_comes_135 ?_
    obtain ⟨q_6, h⟩ := h
    refine r_iald C sh_27 q_6 dX9_comes_136 ?_
    refine r_iconst (v := (1 : Int32)) C dX9_comes_137 rfl ?_
    refine r_iadd C dX9_comes_138 ?_
    exact r_sub [0, 1] rfl (hX139 _ _ h)
  · replace h := h.2 hc
    refine r_iconst (v := (0 : Int32)) C dX9_comes_121 rfl ?_
    refine r_goto C 139 dX9_comes_122 (by decide) ?_
    exact r_sub [0, 1] rfl (hX139 _ _ h)

def S_X9_comes_24 (v1 : Int32) (v2 : Int32) (v3 : Int32) (o0 : Int32) (o1 : Int32) (X36 : Mem → Prop) (K : Int32 → Mem → Prop) (M : Mem) : Prop := (o1 = o0 → X36 M) ∧ (¬ o1 = o0 → vp_in v1 2 ∧ (((gI M 33 v1) = 0 → ∀ x5 : Int32, x5 = ((300 : Int32) * v1) + (gI M 30 v1) → (∃ k62 : Nat, L_X9_comes_62 v1 v2 v3 x5 (fun  (M_4 : Mem) => vp_in x5 600 ∧ ∀ M_5 : Mem, M_5 = wI M_4 25 x5.toNatClampNeg v2 → ∀ M_6 : Mem, M_6 = wI M_5 26 x5.toNatClampNeg v3 → (S_X9_comes_118 v1 v2 v2 x5 (fun (w : Int32) (M_7 : Mem) => vp_in x5 600 ∧ ∀ M_8 : Mem, M_8 = wI M_7 27 x5.toNatClampNeg w → vp_in v1 2 ∧ ∀ M_9 : Mem, M_9 = wI M_8 30 v1.toNatClampNeg ((gI M_8 30 v1) + (1 : Int32)) → K ((gI M_9 30 v1) - (1 : Int32)) M_9) K M_6)) K k62 (0 : Int32) M)) ∧ (¬ (gI M 33 v1) = 0 → X36 M)))

set_option maxHeartbeats 1000000 in
set_option maxRecDepth 10000 in
theorem mS_X9_comes_24 (C : rw_C p s m meth c cX9_comes 7 RX9 (some .int) D cy ad) {v1 : Int32} {v2 : Int32} {v3 : Int32} {o0 : Int32} {o1 : Int32} {X36 : Mem → Prop} {K : Int32 → Mem → Prop} {M : Mem} (hX36 : ∀  (M : Mem), X36 M → rw_W p l e rm_X9_comes s m args below meth c D cy ad 7 0 0 (rw_Qi below args s D cy ad K) 36 [(0, .ref (ad 0)), (1, .int v1)] [] M) (h : S_X9_comes_24 v1 v2 v3 o0 o1 X36 K M) : rw_W p l e rm_X9_comes s m args below meth c D cy ad 7 0 0 (rw_Qi below args s D cy ad K) 24 [(0, .ref (ad 0)), (1, .int v1), (2, .int v2), (3, .int v3)] [.int o0, .int o1] M := by
  refine r_icmp_eq C 36 dX9_comes_24 (by decide) (fun hc => ?_) (fun hc => ?_)
  · replace h := h.1 hc
    exact r_sub [0, 1] rfl (hX36 _ h)
  · replace h := h.2 hc
    refine r_aload_n C 0 dX9_comes_27 rfl rfl ?_
    refine gX9_112 C dX9_comes_28 ?_
    refine r_iload_n C 1 dX9_comes_31 rfl rfl ?_
    obtain ⟨q_2, h⟩ := h
    refine r_zald C sh_33 q_2 dX9_comes_32 ?_
    refine r_if_eq C 45 dX9_comes_33 (by decide) (fun hc => ?_) (fun hc => ?_)
    · replace h := h.1 hc
      refine r_sipush (v := (300 : Int32)) C dX9_comes_45 rfl ?_
      refine r_iload_n C 1 dX9_comes_48 rfl rfl ?_
      refine r_imul C dX9_comes_49 ?_
      refine r_aload_n C 0 dX9_comes_50 rfl rfl ?_
      refine gX9_103 C dX9_comes_51 ?_
      refine r_iload_n C 1 dX9_comes_54 rfl rfl ?_
      refine r_iald C sh_30 q_2 dX9_comes_55 ?_
      refine r_iadd C dX9_comes_56 ?_
      refine r_istore C [(5, .int _), (0, .ref _), (1, .int _), (2, .int _), (3, .int _)] dX9_comes_57 (by decide) rfl ?_
      replace h := h _ rfl
      refine r_iconst (v := (0 : Int32)) C dX9_comes_59 rfl ?_
      refine r_istore C [(6, .int _), (5, .int _), (0, .ref _), (1, .int _), (2, .int _), (3, .int _)] dX9_comes_60 (by decide) rfl ?_
      obtain ⟨n62, h⟩ := h
      refine r_sub [2, 3, 4, 5, 1, 0] rfl (mL_X9_comes_62 C (fun M_4 h => ?_) n62 _ _ h)
      refine r_aload_n C 0 dX9_comes_95 rfl rfl ?_
      refine gX9_88 C dX9_comes_96 ?_
      refine r_iload C 4 dX9_comes_99 rfl ?_
      refine r_iload_n C 2 dX9_comes_101 rfl rfl ?_
      obtain ⟨q_5, h⟩ := h
      refine r_iast C sh_25 q_5 dX9_comes_102 ?_
      replace h := h _ rfl
      refine r_aload_n C 0 dX9_comes_103 rfl rfl ?_
      refine gX9_91 C dX9_comes_104 ?_
      refine r_iload C 4 dX9_comes_107 rfl ?_
      refine r_iload_n C 3 dX9_comes_109 rfl rfl ?_
      refine r_iast C sh_26 q_5 dX9_comes_110 ?_
      replace h := h _ rfl
      refine r_aload_n C 0 dX9_comes_111 rfl rfl ?_
      refine gX9_94 C dX9_comes_112 ?_
      refine r_iload C 4 dX9_comes_115 rfl ?_
      refine r_iload_n C 2 dX9_comes_117 rfl rfl ?_
      refine r_sub [0, 1, 2] rfl (mS_X9_comes_118 C (fun w M_7 h => ?_) h)
      obtain ⟨q_7, h⟩ := h
      refine r_iast C sh_27 q_7 dX9_comes_139 ?_
      replace h := h _ rfl
      refine r_aload_n C 0 dX9_comes_140 rfl rfl ?_
      refine gX9_103 C dX9_comes_141 ?_
      refine r_iload_n C 1 dX9_comes_144 rfl rfl ?_
      refine r_dup2_11 C dX9_comes_145 rfl rfl ?_
      obtain ⟨q_8, h⟩ := h
      refine r_iald C sh_30 q_8 dX9_comes_146 ?_
      refine r_iconst (v := (1 : Int32)) C dX9_comes_147 rfl ?_
      refine r_iadd C dX9_comes_148 ?_
      refine r_iast C sh_30 q_8 dX9_comes_149 ?_
      replace h := h _ rfl
      refine r_aload_n C 0 dX9_comes_150 rfl rfl ?_
      refine gX9_103 C dX9_comes_151 ?_
      refine r_iload_n C 1 dX9_comes_154 rfl rfl ?_
      refine r_iald C sh_30 q_8 dX9_comes_155 ?_
      refine r_iconst (v := (1 : Int32)) C dX9_comes_156 rfl ?_
      refine r_isub C dX9_comes_157 ?_
      exact r_iret C dX9_comes_158 h
    · replace h := h.2 hc
      exact r_sub [0, 1] rfl (hX36 _ h)

def f_X9_comes (v1 : Int32) (v2 : Int32) (v3 : Int32) (M : Mem) (K : Int32 → Mem → Prop) : Prop := f_X9_find v1 M (fun (r : Int32) (M_2 : Mem) => ((r < 0 → vp_in v1 2 ∧ (S_X9_comes_24 v1 v2 v3 (300 : Int32) (gI M_2 30 v1) (fun  (M_10 : Mem) => vp_in v1 2 ∧ ∀ M_11 : Mem, M_11 = wI M_10 33 v1.toNatClampNeg ((1 : Int32) &&& 1) → K (-1 : Int32) M_11) K M_2)) ∧ (¬ r < 0 → K r M_2)))

set_option maxHeartbeats 1000000 in
set_option maxRecDepth 10000 in
theorem m_X9_comes (l : Launch) {v1 : Int32} {v2 : Int32} {v3 : Int32}  {M : Mem} {K : Int32 → Mem → Prop} (h : f_X9_comes v1 v2 v3 M K) : CTi l yX9_comes cX9_comes 7 (some .int) rm_X9_comes (fun ad => [.ref (ad 0), .int v1, .int v2, .int v3]) M K := by
  refine rw_enti (by decide +kernel) (fun ad => Nat.le_of_ble_eq_true rfl) (fun p e s m args below meth c D cy ad C => ?_)
  change rw_W p l e _ s m args below meth c D cy ad 7 0 0 _ 0 [(0, .ref (ad 0)), (1, .int v1), (2, .int v2), (3, .int v3)] [] M
  unfold f_X9_comes at h
  refine r_aload_n C 0 dX9_comes_0 rfl rfl ?_
  refine r_iload_n C 1 dX9_comes_1 rfl rfl ?_
  refine cX9_379 C (m_X9_find l h) ⟨Nat.le_of_ble_eq_true rfl, Nat.le_of_ble_eq_true rfl⟩ (Nat.le_of_ble_eq_true rfl) ⟨Nat.le_refl 0, Nat.le_refl 0⟩ dX9_comes_2 (fun r M_2 h => ?_)
  refine r_istore C [(4, .int _), (0, .ref _), (1, .int _), (2, .int _), (3, .int _)] dX9_comes_5 (by decide) rfl ?_
  refine r_iload C 0 dX9_comes_7 rfl ?_
  refine r_if_lt C 15 dX9_comes_9 (by decide) (fun hc => ?_) (fun hc => ?_)
  · replace h := h.1 hc
    refine r_aload_n C 1 dX9_comes_15 rfl rfl ?_
    refine gX9_103 C dX9_comes_16 ?_
    refine r_iload_n C 2 dX9_comes_19 rfl rfl ?_
    obtain ⟨q, h⟩ := h
    refine r_iald C sh_30 q dX9_comes_20 ?_
    refine r_sipush (v := (300 : Int32)) C dX9_comes_21 rfl ?_
    refine r_sub [1, 2, 3, 4] rfl (mS_X9_comes_24 C (fun M_10 h => ?_) h)
    refine r_aload_n C 0 dX9_comes_36 rfl rfl ?_
    refine gX9_112 C dX9_comes_37 ?_
    refine r_iload_n C 1 dX9_comes_40 rfl rfl ?_
    refine r_iconst (v := (1 : Int32)) C dX9_comes_41 rfl ?_
    obtain ⟨q_9, h⟩ := h
    refine r_zast C sh_33 q_9 dX9_comes_42 ?_
    replace h := h _ rfl
    refine r_iconst (v := (-1 : Int32)) C dX9_comes_43 rfl ?_
    exact r_iret C dX9_comes_44 h
  · replace h := h.2 hc
    refine r_iload C 0 dX9_comes_12 rfl ?_
    exact r_iret C dX9_comes_14 h
def L_X9_layGraph_16 (v1 : Int32) (X45 : Mem → Prop) (K : Mem → Prop) : Nat → Int32 → Mem → Prop
  | 0, _, _ => False
  | n + 1, v2, M => (((10 : Int32) ≤ v2 → X45 M) ∧ (¬ (10 : Int32) ≤ v2 → vp_in (((10 : Int32) * v1) + v2) 30 ∧ vp_in v2 10 ∧ ∀ M_4 : Mem, M_4 = wI M 31 v2.toNatClampNeg (gI M 3 (((10 : Int32) * v1) + v2)) → L_X9_layGraph_16 v1 X45 K n (v2 + (1 : Int32)) M_4))

set_option maxHeartbeats 1000000 in
set_option maxRecDepth 10000 in
theorem mL_X9_layGraph_16 (C : rw_C p s m meth c cX9_layGraph 6 RX9 none D cy ad) {v1 : Int32} {X45 : Mem → Prop} {K : Mem → Prop} (hX45 : ∀  (M : Mem), X45 M → rw_W p l e rm_X9_layGraph s m args below meth c D cy ad 6 0 0 (rw_Qv below args s D cy ad K) 45 [(0, .ref (ad 0)), (1, .int v1)] [] M) : ∀ (n : Nat) (v2 : Int32) (M : Mem), L_X9_layGraph_16 v1 X45 K n v2 M → rw_W p l e rm_X9_layGraph s m args below meth c D cy ad 6 0 0 (rw_Qv below args s D cy ad K) 16 [(0, .ref (ad 0)), (1, .int v1), (2, .int v2)] [] M := by
  intro n
  induction n with
  | zero => intro v2 M h; exact h.elim
  | succ n ih =>
    intro v2 M h
    refine r_iload_n C 2 dX9_layGraph_16 rfl rfl ?_
    refine r_bipush (v := (10 : Int32)) C dX9_layGraph_17 rfl ?_
    refine r_icmp_ge C 45 dX9_layGraph_19 (by decide) (fun hc => ?_) (fun hc => ?_)
    · replace h := h.1 hc
      exact r_sub [0, 1] rfl (hX45 _ h)
    · replace h := h.2 hc
      refine r_aload_n C 0 dX9_layGraph_22 rfl rfl ?_
      refine gX9_106 C dX9_layGraph_23 ?_
      refine r_iload_n C 2 dX9_layGraph_26 rfl rfl ?_
      refine r_aload_n C 0 dX9_layGraph_27 rfl rfl ?_
      refine gX9_16 C dX9_layGraph_28 ?_
      refine r_bipush (v := (10 : Int32)) C dX9_layGraph_31 rfl ?_
      refine r_iload_n C 1 dX9_layGraph_33 rfl rfl ?_
      refine r_imul C dX9_layGraph_34 ?_
      refine r_iload_n C 2 dX9_layGraph_35 rfl rfl ?_
      refine r_iadd C dX9_layGraph_36 ?_
      obtain ⟨q_2, h⟩ := h
      refine r_iald C sh_3 q_2 dX9_layGraph_37 ?_
      obtain ⟨q_3, h⟩ := h
      refine r_iast C sh_31 q_3 dX9_layGraph_38 ?_
      replace h := h _ rfl
      refine r_iinc C 2 (v := _) [(2, .int _), (0, .ref _), (1, .int _)] dX9_layGraph_39 rfl rfl (by decide) rfl ?_
      refine r_goto C 16 dX9_layGraph_42 (by decide) ?_
      exact r_sub [1, 2, 0] rfl (ih _ _ h)

def L_X9_layGraph_140 (v1 : Int32) (v2 : Int32) (v3 : Int32) (v4 : Int32) (X182 : Mem → Prop) (K : Mem → Prop) : Nat → Int32 → Mem → Prop
  | 0, _, _ => False
  | n + 1, v5, M => (((10 : Int32) ≤ v5 → X182 M) ∧ (¬ (10 : Int32) ≤ v5 → vp_in (((10 : Int32) * v3) + v5) 6000 ∧ f_X9_change v1 v4 v5 M (fun (r_3 : Int32) (M_11 : Mem) => vp_in v5 10 ∧ ∀ M_12 : Mem, M_12 = wI M_11 31 v5.toNatClampNeg ((gI M 24 (((10 : Int32) * v3) + v5)) + r_3) → L_X9_layGraph_140 v1 v2 v3 v4 X182 K n (v5 + (1 : Int32)) M_12)))

set_option maxHeartbeats 1000000 in
set_option maxRecDepth 10000 in
theorem mL_X9_layGraph_140 (C : rw_C p s m meth c cX9_layGraph 6 RX9 none D cy ad) {v1 : Int32} {v2 : Int32} {v3 : Int32} {v4 : Int32} {X182 : Mem → Prop} {K : Mem → Prop} (hX182 : ∀  (M : Mem), X182 M → rw_W p l e rm_X9_layGraph s m args below meth c D cy ad 6 0 0 (rw_Qv below args s D cy ad K) 182 [(0, .ref (ad 0)), (1, .int v1), (2, .int v2), (3, .int v3), (4, .int v4)] [] M) : ∀ (n : Nat) (v5 : Int32) (M : Mem), L_X9_layGraph_140 v1 v2 v3 v4 X182 K n v5 M → rw_W p l e rm_X9_layGraph s m args below meth c D cy ad 6 0 0 (rw_Qv below args s D cy ad K) 140 [(0, .ref (ad 0)), (1, .int v1), (2, .int v2), (3, .int v3), (4, .int v4), (5, .int v5)] [] M := by
  intro n
  induction n with
  | zero => intro v5 M h; exact h.elim
  | succ n ih =>
    intro v5 M h
    refine r_iload C 5 dX9_layGraph_140 rfl ?_
    refine r_bipush (v := (10 : Int32)) C dX9_layGraph_142 rfl ?_
    refine r_icmp_ge C 182 dX9_layGraph_144 (by decide) (fun hc => ?_) (fun hc => ?_)
    · replace h := h.1 hc
      exact r_sub [0, 1, 2, 3, 4] rfl (hX182 _ h)
    · replace h := h.2 hc
      refine r_aload_n C 0 dX9_layGraph_147 rfl rfl ?_
      refine gX9_106 C dX9_layGraph_148 ?_
      refine r_iload C 5 dX9_layGraph_151 rfl ?_
      refine r_aload_n C 0 dX9_layGraph_153 rfl rfl ?_
      refine gX9_85 C dX9_layGraph_154 ?_
      refine r_bipush (v := (10 : Int32)) C dX9_layGraph_157 rfl ?_
      refine r_iload_n C 3 dX9_layGraph_159 rfl rfl ?_
      refine r_imul C dX9_layGraph_160 ?_
      refine r_iload C 5 dX9_layGraph_161 rfl ?_
      refine r_iadd C dX9_layGraph_163 ?_
      obtain ⟨q_8, h⟩ := h
      refine r_iald C sh_24 q_8 dX9_layGraph_164 ?_
      refine r_aload_n C 0 dX9_layGraph_165 rfl rfl ?_
      refine r_iload_n C 1 dX9_layGraph_166 rfl rfl ?_
      refine r_iload C 4 dX9_layGraph_167 rfl ?_
      refine r_iload C 5 dX9_layGraph_169 rfl ?_
      refine cX9_279 C (m_X9_change l h) ⟨Nat.le_of_ble_eq_true rfl, Nat.le_of_ble_eq_true rfl⟩ (Nat.le_of_ble_eq_true rfl) ⟨Nat.le_refl 0, Nat.le_refl 0⟩ dX9_layGraph_171 (fun r_3 M_11 h => ?_)
      refine r_iadd C dX9_layGraph_174 ?_
      obtain ⟨q_9, h⟩ := h
      refine r_iast C sh_31 q_9 dX9_layGraph_175 ?_
      replace h := h _ rfl
      refine r_iinc C 5 (v := _) [(5, .int _), (0, .ref _), (1, .int _), (2, .int _), (3, .int _), (4, .int _)] dX9_layGraph_176 rfl rfl (by decide) rfl ?_
      refine r_goto C 140 dX9_layGraph_179 (by decide) ?_
      exact r_sub [1, 2, 3, 4, 5, 0] rfl (ih _ _ h)

def L_X9_layGraph_83 (v1 : Int32) (v2 : Int32) (v3 : Int32) (X208 : Mem → Prop) (K : Mem → Prop) : Nat → Int32 → Mem → Prop
  | 0, _, _ => False
  | n + 1, v4, M => (((8 : Int32) ≤ v4 → X208 M) ∧ (¬ (8 : Int32) ≤ v4 → vp_in (((8 : Int32) * v3) + v4) 4800 ∧ ∀ M_8 : Mem, M_8 = wI M 29 (((8 : Int32) * v3) + v4).toNatClampNeg (-1 : Int32) → f_X9_canBe v1 v4 24 ((10 : Int32) * v3) M_8 (fun (r_2 : Int32) (M_9 : Mem) => ((¬ r_2 = 0 → vp_in v3 600 ∧ ∀ M_10 : Mem, M_10 = wI M_9 28 v3.toNatClampNeg ((gI M_9 28 v3) ||| ((1 : Int32) <<< (v4 &&& 31))) → (∃ k140 : Nat, L_X9_layGraph_140 v1 v2 v3 v4 (fun  (M_13 : Mem) => f_X9_comes v1 v2 v4 M_13 (fun (r_4 : Int32) (M_14 : Mem) => vp_in (((8 : Int32) * v3) + v4) 4800 ∧ ∀ M_15 : Mem, M_15 = wI M_14 29 (((8 : Int32) * v3) + v4).toNatClampNeg r_4 → L_X9_layGraph_83 v1 v2 v3 X208 K n (v4 + (1 : Int32)) M_15)) K k140 (0 : Int32) M_10)) ∧ (r_2 = 0 → L_X9_layGraph_83 v1 v2 v3 X208 K n (v4 + (1 : Int32)) M_9)))))

set_option maxHeartbeats 1000000 in
set_option maxRecDepth 10000 in
theorem mL_X9_layGraph_83 (C : rw_C p s m meth c cX9_layGraph 6 RX9 none D cy ad) {v1 : Int32} {v2 : Int32} {v3 : Int32} {X208 : Mem → Prop} {K : Mem → Prop} (hX208 : ∀  (M : Mem), X208 M → rw_W p l e rm_X9_layGraph s m args below meth c D cy ad 6 0 0 (rw_Qv below args s D cy ad K) 208 [(0, .ref (ad 0)), (1, .int v1), (2, .int v2)] [] M) : ∀ (n : Nat) (v4 : Int32) (M : Mem), L_X9_layGraph_83 v1 v2 v3 X208 K n v4 M → rw_W p l e rm_X9_layGraph s m args below meth c D cy ad 6 0 0 (rw_Qv below args s D cy ad K) 83 [(0, .ref (ad 0)), (1, .int v1), (2, .int v2), (3, .int v3), (4, .int v4)] [] M := by
  intro n
  induction n with
  | zero => intro v4 M h; exact h.elim
  | succ n ih =>
    intro v4 M h
    refine r_iload C 4 dX9_layGraph_83 rfl ?_
    refine r_bipush (v := (8 : Int32)) C dX9_layGraph_85 rfl ?_
    refine r_icmp_ge C 208 dX9_layGraph_87 (by decide) (fun hc => ?_) (fun hc => ?_)
    · replace h := h.1 hc
      exact r_sub [0, 1, 2] rfl (hX208 _ h)
    · replace h := h.2 hc
      refine r_aload_n C 0 dX9_layGraph_90 rfl rfl ?_
      refine gX9_100 C dX9_layGraph_91 ?_
      refine r_bipush (v := (8 : Int32)) C dX9_layGraph_94 rfl ?_
      refine r_iload_n C 3 dX9_layGraph_96 rfl rfl ?_
      refine r_imul C dX9_layGraph_97 ?_
      refine r_iload C 4 dX9_layGraph_98 rfl ?_
      refine r_iadd C dX9_layGraph_100 ?_
      refine r_iconst (v := (-1 : Int32)) C dX9_layGraph_101 rfl ?_
      obtain ⟨q_6, h⟩ := h
      refine r_iast C sh_29 q_6 dX9_layGraph_102 ?_
      replace h := h _ rfl
      refine r_aload_n C 0 dX9_layGraph_103 rfl rfl ?_
      refine r_iload_n C 1 dX9_layGraph_104 rfl rfl ?_
      refine r_iload C 4 dX9_layGraph_105 rfl ?_
      refine r_aload_n C 0 dX9_layGraph_107 rfl rfl ?_
      refine gX9_85 C dX9_layGraph_108 ?_
      refine r_bipush (v := (10 : Int32)) C dX9_layGraph_111 rfl ?_
      refine r_iload_n C 3 dX9_layGraph_113 rfl rfl ?_
      refine r_imul C dX9_layGraph_114 ?_
      refine cX9_292 C (m_X9_canBe l (isI_of sh_24) h) ⟨Nat.le_of_ble_eq_true rfl, Nat.le_of_ble_eq_true rfl⟩ (Nat.le_of_ble_eq_true rfl) ⟨Nat.le_refl 0, Nat.le_refl 0⟩ dX9_layGraph_115 (fun r_2 M_9 h => ?_)
      refine r_if_ne C 124 dX9_layGraph_118 (by decide) (fun hc => ?_) (fun hc => ?_)
      · replace h := h.1 hc
        refine r_aload_n C 0 dX9_layGraph_124 rfl rfl ?_
        refine gX9_97 C dX9_layGraph_125 ?_
        refine r_iload_n C 3 dX9_layGraph_128 rfl rfl ?_
        refine r_dup2_11 C dX9_layGraph_129 rfl rfl ?_
        obtain ⟨q_7, h⟩ := h
        refine r_iald C sh_28 q_7 dX9_layGraph_130 ?_
        refine r_iconst (v := (1 : Int32)) C dX9_layGraph_131 rfl ?_
        refine r_iload C 4 dX9_layGraph_132 rfl ?_
        refine r_ishl C dX9_layGraph_134 ?_
        refine r_ior C dX9_layGraph_135 ?_
        refine r_iast C sh_28 q_7 dX9_layGraph_136 ?_
        replace h := h _ rfl
        refine r_iconst (v := (0 : Int32)) C dX9_layGraph_137 rfl ?_
        refine r_istore C [(5, .int _), (0, .ref _), (1, .int _), (2, .int _), (3, .int _), (4, .int _)] dX9_layGraph_138 (by decide) rfl ?_
        obtain ⟨n140, h⟩ := h
        refine r_sub [1, 2, 3, 4, 5, 0] rfl (mL_X9_layGraph_140 C (fun M_13 h => ?_) n140 _ _ h)
        refine r_aload_n C 0 dX9_layGraph_182 rfl rfl ?_
        refine gX9_100 C dX9_layGraph_183 ?_
        refine r_bipush (v := (8 : Int32)) C dX9_layGraph_186 rfl ?_
        refine r_iload_n C 3 dX9_layGraph_188 rfl rfl ?_
        refine r_imul C dX9_layGraph_189 ?_
        refine r_iload C 4 dX9_layGraph_190 rfl ?_
        refine r_iadd C dX9_layGraph_192 ?_
        refine r_aload_n C 0 dX9_layGraph_193 rfl rfl ?_
        refine r_iload_n C 1 dX9_layGraph_194 rfl rfl ?_
        refine r_iload_n C 2 dX9_layGraph_195 rfl rfl ?_
        refine r_iload C 4 dX9_layGraph_196 rfl ?_
        refine cX9_382 C (m_X9_comes l h) ⟨Nat.le_of_ble_eq_true rfl, Nat.le_of_ble_eq_true rfl⟩ (Nat.le_of_ble_eq_true rfl) ⟨Nat.le_refl 0, Nat.le_refl 0⟩ dX9_layGraph_198 (fun r_4 M_14 h => ?_)
        obtain ⟨q_10, h⟩ := h
        refine r_iast C sh_29 q_10 dX9_layGraph_201 ?_
        replace h := h _ rfl
        refine r_iinc C 4 (v := _) [(4, .int _), (0, .ref _), (1, .int _), (2, .int _), (3, .int _)] dX9_layGraph_202 rfl rfl (by decide) rfl ?_
        refine r_goto C 83 dX9_layGraph_205 (by decide) ?_
        exact r_sub [1, 2, 3, 4, 0] rfl (ih _ _ h)
      · replace h := h.2 hc
        refine r_goto C 202 dX9_layGraph_121 (by decide) ?_
        refine r_iinc C 4 (v := _) [(4, .int _), (0, .ref _), (1, .int _), (2, .int _), (3, .int _)] dX9_layGraph_202 rfl rfl (by decide) rfl ?_
        refine r_goto C 83 dX9_layGraph_205 (by decide) ?_
        exact r_sub [1, 2, 3, 4, 0] rfl (ih _ _ h)

def L_X9_layGraph_55 (v1 : Int32) (X214 : Mem → Prop) (K : Mem → Prop) : Nat → Int32 → Mem → Prop
  | 0, _, _ => False
  | n + 1, v2, M => vp_in v1 2 ∧ (((gI M 30 v1) ≤ v2 → X214 M) ∧ (¬ (gI M 30 v1) ≤ v2 → ∀ x3 : Int32, x3 = ((300 : Int32) * v1) + v2 → vp_in x3 600 ∧ ∀ M_7 : Mem, M_7 = wI M 28 x3.toNatClampNeg (0 : Int32) → (∃ k83 : Nat, L_X9_layGraph_83 v1 v2 x3 (fun  (M_16 : Mem) => L_X9_layGraph_55 v1 X214 K n (v2 + (1 : Int32)) M_16) K k83 (0 : Int32) M_7)))

set_option maxHeartbeats 1000000 in
set_option maxRecDepth 10000 in
theorem mL_X9_layGraph_55 (C : rw_C p s m meth c cX9_layGraph 6 RX9 none D cy ad) {v1 : Int32} {X214 : Mem → Prop} {K : Mem → Prop} (hX214 : ∀  (M : Mem), X214 M → rw_W p l e rm_X9_layGraph s m args below meth c D cy ad 6 0 0 (rw_Qv below args s D cy ad K) 214 [] [] M) : ∀ (n : Nat) (v2 : Int32) (M : Mem), L_X9_layGraph_55 v1 X214 K n v2 M → rw_W p l e rm_X9_layGraph s m args below meth c D cy ad 6 0 0 (rw_Qv below args s D cy ad K) 55 [(0, .ref (ad 0)), (1, .int v1), (2, .int v2)] [] M := by
  intro n
  induction n with
  | zero => intro v2 M h; exact h.elim
  | succ n ih =>
    intro v2 M h
    refine r_iload_n C 2 dX9_layGraph_55 rfl rfl ?_
    refine r_aload_n C 0 dX9_layGraph_56 rfl rfl ?_
    refine gX9_103 C dX9_layGraph_57 ?_
    refine r_iload_n C 1 dX9_layGraph_60 rfl rfl ?_
    obtain ⟨q_4, h⟩ := h
    refine r_iald C sh_30 q_4 dX9_layGraph_61 ?_
    refine r_icmp_ge C 214 dX9_layGraph_62 (by decide) (fun hc => ?_) (fun hc => ?_)
    · replace h := h.1 hc
      exact r_sub [] rfl (hX214 _ h)
    · replace h := h.2 hc
      refine r_sipush (v := (300 : Int32)) C dX9_layGraph_65 rfl ?_
      refine r_iload_n C 1 dX9_layGraph_68 rfl rfl ?_
      refine r_imul C dX9_layGraph_69 ?_
      refine r_iload_n C 2 dX9_layGraph_70 rfl rfl ?_
      refine r_iadd C dX9_layGraph_71 ?_
      refine r_istore_n C [(3, .int _), (0, .ref _), (1, .int _), (2, .int _)] dX9_layGraph_72 rfl (by decide) rfl ?_
      replace h := h _ rfl
      refine r_aload_n C 1 dX9_layGraph_73 rfl rfl ?_
      refine gX9_97 C dX9_layGraph_74 ?_
      refine r_iload_n C 0 dX9_layGraph_77 rfl rfl ?_
      refine r_iconst (v := (0 : Int32)) C dX9_layGraph_78 rfl ?_
      obtain ⟨q_5, h⟩ := h
      refine r_iast C sh_28 q_5 dX9_layGraph_79 ?_
      replace h := h _ rfl
      refine r_iconst (v := (0 : Int32)) C dX9_layGraph_80 rfl ?_
      refine r_istore C [(4, .int _), (3, .int _), (0, .ref _), (1, .int _), (2, .int _)] dX9_layGraph_81 (by decide) rfl ?_
      obtain ⟨n83, h⟩ := h
      refine r_sub [2, 3, 4, 1, 0] rfl (mL_X9_layGraph_83 C (fun M_16 h => ?_) n83 _ _ h)
      refine r_iinc C 2 (v := _) [(2, .int _), (0, .ref _), (1, .int _)] dX9_layGraph_208 rfl rfl (by decide) rfl ?_
      refine r_goto C 55 dX9_layGraph_211 (by decide) ?_
      exact r_sub [1, 2, 0] rfl (ih _ _ h)

def f_X9_layGraph (v1 : Int32) (M : Mem) (K : Mem → Prop) : Prop := vp_in v1 2 ∧ ∀ M_2 : Mem, M_2 = wI M 30 v1.toNatClampNeg (0 : Int32) → ∀ M_3 : Mem, M_3 = wI M_2 33 v1.toNatClampNeg ((0 : Int32) &&& 1) → (∃ k16 : Nat, L_X9_layGraph_16 v1 (fun  (M_5 : Mem) => f_X9_comes v1 (-1 : Int32) (-1 : Int32) M_5 (fun (r : Int32) (M_6 : Mem) => (∃ k55 : Nat, L_X9_layGraph_55 v1 (fun  (M_17 : Mem) => K M_17) K k55 (0 : Int32) M_6))) K k16 (0 : Int32) M_3)

set_option maxHeartbeats 1000000 in
set_option maxRecDepth 10000 in
theorem m_X9_layGraph (l : Launch) {v1 : Int32}  {M : Mem} {K : Mem → Prop} (h : f_X9_layGraph v1 M K) : CTv l yX9_layGraph cX9_layGraph 6 none rm_X9_layGraph (fun ad => [.ref (ad 0), .int v1]) M K := by
  refine rw_entv (by decide +kernel) (fun ad => Nat.le_of_ble_eq_true rfl) (fun p e s m args below meth c D cy ad C => ?_)
  change rw_W p l e _ s m args below meth c D cy ad 6 0 0 _ 0 [(0, .ref (ad 0)), (1, .int v1)] [] M
  unfold f_X9_layGraph at h
  refine r_aload_n C 0 dX9_layGraph_0 rfl rfl ?_
  refine gX9_103 C dX9_layGraph_1 ?_
  refine r_iload_n C 1 dX9_layGraph_4 rfl rfl ?_
  refine r_iconst (v := (0 : Int32)) C dX9_layGraph_5 rfl ?_
  obtain ⟨q, h⟩ := h
  refine r_iast C sh_30 q dX9_layGraph_6 ?_
  replace h := h _ rfl
  refine r_aload_n C 0 dX9_layGraph_7 rfl rfl ?_
  refine gX9_112 C dX9_layGraph_8 ?_
  refine r_iload_n C 1 dX9_layGraph_11 rfl rfl ?_
  refine r_iconst (v := (0 : Int32)) C dX9_layGraph_12 rfl ?_
  refine r_zast C sh_33 q dX9_layGraph_13 ?_
  replace h := h _ rfl
  refine r_iconst (v := (0 : Int32)) C dX9_layGraph_14 rfl ?_
  refine r_istore_n C [(2, .int _), (0, .ref _), (1, .int _)] dX9_layGraph_15 rfl (by decide) rfl ?_
  obtain ⟨n16, h⟩ := h
  refine r_sub [1, 2, 0] rfl (mL_X9_layGraph_16 C (fun M_5 h => ?_) n16 _ _ h)
  refine r_aload_n C 0 dX9_layGraph_45 rfl rfl ?_
  refine r_iload_n C 1 dX9_layGraph_46 rfl rfl ?_
  refine r_iconst (v := (-1 : Int32)) C dX9_layGraph_47 rfl ?_
  refine r_iconst (v := (-1 : Int32)) C dX9_layGraph_48 rfl ?_
  refine cX9_382 C (m_X9_comes l h) ⟨Nat.le_of_ble_eq_true rfl, Nat.le_of_ble_eq_true rfl⟩ (Nat.le_of_ble_eq_true rfl) ⟨Nat.le_refl 0, Nat.le_refl 0⟩ dX9_layGraph_49 (fun r M_6 h => ?_)
  refine r_pop C dX9_layGraph_52 rfl ?_
  refine r_iconst (v := (0 : Int32)) C dX9_layGraph_53 rfl ?_
  refine r_istore_n C [(2, .int _), (0, .ref _), (1, .int _)] dX9_layGraph_54 rfl (by decide) rfl ?_
  obtain ⟨n55, h⟩ := h
  refine r_sub [1, 2, 0] rfl (mL_X9_layGraph_55 C (fun M_17 h => ?_) n55 _ _ h)
  exact r_vret C dX9_layGraph_214 h
set_option maxHeartbeats 1000000 in
set_option maxRecDepth 10000 in
theorem mD_X9_goesForth_19 (C : rw_C p s m meth c cX9_goesForth 6 RX9 none D cy ad) {Q : State → Prop} {st : List Value} {M : Mem} {v1 : Int32} {v2 : Int32} {o0 : Int32} {o1 : Int32} (kk : rw_W p l e R s m args below meth c D cy ad 6 0 0 Q 27 [(0, .ref (ad 0)), (1, .int v1), (2, .int v2)] (.int (if ¬ o1 = o0 then (0 : Int32) else (1 : Int32)) :: st) M) : rw_W p l e R s m args below meth c D cy ad 6 0 0 Q 19 [(0, .ref (ad 0)), (1, .int v1), (2, .int v2)] (.int o0 :: .int o1 :: st) M := by
  refine r_icmp_ne C 26 dX9_goesForth_19 (by decide) (fun z0 => ?_) (fun z0 => ?_)
  · skip
    refine r_iconst (v := (0 : Int32)) C dX9_goesForth_26 rfl ?_
    first | rw [if_pos z0] at kk | rw [if_neg (fun q9 => q9 z0)] at kk
    exact kk
  · skip
    refine r_iconst (v := (1 : Int32)) C dX9_goesForth_22 rfl ?_
    refine r_goto C 27 dX9_goesForth_23 (by decide) ?_
    first | rw [if_neg z0] at kk | rw [if_neg (fun q9 => q9 z0)] at kk
    exact kk

def L_X9_goesForth_2 (v1 : Int32) (X34 : Mem → Prop) (K : Mem → Prop) : Nat → Int32 → Mem → Prop
  | 0, _, _ => False
  | n + 1, v2, M => (((gI M 30 (0 : Int32)) ≤ v2 → X34 M) ∧ (¬ (gI M 30 (0 : Int32)) ≤ v2 → vp_in v2 300 ∧ ∀ M_2 : Mem, M_2 = wI M 35 v2.toNatClampNeg ((if ¬ v2 = v1 then (0 : Int32) else (1 : Int32)) &&& 1) → L_X9_goesForth_2 v1 X34 K n (v2 + (1 : Int32)) M_2))

set_option maxHeartbeats 1000000 in
set_option maxRecDepth 10000 in
theorem mL_X9_goesForth_2 (C : rw_C p s m meth c cX9_goesForth 6 RX9 none D cy ad) {v1 : Int32} {X34 : Mem → Prop} {K : Mem → Prop} (hX34 : ∀  (M : Mem), X34 M → rw_W p l e rm_X9_goesForth s m args below meth c D cy ad 6 0 0 (rw_Qv below args s D cy ad K) 34 [(0, .ref (ad 0)), (1, .int v1)] [] M) : ∀ (n : Nat) (v2 : Int32) (M : Mem), L_X9_goesForth_2 v1 X34 K n v2 M → rw_W p l e rm_X9_goesForth s m args below meth c D cy ad 6 0 0 (rw_Qv below args s D cy ad K) 2 [(0, .ref (ad 0)), (1, .int v1), (2, .int v2)] [] M := by
  intro n
  induction n with
  | zero => intro v2 M h; exact h.elim
  | succ n ih =>
    intro v2 M h
    refine r_iload_n C 2 dX9_goesForth_2 rfl rfl ?_
    refine r_aload_n C 0 dX9_goesForth_3 rfl rfl ?_
    refine gX9_103 C dX9_goesForth_4 ?_
    refine r_iconst (v := (0 : Int32)) C dX9_goesForth_7 rfl ?_
    refine r_iald C sh_30 (vpd (i := (0 : Int32)) (n := 2) (by decide +kernel)) dX9_goesForth_8 ?_
    refine r_icmp_ge C 34 dX9_goesForth_9 (by decide) (fun hc => ?_) (fun hc => ?_)
    · replace h := h.1 hc
      exact r_sub [0, 1] rfl (hX34 _ h)
    · replace h := h.2 hc
      refine r_aload_n C 0 dX9_goesForth_12 rfl rfl ?_
      refine gX9_118 C dX9_goesForth_13 ?_
      refine r_iload_n C 2 dX9_goesForth_16 rfl rfl ?_
      refine r_iload_n C 2 dX9_goesForth_17 rfl rfl ?_
      refine r_iload_n C 1 dX9_goesForth_18 rfl rfl ?_
      refine mD_X9_goesForth_19 C ?_
      obtain ⟨q, h⟩ := h
      refine r_zast C sh_35 q dX9_goesForth_27 ?_
      replace h := h _ rfl
      refine r_iinc C 2 (v := _) [(2, .int _), (0, .ref _), (1, .int _)] dX9_goesForth_28 rfl rfl (by decide) rfl ?_
      refine r_goto C 2 dX9_goesForth_31 (by decide) ?_
      exact r_sub [1, 2, 0] rfl (ih _ _ h)

def L_X9_goesForth_53 (v3 : Int32) (X119 : Int32 → Mem → Prop) (K : Mem → Prop) : Nat → Int32 → Int32 → Mem → Prop
  | 0, _, _, _ => False
  | n + 1, v2, v4, M => (((8 : Int32) ≤ v4 → X119 v2 M) ∧ (¬ (8 : Int32) ≤ v4 → vp_in v3 300 ∧ vp_in (((8 : Int32) * (gI M 32 v3)) + v4) 4800 ∧ ∀ x5 : Int32, x5 = gI M 29 (((8 : Int32) * (gI M 32 v3)) + v4) → ((x5 < 0 → L_X9_goesForth_53 v3 X119 K n v2 (v4 + (1 : Int32)) M) ∧ (¬ x5 < 0 → vp_in x5 300 ∧ ((¬ (gI M 35 x5) = 0 → L_X9_goesForth_53 v3 X119 K n v2 (v4 + (1 : Int32)) M) ∧ ((gI M 35 x5) = 0 → ∀ M_5 : Mem, M_5 = wI M 35 x5.toNatClampNeg ((1 : Int32) &&& 1) → vp_in v2 300 ∧ ∀ M_6 : Mem, M_6 = wI M_5 32 v2.toNatClampNeg x5 → L_X9_goesForth_53 v3 X119 K n (v2 + (1 : Int32)) (v4 + (1 : Int32)) M_6))))))

set_option maxHeartbeats 1000000 in
set_option maxRecDepth 10000 in
theorem mL_X9_goesForth_53 (C : rw_C p s m meth c cX9_goesForth 6 RX9 none D cy ad) {v3 : Int32} {X119 : Int32 → Mem → Prop} {K : Mem → Prop} (hX119 : ∀ (u2 : Int32) (M : Mem), X119 u2 M → rw_W p l e rm_X9_goesForth s m args below meth c D cy ad 6 0 0 (rw_Qv below args s D cy ad K) 119 [(0, .ref (ad 0)), (2, .int u2), (3, .int v3)] [] M) : ∀ (n : Nat) (v2 : Int32) (v4 : Int32) (M : Mem), L_X9_goesForth_53 v3 X119 K n v2 v4 M → rw_W p l e rm_X9_goesForth s m args below meth c D cy ad 6 0 0 (rw_Qv below args s D cy ad K) 53 [(0, .ref (ad 0)), (2, .int v2), (3, .int v3), (4, .int v4)] [] M := by
  intro n
  induction n with
  | zero => intro v2 v4 M h; exact h.elim
  | succ n ih =>
    intro v2 v4 M h
    refine r_iload C 3 dX9_goesForth_53 rfl ?_
    refine r_bipush (v := (8 : Int32)) C dX9_goesForth_55 rfl ?_
    refine r_icmp_ge C 119 dX9_goesForth_57 (by decide) (fun hc => ?_) (fun hc => ?_)
    · replace h := h.1 hc
      exact r_sub [0, 1, 2] rfl (hX119 _ _ h)
    · replace h := h.2 hc
      refine r_aload_n C 0 dX9_goesForth_60 rfl rfl ?_
      refine gX9_100 C dX9_goesForth_61 ?_
      refine r_bipush (v := (8 : Int32)) C dX9_goesForth_64 rfl ?_
      refine r_aload_n C 0 dX9_goesForth_66 rfl rfl ?_
      refine gX9_109 C dX9_goesForth_67 ?_
      refine r_iload_n C 2 dX9_goesForth_70 rfl rfl ?_
      obtain ⟨q_2, h⟩ := h
      refine r_iald C sh_32 q_2 dX9_goesForth_71 ?_
      refine r_imul C dX9_goesForth_72 ?_
      refine r_iload C 3 dX9_goesForth_73 rfl ?_
      refine r_iadd C dX9_goesForth_75 ?_
      obtain ⟨q_3, h⟩ := h
      refine r_iald C sh_29 q_3 dX9_goesForth_76 ?_
      refine r_istore C [(5, .int _), (0, .ref _), (2, .int _), (3, .int _), (4, .int _)] dX9_goesForth_77 (by decide) rfl ?_
      replace h := h _ rfl
      refine r_iload C 0 dX9_goesForth_79 rfl ?_
      refine r_if_lt C 113 dX9_goesForth_81 (by decide) (fun hc => ?_) (fun hc => ?_)
      · replace h := h.1 hc
        refine r_iinc C 4 (v := _) [(4, .int _), (5, .int _), (0, .ref _), (2, .int _), (3, .int _)] dX9_goesForth_113 rfl rfl (by decide) rfl ?_
        refine r_goto C 53 dX9_goesForth_116 (by decide) ?_
        exact r_sub [2, 3, 4, 0] rfl (ih _ _ _ h)
      · replace h := h.2 hc
        refine r_aload_n C 1 dX9_goesForth_84 rfl rfl ?_
        refine gX9_118 C dX9_goesForth_85 ?_
        refine r_iload C 0 dX9_goesForth_88 rfl ?_
        obtain ⟨q_4, h⟩ := h
        refine r_zald C sh_35 q_4 dX9_goesForth_90 ?_
        refine r_if_ne C 113 dX9_goesForth_91 (by decide) (fun hc => ?_) (fun hc => ?_)
        · replace h := h.1 hc
          refine r_iinc C 4 (v := _) [(4, .int _), (5, .int _), (0, .ref _), (2, .int _), (3, .int _)] dX9_goesForth_113 rfl rfl (by decide) rfl ?_
          refine r_goto C 53 dX9_goesForth_116 (by decide) ?_
          exact r_sub [2, 3, 4, 0] rfl (ih _ _ _ h)
        · replace h := h.2 hc
          refine r_aload_n C 1 dX9_goesForth_94 rfl rfl ?_
          refine gX9_118 C dX9_goesForth_95 ?_
          refine r_iload C 0 dX9_goesForth_98 rfl ?_
          refine r_iconst (v := (1 : Int32)) C dX9_goesForth_100 rfl ?_
          refine r_zast C sh_35 q_4 dX9_goesForth_101 ?_
          replace h := h _ rfl
          refine r_aload_n C 1 dX9_goesForth_102 rfl rfl ?_
          refine gX9_109 C dX9_goesForth_103 ?_
          refine r_iload_n C 2 dX9_goesForth_106 rfl rfl ?_
          refine r_iload C 0 dX9_goesForth_107 rfl ?_
          obtain ⟨q_5, h⟩ := h
          refine r_iast C sh_32 q_5 dX9_goesForth_109 ?_
          replace h := h _ rfl
          refine r_iinc C 2 (v := _) [(2, .int _), (5, .int _), (0, .ref _), (3, .int _), (4, .int _)] dX9_goesForth_110 rfl rfl (by decide) rfl ?_
          refine r_iinc C 4 (v := _) [(4, .int _), (2, .int _), (5, .int _), (0, .ref _), (3, .int _)] dX9_goesForth_113 rfl rfl (by decide) rfl ?_
          refine r_goto C 53 dX9_goesForth_116 (by decide) ?_
          exact r_sub [3, 1, 4, 0] rfl (ih _ _ _ h)

def L_X9_goesForth_45 (X125 : Mem → Prop) (K : Mem → Prop) : Nat → Int32 → Int32 → Mem → Prop
  | 0, _, _, _ => False
  | n + 1, v2, v3, M => ((v2 ≤ v3 → X125 M) ∧ (¬ v2 ≤ v3 → (∃ k53 : Nat, L_X9_goesForth_53 v3 (fun (v2_2 : Int32) (M_7 : Mem) => L_X9_goesForth_45 X125 K n v2_2 (v3 + (1 : Int32)) M_7) K k53 v2 (0 : Int32) M)))

set_option maxHeartbeats 1000000 in
set_option maxRecDepth 10000 in
theorem mL_X9_goesForth_45 (C : rw_C p s m meth c cX9_goesForth 6 RX9 none D cy ad) {X125 : Mem → Prop} {K : Mem → Prop} (hX125 : ∀  (M : Mem), X125 M → rw_W p l e rm_X9_goesForth s m args below meth c D cy ad 6 0 0 (rw_Qv below args s D cy ad K) 125 [] [] M) : ∀ (n : Nat) (v2 : Int32) (v3 : Int32) (M : Mem), L_X9_goesForth_45 X125 K n v2 v3 M → rw_W p l e rm_X9_goesForth s m args below meth c D cy ad 6 0 0 (rw_Qv below args s D cy ad K) 45 [(0, .ref (ad 0)), (2, .int v2), (3, .int v3)] [] M := by
  intro n
  induction n with
  | zero => intro v2 v3 M h; exact h.elim
  | succ n ih =>
    intro v2 v3 M h
    refine r_iload_n C 2 dX9_goesForth_45 rfl rfl ?_
    refine r_iload_n C 1 dX9_goesForth_46 rfl rfl ?_
    refine r_icmp_ge C 125 dX9_goesForth_47 (by decide) (fun hc => ?_) (fun hc => ?_)
    · replace h := h.1 hc
      exact r_sub [] rfl (hX125 _ h)
    · replace h := h.2 hc
      refine r_iconst (v := (0 : Int32)) C dX9_goesForth_50 rfl ?_
      refine r_istore C [(4, .int _), (0, .ref _), (2, .int _), (3, .int _)] dX9_goesForth_51 (by decide) rfl ?_
      obtain ⟨n53, h⟩ := h
      refine r_sub [1, 2, 3, 0] rfl (mL_X9_goesForth_53 C (fun v2_2 M_7 h => ?_) n53 _ _ _ h)
      refine r_iinc C 2 (v := _) [(3, .int _), (0, .ref _), (2, .int _)] dX9_goesForth_119 rfl rfl (by decide) rfl ?_
      refine r_goto C 45 dX9_goesForth_122 (by decide) ?_
      exact r_sub [1, 2, 0] rfl (ih _ _ _ h)

def f_X9_goesForth (v1 : Int32) (M : Mem) (K : Mem → Prop) : Prop := (∃ k2 : Nat, L_X9_goesForth_2 v1 (fun  (M_3 : Mem) => ∀ M_4 : Mem, M_4 = wI M_3 32 (0 : Int32).toNatClampNeg v1 → (∃ k45 : Nat, L_X9_goesForth_45 (fun  (M_8 : Mem) => K M_8) K k45 (1 : Int32) (0 : Int32) M_4)) K k2 (0 : Int32) M)

set_option maxHeartbeats 1000000 in
set_option maxRecDepth 10000 in
theorem m_X9_goesForth (l : Launch) {v1 : Int32}  {M : Mem} {K : Mem → Prop} (h : f_X9_goesForth v1 M K) : CTv l yX9_goesForth cX9_goesForth 6 none rm_X9_goesForth (fun ad => [.ref (ad 0), .int v1]) M K := by
  refine rw_entv (by decide +kernel) (fun ad => Nat.le_of_ble_eq_true rfl) (fun p e s m args below meth c D cy ad C => ?_)
  change rw_W p l e _ s m args below meth c D cy ad 6 0 0 _ 0 [(0, .ref (ad 0)), (1, .int v1)] [] M
  unfold f_X9_goesForth at h
  refine r_iconst (v := (0 : Int32)) C dX9_goesForth_0 rfl ?_
  refine r_istore_n C [(2, .int _), (0, .ref _), (1, .int _)] dX9_goesForth_1 rfl (by decide) rfl ?_
  obtain ⟨n2, h⟩ := h
  refine r_sub [1, 2, 0] rfl (mL_X9_goesForth_2 C (fun M_3 h => ?_) n2 _ _ h)
  refine r_aload_n C 0 dX9_goesForth_34 rfl rfl ?_
  refine gX9_109 C dX9_goesForth_35 ?_
  refine r_iconst (v := (0 : Int32)) C dX9_goesForth_38 rfl ?_
  refine r_iload_n C 1 dX9_goesForth_39 rfl rfl ?_
  refine r_iast C sh_32 (vpd (i := (0 : Int32)) (n := 300) (by decide +kernel)) dX9_goesForth_40 ?_
  replace h := h _ rfl
  refine r_iconst (v := (1 : Int32)) C dX9_goesForth_41 rfl ?_
  refine r_istore_n C [(2, .int _), (0, .ref _), (1, .int _)] dX9_goesForth_42 rfl (by decide) rfl ?_
  refine r_iconst (v := (0 : Int32)) C dX9_goesForth_43 rfl ?_
  refine r_istore_n C [(3, .int _), (2, .int _), (0, .ref _), (1, .int _)] dX9_goesForth_44 rfl (by decide) rfl ?_
  obtain ⟨n45, h⟩ := h
  refine r_sub [2, 1, 0] rfl (mL_X9_goesForth_45 C (fun M_8 h => ?_) n45 _ _ _ h)
  exact r_vret C dX9_goesForth_125 h
def L_X9_goesBack_24 (v1 : Int32) (v3 : Int32) (X90 : Int32 → Mem → Prop) (K : Mem → Prop) : Nat → Int32 → Int32 → Mem → Prop
  | 0, _, _, _ => False
  | n + 1, v2, v4, M => (((8 : Int32) ≤ v4 → X90 v2 M) ∧ (¬ (8 : Int32) ≤ v4 → vp_in v3 300 ∧ ((¬ (gI M 34 v3) = 0 → X90 v2 M) ∧ ((gI M 34 v3) = 0 → vp_in (((8 : Int32) * (((300 : Int32) * v1) + v3)) + v4) 4800 ∧ ∀ x5 : Int32, x5 = gI M 29 (((8 : Int32) * (((300 : Int32) * v1) + v3)) + v4) → ((x5 < 0 → L_X9_goesBack_24 v1 v3 X90 K n v2 (v4 + (1 : Int32)) M) ∧ (¬ x5 < 0 → vp_in x5 300 ∧ (((gI M 34 x5) = 0 → L_X9_goesBack_24 v1 v3 X90 K n v2 (v4 + (1 : Int32)) M) ∧ (¬ (gI M 34 x5) = 0 → ∀ M_2 : Mem, M_2 = wI M 34 v3.toNatClampNeg ((1 : Int32) &&& 1) → L_X9_goesBack_24 v1 v3 X90 K n (1 : Int32) (v4 + (1 : Int32)) M_2))))))))

set_option maxHeartbeats 1000000 in
set_option maxRecDepth 10000 in
theorem mL_X9_goesBack_24 (C : rw_C p s m meth c cX9_goesBack 6 RX9 none D cy ad) {v1 : Int32} {v3 : Int32} {X90 : Int32 → Mem → Prop} {K : Mem → Prop} (hX90 : ∀ (u2 : Int32) (M : Mem), X90 u2 M → rw_W p l e rm_X9_goesBack s m args below meth c D cy ad 6 0 0 (rw_Qv below args s D cy ad K) 90 [(0, .ref (ad 0)), (1, .int v1), (2, .int u2), (3, .int v3)] [] M) : ∀ (n : Nat) (v2 : Int32) (v4 : Int32) (M : Mem), L_X9_goesBack_24 v1 v3 X90 K n v2 v4 M → rw_W p l e rm_X9_goesBack s m args below meth c D cy ad 6 0 0 (rw_Qv below args s D cy ad K) 24 [(0, .ref (ad 0)), (1, .int v1), (2, .int v2), (3, .int v3), (4, .int v4)] [] M := by
  intro n
  induction n with
  | zero => intro v2 v4 M h; exact h.elim
  | succ n ih =>
    intro v2 v4 M h
    refine r_iload C 4 dX9_goesBack_24 rfl ?_
    refine r_bipush (v := (8 : Int32)) C dX9_goesBack_26 rfl ?_
    refine r_icmp_ge C 90 dX9_goesBack_28 (by decide) (fun hc => ?_) (fun hc => ?_)
    · replace h := h.1 hc
      exact r_sub [0, 1, 2, 3] rfl (hX90 _ _ h)
    · replace h := h.2 hc
      refine r_aload_n C 0 dX9_goesBack_31 rfl rfl ?_
      refine gX9_115 C dX9_goesBack_32 ?_
      refine r_iload_n C 3 dX9_goesBack_35 rfl rfl ?_
      obtain ⟨q_2, h⟩ := h
      refine r_zald C sh_34 q_2 dX9_goesBack_36 ?_
      refine r_if_ne C 90 dX9_goesBack_37 (by decide) (fun hc => ?_) (fun hc => ?_)
      · replace h := h.1 hc
        exact r_sub [0, 1, 2, 3] rfl (hX90 _ _ h)
      · replace h := h.2 hc
        refine r_aload_n C 0 dX9_goesBack_40 rfl rfl ?_
        refine gX9_100 C dX9_goesBack_41 ?_
        refine r_bipush (v := (8 : Int32)) C dX9_goesBack_44 rfl ?_
        refine r_sipush (v := (300 : Int32)) C dX9_goesBack_46 rfl ?_
        refine r_iload_n C 1 dX9_goesBack_49 rfl rfl ?_
        refine r_imul C dX9_goesBack_50 ?_
        refine r_iload_n C 3 dX9_goesBack_51 rfl rfl ?_
        refine r_iadd C dX9_goesBack_52 ?_
        refine r_imul C dX9_goesBack_53 ?_
        refine r_iload C 4 dX9_goesBack_54 rfl ?_
        refine r_iadd C dX9_goesBack_56 ?_
        obtain ⟨q_3, h⟩ := h
        refine r_iald C sh_29 q_3 dX9_goesBack_57 ?_
        refine r_istore C [(5, .int _), (0, .ref _), (1, .int _), (2, .int _), (3, .int _), (4, .int _)] dX9_goesBack_58 (by decide) rfl ?_
        replace h := h _ rfl
        refine r_iload C 0 dX9_goesBack_60 rfl ?_
        refine r_if_lt C 84 dX9_goesBack_62 (by decide) (fun hc => ?_) (fun hc => ?_)
        · replace h := h.1 hc
          refine r_iinc C 5 (v := _) [(4, .int _), (5, .int _), (0, .ref _), (1, .int _), (2, .int _), (3, .int _)] dX9_goesBack_84 rfl rfl (by decide) rfl ?_
          refine r_goto C 24 dX9_goesBack_87 (by decide) ?_
          exact r_sub [2, 3, 4, 5, 0] rfl (ih _ _ _ h)
        · replace h := h.2 hc
          refine r_aload_n C 1 dX9_goesBack_65 rfl rfl ?_
          refine gX9_115 C dX9_goesBack_66 ?_
          refine r_iload C 0 dX9_goesBack_69 rfl ?_
          obtain ⟨q_4, h⟩ := h
          refine r_zald C sh_34 q_4 dX9_goesBack_71 ?_
          refine r_if_eq C 84 dX9_goesBack_72 (by decide) (fun hc => ?_) (fun hc => ?_)
          · replace h := h.1 hc
            refine r_iinc C 5 (v := _) [(4, .int _), (5, .int _), (0, .ref _), (1, .int _), (2, .int _), (3, .int _)] dX9_goesBack_84 rfl rfl (by decide) rfl ?_
            refine r_goto C 24 dX9_goesBack_87 (by decide) ?_
            exact r_sub [2, 3, 4, 5, 0] rfl (ih _ _ _ h)
          · replace h := h.2 hc
            refine r_aload_n C 1 dX9_goesBack_75 rfl rfl ?_
            refine gX9_115 C dX9_goesBack_76 ?_
            refine r_iload_n C 4 dX9_goesBack_79 rfl rfl ?_
            refine r_iconst (v := (1 : Int32)) C dX9_goesBack_80 rfl ?_
            refine r_zast C sh_34 q_2 dX9_goesBack_81 ?_
            replace h := h _ rfl
            refine r_iconst (v := (1 : Int32)) C dX9_goesBack_82 rfl ?_
            refine r_istore_n C [(2, .int _), (5, .int _), (0, .ref _), (1, .int _), (3, .int _), (4, .int _)] dX9_goesBack_83 rfl (by decide) rfl ?_
            refine r_iinc C 5 (v := _) [(4, .int _), (2, .int _), (5, .int _), (0, .ref _), (1, .int _), (3, .int _)] dX9_goesBack_84 rfl rfl (by decide) rfl ?_
            refine r_goto C 24 dX9_goesBack_87 (by decide) ?_
            exact r_sub [3, 4, 1, 5, 0] rfl (ih _ _ _ h)

def L_X9_goesBack_17 (v1 : Int32) (X96 : Int32 → Mem → Prop) (K : Mem → Prop) : Nat → Int32 → Int32 → Mem → Prop
  | 0, _, _, _ => False
  | n + 1, v2, v3, M => ((v3 < 0 → X96 v2 M) ∧ (¬ v3 < 0 → (∃ k24 : Nat, L_X9_goesBack_24 v1 v3 (fun (v2_2 : Int32) (M_3 : Mem) => L_X9_goesBack_17 v1 X96 K n v2_2 (v3 + (-1 : Int32)) M_3) K k24 v2 (0 : Int32) M)))

set_option maxHeartbeats 1000000 in
set_option maxRecDepth 10000 in
theorem mL_X9_goesBack_17 (C : rw_C p s m meth c cX9_goesBack 6 RX9 none D cy ad) {v1 : Int32} {X96 : Int32 → Mem → Prop} {K : Mem → Prop} (hX96 : ∀ (u2 : Int32) (M : Mem), X96 u2 M → rw_W p l e rm_X9_goesBack s m args below meth c D cy ad 6 0 0 (rw_Qv below args s D cy ad K) 96 [(0, .ref (ad 0)), (1, .int v1), (2, .int u2)] [] M) : ∀ (n : Nat) (v2 : Int32) (v3 : Int32) (M : Mem), L_X9_goesBack_17 v1 X96 K n v2 v3 M → rw_W p l e rm_X9_goesBack s m args below meth c D cy ad 6 0 0 (rw_Qv below args s D cy ad K) 17 [(0, .ref (ad 0)), (1, .int v1), (2, .int v2), (3, .int v3)] [] M := by
  intro n
  induction n with
  | zero => intro v2 v3 M h; exact h.elim
  | succ n ih =>
    intro v2 v3 M h
    refine r_iload_n C 3 dX9_goesBack_17 rfl rfl ?_
    refine r_if_lt C 96 dX9_goesBack_18 (by decide) (fun hc => ?_) (fun hc => ?_)
    · replace h := h.1 hc
      exact r_sub [0, 1, 2] rfl (hX96 _ _ h)
    · replace h := h.2 hc
      refine r_iconst (v := (0 : Int32)) C dX9_goesBack_21 rfl ?_
      refine r_istore C [(4, .int _), (0, .ref _), (1, .int _), (2, .int _), (3, .int _)] dX9_goesBack_22 (by decide) rfl ?_
      obtain ⟨n24, h⟩ := h
      refine r_sub [1, 2, 3, 4, 0] rfl (mL_X9_goesBack_24 C (fun v2_2 M_3 h => ?_) n24 _ _ _ h)
      refine r_iinc C 3 (v := _) [(3, .int _), (0, .ref _), (1, .int _), (2, .int _)] dX9_goesBack_90 rfl rfl (by decide) rfl ?_
      refine r_goto C 17 dX9_goesBack_93 (by decide) ?_
      exact r_sub [1, 2, 3, 0] rfl (ih _ _ _ h)

def L_X9_goesBack_2 (v1 : Int32) (X99 : Mem → Prop) (K : Mem → Prop) : Nat → Int32 → Mem → Prop
  | 0, _, _ => False
  | n + 1, v2, M => ((v2 = 0 → X99 M) ∧ (¬ v2 = 0 → vp_in v1 2 ∧ ∀ x3 : Int32, x3 = (gI M 30 v1) - (1 : Int32) → (∃ k17 : Nat, L_X9_goesBack_17 v1 (fun (v2_3 : Int32) (M_4 : Mem) => L_X9_goesBack_2 v1 X99 K n v2_3 M_4) K k17 (0 : Int32) x3 M)))

set_option maxHeartbeats 1000000 in
set_option maxRecDepth 10000 in
theorem mL_X9_goesBack_2 (C : rw_C p s m meth c cX9_goesBack 6 RX9 none D cy ad) {v1 : Int32} {X99 : Mem → Prop} {K : Mem → Prop} (hX99 : ∀  (M : Mem), X99 M → rw_W p l e rm_X9_goesBack s m args below meth c D cy ad 6 0 0 (rw_Qv below args s D cy ad K) 99 [] [] M) : ∀ (n : Nat) (v2 : Int32) (M : Mem), L_X9_goesBack_2 v1 X99 K n v2 M → rw_W p l e rm_X9_goesBack s m args below meth c D cy ad 6 0 0 (rw_Qv below args s D cy ad K) 2 [(0, .ref (ad 0)), (1, .int v1), (2, .int v2)] [] M := by
  intro n
  induction n with
  | zero => intro v2 M h; exact h.elim
  | succ n ih =>
    intro v2 M h
    refine r_iload_n C 2 dX9_goesBack_2 rfl rfl ?_
    refine r_if_eq C 99 dX9_goesBack_3 (by decide) (fun hc => ?_) (fun hc => ?_)
    · replace h := h.1 hc
      exact r_sub [] rfl (hX99 _ h)
    · replace h := h.2 hc
      refine r_iconst (v := (0 : Int32)) C dX9_goesBack_6 rfl ?_
      refine r_istore_n C [(2, .int _), (0, .ref _), (1, .int _)] dX9_goesBack_7 rfl (by decide) rfl ?_
      refine r_aload_n C 1 dX9_goesBack_8 rfl rfl ?_
      refine gX9_103 C dX9_goesBack_9 ?_
      refine r_iload_n C 2 dX9_goesBack_12 rfl rfl ?_
      obtain ⟨q, h⟩ := h
      refine r_iald C sh_30 q dX9_goesBack_13 ?_
      refine r_iconst (v := (1 : Int32)) C dX9_goesBack_14 rfl ?_
      refine r_isub C dX9_goesBack_15 ?_
      refine r_istore_n C [(3, .int _), (2, .int _), (0, .ref _), (1, .int _)] dX9_goesBack_16 rfl (by decide) rfl ?_
      replace h := h _ rfl
      obtain ⟨n17, h⟩ := h
      refine r_sub [2, 3, 1, 0] rfl (mL_X9_goesBack_17 C (fun v2_3 M_4 h => ?_) n17 _ _ _ h)
      refine r_goto C 2 dX9_goesBack_96 (by decide) ?_
      exact ih _ _ h

def f_X9_goesBack (v1 : Int32) (M : Mem) (K : Mem → Prop) : Prop := (∃ k2 : Nat, L_X9_goesBack_2 v1 (fun  (M_5 : Mem) => K M_5) K k2 (1 : Int32) M)

set_option maxHeartbeats 1000000 in
set_option maxRecDepth 10000 in
theorem m_X9_goesBack (l : Launch) {v1 : Int32}  {M : Mem} {K : Mem → Prop} (h : f_X9_goesBack v1 M K) : CTv l yX9_goesBack cX9_goesBack 6 none rm_X9_goesBack (fun ad => [.ref (ad 0), .int v1]) M K := by
  refine rw_entv (by decide +kernel) (fun ad => Nat.le_of_ble_eq_true rfl) (fun p e s m args below meth c D cy ad C => ?_)
  change rw_W p l e _ s m args below meth c D cy ad 6 0 0 _ 0 [(0, .ref (ad 0)), (1, .int v1)] [] M
  unfold f_X9_goesBack at h
  refine r_iconst (v := (1 : Int32)) C dX9_goesBack_0 rfl ?_
  refine r_istore_n C [(2, .int _), (0, .ref _), (1, .int _)] dX9_goesBack_1 rfl (by decide) rfl ?_
  obtain ⟨n2, h⟩ := h
  refine r_sub [1, 2, 0] rfl (mL_X9_goesBack_2 C (fun M_5 h => ?_) n2 _ _ h)
  exact r_vret C dX9_goesBack_99 h
set_option maxHeartbeats 1000000 in
set_option maxRecDepth 10000 in
theorem mD_X9_layHome_34 (C : rw_C p s m meth c cX9_layHome 5 RX9 none D cy ad) {Q : State → Prop} {st : List Value} {M : Mem} {v1 : Int32} {v2 : Int32} {v3 : Int32} {o0 : Int32} {o1 : Int32} (kk : rw_W p l e R s m args below meth c D cy ad 5 0 0 Q 42 [(0, .ref (ad 0)), (1, .int v1), (2, .int v2), (3, .int v3)] (.int (if ¬ o1 = o0 then (0 : Int32) else (1 : Int32)) :: st) M) : rw_W p l e R s m args below meth c D cy ad 5 0 0 Q 34 [(0, .ref (ad 0)), (1, .int v1), (2, .int v2), (3, .int v3)] (.int o0 :: .int o1 :: st) M := by
  refine r_icmp_ne C 41 dX9_layHome_34 (by decide) (fun z0 => ?_) (fun z0 => ?_)
  · skip
    refine r_iconst (v := (0 : Int32)) C dX9_layHome_41 rfl ?_
    first | rw [if_pos z0] at kk | rw [if_neg (fun q9 => q9 z0)] at kk
    exact kk
  · skip
    refine r_iconst (v := (1 : Int32)) C dX9_layHome_37 rfl ?_
    refine r_goto C 42 dX9_layHome_38 (by decide) ?_
    first | rw [if_neg z0] at kk | rw [if_neg (fun q9 => q9 z0)] at kk
    exact kk

def L_X9_layHome_17 (v1 : Int32) (v2 : Int32) (X49 : Mem → Prop) (K : Mem → Prop) : Nat → Int32 → Mem → Prop
  | 0, _, _ => False
  | n + 1, v3, M => (((gI M 30 (0 : Int32)) ≤ v3 → X49 M) ∧ (¬ (gI M 30 (0 : Int32)) ≤ v3 → vp_in v3 300 ∧ ∀ M_3 : Mem, M_3 = wI M 34 v3.toNatClampNeg ((if ¬ v3 = v1 then (0 : Int32) else (1 : Int32)) &&& 1) → L_X9_layHome_17 v1 v2 X49 K n (v3 + (1 : Int32)) M_3))

set_option maxHeartbeats 1000000 in
set_option maxRecDepth 10000 in
theorem mL_X9_layHome_17 (C : rw_C p s m meth c cX9_layHome 5 RX9 none D cy ad) {v1 : Int32} {v2 : Int32} {X49 : Mem → Prop} {K : Mem → Prop} (hX49 : ∀  (M : Mem), X49 M → rw_W p l e rm_X9_layHome s m args below meth c D cy ad 5 0 0 (rw_Qv below args s D cy ad K) 49 [(0, .ref (ad 0)), (1, .int v1), (2, .int v2)] [] M) : ∀ (n : Nat) (v3 : Int32) (M : Mem), L_X9_layHome_17 v1 v2 X49 K n v3 M → rw_W p l e rm_X9_layHome s m args below meth c D cy ad 5 0 0 (rw_Qv below args s D cy ad K) 17 [(0, .ref (ad 0)), (1, .int v1), (2, .int v2), (3, .int v3)] [] M := by
  intro n
  induction n with
  | zero => intro v3 M h; exact h.elim
  | succ n ih =>
    intro v3 M h
    refine r_iload_n C 3 dX9_layHome_17 rfl rfl ?_
    refine r_aload_n C 0 dX9_layHome_18 rfl rfl ?_
    refine gX9_103 C dX9_layHome_19 ?_
    refine r_iconst (v := (0 : Int32)) C dX9_layHome_22 rfl ?_
    refine r_iald C sh_30 (vpd (i := (0 : Int32)) (n := 2) (by decide +kernel)) dX9_layHome_23 ?_
    refine r_icmp_ge C 49 dX9_layHome_24 (by decide) (fun hc => ?_) (fun hc => ?_)
    · replace h := h.1 hc
      exact r_sub [0, 1, 2] rfl (hX49 _ h)
    · replace h := h.2 hc
      refine r_aload_n C 0 dX9_layHome_27 rfl rfl ?_
      refine gX9_115 C dX9_layHome_28 ?_
      refine r_iload_n C 3 dX9_layHome_31 rfl rfl ?_
      refine r_iload_n C 3 dX9_layHome_32 rfl rfl ?_
      refine r_iload_n C 1 dX9_layHome_33 rfl rfl ?_
      refine mD_X9_layHome_34 C ?_
      obtain ⟨q, h⟩ := h
      refine r_zast C sh_34 q dX9_layHome_42 ?_
      replace h := h _ rfl
      refine r_iinc C 3 (v := _) [(3, .int _), (0, .ref _), (1, .int _), (2, .int _)] dX9_layHome_43 rfl rfl (by decide) rfl ?_
      refine r_goto C 17 dX9_layHome_46 (by decide) ?_
      exact r_sub [1, 2, 3, 0] rfl (ih _ _ h)

def L_X9_layHome_56 (X98 : Int32 → Int32 → Mem → Prop) (K : Mem → Prop) : Nat → Int32 → Int32 → Int32 → Mem → Prop
  | 0, _, _, _, _ => False
  | n + 1, v1, v2, v3, M => (((gI M 30 (0 : Int32)) ≤ v3 → X98 v1 v2 M) ∧ (¬ (gI M 30 (0 : Int32)) ≤ v3 → ((¬ v2 = 0 → X98 v1 v2 M) ∧ (v2 = 0 → vp_in v3 300 ∧ (((gI M 35 v3) = 0 → L_X9_layHome_56 X98 K n v1 v2 (v3 + (1 : Int32)) M) ∧ (¬ (gI M 35 v3) = 0 → ((¬ (gI M 34 v3) = 0 → L_X9_layHome_56 X98 K n v1 v2 (v3 + (1 : Int32)) M) ∧ ((gI M 34 v3) = 0 → L_X9_layHome_56 X98 K n v3 (1 : Int32) (v3 + (1 : Int32)) M))))))))

set_option maxHeartbeats 1000000 in
set_option maxRecDepth 10000 in
theorem mL_X9_layHome_56 (C : rw_C p s m meth c cX9_layHome 5 RX9 none D cy ad) {X98 : Int32 → Int32 → Mem → Prop} {K : Mem → Prop} (hX98 : ∀ (u1 : Int32) (u2 : Int32) (M : Mem), X98 u1 u2 M → rw_W p l e rm_X9_layHome s m args below meth c D cy ad 5 0 0 (rw_Qv below args s D cy ad K) 98 [(0, .ref (ad 0)), (1, .int u1), (2, .int u2)] [] M) : ∀ (n : Nat) (v1 : Int32) (v2 : Int32) (v3 : Int32) (M : Mem), L_X9_layHome_56 X98 K n v1 v2 v3 M → rw_W p l e rm_X9_layHome s m args below meth c D cy ad 5 0 0 (rw_Qv below args s D cy ad K) 56 [(0, .ref (ad 0)), (1, .int v1), (2, .int v2), (3, .int v3)] [] M := by
  intro n
  induction n with
  | zero => intro v1 v2 v3 M h; exact h.elim
  | succ n ih =>
    intro v1 v2 v3 M h
    refine r_iload_n C 3 dX9_layHome_56 rfl rfl ?_
    refine r_aload_n C 0 dX9_layHome_57 rfl rfl ?_
    refine gX9_103 C dX9_layHome_58 ?_
    refine r_iconst (v := (0 : Int32)) C dX9_layHome_61 rfl ?_
    refine r_iald C sh_30 (vpd (i := (0 : Int32)) (n := 2) (by decide +kernel)) dX9_layHome_62 ?_
    refine r_icmp_ge C 98 dX9_layHome_63 (by decide) (fun hc => ?_) (fun hc => ?_)
    · replace h := h.1 hc
      exact r_sub [0, 1, 2] rfl (hX98 _ _ _ h)
    · replace h := h.2 hc
      refine r_iload_n C 2 dX9_layHome_66 rfl rfl ?_
      refine r_if_ne C 98 dX9_layHome_67 (by decide) (fun hc => ?_) (fun hc => ?_)
      · replace h := h.1 hc
        exact r_sub [0, 1, 2] rfl (hX98 _ _ _ h)
      · replace h := h.2 hc
        refine r_aload_n C 0 dX9_layHome_70 rfl rfl ?_
        refine gX9_118 C dX9_layHome_71 ?_
        refine r_iload_n C 3 dX9_layHome_74 rfl rfl ?_
        obtain ⟨q_2, h⟩ := h
        refine r_zald C sh_35 q_2 dX9_layHome_75 ?_
        refine r_if_eq C 92 dX9_layHome_76 (by decide) (fun hc => ?_) (fun hc => ?_)
        · replace h := h.1 hc
          refine r_iinc C 3 (v := _) [(3, .int _), (0, .ref _), (1, .int _), (2, .int _)] dX9_layHome_92 rfl rfl (by decide) rfl ?_
          refine r_goto C 56 dX9_layHome_95 (by decide) ?_
          exact r_sub [1, 2, 3, 0] rfl (ih _ _ _ _ h)
        · replace h := h.2 hc
          refine r_aload_n C 0 dX9_layHome_79 rfl rfl ?_
          refine gX9_115 C dX9_layHome_80 ?_
          refine r_iload_n C 3 dX9_layHome_83 rfl rfl ?_
          refine r_zald C sh_34 q_2 dX9_layHome_84 ?_
          refine r_if_ne C 92 dX9_layHome_85 (by decide) (fun hc => ?_) (fun hc => ?_)
          · replace h := h.1 hc
            refine r_iinc C 3 (v := _) [(3, .int _), (0, .ref _), (1, .int _), (2, .int _)] dX9_layHome_92 rfl rfl (by decide) rfl ?_
            refine r_goto C 56 dX9_layHome_95 (by decide) ?_
            exact r_sub [1, 2, 3, 0] rfl (ih _ _ _ _ h)
          · replace h := h.2 hc
            refine r_iload_n C 3 dX9_layHome_88 rfl rfl ?_
            refine r_istore_n C [(1, .int _), (0, .ref _), (2, .int _), (3, .int _)] dX9_layHome_89 rfl (by decide) rfl ?_
            refine r_iconst (v := (1 : Int32)) C dX9_layHome_90 rfl ?_
            refine r_istore_n C [(2, .int _), (1, .int _), (0, .ref _), (3, .int _)] dX9_layHome_91 rfl (by decide) rfl ?_
            refine r_iinc C 3 (v := _) [(3, .int _), (2, .int _), (1, .int _), (0, .ref _)] dX9_layHome_92 rfl rfl (by decide) rfl ?_
            refine r_goto C 56 dX9_layHome_95 (by decide) ?_
            exact r_sub [3, 2, 1, 0] rfl (ih _ _ _ _ h)

def L_X9_layHome_4 (X101 : Mem → Prop) (K : Mem → Prop) : Nat → Int32 → Int32 → Mem → Prop
  | 0, _, _, _ => False
  | n + 1, v1, v2, M => ((v2 = 0 → X101 M) ∧ (¬ v2 = 0 → f_X9_goesForth v1 M (fun (M_2 : Mem) => (∃ k17 : Nat, L_X9_layHome_17 v1 (0 : Int32) (fun  (M_4 : Mem) => f_X9_goesBack (0 : Int32) M_4 (fun (M_5 : Mem) => (∃ k56 : Nat, L_X9_layHome_56 (fun (v1_2 : Int32) (v2_2 : Int32) (M_6 : Mem) => L_X9_layHome_4 X101 K n v1_2 v2_2 M_6) K k56 v1 (0 : Int32) (0 : Int32) M_5))) K k17 (0 : Int32) M_2))))

set_option maxHeartbeats 1000000 in
set_option maxRecDepth 10000 in
theorem mL_X9_layHome_4 (C : rw_C p s m meth c cX9_layHome 5 RX9 none D cy ad) {X101 : Mem → Prop} {K : Mem → Prop} (hX101 : ∀  (M : Mem), X101 M → rw_W p l e rm_X9_layHome s m args below meth c D cy ad 5 0 0 (rw_Qv below args s D cy ad K) 101 [(0, .ref (ad 0))] [] M) : ∀ (n : Nat) (v1 : Int32) (v2 : Int32) (M : Mem), L_X9_layHome_4 X101 K n v1 v2 M → rw_W p l e rm_X9_layHome s m args below meth c D cy ad 5 0 0 (rw_Qv below args s D cy ad K) 4 [(0, .ref (ad 0)), (1, .int v1), (2, .int v2)] [] M := by
  intro n
  induction n with
  | zero => intro v1 v2 M h; exact h.elim
  | succ n ih =>
    intro v1 v2 M h
    refine r_iload_n C 2 dX9_layHome_4 rfl rfl ?_
    refine r_if_eq C 101 dX9_layHome_5 (by decide) (fun hc => ?_) (fun hc => ?_)
    · replace h := h.1 hc
      exact r_sub [0] rfl (hX101 _ h)
    · replace h := h.2 hc
      refine r_iconst (v := (0 : Int32)) C dX9_layHome_8 rfl ?_
      refine r_istore_n C [(2, .int _), (0, .ref _), (1, .int _)] dX9_layHome_9 rfl (by decide) rfl ?_
      refine r_aload_n C 1 dX9_layHome_10 rfl rfl ?_
      refine r_iload_n C 2 dX9_layHome_11 rfl rfl ?_
      refine cX9_391 C (m_X9_goesForth l h) ⟨Nat.le_of_ble_eq_true rfl, Nat.le_of_ble_eq_true rfl⟩ (Nat.le_of_ble_eq_true rfl) ⟨Nat.le_refl 0, Nat.le_refl 0⟩ dX9_layHome_12 (fun M_2 h => ?_)
      refine r_iconst (v := (0 : Int32)) C dX9_layHome_15 rfl ?_
      refine r_istore_n C [(3, .int _), (2, .int _), (0, .ref _), (1, .int _)] dX9_layHome_16 rfl (by decide) rfl ?_
      obtain ⟨n17, h⟩ := h
      refine r_sub [2, 3, 1, 0] rfl (mL_X9_layHome_17 C (fun M_4 h => ?_) n17 _ _ h)
      refine r_aload_n C 0 dX9_layHome_49 rfl rfl ?_
      refine r_iconst (v := (0 : Int32)) C dX9_layHome_50 rfl ?_
      refine cX9_394 C (m_X9_goesBack l h) ⟨Nat.le_of_ble_eq_true rfl, Nat.le_of_ble_eq_true rfl⟩ (Nat.le_of_ble_eq_true rfl) ⟨Nat.le_refl 0, Nat.le_refl 0⟩ dX9_layHome_51 (fun M_5 h => ?_)
      refine r_iconst (v := (0 : Int32)) C dX9_layHome_54 rfl ?_
      refine r_istore_n C [(3, .int _), (0, .ref _), (1, .int _), (2, .int _)] dX9_layHome_55 rfl (by decide) rfl ?_
      obtain ⟨n56, h⟩ := h
      refine r_sub [1, 2, 3, 0] rfl (mL_X9_layHome_56 C (fun v1_2 v2_2 M_6 h => ?_) n56 _ _ _ _ h)
      refine r_goto C 4 dX9_layHome_98 (by decide) ?_
      exact ih _ _ _ h

def L_X9_layHome_106 (X133 : Int32 → Mem → Prop) (K : Mem → Prop) : Nat → Int32 → Int32 → Mem → Prop
  | 0, _, _, _ => False
  | n + 1, v3, v4, M => (((gI M 30 (0 : Int32)) ≤ v4 → X133 v3 M) ∧ (¬ (gI M 30 (0 : Int32)) ≤ v4 → vp_in v4 300 ∧ ∀ x3 : Int32, x3 = v3 &&& (gI M 34 v4) → L_X9_layHome_106 X133 K n x3 (v4 + (1 : Int32)) M))

set_option maxHeartbeats 1000000 in
set_option maxRecDepth 10000 in
theorem mL_X9_layHome_106 (C : rw_C p s m meth c cX9_layHome 5 RX9 none D cy ad) {X133 : Int32 → Mem → Prop} {K : Mem → Prop} (hX133 : ∀ (u3 : Int32) (M : Mem), X133 u3 M → rw_W p l e rm_X9_layHome s m args below meth c D cy ad 5 0 0 (rw_Qv below args s D cy ad K) 133 [(0, .ref (ad 0)), (3, .int u3)] [] M) : ∀ (n : Nat) (v3 : Int32) (v4 : Int32) (M : Mem), L_X9_layHome_106 X133 K n v3 v4 M → rw_W p l e rm_X9_layHome s m args below meth c D cy ad 5 0 0 (rw_Qv below args s D cy ad K) 106 [(0, .ref (ad 0)), (3, .int v3), (4, .int v4)] [] M := by
  intro n
  induction n with
  | zero => intro v3 v4 M h; exact h.elim
  | succ n ih =>
    intro v3 v4 M h
    refine r_iload C 2 dX9_layHome_106 rfl ?_
    refine r_aload_n C 0 dX9_layHome_108 rfl rfl ?_
    refine gX9_103 C dX9_layHome_109 ?_
    refine r_iconst (v := (0 : Int32)) C dX9_layHome_112 rfl ?_
    refine r_iald C sh_30 (vpd (i := (0 : Int32)) (n := 2) (by decide +kernel)) dX9_layHome_113 ?_
    refine r_icmp_ge C 133 dX9_layHome_114 (by decide) (fun hc => ?_) (fun hc => ?_)
    · replace h := h.1 hc
      exact r_sub [0, 1] rfl (hX133 _ _ h)
    · replace h := h.2 hc
      refine r_iload_n C 1 dX9_layHome_117 rfl rfl ?_
      refine r_aload_n C 0 dX9_layHome_118 rfl rfl ?_
      refine gX9_115 C dX9_layHome_119 ?_
      refine r_iload C 2 dX9_layHome_122 rfl ?_
      obtain ⟨q_3, h⟩ := h
      refine r_zald C sh_34 q_3 dX9_layHome_124 ?_
      refine r_iand C dX9_layHome_125 ?_
      refine r_istore_n C [(3, .int _), (0, .ref _), (4, .int _)] dX9_layHome_126 rfl (by decide) rfl ?_
      replace h := h _ rfl
      refine r_iinc C 2 (v := _) [(4, .int _), (3, .int _), (0, .ref _)] dX9_layHome_127 rfl rfl (by decide) rfl ?_
      refine r_goto C 106 dX9_layHome_130 (by decide) ?_
      exact r_sub [2, 1, 0] rfl (ih _ _ _ h)

def S_X9_layHome_154 (v3 : Int32) (v4 : Int32) (o0 : Int32) (b0 : Int32) (X172 : Int32 → Mem → Prop) (K : Mem → Prop) (M : Mem) : Prop := (o0 = 0 → X172 (0 : Int32) M) ∧ (¬ o0 = 0 → vp_in v4 300 ∧ (((gI M 35 v4) = 0 → X172 (0 : Int32) M) ∧ (¬ (gI M 35 v4) = 0 → X172 (1 : Int32) M)))

set_option maxHeartbeats 1000000 in
set_option maxRecDepth 10000 in
theorem mS_X9_layHome_154 (C : rw_C p s m meth c cX9_layHome 5 RX9 none D cy ad) {v3 : Int32} {v4 : Int32} {o0 : Int32} {b0 : Int32} {X172 : Int32 → Mem → Prop} {K : Mem → Prop} {M : Mem} (hX172 : ∀  (w0 : Int32) (M : Mem), X172 w0 M → rw_W p l e rm_X9_layHome s m args below meth c D cy ad 5 0 0 (rw_Qv below args s D cy ad K) 172 [(0, .ref (ad 0)), (3, .int v3), (4, .int v4)] [.int w0, .int b0, .ref (ad 36)] M) (h : S_X9_layHome_154 v3 v4 o0 b0 X172 K M) : rw_W p l e rm_X9_layHome s m args below meth c D cy ad 5 0 0 (rw_Qv below args s D cy ad K) 154 [(0, .ref (ad 0)), (3, .int v3), (4, .int v4)] [.int o0, .int b0, .ref (ad 36)] M := by
  refine r_if_eq C 171 dX9_layHome_154 (by decide) (fun hc => ?_) (fun hc => ?_)
  · replace h := h.1 hc
    refine r_iconst (v := (0 : Int32)) C dX9_layHome_171 rfl ?_
    exact hX172 _ _ h
  · replace h := h.2 hc
    refine r_aload_n C 0 dX9_layHome_157 rfl rfl ?_
    refine gX9_118 C dX9_layHome_158 ?_
    refine r_iload C 2 dX9_layHome_161 rfl ?_
    obtain ⟨q_4, h⟩ := h
    refine r_zald C sh_35 q_4 dX9_layHome_163 ?_
    refine r_if_eq C 171 dX9_layHome_164 (by decide) (fun hc => ?_) (fun hc => ?_)
    · replace h := h.1 hc
      refine r_iconst (v := (0 : Int32)) C dX9_layHome_171 rfl ?_
      exact hX172 _ _ h
    · replace h := h.2 hc
      refine r_iconst (v := (1 : Int32)) C dX9_layHome_167 rfl ?_
      refine r_goto C 172 dX9_layHome_168 (by decide) ?_
      exact hX172 _ _ h

def L_X9_layHome_136 (v3 : Int32) (X179 : Mem → Prop) (K : Mem → Prop) : Nat → Int32 → Mem → Prop
  | 0, _, _ => False
  | n + 1, v4, M => (((gI M 30 (0 : Int32)) ≤ v4 → X179 M) ∧ (¬ (gI M 30 (0 : Int32)) ≤ v4 → (S_X9_layHome_154 v3 v4 v3 v4 (fun (w : Int32) (M_9 : Mem) => vp_in v4 300 ∧ ∀ M_10 : Mem, M_10 = wI M_9 36 v4.toNatClampNeg (w &&& 1) → L_X9_layHome_136 v3 X179 K n (v4 + (1 : Int32)) M_10) K M)))

set_option maxHeartbeats 1000000 in
set_option maxRecDepth 10000 in
theorem mL_X9_layHome_136 (C : rw_C p s m meth c cX9_layHome 5 RX9 none D cy ad) {v3 : Int32} {X179 : Mem → Prop} {K : Mem → Prop} (hX179 : ∀  (M : Mem), X179 M → rw_W p l e rm_X9_layHome s m args below meth c D cy ad 5 0 0 (rw_Qv below args s D cy ad K) 179 [] [] M) : ∀ (n : Nat) (v4 : Int32) (M : Mem), L_X9_layHome_136 v3 X179 K n v4 M → rw_W p l e rm_X9_layHome s m args below meth c D cy ad 5 0 0 (rw_Qv below args s D cy ad K) 136 [(0, .ref (ad 0)), (3, .int v3), (4, .int v4)] [] M := by
  intro n
  induction n with
  | zero => intro v4 M h; exact h.elim
  | succ n ih =>
    intro v4 M h
    refine r_iload C 2 dX9_layHome_136 rfl ?_
    refine r_aload_n C 0 dX9_layHome_138 rfl rfl ?_
    refine gX9_103 C dX9_layHome_139 ?_
    refine r_iconst (v := (0 : Int32)) C dX9_layHome_142 rfl ?_
    refine r_iald C sh_30 (vpd (i := (0 : Int32)) (n := 2) (by decide +kernel)) dX9_layHome_143 ?_
    refine r_icmp_ge C 179 dX9_layHome_144 (by decide) (fun hc => ?_) (fun hc => ?_)
    · replace h := h.1 hc
      exact r_sub [] rfl (hX179 _ h)
    · replace h := h.2 hc
      refine r_aload_n C 0 dX9_layHome_147 rfl rfl ?_
      refine gX9_121 C dX9_layHome_148 ?_
      refine r_iload C 2 dX9_layHome_151 rfl ?_
      refine r_iload_n C 1 dX9_layHome_153 rfl rfl ?_
      refine mS_X9_layHome_154 C (fun w M_9 h => ?_) h
      obtain ⟨q_5, h⟩ := h
      refine r_zast C sh_36 q_5 dX9_layHome_172 ?_
      replace h := h _ rfl
      refine r_iinc C 2 (v := _) [(4, .int _), (0, .ref _), (3, .int _)] dX9_layHome_173 rfl rfl (by decide) rfl ?_
      refine r_goto C 136 dX9_layHome_176 (by decide) ?_
      exact r_sub [1, 2, 0] rfl (ih _ _ h)

def f_X9_layHome (M : Mem) (K : Mem → Prop) : Prop := (∃ k4 : Nat, L_X9_layHome_4 (fun  (M_7 : Mem) => (∃ k106 : Nat, L_X9_layHome_106 (fun (v3_2 : Int32) (M_8 : Mem) => (∃ k136 : Nat, L_X9_layHome_136 v3_2 (fun  (M_11 : Mem) => K M_11) K k136 (0 : Int32) M_8)) K k106 (1 : Int32) (0 : Int32) M_7)) K k4 (0 : Int32) (1 : Int32) M)

set_option maxHeartbeats 1000000 in
set_option maxRecDepth 10000 in
theorem m_X9_layHome (l : Launch)   {M : Mem} {K : Mem → Prop} (h : f_X9_layHome M K) : CTv l yX9_layHome cX9_layHome 5 none rm_X9_layHome (fun ad => [.ref (ad 0)]) M K := by
  refine rw_entv (by decide +kernel) (fun ad => Nat.le_of_ble_eq_true rfl) (fun p e s m args below meth c D cy ad C => ?_)
  change rw_W p l e _ s m args below meth c D cy ad 5 0 0 _ 0 [(0, .ref (ad 0))] [] M
  unfold f_X9_layHome at h
  refine r_iconst (v := (0 : Int32)) C dX9_layHome_0 rfl ?_
  refine r_istore_n C [(1, .int _), (0, .ref _)] dX9_layHome_1 rfl (by decide) rfl ?_
  refine r_iconst (v := (1 : Int32)) C dX9_layHome_2 rfl ?_
  refine r_istore_n C [(2, .int _), (1, .int _), (0, .ref _)] dX9_layHome_3 rfl (by decide) rfl ?_
  obtain ⟨n4, h⟩ := h
  refine r_sub [2, 1, 0] rfl (mL_X9_layHome_4 C (fun M_7 h => ?_) n4 _ _ _ h)
  refine r_iconst (v := (1 : Int32)) C dX9_layHome_101 rfl ?_
  refine r_istore_n C [(3, .int _), (0, .ref _)] dX9_layHome_102 rfl (by decide) rfl ?_
  refine r_iconst (v := (0 : Int32)) C dX9_layHome_103 rfl ?_
  refine r_istore C [(4, .int _), (3, .int _), (0, .ref _)] dX9_layHome_104 (by decide) rfl ?_
  obtain ⟨n106, h⟩ := h
  refine r_sub [2, 1, 0] rfl (mL_X9_layHome_106 C (fun v3_2 M_8 h => ?_) n106 _ _ _ h)
  refine r_iconst (v := (0 : Int32)) C dX9_layHome_133 rfl ?_
  refine r_istore C [(4, .int _), (0, .ref _), (3, .int _)] dX9_layHome_134 (by decide) rfl ?_
  obtain ⟨n136, h⟩ := h
  refine r_sub [1, 2, 0] rfl (mL_X9_layHome_136 C (fun M_11 h => ?_) n136 _ _ h)
  exact r_vret C dX9_layHome_179 h
def f_X9_layNow (M : Mem) (K : Mem → Prop) : Prop := (((M.1 0 23) = 0 → ∀ M_2 : Mem, M_2 = wI M 0 23 (1 : Int32) → f_X9_layGraph (0 : Int32) M_2 (fun (M_3 : Mem) => f_X9_layHome  M_3 (fun (M_4 : Mem) => K M_4))) ∧ (¬ (M.1 0 23) = 0 → K M))

set_option maxHeartbeats 1000000 in
set_option maxRecDepth 10000 in
theorem m_X9_layNow (l : Launch)   {M : Mem} {K : Mem → Prop} (h : f_X9_layNow M K) : CTv l yX9_layNow cX9_layNow 1 none rm_X9_layNow (fun ad => [.ref (ad 0)]) M K := by
  refine rw_entv (by decide +kernel) (fun ad => Nat.le_of_ble_eq_true rfl) (fun p e s m args below meth c D cy ad C => ?_)
  change rw_W p l e _ s m args below meth c D cy ad 1 0 0 _ 0 [(0, .ref (ad 0))] [] M
  unfold f_X9_layNow at h
  refine r_aload_n C 0 dX9_layNow_0 rfl rfl ?_
  refine gX9_253 C dX9_layNow_1 ?_
  refine r_if_eq C 8 dX9_layNow_4 (by decide) (fun hc => ?_) (fun hc => ?_)
  · replace h := h.1 hc
    refine r_aload_n C 0 dX9_layNow_8 rfl rfl ?_
    refine r_iconst (v := (1 : Int32)) C dX9_layNow_9 rfl ?_
    refine pX9_253 C (by decide) dX9_layNow_10 ?_
    replace h := h _ rfl
    refine r_aload_n C 0 dX9_layNow_13 rfl rfl ?_
    refine r_iconst (v := (0 : Int32)) C dX9_layNow_14 rfl ?_
    refine cX9_385 C (m_X9_layGraph l h) ⟨Nat.le_of_ble_eq_true rfl, Nat.le_of_ble_eq_true rfl⟩ (Nat.le_of_ble_eq_true rfl) ⟨Nat.le_refl 0, Nat.le_refl 0⟩ dX9_layNow_15 (fun M_3 h => ?_)
    refine r_aload_n C 0 dX9_layNow_18 rfl rfl ?_
    refine cX9_388 C (m_X9_layHome l h) ⟨Nat.le_of_ble_eq_true rfl, Nat.le_of_ble_eq_true rfl⟩ (Nat.le_of_ble_eq_true rfl) ⟨Nat.le_refl 0, Nat.le_refl 0⟩ dX9_layNow_19 (fun M_4 h => ?_)
    exact r_vret C dX9_layNow_22 h
  · replace h := h.2 hc
    exact r_vret C dX9_layNow_7 h
def L_X9_isLive_5 (v1 : Int32) (v2 : Int32) (v3 : Int32) (X46 : Mem → Prop) (K : Int32 → Mem → Prop) : Nat → Int32 → Mem → Prop
  | 0, _, _ => False
  | n + 1, v4, M => vp_in v1 2 ∧ (((gI M 30 v1) ≤ v4 → X46 M) ∧ (¬ (gI M 30 v1) ≤ v4 → vp_in (((300 : Int32) * v1) + v4) 600 ∧ f_X9_isOf (gI M 28 (((300 : Int32) * v1) + v4)) v2 M (fun (r : Int32) (M_2 : Mem) => vp_in v4 300 ∧ ∀ M_3 : Mem, M_3 = wI M_2 34 v4.toNatClampNeg (r &&& 1) → L_X9_isLive_5 v1 v2 v3 X46 K n (v4 + (1 : Int32)) M_3)))

set_option maxHeartbeats 1000000 in
set_option maxRecDepth 10000 in
theorem mL_X9_isLive_5 (C : rw_C p s m meth c cX9_isLive 5 RX9 (some .boolean) D cy ad) {v1 : Int32} {v2 : Int32} {v3 : Int32} {X46 : Mem → Prop} {K : Int32 → Mem → Prop} (hX46 : ∀  (M : Mem), X46 M → rw_W p l e rm_X9_isLive s m args below meth c D cy ad 5 0 0 (rw_Qi below args s D cy ad K) 46 [(0, .ref (ad 0)), (1, .int v1), (3, .int v3)] [] M) : ∀ (n : Nat) (v4 : Int32) (M : Mem), L_X9_isLive_5 v1 v2 v3 X46 K n v4 M → rw_W p l e rm_X9_isLive s m args below meth c D cy ad 5 0 0 (rw_Qi below args s D cy ad K) 5 [(0, .ref (ad 0)), (1, .int v1), (2, .int v2), (3, .int v3), (4, .int v4)] [] M := by
  intro n
  induction n with
  | zero => intro v4 M h; exact h.elim
  | succ n ih =>
    intro v4 M h
    refine r_iload C 4 dX9_isLive_5 rfl ?_
    refine r_aload_n C 0 dX9_isLive_7 rfl rfl ?_
    refine gX9_103 C dX9_isLive_8 ?_
    refine r_iload_n C 1 dX9_isLive_11 rfl rfl ?_
    obtain ⟨q, h⟩ := h
    refine r_iald C sh_30 q dX9_isLive_12 ?_
    refine r_icmp_ge C 46 dX9_isLive_13 (by decide) (fun hc => ?_) (fun hc => ?_)
    · replace h := h.1 hc
      exact r_sub [0, 1, 3] rfl (hX46 _ h)
    · replace h := h.2 hc
      refine r_aload_n C 0 dX9_isLive_16 rfl rfl ?_
      refine gX9_115 C dX9_isLive_17 ?_
      refine r_iload C 4 dX9_isLive_20 rfl ?_
      refine r_aload_n C 0 dX9_isLive_22 rfl rfl ?_
      refine gX9_97 C dX9_isLive_23 ?_
      refine r_sipush (v := (300 : Int32)) C dX9_isLive_26 rfl ?_
      refine r_iload_n C 1 dX9_isLive_29 rfl rfl ?_
      refine r_imul C dX9_isLive_30 ?_
      refine r_iload C 4 dX9_isLive_31 rfl ?_
      refine r_iadd C dX9_isLive_33 ?_
      obtain ⟨q_2, h⟩ := h
      refine r_iald C sh_28 q_2 dX9_isLive_34 ?_
      refine r_iload_n C 2 dX9_isLive_35 rfl rfl ?_
      refine cX9_140 C (m_X9_isOf l h) ⟨Nat.le_of_ble_eq_true rfl, Nat.le_of_ble_eq_true rfl⟩ (Nat.le_of_ble_eq_true rfl) ⟨Nat.le_refl 0, Nat.le_refl 0⟩ dX9_isLive_36 (fun r M_2 h => ?_)
      obtain ⟨q_3, h⟩ := h
      refine r_zast C sh_34 q_3 dX9_isLive_39 ?_
      replace h := h _ rfl
      refine r_iinc C 4 (v := _) [(4, .int _), (0, .ref _), (1, .int _), (2, .int _), (3, .int _)] dX9_isLive_40 rfl rfl (by decide) rfl ?_
      refine r_goto C 5 dX9_isLive_43 (by decide) ?_
      exact r_sub [1, 2, 3, 4, 0] rfl (ih _ _ h)

def L_X9_isLive_54 (v1 : Int32) (X81 : Int32 → Mem → Prop) (K : Int32 → Mem → Prop) : Nat → Int32 → Int32 → Mem → Prop
  | 0, _, _, _ => False
  | n + 1, v3, v4, M => vp_in v1 2 ∧ (((gI M 30 v1) ≤ v4 → X81 v3 M) ∧ (¬ (gI M 30 v1) ≤ v4 → vp_in v4 300 ∧ ∀ x3 : Int32, x3 = v3 &&& (gI M 34 v4) → L_X9_isLive_54 v1 X81 K n x3 (v4 + (1 : Int32)) M))

set_option maxHeartbeats 1000000 in
set_option maxRecDepth 10000 in
theorem mL_X9_isLive_54 (C : rw_C p s m meth c cX9_isLive 5 RX9 (some .boolean) D cy ad) {v1 : Int32} {X81 : Int32 → Mem → Prop} {K : Int32 → Mem → Prop} (hX81 : ∀ (u3 : Int32) (M : Mem), X81 u3 M → rw_W p l e rm_X9_isLive s m args below meth c D cy ad 5 0 0 (rw_Qi below args s D cy ad K) 81 [(3, .int u3)] [] M) : ∀ (n : Nat) (v3 : Int32) (v4 : Int32) (M : Mem), L_X9_isLive_54 v1 X81 K n v3 v4 M → rw_W p l e rm_X9_isLive s m args below meth c D cy ad 5 0 0 (rw_Qi below args s D cy ad K) 54 [(0, .ref (ad 0)), (1, .int v1), (3, .int v3), (4, .int v4)] [] M := by
  intro n
  induction n with
  | zero => intro v3 v4 M h; exact h.elim
  | succ n ih =>
    intro v3 v4 M h
    refine r_iload C 3 dX9_isLive_54 rfl ?_
    refine r_aload_n C 0 dX9_isLive_56 rfl rfl ?_
    refine gX9_103 C dX9_isLive_57 ?_
    refine r_iload_n C 1 dX9_isLive_60 rfl rfl ?_
    obtain ⟨q_4, h⟩ := h
    refine r_iald C sh_30 q_4 dX9_isLive_61 ?_
    refine r_icmp_ge C 81 dX9_isLive_62 (by decide) (fun hc => ?_) (fun hc => ?_)
    · replace h := h.1 hc
      exact r_sub [2] rfl (hX81 _ _ h)
    · replace h := h.2 hc
      refine r_iload_n C 2 dX9_isLive_65 rfl rfl ?_
      refine r_aload_n C 0 dX9_isLive_66 rfl rfl ?_
      refine gX9_115 C dX9_isLive_67 ?_
      refine r_iload C 3 dX9_isLive_70 rfl ?_
      obtain ⟨q_5, h⟩ := h
      refine r_zald C sh_34 q_5 dX9_isLive_72 ?_
      refine r_iand C dX9_isLive_73 ?_
      refine r_istore_n C [(3, .int _), (0, .ref _), (1, .int _), (4, .int _)] dX9_isLive_74 rfl (by decide) rfl ?_
      replace h := h _ rfl
      refine r_iinc C 3 (v := _) [(4, .int _), (3, .int _), (0, .ref _), (1, .int _)] dX9_isLive_75 rfl rfl (by decide) rfl ?_
      refine r_goto C 54 dX9_isLive_78 (by decide) ?_
      exact r_sub [2, 3, 1, 0] rfl (ih _ _ _ h)

def f_X9_isLive (v1 : Int32) (v2 : Int32) (M : Mem) (K : Int32 → Mem → Prop) : Prop := (∃ k5 : Nat, L_X9_isLive_5 v1 v2 (1 : Int32) (fun  (M_4 : Mem) => f_X9_goesBack v1 M_4 (fun (M_5 : Mem) => (∃ k54 : Nat, L_X9_isLive_54 v1 (fun (v3_2 : Int32) (M_6 : Mem) => (v3_2 &&& 1 = v3_2) ∧ K v3_2 M_6) K k54 (1 : Int32) (0 : Int32) M_5))) K k5 (0 : Int32) M)

set_option maxHeartbeats 1000000 in
set_option maxRecDepth 10000 in
theorem m_X9_isLive (l : Launch) {v1 : Int32} {v2 : Int32}  {M : Mem} {K : Int32 → Mem → Prop} (h : f_X9_isLive v1 v2 M K) : CTi l yX9_isLive cX9_isLive 5 (some .boolean) rm_X9_isLive (fun ad => [.ref (ad 0), .int v1, .int v2]) M K := by
  refine rw_enti (by decide +kernel) (fun ad => Nat.le_of_ble_eq_true rfl) (fun p e s m args below meth c D cy ad C => ?_)
  change rw_W p l e _ s m args below meth c D cy ad 5 0 0 _ 0 [(0, .ref (ad 0)), (1, .int v1), (2, .int v2)] [] M
  unfold f_X9_isLive at h
  refine r_iconst (v := (1 : Int32)) C dX9_isLive_0 rfl ?_
  refine r_istore_n C [(3, .int _), (0, .ref _), (1, .int _), (2, .int _)] dX9_isLive_1 rfl (by decide) rfl ?_
  refine r_iconst (v := (0 : Int32)) C dX9_isLive_2 rfl ?_
  refine r_istore C [(4, .int _), (3, .int _), (0, .ref _), (1, .int _), (2, .int _)] dX9_isLive_3 (by decide) rfl ?_
  obtain ⟨n5, h⟩ := h
  refine r_sub [2, 3, 4, 1, 0] rfl (mL_X9_isLive_5 C (fun M_4 h => ?_) n5 _ _ h)
  refine r_aload_n C 0 dX9_isLive_46 rfl rfl ?_
  refine r_iload_n C 1 dX9_isLive_47 rfl rfl ?_
  refine cX9_394 C (m_X9_goesBack l h) ⟨Nat.le_of_ble_eq_true rfl, Nat.le_of_ble_eq_true rfl⟩ (Nat.le_of_ble_eq_true rfl) ⟨Nat.le_refl 0, Nat.le_refl 0⟩ dX9_isLive_48 (fun M_5 h => ?_)
  refine r_iconst (v := (0 : Int32)) C dX9_isLive_51 rfl ?_
  refine r_istore C [(4, .int _), (0, .ref _), (1, .int _), (3, .int _)] dX9_isLive_52 (by decide) rfl ?_
  obtain ⟨n54, h⟩ := h
  refine r_sub [1, 2, 3, 0] rfl (mL_X9_isLive_54 C (fun v3_2 M_6 h => ?_) n54 _ _ _ h)
  refine r_iload_n C 0 dX9_isLive_81 rfl rfl ?_
  exact r_zret C h.1 dX9_isLive_82 h.2
def L_X9_dead_4 (v1 : Int32) (X43 : Int32 → Mem → Prop) (K : Int32 → Mem → Prop) : Nat → Int32 → Int32 → Mem → Prop
  | 0, _, _, _ => False
  | n + 1, v2, v3, M => vp_in v1 2 ∧ (((gI M 30 v1) ≤ v3 → X43 v2 M) ∧ (¬ (gI M 30 v1) ≤ v3 → vp_in (((300 : Int32) * v1) + v3) 600 ∧ ((¬ (gI M 28 (((300 : Int32) * v1) + v3)) = 0 → ∀ x2 : Int32, x2 = v2 + (0 : Int32) → L_X9_dead_4 v1 X43 K n x2 (v3 + (1 : Int32)) M) ∧ ((gI M 28 (((300 : Int32) * v1) + v3)) = 0 → ∀ x2_2 : Int32, x2_2 = v2 + (1 : Int32) → L_X9_dead_4 v1 X43 K n x2_2 (v3 + (1 : Int32)) M))))

set_option maxHeartbeats 1000000 in
set_option maxRecDepth 10000 in
theorem mL_X9_dead_4 (C : rw_C p s m meth c cX9_dead 4 RX9 (some .int) D cy ad) {v1 : Int32} {X43 : Int32 → Mem → Prop} {K : Int32 → Mem → Prop} (hX43 : ∀ (u2 : Int32) (M : Mem), X43 u2 M → rw_W p l e rm_X9_dead s m args below meth c D cy ad 4 0 0 (rw_Qi below args s D cy ad K) 43 [(2, .int u2)] [] M) : ∀ (n : Nat) (v2 : Int32) (v3 : Int32) (M : Mem), L_X9_dead_4 v1 X43 K n v2 v3 M → rw_W p l e rm_X9_dead s m args below meth c D cy ad 4 0 0 (rw_Qi below args s D cy ad K) 4 [(0, .ref (ad 0)), (1, .int v1), (2, .int v2), (3, .int v3)] [] M := by
  intro n
  induction n with
  | zero => intro v2 v3 M h; exact h.elim
  | succ n ih =>
    intro v2 v3 M h
    refine r_iload_n C 3 dX9_dead_4 rfl rfl ?_
    refine r_aload_n C 0 dX9_dead_5 rfl rfl ?_
    refine gX9_103 C dX9_dead_6 ?_
    refine r_iload_n C 1 dX9_dead_9 rfl rfl ?_
    obtain ⟨q, h⟩ := h
    refine r_iald C sh_30 q dX9_dead_10 ?_
    refine r_icmp_ge C 43 dX9_dead_11 (by decide) (fun hc => ?_) (fun hc => ?_)
    · replace h := h.1 hc
      exact r_sub [2] rfl (hX43 _ _ h)
    · replace h := h.2 hc
      refine r_iload_n C 2 dX9_dead_14 rfl rfl ?_
      refine r_aload_n C 0 dX9_dead_15 rfl rfl ?_
      refine gX9_97 C dX9_dead_16 ?_
      refine r_sipush (v := (300 : Int32)) C dX9_dead_19 rfl ?_
      refine r_iload_n C 1 dX9_dead_22 rfl rfl ?_
      refine r_imul C dX9_dead_23 ?_
      refine r_iload_n C 3 dX9_dead_24 rfl rfl ?_
      refine r_iadd C dX9_dead_25 ?_
      obtain ⟨q_2, h⟩ := h
      refine r_iald C sh_28 q_2 dX9_dead_26 ?_
      refine r_if_ne C 34 dX9_dead_27 (by decide) (fun hc => ?_) (fun hc => ?_)
      · replace h := h.1 hc
        refine r_iconst (v := (0 : Int32)) C dX9_dead_34 rfl ?_
        refine r_iadd C dX9_dead_35 ?_
        refine r_istore_n C [(2, .int _), (0, .ref _), (1, .int _), (3, .int _)] dX9_dead_36 rfl (by decide) rfl ?_
        replace h := h _ rfl
        refine r_iinc C 3 (v := _) [(3, .int _), (2, .int _), (0, .ref _), (1, .int _)] dX9_dead_37 rfl rfl (by decide) rfl ?_
        refine r_goto C 4 dX9_dead_40 (by decide) ?_
        exact r_sub [2, 3, 1, 0] rfl (ih _ _ _ h)
      · replace h := h.2 hc
        refine r_iconst (v := (1 : Int32)) C dX9_dead_30 rfl ?_
        refine r_goto C 35 dX9_dead_31 (by decide) ?_
        refine r_iadd C dX9_dead_35 ?_
        refine r_istore_n C [(2, .int _), (0, .ref _), (1, .int _), (3, .int _)] dX9_dead_36 rfl (by decide) rfl ?_
        replace h := h _ rfl
        refine r_iinc C 3 (v := _) [(3, .int _), (2, .int _), (0, .ref _), (1, .int _)] dX9_dead_37 rfl rfl (by decide) rfl ?_
        refine r_goto C 4 dX9_dead_40 (by decide) ?_
        exact r_sub [2, 3, 1, 0] rfl (ih _ _ _ h)

def f_X9_dead (v1 : Int32) (M : Mem) (K : Int32 → Mem → Prop) : Prop := (∃ k4 : Nat, L_X9_dead_4 v1 (fun (v2_2 : Int32) (M_2 : Mem) => K v2_2 M_2) K k4 (0 : Int32) (0 : Int32) M)

set_option maxHeartbeats 1000000 in
set_option maxRecDepth 10000 in
theorem m_X9_dead (l : Launch) {v1 : Int32}  {M : Mem} {K : Int32 → Mem → Prop} (h : f_X9_dead v1 M K) : CTi l yX9_dead cX9_dead 4 (some .int) rm_X9_dead (fun ad => [.ref (ad 0), .int v1]) M K := by
  refine rw_enti (by decide +kernel) (fun ad => Nat.le_of_ble_eq_true rfl) (fun p e s m args below meth c D cy ad C => ?_)
  change rw_W p l e _ s m args below meth c D cy ad 4 0 0 _ 0 [(0, .ref (ad 0)), (1, .int v1)] [] M
  unfold f_X9_dead at h
  refine r_iconst (v := (0 : Int32)) C dX9_dead_0 rfl ?_
  refine r_istore_n C [(2, .int _), (0, .ref _), (1, .int _)] dX9_dead_1 rfl (by decide) rfl ?_
  refine r_iconst (v := (0 : Int32)) C dX9_dead_2 rfl ?_
  refine r_istore_n C [(3, .int _), (2, .int _), (0, .ref _), (1, .int _)] dX9_dead_3 rfl (by decide) rfl ?_
  obtain ⟨n4, h⟩ := h
  refine r_sub [2, 3, 1, 0] rfl (mL_X9_dead_4 C (fun v2_2 M_2 h => ?_) n4 _ _ _ h)
  refine r_iload_n C 0 dX9_dead_43 rfl rfl ?_
  exact r_iret C dX9_dead_44 h
end MG
