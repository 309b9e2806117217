section MG
variable {p : Program} {l : Launch} {e : Env} {R : Room} {s : State} {m : MethodId} {args : Array Value} {below : List Frame} {meth : Method} {c : Code} {D : va_G} {cy : Nat → ClassId} {ad : Nat → Nat}
def L_X0_lastStart_8 (v0 : Nat) (X48 : Int32 → Mem → Prop) (K : Int32 → Mem → Prop) : Nat → Int32 → Int32 → Mem → Prop
  | 0, _, _, _ => False
  | n + 1, v1, v2, M => (((M.1 v0 12) ≤ v2 → X48 v1 M) ∧ (¬ (M.1 v0 12) ≤ v2 → vp_in v2 300 ∧ ((¬ (gI M (v0 + 9) v2) = 0 → L_X0_lastStart_8 v0 X48 K n v1 (v2 + (1 : Int32)) M) ∧ ((gI M (v0 + 9) v2) = 0 → ∀ x3 : Int32, x3 = M.1 v0 14 → f_X0_see v0 v2 M (fun (M_3 : Mem) => f_X0_spreadBack v0 x3 M_3 (fun (M_4 : Mem) => L_X0_lastStart_8 v0 X48 K n v2 (v2 + (1 : Int32)) M_4))))))

set_option maxHeartbeats 1000000 in
set_option maxRecDepth 10000 in
theorem mL_X0_lastStart_8 (C : rw_C p s m meth c cX0_lastStart 4 RX0 (some .int) D cy ad) {v0 : Nat} (h_v0 : isX0 v0) {X48 : Int32 → Mem → Prop} {K : Int32 → Mem → Prop} (hX48 : ∀ (u1 : Int32) (M : Mem), X48 u1 M → rw_W p l e rm_X0_lastStart s m args below meth c D cy ad 4 0 0 (rw_Qi below args s D cy ad K) 48 [(1, .int u1)] [] M) : ∀ (n : Nat) (v1 : Int32) (v2 : Int32) (M : Mem), L_X0_lastStart_8 v0 X48 K n v1 v2 M → rw_W p l e rm_X0_lastStart s m args below meth c D cy ad 4 0 0 (rw_Qi below args s D cy ad K) 8 [(0, .ref (ad v0)), (1, .int v1), (2, .int v2)] [] M := by
  intro n
  induction n with
  | zero => intro v1 v2 M h; exact h.elim
  | succ n ih =>
    intro v1 v2 M h
    refine r_iload_n C 2 dX0_lastStart_8 rfl rfl ?_
    refine r_aload_n C 0 dX0_lastStart_9 rfl rfl ?_
    refine gX0_49 C h_v0 dX0_lastStart_10 ?_
    refine r_icmp_ge C 48 dX0_lastStart_13 (by decide) (fun hc => ?_) (fun hc => ?_)
    · replace h := h.1 hc
      exact r_sub [1] rfl (hX48 _ _ h)
    · replace h := h.2 hc
      refine r_aload_n C 0 dX0_lastStart_16 rfl rfl ?_
      refine gX0_36 C h_v0 dX0_lastStart_17 ?_
      refine r_iload_n C 2 dX0_lastStart_20 rfl rfl ?_
      obtain ⟨q, h⟩ := h
      refine r_iald C (isX0_A9 h_v0) q dX0_lastStart_21 ?_
      refine r_if_ne C 42 dX0_lastStart_22 (by decide) (fun hc => ?_) (fun hc => ?_)
      · replace h := h.1 hc
        refine r_iinc C 2 (v := _) [(2, .int _), (0, .ref _), (1, .int _)] dX0_lastStart_42 rfl rfl (by decide) rfl ?_
        refine r_goto C 8 dX0_lastStart_45 (by decide) ?_
        exact r_sub [1, 2, 0] rfl (ih _ _ _ h)
      · replace h := h.2 hc
        refine r_iload_n C 2 dX0_lastStart_25 rfl rfl ?_
        refine r_istore_n C [(1, .int _), (0, .ref _), (2, .int _)] dX0_lastStart_26 rfl (by decide) rfl ?_
        refine r_aload_n C 1 dX0_lastStart_27 rfl rfl ?_
        refine gX0_56 C h_v0 dX0_lastStart_28 ?_
        refine r_istore_n C [(3, .int _), (1, .int _), (0, .ref _), (2, .int _)] dX0_lastStart_31 rfl (by decide) rfl ?_
        replace h := h _ rfl
        refine r_aload_n C 2 dX0_lastStart_32 rfl rfl ?_
        refine r_iload_n C 3 dX0_lastStart_33 rfl rfl ?_
        refine cX0_126 C h_v0 (m_X0_see l h_v0 h) ⟨Nat.le_of_ble_eq_true rfl, Nat.le_of_ble_eq_true rfl⟩ (Nat.le_of_ble_eq_true rfl) ⟨Nat.le_refl 0, Nat.le_refl 0⟩ dX0_lastStart_34 (fun M_3 h => ?_)
        refine r_aload_n C 2 dX0_lastStart_37 rfl rfl ?_
        refine r_iload_n C 0 dX0_lastStart_38 rfl rfl ?_
        refine cX0_130 C h_v0 (m_X0_spreadBack l h_v0 h) ⟨Nat.le_of_ble_eq_true rfl, Nat.le_of_ble_eq_true rfl⟩ (Nat.le_of_ble_eq_true rfl) ⟨Nat.le_refl 0, Nat.le_refl 0⟩ dX0_lastStart_39 (fun M_4 h => ?_)
        refine r_iinc C 3 (v := _) [(2, .int _), (3, .int _), (1, .int _), (0, .ref _)] dX0_lastStart_42 rfl rfl (by decide) rfl ?_
        refine r_goto C 8 dX0_lastStart_45 (by decide) ?_
        exact r_sub [3, 2, 0] rfl (ih _ _ _ h)

def f_X0_lastStart (v0 : Nat) (M : Mem) (K : Int32 → Mem → Prop) : Prop := f_X0_forgetSeen v0 M (fun (M_2 : Mem) => (∃ k8 : Nat, L_X0_lastStart_8 v0 (fun (v1_2 : Int32) (M_5 : Mem) => K v1_2 M_5) K k8 (0 : Int32) (0 : Int32) M_2))

set_option maxHeartbeats 1000000 in
set_option maxRecDepth 10000 in
theorem m_X0_lastStart (l : Launch) {v0 : Nat} (h_v0 : isX0 v0) {M : Mem} {K : Int32 → Mem → Prop} (h : f_X0_lastStart v0 M K) : CTi l yX0_lastStart cX0_lastStart 4 (some .int) rm_X0_lastStart (fun ad => [.ref (ad v0)]) M K := by
  refine rw_enti (by decide +kernel) (fun ad => Nat.le_of_ble_eq_true rfl) (fun p e s m args below meth c D cy ad C => ?_)
  change rw_W p l e _ s m args below meth c D cy ad 4 0 0 _ 0 [(0, .ref (ad v0))] [] M
  unfold f_X0_lastStart at h
  refine r_iconst (v := (0 : Int32)) C dX0_lastStart_0 rfl ?_
  refine r_istore_n C [(1, .int _), (0, .ref _)] dX0_lastStart_1 rfl (by decide) rfl ?_
  refine r_aload_n C 1 dX0_lastStart_2 rfl rfl ?_
  refine cX0_123 C h_v0 (m_X0_forgetSeen l h_v0 h) ⟨Nat.le_of_ble_eq_true rfl, Nat.le_of_ble_eq_true rfl⟩ (Nat.le_of_ble_eq_true rfl) ⟨Nat.le_refl 0, Nat.le_refl 0⟩ dX0_lastStart_3 (fun M_2 h => ?_)
  refine r_iconst (v := (0 : Int32)) C dX0_lastStart_6 rfl ?_
  refine r_istore_n C [(2, .int _), (1, .int _), (0, .ref _)] dX0_lastStart_7 rfl (by decide) rfl ?_
  obtain ⟨n8, h⟩ := h
  refine r_sub [2, 1, 0] rfl (mL_X0_lastStart_8 C h_v0 (fun v1_2 M_5 h => ?_) n8 _ _ _ h)
  refine r_iload_n C 0 dX0_lastStart_48 rfl rfl ?_
  exact r_iret C dX0_lastStart_49 h
def L_X0_spreadOn_26 (v0 : Nat) (v1 : Int32) (v2 : Int32) (X68 : Mem → Prop) (K : Mem → Prop) : Nat → Int32 → Mem → Prop
  | 0, _, _ => False
  | n + 1, v3, M => (((8 : Int32) ≤ v3 → X68 M) ∧ (¬ (8 : Int32) ≤ v3 → vp_in ((v2 * (8 : Int32)) + v3) 2400 ∧ (((gI M (v0 + 5) ((v2 * (8 : Int32)) + v3)) = (-1 : Int32) → L_X0_spreadOn_26 v0 v1 v2 X68 K n (v3 + (1 : Int32)) M) ∧ (¬ (gI M (v0 + 5) ((v2 * (8 : Int32)) + v3)) = (-1 : Int32) → f_X0_see v0 (gI M (v0 + 5) ((v2 * (8 : Int32)) + v3)) M (fun (M_2 : Mem) => L_X0_spreadOn_26 v0 v1 v2 X68 K n (v3 + (1 : Int32)) M_2)))))

set_option maxHeartbeats 1000000 in
set_option maxRecDepth 10000 in
theorem mL_X0_spreadOn_26 (C : rw_C p s m meth c cX0_spreadOn 4 RX0 none D cy ad) {v0 : Nat} {v1 : Int32} {v2 : Int32} (h_v0 : isX0 v0) {X68 : Mem → Prop} {K : Mem → Prop} (hX68 : ∀  (M : Mem), X68 M → rw_W p l e rm_X0_spreadOn s m args below meth c D cy ad 4 0 0 (rw_Qv below args s D cy ad K) 68 [(0, .ref (ad v0)), (1, .int v1)] [] M) : ∀ (n : Nat) (v3 : Int32) (M : Mem), L_X0_spreadOn_26 v0 v1 v2 X68 K n v3 M → rw_W p l e rm_X0_spreadOn s m args below meth c D cy ad 4 0 0 (rw_Qv below args s D cy ad K) 26 [(0, .ref (ad v0)), (1, .int v1), (2, .int v2), (3, .int v3)] [] M := by
  intro n
  induction n with
  | zero => intro v3 M h; exact h.elim
  | succ n ih =>
    intro v3 M h
    refine r_iload_n C 3 dX0_spreadOn_26 rfl rfl ?_
    refine r_bipush (v := (8 : Int32)) C dX0_spreadOn_27 rfl ?_
    refine r_icmp_ge C 68 dX0_spreadOn_29 (by decide) (fun hc => ?_) (fun hc => ?_)
    · replace h := h.1 hc
      exact r_sub [0, 1] rfl (hX68 _ h)
    · replace h := h.2 hc
      refine r_aload_n C 0 dX0_spreadOn_32 rfl rfl ?_
      refine gX0_24 C h_v0 dX0_spreadOn_33 ?_
      refine r_iload_n C 2 dX0_spreadOn_36 rfl rfl ?_
      refine r_bipush (v := (8 : Int32)) C dX0_spreadOn_37 rfl ?_
      refine r_imul C dX0_spreadOn_39 ?_
      refine r_iload_n C 3 dX0_spreadOn_40 rfl rfl ?_
      refine r_iadd C dX0_spreadOn_41 ?_
      obtain ⟨q_2, h⟩ := h
      refine r_iald C (isX0_A5 h_v0) q_2 dX0_spreadOn_42 ?_
      refine r_iconst (v := (-1 : Int32)) C dX0_spreadOn_43 rfl ?_
      refine r_icmp_eq C 62 dX0_spreadOn_44 (by decide) (fun hc => ?_) (fun hc => ?_)
      · replace h := h.1 hc
        refine r_iinc C 3 (v := _) [(3, .int _), (0, .ref _), (1, .int _), (2, .int _)] dX0_spreadOn_62 rfl rfl (by decide) rfl ?_
        refine r_goto C 26 dX0_spreadOn_65 (by decide) ?_
        exact r_sub [1, 2, 3, 0] rfl (ih _ _ h)
      · replace h := h.2 hc
        refine r_aload_n C 0 dX0_spreadOn_47 rfl rfl ?_
        refine r_aload_n C 0 dX0_spreadOn_48 rfl rfl ?_
        refine gX0_24 C h_v0 dX0_spreadOn_49 ?_
        refine r_iload_n C 2 dX0_spreadOn_52 rfl rfl ?_
        refine r_bipush (v := (8 : Int32)) C dX0_spreadOn_53 rfl ?_
        refine r_imul C dX0_spreadOn_55 ?_
        refine r_iload_n C 3 dX0_spreadOn_56 rfl rfl ?_
        refine r_iadd C dX0_spreadOn_57 ?_
        refine r_iald C (isX0_A5 h_v0) q_2 dX0_spreadOn_58 ?_
        refine cX0_126 C h_v0 (m_X0_see l h_v0 h) ⟨Nat.le_of_ble_eq_true rfl, Nat.le_of_ble_eq_true rfl⟩ (Nat.le_of_ble_eq_true rfl) ⟨Nat.le_refl 0, Nat.le_refl 0⟩ dX0_spreadOn_59 (fun M_2 h => ?_)
        refine r_iinc C 3 (v := _) [(3, .int _), (0, .ref _), (1, .int _), (2, .int _)] dX0_spreadOn_62 rfl rfl (by decide) rfl ?_
        refine r_goto C 26 dX0_spreadOn_65 (by decide) ?_
        exact r_sub [1, 2, 3, 0] rfl (ih _ _ h)

def L_X0_spreadOn_2 (v0 : Nat) (X74 : Mem → Prop) (K : Mem → Prop) : Nat → Int32 → Mem → Prop
  | 0, _, _ => False
  | n + 1, v1, M => (((M.1 v0 14) ≤ v1 → X74 M) ∧ (¬ (M.1 v0 14) ≤ v1 → (((300 : Int32) ≤ v1 → X74 M) ∧ (¬ (300 : Int32) ≤ v1 → vp_in v1 300 ∧ ∀ x2 : Int32, x2 = gI M (v0 + 10) v1 → (∃ k26 : Nat, L_X0_spreadOn_26 v0 v1 x2 (fun  (M_3 : Mem) => L_X0_spreadOn_2 v0 X74 K n (v1 + (1 : Int32)) M_3) K k26 (0 : Int32) M)))))

set_option maxHeartbeats 1000000 in
set_option maxRecDepth 10000 in
theorem mL_X0_spreadOn_2 (C : rw_C p s m meth c cX0_spreadOn 4 RX0 none D cy ad) {v0 : Nat} (h_v0 : isX0 v0) {X74 : Mem → Prop} {K : Mem → Prop} (hX74 : ∀  (M : Mem), X74 M → rw_W p l e rm_X0_spreadOn s m args below meth c D cy ad 4 0 0 (rw_Qv below args s D cy ad K) 74 [] [] M) : ∀ (n : Nat) (v1 : Int32) (M : Mem), L_X0_spreadOn_2 v0 X74 K n v1 M → rw_W p l e rm_X0_spreadOn s m args below meth c D cy ad 4 0 0 (rw_Qv below args s D cy ad K) 2 [(0, .ref (ad v0)), (1, .int v1)] [] M := by
  intro n
  induction n with
  | zero => intro v1 M h; exact h.elim
  | succ n ih =>
    intro v1 M h
    refine r_iload_n C 1 dX0_spreadOn_2 rfl rfl ?_
    refine r_aload_n C 0 dX0_spreadOn_3 rfl rfl ?_
    refine gX0_56 C h_v0 dX0_spreadOn_4 ?_
    refine r_icmp_ge C 74 dX0_spreadOn_7 (by decide) (fun hc => ?_) (fun hc => ?_)
    · replace h := h.1 hc
      exact r_sub [] rfl (hX74 _ h)
    · replace h := h.2 hc
      refine r_iload_n C 1 dX0_spreadOn_10 rfl rfl ?_
      refine r_sipush (v := (300 : Int32)) C dX0_spreadOn_11 rfl ?_
      refine r_icmp_ge C 74 dX0_spreadOn_14 (by decide) (fun hc => ?_) (fun hc => ?_)
      · replace h := h.1 hc
        exact r_sub [] rfl (hX74 _ h)
      · replace h := h.2 hc
        refine r_aload_n C 0 dX0_spreadOn_17 rfl rfl ?_
        refine gX0_39 C h_v0 dX0_spreadOn_18 ?_
        refine r_iload_n C 1 dX0_spreadOn_21 rfl rfl ?_
        obtain ⟨q, h⟩ := h
        refine r_iald C (isX0_A10 h_v0) q dX0_spreadOn_22 ?_
        refine r_istore_n C [(2, .int _), (0, .ref _), (1, .int _)] dX0_spreadOn_23 rfl (by decide) rfl ?_
        replace h := h _ rfl
        refine r_iconst (v := (0 : Int32)) C dX0_spreadOn_24 rfl ?_
        refine r_istore_n C [(3, .int _), (2, .int _), (0, .ref _), (1, .int _)] dX0_spreadOn_25 rfl (by decide) rfl ?_
        obtain ⟨n26, h⟩ := h
        refine r_sub [2, 3, 1, 0] rfl (mL_X0_spreadOn_26 C h_v0 (fun M_3 h => ?_) n26 _ _ h)
        refine r_iinc C 1 (v := _) [(1, .int _), (0, .ref _)] dX0_spreadOn_68 rfl rfl (by decide) rfl ?_
        refine r_goto C 2 dX0_spreadOn_71 (by decide) ?_
        exact r_sub [1, 0] rfl (ih _ _ h)

def f_X0_spreadOn (v0 : Nat) (M : Mem) (K : Mem → Prop) : Prop := (∃ k2 : Nat, L_X0_spreadOn_2 v0 (fun  (M_4 : Mem) => K M_4) K k2 (0 : Int32) M)

set_option maxHeartbeats 1000000 in
set_option maxRecDepth 10000 in
theorem m_X0_spreadOn (l : Launch) {v0 : Nat} (h_v0 : isX0 v0) {M : Mem} {K : Mem → Prop} (h : f_X0_spreadOn v0 M K) : CTv l yX0_spreadOn cX0_spreadOn 4 none rm_X0_spreadOn (fun ad => [.ref (ad v0)]) M K := by
  refine rw_entv (by decide +kernel) (fun ad => Nat.le_of_ble_eq_true rfl) (fun p e s m args below meth c D cy ad C => ?_)
  change rw_W p l e _ s m args below meth c D cy ad 4 0 0 _ 0 [(0, .ref (ad v0))] [] M
  unfold f_X0_spreadOn at h
  refine r_iconst (v := (0 : Int32)) C dX0_spreadOn_0 rfl ?_
  refine r_istore_n C [(1, .int _), (0, .ref _)] dX0_spreadOn_1 rfl (by decide) rfl ?_
  obtain ⟨n2, h⟩ := h
  refine r_sub [1, 0] rfl (mL_X0_spreadOn_2 C h_v0 (fun M_4 h => ?_) n2 _ _ h)
  exact r_vret C dX0_spreadOn_74 h
set_option maxHeartbeats 1000000 in
set_option maxRecDepth 10000 in
theorem mD_X0_findHomes_40 (C : rw_C p s m meth c cX0_findHomes 3 RX0 none D cy ad) {Q : State → Prop} {st : List Value} {M : Mem} {v1 : Int32} {v0 : Nat} {o0 : Int32} {o1 : Int32} (h_v0 : isX0 v0) (kk : rw_W p l e R s m args below meth c D cy ad 3 0 0 Q 48 [(1, .int v1), (0, .ref (ad v0))] (.int (if ¬ o1 = o0 then (0 : Int32) else (1 : Int32)) :: st) M) : rw_W p l e R s m args below meth c D cy ad 3 0 0 Q 40 [(1, .int v1), (0, .ref (ad v0))] (.int o0 :: .int o1 :: st) M := by
  refine r_icmp_ne C 47 dX0_findHomes_40 (by decide) (fun z0 => ?_) (fun z0 => ?_)
  · skip
    refine r_iconst (v := (0 : Int32)) C dX0_findHomes_47 rfl ?_
    first | rw [if_pos z0] at kk | rw [if_neg (fun q9 => q9 z0)] at kk
    exact kk
  · skip
    refine r_iconst (v := (1 : Int32)) C dX0_findHomes_43 rfl ?_
    refine r_goto C 48 dX0_findHomes_44 (by decide) ?_
    first | rw [if_neg z0] at kk | rw [if_neg (fun q9 => q9 z0)] at kk
    exact kk

def S_X0_findHomes_54 (v0 : Nat) (v1 : Int32) (o0 : Int32) (X66 : Mem → Prop) (K : Mem → Prop) (M : Mem) : Prop := (o0 = 0 → X66 M) ∧ (¬ o0 = 0 → f_X0_see v0 v1 M (fun (M_8 : Mem) => f_X0_spreadOn v0 M_8 (fun (M_9 : Mem) => X66 M_9)))

set_option maxHeartbeats 1000000 in
set_option maxRecDepth 10000 in
theorem mS_X0_findHomes_54 (C : rw_C p s m meth c cX0_findHomes 3 RX0 none D cy ad) {v0 : Nat} {v1 : Int32} {o0 : Int32} (h_v0 : isX0 v0) {X66 : Mem → Prop} {K : Mem → Prop} {M : Mem} (hX66 : ∀  (M : Mem), X66 M → rw_W p l e rm_X0_findHomes s m args below meth c D cy ad 3 0 0 (rw_Qv below args s D cy ad K) 66 [(0, .ref (ad v0))] [] M) (h : S_X0_findHomes_54 v0 v1 o0 X66 K M) : rw_W p l e rm_X0_findHomes s m args below meth c D cy ad 3 0 0 (rw_Qv below args s D cy ad K) 54 [(0, .ref (ad v0)), (1, .int v1)] [.int o0] M := by
  refine r_if_eq C 66 dX0_findHomes_54 (by decide) (fun hc => ?_) (fun hc => ?_)
  · replace h := h.1 hc
    exact r_sub [0] rfl (hX66 _ h)
  · replace h := h.2 hc
    refine r_aload_n C 0 dX0_findHomes_57 rfl rfl ?_
    refine r_iload_n C 1 dX0_findHomes_58 rfl rfl ?_
    refine cX0_126 C h_v0 (m_X0_see l h_v0 h) ⟨Nat.le_of_ble_eq_true rfl, Nat.le_of_ble_eq_true rfl⟩ (Nat.le_of_ble_eq_true rfl) ⟨Nat.le_refl 0, Nat.le_refl 0⟩ dX0_findHomes_59 (fun M_8 h => ?_)
    refine r_aload_n C 0 dX0_findHomes_62 rfl rfl ?_
    refine cX0_137 C h_v0 (m_X0_spreadOn l h_v0 h) ⟨Nat.le_of_ble_eq_true rfl, Nat.le_of_ble_eq_true rfl⟩ (Nat.le_of_ble_eq_true rfl) ⟨Nat.le_refl 0, Nat.le_refl 0⟩ dX0_findHomes_63 (fun M_9 h => ?_)
    exact r_sub [0] rfl (hX66 _ h)

def f_X0_findHomes (v0 : Nat) (M : Mem) (K : Mem → Prop) : Prop := (((M.1 v0 16) = (-1 : Int32) → f_X0_linkBack v0 M (fun (M_2 : Mem) => f_X0_lastStart v0 M_2 (fun (r_2 : Int32) (M_3 : Mem) => f_X0_forgetSeen v0 M_3 (fun (M_4 : Mem) => f_X0_see v0 r_2 M_4 (fun (M_5 : Mem) => f_X0_spreadBack v0 (0 : Int32) M_5 (fun (M_6 : Mem) => ∀ x2 : Int32, x2 = (if ¬ (M_6.1 v0 14) = (M_6.1 v0 12) then (0 : Int32) else (1 : Int32)) → f_X0_forgetSeen v0 M_6 (fun (M_7 : Mem) => (S_X0_findHomes_54 v0 r_2 x2 (fun  (M_10 : Mem) => ∀ M_11 : Mem, M_11 = wI M_10 v0 16 (M_10.1 v0 14) → (¬ (M_11.1 v0 12) < 0) ∧ ((0 : Int32).toNatClampNeg + (M_11.1 v0 12).toNatClampNeg ≤ 300) ∧ ((0 : Int32).toNatClampNeg + (M_11.1 v0 12).toNatClampNeg ≤ 300) ∧ ∀ M_12 : Mem, M_12 = wC M_11 (v0 + 9) (v0 + 11) (0 : Int32).toNatClampNeg (0 : Int32).toNatClampNeg (M_11.1 v0 12).toNatClampNeg → K M_12) K M_7)))))))) ∧ (¬ (M.1 v0 16) = (-1 : Int32) → K M))

set_option maxHeartbeats 1000000 in
set_option maxRecDepth 10000 in
theorem m_X0_findHomes (l : Launch) {v0 : Nat} (h_v0 : isX0 v0) {M : Mem} {K : Mem → Prop} (h : f_X0_findHomes v0 M K) : CTv l yX0_findHomes cX0_findHomes 3 none rm_X0_findHomes (fun ad => [.ref (ad v0)]) M K := by
  refine rw_entv (by decide +kernel) (fun ad => Nat.le_of_ble_eq_true rfl) (fun p e s m args below meth c D cy ad C => ?_)
  change rw_W p l e _ s m args below meth c D cy ad 3 0 0 _ 0 [(0, .ref (ad v0))] [] M
  unfold f_X0_findHomes at h
  refine r_aload_n C 0 dX0_findHomes_0 rfl rfl ?_
  refine gX0_62 C h_v0 dX0_findHomes_1 ?_
  refine r_iconst (v := (-1 : Int32)) C dX0_findHomes_4 rfl ?_
  refine r_icmp_eq C 9 dX0_findHomes_5 (by decide) (fun hc => ?_) (fun hc => ?_)
  · replace h := h.1 hc
    refine r_aload_n C 0 dX0_findHomes_9 rfl rfl ?_
    refine cX0_114 C h_v0 (m_X0_linkBack l h_v0 h) ⟨Nat.le_of_ble_eq_true rfl, Nat.le_of_ble_eq_true rfl⟩ (Nat.le_of_ble_eq_true rfl) ⟨Nat.le_refl 0, Nat.le_refl 0⟩ dX0_findHomes_10 (fun M_2 h => ?_)
    refine r_aload_n C 0 dX0_findHomes_13 rfl rfl ?_
    refine cX0_133 C h_v0 (m_X0_lastStart l h_v0 h) ⟨Nat.le_of_ble_eq_true rfl, Nat.le_of_ble_eq_true rfl⟩ (Nat.le_of_ble_eq_true rfl) ⟨Nat.le_refl 0, Nat.le_refl 0⟩ dX0_findHomes_14 (fun r_2 M_3 h => ?_)
    refine r_istore_n C [(1, .int _), (0, .ref _)] dX0_findHomes_17 rfl (by decide) rfl ?_
    refine r_aload_n C 1 dX0_findHomes_18 rfl rfl ?_
    refine cX0_123 C h_v0 (m_X0_forgetSeen l h_v0 h) ⟨Nat.le_of_ble_eq_true rfl, Nat.le_of_ble_eq_true rfl⟩ (Nat.le_of_ble_eq_true rfl) ⟨Nat.le_refl 0, Nat.le_refl 0⟩ dX0_findHomes_19 (fun M_4 h => ?_)
    refine r_aload_n C 1 dX0_findHomes_22 rfl rfl ?_
    refine r_iload_n C 0 dX0_findHomes_23 rfl rfl ?_
    refine cX0_126 C h_v0 (m_X0_see l h_v0 h) ⟨Nat.le_of_ble_eq_true rfl, Nat.le_of_ble_eq_true rfl⟩ (Nat.le_of_ble_eq_true rfl) ⟨Nat.le_refl 0, Nat.le_refl 0⟩ dX0_findHomes_24 (fun M_5 h => ?_)
    refine r_aload_n C 1 dX0_findHomes_27 rfl rfl ?_
    refine r_iconst (v := (0 : Int32)) C dX0_findHomes_28 rfl ?_
    refine cX0_130 C h_v0 (m_X0_spreadBack l h_v0 h) ⟨Nat.le_of_ble_eq_true rfl, Nat.le_of_ble_eq_true rfl⟩ (Nat.le_of_ble_eq_true rfl) ⟨Nat.le_refl 0, Nat.le_refl 0⟩ dX0_findHomes_29 (fun M_6 h => ?_)
    refine r_aload_n C 1 dX0_findHomes_32 rfl rfl ?_
    refine gX0_56 C h_v0 dX0_findHomes_33 ?_
    refine r_aload_n C 1 dX0_findHomes_36 rfl rfl ?_
    refine gX0_49 C h_v0 dX0_findHomes_37 ?_
    refine mD_X0_findHomes_40 C h_v0 ?_
    refine r_istore_n C [(2, .int _), (1, .int _), (0, .ref _)] dX0_findHomes_48 rfl (by decide) rfl ?_
    replace h := h _ rfl
    refine r_aload_n C 2 dX0_findHomes_49 rfl rfl ?_
    refine cX0_123 C h_v0 (m_X0_forgetSeen l h_v0 h) ⟨Nat.le_of_ble_eq_true rfl, Nat.le_of_ble_eq_true rfl⟩ (Nat.le_of_ble_eq_true rfl) ⟨Nat.le_refl 0, Nat.le_refl 0⟩ dX0_findHomes_50 (fun M_7 h => ?_)
    refine r_iload_n C 0 dX0_findHomes_53 rfl rfl ?_
    refine r_sub [2, 1] rfl (mS_X0_findHomes_54 C h_v0 (fun M_10 h => ?_) h)
    refine r_aload_n C 0 dX0_findHomes_66 rfl rfl ?_
    refine r_aload_n C 0 dX0_findHomes_67 rfl rfl ?_
    refine gX0_56 C h_v0 dX0_findHomes_68 ?_
    refine pX0_62 C h_v0 dX0_findHomes_71 ?_
    replace h := h _ rfl
    refine r_aload_n C 0 dX0_findHomes_74 rfl rfl ?_
    refine gX0_36 C h_v0 dX0_findHomes_75 ?_
    refine r_iconst (v := (0 : Int32)) C dX0_findHomes_78 rfl ?_
    refine r_aload_n C 0 dX0_findHomes_79 rfl rfl ?_
    refine gX0_42 C h_v0 dX0_findHomes_80 ?_
    refine r_iconst (v := (0 : Int32)) C dX0_findHomes_83 rfl ?_
    refine r_aload_n C 0 dX0_findHomes_84 rfl rfl ?_
    refine gX0_49 C h_v0 dX0_findHomes_85 ?_
    obtain ⟨q, h⟩ := h
    obtain ⟨q_2, h⟩ := h
    obtain ⟨q_3, h⟩ := h
    refine cX0_79 C (isX0_A9 h_v0) (isX0_A11 h_v0) (by decide +kernel) (by decide +kernel) q q_2 q_3 ⟨Nat.le_of_ble_eq_true rfl, by decide +kernel⟩ dX0_findHomes_88 ?_
    replace h := h _ rfl
    exact r_vret C dX0_findHomes_91 h
  · replace h := h.2 hc
    exact r_vret C dX0_findHomes_8 h
def f_X1_clear (v0 : Nat) (M : Mem) (K : Mem → Prop) : Prop := f_J7_fill_53178 (v0 + 1) (0 : Int32) M (fun (M_2 : Mem) => f_J7_fill_53178 (v0 + 2) (0 : Int32) M_2 (fun (M_3 : Mem) => f_J7_fill_53178 (v0 + 3) (0 : Int32) M_3 (fun (M_4 : Mem) => ∀ M_5 : Mem, M_5 = wI M_4 v0 3 (0 : Int32) → ∀ M_6 : Mem, M_6 = wI M_5 v0 4 (0 : Int32) → ∀ M_7 : Mem, M_7 = wI M_6 v0 5 (0 : Int32) → ∀ M_8 : Mem, M_8 = wI M_7 v0 6 (0 : Int32) → K M_8)))

set_option maxHeartbeats 1000000 in
set_option maxRecDepth 10000 in
theorem m_X1_clear (l : Launch) {v0 : Nat} (h_v0 : isX1 v0) {M : Mem} {K : Mem → Prop} (h : f_X1_clear v0 M K) : CTv l yX1_clear cX1_clear 1 none rm_X1_clear (fun ad => [.ref (ad v0)]) M K := by
  refine rw_entv (by decide +kernel) (fun ad => Nat.le_of_ble_eq_true rfl) (fun p e s m args below meth c D cy ad C => ?_)
  change rw_W p l e _ s m args below meth c D cy ad 1 0 0 _ 0 [(0, .ref (ad v0))] [] M
  unfold f_X1_clear at h
  refine r_aload_n C 0 dX1_clear_0 rfl rfl ?_
  refine gX1_9 C h_v0 dX1_clear_1 ?_
  refine r_iconst (v := (0 : Int32)) C dX1_clear_4 rfl ?_
  refine cX1_40 C (m_J7_fill_53178 l (isI_of (isX1_A1 h_v0)) h) ⟨Nat.le_of_ble_eq_true rfl, Nat.le_of_ble_eq_true rfl⟩ (Nat.le_of_ble_eq_true rfl) ⟨Nat.le_refl 0, Nat.le_refl 0⟩ dX1_clear_5 (fun M_2 h => ?_)
  refine r_aload_n C 0 dX1_clear_8 rfl rfl ?_
  refine gX1_15 C h_v0 dX1_clear_9 ?_
  refine r_iconst (v := (0 : Int32)) C dX1_clear_12 rfl ?_
  refine cX1_40 C (m_J7_fill_53178 l (isI_of (isX1_A2 h_v0)) h) ⟨Nat.le_of_ble_eq_true rfl, Nat.le_of_ble_eq_true rfl⟩ (Nat.le_of_ble_eq_true rfl) ⟨Nat.le_refl 0, Nat.le_refl 0⟩ dX1_clear_13 (fun M_3 h => ?_)
  refine r_aload_n C 0 dX1_clear_16 rfl rfl ?_
  refine gX1_18 C h_v0 dX1_clear_17 ?_
  refine r_iconst (v := (0 : Int32)) C dX1_clear_20 rfl ?_
  refine cX1_40 C (m_J7_fill_53178 l (isI_of (isX1_A3 h_v0)) h) ⟨Nat.le_of_ble_eq_true rfl, Nat.le_of_ble_eq_true rfl⟩ (Nat.le_of_ble_eq_true rfl) ⟨Nat.le_refl 0, Nat.le_refl 0⟩ dX1_clear_21 (fun M_4 h => ?_)
  refine r_aload_n C 0 dX1_clear_24 rfl rfl ?_
  refine r_iconst (v := (0 : Int32)) C dX1_clear_25 rfl ?_
  refine pX1_21 C h_v0 dX1_clear_26 ?_
  replace h := h _ rfl
  refine r_aload_n C 0 dX1_clear_29 rfl rfl ?_
  refine r_iconst (v := (0 : Int32)) C dX1_clear_30 rfl ?_
  refine pX1_25 C h_v0 dX1_clear_31 ?_
  replace h := h _ rfl
  refine r_aload_n C 0 dX1_clear_34 rfl rfl ?_
  refine r_iconst (v := (0 : Int32)) C dX1_clear_35 rfl ?_
  refine pX1_28 C h_v0 dX1_clear_36 ?_
  replace h := h _ rfl
  refine r_aload_n C 0 dX1_clear_39 rfl rfl ?_
  refine r_iconst (v := (0 : Int32)) C dX1_clear_40 rfl ?_
  refine pX1_31 C h_v0 dX1_clear_41 ?_
  replace h := h _ rfl
  exact r_vret C dX1_clear_44 h
def f_X1_copyFrom (v0 : Nat) (v1 : Nat) (M : Mem) (K : Mem → Prop) : Prop := ∀ M_2 : Mem, M_2 = wC M (v1 + 1) (v0 + 1) (0 : Int32).toNatClampNeg (0 : Int32).toNatClampNeg (80 : Int32).toNatClampNeg → ∀ M_3 : Mem, M_3 = wC M_2 (v1 + 2) (v0 + 2) (0 : Int32).toNatClampNeg (0 : Int32).toNatClampNeg (80 : Int32).toNatClampNeg → ∀ M_4 : Mem, M_4 = wC M_3 (v1 + 3) (v0 + 3) (0 : Int32).toNatClampNeg (0 : Int32).toNatClampNeg (10 : Int32).toNatClampNeg → ∀ M_5 : Mem, M_5 = wI M_4 v0 3 (M_4.1 v1 3) → ∀ M_6 : Mem, M_6 = wI M_5 v0 4 (M_5.1 v1 4) → ∀ M_7 : Mem, M_7 = wI M_6 v0 5 (M_6.1 v1 5) → ∀ M_8 : Mem, M_8 = wI M_7 v0 6 (M_7.1 v1 6) → ∀ M_9 : Mem, M_9 = wI M_8 v0 7 (M_8.1 v1 7) → ∀ M_10 : Mem, M_10 = wI M_9 v0 8 (M_9.1 v1 8) → K M_10

set_option maxHeartbeats 1000000 in
set_option maxRecDepth 10000 in
theorem m_X1_copyFrom (l : Launch) {v0 : Nat} {v1 : Nat} (h_v0 : isX1 v0) (h_v1 : isX1 v1) {M : Mem} {K : Mem → Prop} (h : f_X1_copyFrom v0 v1 M K) : CTv l yX1_copyFrom cX1_copyFrom 2 none rm_X1_copyFrom (fun ad => [.ref (ad v0), .ref (ad v1)]) M K := by
  refine rw_entv (by decide +kernel) (fun ad => Nat.le_of_ble_eq_true rfl) (fun p e s m args below meth c D cy ad C => ?_)
  change rw_W p l e _ s m args below meth c D cy ad 2 0 0 _ 0 [(0, .ref (ad v0)), (1, .ref (ad v1))] [] M
  unfold f_X1_copyFrom at h
  refine r_aload_n C 1 dX1_copyFrom_0 rfl rfl ?_
  refine gX1_9 C h_v1 dX1_copyFrom_1 ?_
  refine r_iconst (v := (0 : Int32)) C dX1_copyFrom_4 rfl ?_
  refine r_aload_n C 0 dX1_copyFrom_5 rfl rfl ?_
  refine gX1_9 C h_v0 dX1_copyFrom_6 ?_
  refine r_iconst (v := (0 : Int32)) C dX1_copyFrom_9 rfl ?_
  refine r_bipush (v := (80 : Int32)) C dX1_copyFrom_10 rfl ?_
  refine cX1_46 C (isX1_A1 h_v1) (isX1_A1 h_v0) (by decide +kernel) (by decide +kernel) (by decide +kernel) (by decide +kernel) (by decide +kernel) ⟨Nat.le_of_ble_eq_true rfl, by decide +kernel⟩ dX1_copyFrom_12 ?_
  replace h := h _ rfl
  refine r_aload_n C 1 dX1_copyFrom_15 rfl rfl ?_
  refine gX1_15 C h_v1 dX1_copyFrom_16 ?_
  refine r_iconst (v := (0 : Int32)) C dX1_copyFrom_19 rfl ?_
  refine r_aload_n C 0 dX1_copyFrom_20 rfl rfl ?_
  refine gX1_15 C h_v0 dX1_copyFrom_21 ?_
  refine r_iconst (v := (0 : Int32)) C dX1_copyFrom_24 rfl ?_
  refine r_bipush (v := (80 : Int32)) C dX1_copyFrom_25 rfl ?_
  refine cX1_46 C (isX1_A2 h_v1) (isX1_A2 h_v0) (by decide +kernel) (by decide +kernel) (by decide +kernel) (by decide +kernel) (by decide +kernel) ⟨Nat.le_of_ble_eq_true rfl, by decide +kernel⟩ dX1_copyFrom_27 ?_
  replace h := h _ rfl
  refine r_aload_n C 1 dX1_copyFrom_30 rfl rfl ?_
  refine gX1_18 C h_v1 dX1_copyFrom_31 ?_
  refine r_iconst (v := (0 : Int32)) C dX1_copyFrom_34 rfl ?_
  refine r_aload_n C 0 dX1_copyFrom_35 rfl rfl ?_
  refine gX1_18 C h_v0 dX1_copyFrom_36 ?_
  refine r_iconst (v := (0 : Int32)) C dX1_copyFrom_39 rfl ?_
  refine r_bipush (v := (10 : Int32)) C dX1_copyFrom_40 rfl ?_
  refine cX1_46 C (isX1_A3 h_v1) (isX1_A3 h_v0) (by decide +kernel) (by decide +kernel) (by decide +kernel) (by decide +kernel) (by decide +kernel) ⟨Nat.le_of_ble_eq_true rfl, by decide +kernel⟩ dX1_copyFrom_42 ?_
  replace h := h _ rfl
  refine r_aload_n C 0 dX1_copyFrom_45 rfl rfl ?_
  refine r_aload_n C 1 dX1_copyFrom_46 rfl rfl ?_
  refine gX1_21 C h_v1 dX1_copyFrom_47 ?_
  refine pX1_21 C h_v0 dX1_copyFrom_50 ?_
  replace h := h _ rfl
  refine r_aload_n C 0 dX1_copyFrom_53 rfl rfl ?_
  refine r_aload_n C 1 dX1_copyFrom_54 rfl rfl ?_
  refine gX1_25 C h_v1 dX1_copyFrom_55 ?_
  refine pX1_25 C h_v0 dX1_copyFrom_58 ?_
  replace h := h _ rfl
  refine r_aload_n C 0 dX1_copyFrom_61 rfl rfl ?_
  refine r_aload_n C 1 dX1_copyFrom_62 rfl rfl ?_
  refine gX1_28 C h_v1 dX1_copyFrom_63 ?_
  refine pX1_28 C h_v0 dX1_copyFrom_66 ?_
  replace h := h _ rfl
  refine r_aload_n C 0 dX1_copyFrom_69 rfl rfl ?_
  refine r_aload_n C 1 dX1_copyFrom_70 rfl rfl ?_
  refine gX1_31 C h_v1 dX1_copyFrom_71 ?_
  refine pX1_31 C h_v0 dX1_copyFrom_74 ?_
  replace h := h _ rfl
  refine r_aload_n C 0 dX1_copyFrom_77 rfl rfl ?_
  refine r_aload_n C 1 dX1_copyFrom_78 rfl rfl ?_
  refine gX1_34 C h_v1 dX1_copyFrom_79 ?_
  refine pX1_34 C h_v0 dX1_copyFrom_82 ?_
  replace h := h _ rfl
  refine r_aload_n C 0 dX1_copyFrom_85 rfl rfl ?_
  refine r_aload_n C 1 dX1_copyFrom_86 rfl rfl ?_
  refine gX1_37 C h_v1 dX1_copyFrom_87 ?_
  refine pX1_37 C h_v0 dX1_copyFrom_90 ?_
  replace h := h _ rfl
  exact r_vret C dX1_copyFrom_93 h
def f_X1_addPlace (v0 : Nat) (v1 : Int32) (M : Mem) (K : Mem → Prop) : Prop := (((10 : Int32) ≤ (M.1 v0 3) → K M) ∧ (¬ (10 : Int32) ≤ (M.1 v0 3) → vp_in (M.1 v0 3) 10 ∧ ∀ M_2 : Mem, M_2 = wI M (v0 + 3) (M.1 v0 3).toNatClampNeg v1 → ∀ M_3 : Mem, M_3 = wI M_2 v0 5 ((M_2.1 v0 5) ||| ((1 : Int32) <<< ((M_2.1 v0 3) &&& 31))) → ∀ M_4 : Mem, M_4 = wI M_3 v0 3 ((M_3.1 v0 3) + (1 : Int32)) → K M_4))

set_option maxHeartbeats 1000000 in
set_option maxRecDepth 10000 in
theorem m_X1_addPlace (l : Launch) {v0 : Nat} {v1 : Int32} (h_v0 : isX1 v0) {M : Mem} {K : Mem → Prop} (h : f_X1_addPlace v0 v1 M K) : CTv l yX1_addPlace cX1_addPlace 2 none rm_X1_addPlace (fun ad => [.ref (ad v0), .int v1]) M K := by
  refine rw_entv (by decide +kernel) (fun ad => Nat.le_of_ble_eq_true rfl) (fun p e s m args below meth c D cy ad C => ?_)
  change rw_W p l e _ s m args below meth c D cy ad 2 0 0 _ 0 [(0, .ref (ad v0)), (1, .int v1)] [] M
  unfold f_X1_addPlace at h
  refine r_aload_n C 0 dX1_addPlace_0 rfl rfl ?_
  refine gX1_21 C h_v0 dX1_addPlace_1 ?_
  refine r_bipush (v := (10 : Int32)) C dX1_addPlace_4 rfl ?_
  refine r_icmp_ge C 44 dX1_addPlace_6 (by decide) (fun hc => ?_) (fun hc => ?_)
  · replace h := h.1 hc
    exact r_vret C dX1_addPlace_44 h
  · replace h := h.2 hc
    refine r_aload_n C 0 dX1_addPlace_9 rfl rfl ?_
    refine gX1_18 C h_v0 dX1_addPlace_10 ?_
    refine r_aload_n C 0 dX1_addPlace_13 rfl rfl ?_
    refine gX1_21 C h_v0 dX1_addPlace_14 ?_
    refine r_iload_n C 1 dX1_addPlace_17 rfl rfl ?_
    obtain ⟨q, h⟩ := h
    refine r_iast C (isX1_A3 h_v0) q dX1_addPlace_18 ?_
    replace h := h _ rfl
    refine r_aload_n C 0 dX1_addPlace_19 rfl rfl ?_
    refine r_dup C dX1_addPlace_20 rfl ?_
    refine gX1_28 C h_v0 dX1_addPlace_21 ?_
    refine r_iconst (v := (1 : Int32)) C dX1_addPlace_24 rfl ?_
    refine r_aload_n C 0 dX1_addPlace_25 rfl rfl ?_
    refine gX1_21 C h_v0 dX1_addPlace_26 ?_
    refine r_ishl C dX1_addPlace_29 ?_
    refine r_ior C dX1_addPlace_30 ?_
    refine pX1_28 C h_v0 dX1_addPlace_31 ?_
    replace h := h _ rfl
    refine r_aload_n C 0 dX1_addPlace_34 rfl rfl ?_
    refine r_dup C dX1_addPlace_35 rfl ?_
    refine gX1_21 C h_v0 dX1_addPlace_36 ?_
    refine r_iconst (v := (1 : Int32)) C dX1_addPlace_39 rfl ?_
    refine r_iadd C dX1_addPlace_40 ?_
    refine pX1_21 C h_v0 dX1_addPlace_41 ?_
    replace h := h _ rfl
    exact r_vret C dX1_addPlace_44 h
def f_X1_addStep (v0 : Nat) (M : Mem) (K : Mem → Prop) : Prop := (((8 : Int32) ≤ (M.1 v0 4) → K M) ∧ (¬ (8 : Int32) ≤ (M.1 v0 4) → ∀ M_2 : Mem, M_2 = wI M v0 6 ((M.1 v0 6) ||| ((1 : Int32) <<< ((M.1 v0 4) &&& 31))) → ∀ M_3 : Mem, M_3 = wI M_2 v0 4 ((M_2.1 v0 4) + (1 : Int32)) → K M_3))

set_option maxHeartbeats 1000000 in
set_option maxRecDepth 10000 in
theorem m_X1_addStep (l : Launch) {v0 : Nat} (h_v0 : isX1 v0) {M : Mem} {K : Mem → Prop} (h : f_X1_addStep v0 M K) : CTv l yX1_addStep cX1_addStep 1 none rm_X1_addStep (fun ad => [.ref (ad v0)]) M K := by
  refine rw_entv (by decide +kernel) (fun ad => Nat.le_of_ble_eq_true rfl) (fun p e s m args below meth c D cy ad C => ?_)
  change rw_W p l e _ s m args below meth c D cy ad 1 0 0 _ 0 [(0, .ref (ad v0))] [] M
  unfold f_X1_addStep at h
  refine r_aload_n C 0 dX1_addStep_0 rfl rfl ?_
  refine gX1_25 C h_v0 dX1_addStep_1 ?_
  refine r_bipush (v := (8 : Int32)) C dX1_addStep_4 rfl ?_
  refine r_icmp_ge C 34 dX1_addStep_6 (by decide) (fun hc => ?_) (fun hc => ?_)
  · replace h := h.1 hc
    exact r_vret C dX1_addStep_34 h
  · replace h := h.2 hc
    refine r_aload_n C 0 dX1_addStep_9 rfl rfl ?_
    refine r_dup C dX1_addStep_10 rfl ?_
    refine gX1_31 C h_v0 dX1_addStep_11 ?_
    refine r_iconst (v := (1 : Int32)) C dX1_addStep_14 rfl ?_
    refine r_aload_n C 0 dX1_addStep_15 rfl rfl ?_
    refine gX1_25 C h_v0 dX1_addStep_16 ?_
    refine r_ishl C dX1_addStep_19 ?_
    refine r_ior C dX1_addStep_20 ?_
    refine pX1_31 C h_v0 dX1_addStep_21 ?_
    replace h := h _ rfl
    refine r_aload_n C 0 dX1_addStep_24 rfl rfl ?_
    refine r_dup C dX1_addStep_25 rfl ?_
    refine gX1_25 C h_v0 dX1_addStep_26 ?_
    refine r_iconst (v := (1 : Int32)) C dX1_addStep_29 rfl ?_
    refine r_iadd C dX1_addStep_30 ?_
    refine pX1_25 C h_v0 dX1_addStep_31 ?_
    replace h := h _ rfl
    exact r_vret C dX1_addStep_34 h
def L_X1_dropPlace_2 (v0 : Nat) (v1 : Int32) (X38 : Mem → Prop) (K : Mem → Prop) : Nat → Int32 → Mem → Prop
  | 0, _, _ => False
  | n + 1, v2, M => (((8 : Int32) ≤ v2 → X38 M) ∧ (¬ (8 : Int32) ≤ v2 → vp_in ((v2 * (10 : Int32)) + v1) 80 ∧ ∀ M_2 : Mem, M_2 = wI M (v0 + 1) ((v2 * (10 : Int32)) + v1).toNatClampNeg (0 : Int32) → ∀ M_3 : Mem, M_3 = wI M_2 (v0 + 2) ((v2 * (10 : Int32)) + v1).toNatClampNeg (0 : Int32) → L_X1_dropPlace_2 v0 v1 X38 K n (v2 + (1 : Int32)) M_3))

set_option maxHeartbeats 1000000 in
set_option maxRecDepth 10000 in
theorem mL_X1_dropPlace_2 (C : rw_C p s m meth c cX1_dropPlace 3 RX1 none D cy ad) {v0 : Nat} {v1 : Int32} (h_v0 : isX1 v0) {X38 : Mem → Prop} {K : Mem → Prop} (hX38 : ∀  (M : Mem), X38 M → rw_W p l e rm_X1_dropPlace s m args below meth c D cy ad 3 0 0 (rw_Qv below args s D cy ad K) 38 [(0, .ref (ad v0)), (1, .int v1)] [] M) : ∀ (n : Nat) (v2 : Int32) (M : Mem), L_X1_dropPlace_2 v0 v1 X38 K n v2 M → rw_W p l e rm_X1_dropPlace s m args below meth c D cy ad 3 0 0 (rw_Qv below args s D cy ad K) 2 [(0, .ref (ad v0)), (1, .int v1), (2, .int v2)] [] M := by
  intro n
  induction n with
  | zero => intro v2 M h; exact h.elim
  | succ n ih =>
    intro v2 M h
    refine r_iload_n C 2 dX1_dropPlace_2 rfl rfl ?_
    refine r_bipush (v := (8 : Int32)) C dX1_dropPlace_3 rfl ?_
    refine r_icmp_ge C 38 dX1_dropPlace_5 (by decide) (fun hc => ?_) (fun hc => ?_)
    · replace h := h.1 hc
      exact r_sub [0, 1] rfl (hX38 _ h)
    · replace h := h.2 hc
      refine r_aload_n C 0 dX1_dropPlace_8 rfl rfl ?_
      refine gX1_9 C h_v0 dX1_dropPlace_9 ?_
      refine r_iload_n C 2 dX1_dropPlace_12 rfl rfl ?_
      refine r_bipush (v := (10 : Int32)) C dX1_dropPlace_13 rfl ?_
      refine r_imul C dX1_dropPlace_15 ?_
      refine r_iload_n C 1 dX1_dropPlace_16 rfl rfl ?_
      refine r_iadd C dX1_dropPlace_17 ?_
      refine r_iconst (v := (0 : Int32)) C dX1_dropPlace_18 rfl ?_
      obtain ⟨q, h⟩ := h
      refine r_iast C (isX1_A1 h_v0) q dX1_dropPlace_19 ?_
      replace h := h _ rfl
      refine r_aload_n C 0 dX1_dropPlace_20 rfl rfl ?_
      refine gX1_15 C h_v0 dX1_dropPlace_21 ?_
      refine r_iload_n C 2 dX1_dropPlace_24 rfl rfl ?_
      refine r_bipush (v := (10 : Int32)) C dX1_dropPlace_25 rfl ?_
      refine r_imul C dX1_dropPlace_27 ?_
      refine r_iload_n C 1 dX1_dropPlace_28 rfl rfl ?_
      refine r_iadd C dX1_dropPlace_29 ?_
      refine r_iconst (v := (0 : Int32)) C dX1_dropPlace_30 rfl ?_
      refine r_iast C (isX1_A2 h_v0) q dX1_dropPlace_31 ?_
      replace h := h _ rfl
      refine r_iinc C 2 (v := _) [(2, .int _), (0, .ref _), (1, .int _)] dX1_dropPlace_32 rfl rfl (by decide) rfl ?_
      refine r_goto C 2 dX1_dropPlace_35 (by decide) ?_
      exact r_sub [1, 2, 0] rfl (ih _ _ h)

def f_X1_dropPlace (v0 : Nat) (v1 : Int32) (M : Mem) (K : Mem → Prop) : Prop := (∃ k2 : Nat, L_X1_dropPlace_2 v0 v1 (fun  (M_4 : Mem) => vp_in v1 10 ∧ ∀ M_5 : Mem, M_5 = wI M_4 (v0 + 3) v1.toNatClampNeg (0 : Int32) → ∀ M_6 : Mem, M_6 = wI M_5 v0 5 ((M_5.1 v0 5) &&& (((1 : Int32) <<< (v1 &&& 31)) ^^^ (-1 : Int32))) → K M_6) K k2 (0 : Int32) M)

set_option maxHeartbeats 1000000 in
set_option maxRecDepth 10000 in
theorem m_X1_dropPlace (l : Launch) {v0 : Nat} {v1 : Int32} (h_v0 : isX1 v0) {M : Mem} {K : Mem → Prop} (h : f_X1_dropPlace v0 v1 M K) : CTv l yX1_dropPlace cX1_dropPlace 3 none rm_X1_dropPlace (fun ad => [.ref (ad v0), .int v1]) M K := by
  refine rw_entv (by decide +kernel) (fun ad => Nat.le_of_ble_eq_true rfl) (fun p e s m args below meth c D cy ad C => ?_)
  change rw_W p l e _ s m args below meth c D cy ad 3 0 0 _ 0 [(0, .ref (ad v0)), (1, .int v1)] [] M
  unfold f_X1_dropPlace at h
  refine r_iconst (v := (0 : Int32)) C dX1_dropPlace_0 rfl ?_
  refine r_istore_n C [(2, .int _), (0, .ref _), (1, .int _)] dX1_dropPlace_1 rfl (by decide) rfl ?_
  obtain ⟨n2, h⟩ := h
  refine r_sub [1, 2, 0] rfl (mL_X1_dropPlace_2 C h_v0 (fun M_4 h => ?_) n2 _ _ h)
  refine r_aload_n C 0 dX1_dropPlace_38 rfl rfl ?_
  refine gX1_18 C h_v0 dX1_dropPlace_39 ?_
  refine r_iload_n C 1 dX1_dropPlace_42 rfl rfl ?_
  refine r_iconst (v := (0 : Int32)) C dX1_dropPlace_43 rfl ?_
  obtain ⟨q_2, h⟩ := h
  refine r_iast C (isX1_A3 h_v0) q_2 dX1_dropPlace_44 ?_
  replace h := h _ rfl
  refine r_aload_n C 0 dX1_dropPlace_45 rfl rfl ?_
  refine r_dup C dX1_dropPlace_46 rfl ?_
  refine gX1_28 C h_v0 dX1_dropPlace_47 ?_
  refine r_iconst (v := (1 : Int32)) C dX1_dropPlace_50 rfl ?_
  refine r_iload_n C 1 dX1_dropPlace_51 rfl rfl ?_
  refine r_ishl C dX1_dropPlace_52 ?_
  refine r_iconst (v := (-1 : Int32)) C dX1_dropPlace_53 rfl ?_
  refine r_ixor C dX1_dropPlace_54 ?_
  refine r_iand C dX1_dropPlace_55 ?_
  refine pX1_28 C h_v0 dX1_dropPlace_56 ?_
  replace h := h _ rfl
  exact r_vret C dX1_dropPlace_59 h
def L_X1_dropStep_2 (v0 : Nat) (v1 : Int32) (X38 : Mem → Prop) (K : Mem → Prop) : Nat → Int32 → Mem → Prop
  | 0, _, _ => False
  | n + 1, v2, M => (((10 : Int32) ≤ v2 → X38 M) ∧ (¬ (10 : Int32) ≤ v2 → vp_in ((v1 * (10 : Int32)) + v2) 80 ∧ ∀ M_2 : Mem, M_2 = wI M (v0 + 1) ((v1 * (10 : Int32)) + v2).toNatClampNeg (0 : Int32) → ∀ M_3 : Mem, M_3 = wI M_2 (v0 + 2) ((v1 * (10 : Int32)) + v2).toNatClampNeg (0 : Int32) → L_X1_dropStep_2 v0 v1 X38 K n (v2 + (1 : Int32)) M_3))

set_option maxHeartbeats 1000000 in
set_option maxRecDepth 10000 in
theorem mL_X1_dropStep_2 (C : rw_C p s m meth c cX1_dropStep 3 RX1 none D cy ad) {v0 : Nat} {v1 : Int32} (h_v0 : isX1 v0) {X38 : Mem → Prop} {K : Mem → Prop} (hX38 : ∀  (M : Mem), X38 M → rw_W p l e rm_X1_dropStep s m args below meth c D cy ad 3 0 0 (rw_Qv below args s D cy ad K) 38 [(0, .ref (ad v0)), (1, .int v1)] [] M) : ∀ (n : Nat) (v2 : Int32) (M : Mem), L_X1_dropStep_2 v0 v1 X38 K n v2 M → rw_W p l e rm_X1_dropStep s m args below meth c D cy ad 3 0 0 (rw_Qv below args s D cy ad K) 2 [(0, .ref (ad v0)), (1, .int v1), (2, .int v2)] [] M := by
  intro n
  induction n with
  | zero => intro v2 M h; exact h.elim
  | succ n ih =>
    intro v2 M h
    refine r_iload_n C 2 dX1_dropStep_2 rfl rfl ?_
    refine r_bipush (v := (10 : Int32)) C dX1_dropStep_3 rfl ?_
    refine r_icmp_ge C 38 dX1_dropStep_5 (by decide) (fun hc => ?_) (fun hc => ?_)
    · replace h := h.1 hc
      exact r_sub [0, 1] rfl (hX38 _ h)
    · replace h := h.2 hc
      refine r_aload_n C 0 dX1_dropStep_8 rfl rfl ?_
      refine gX1_9 C h_v0 dX1_dropStep_9 ?_
      refine r_iload_n C 1 dX1_dropStep_12 rfl rfl ?_
      refine r_bipush (v := (10 : Int32)) C dX1_dropStep_13 rfl ?_
      refine r_imul C dX1_dropStep_15 ?_
      refine r_iload_n C 2 dX1_dropStep_16 rfl rfl ?_
      refine r_iadd C dX1_dropStep_17 ?_
      refine r_iconst (v := (0 : Int32)) C dX1_dropStep_18 rfl ?_
      obtain ⟨q, h⟩ := h
      refine r_iast C (isX1_A1 h_v0) q dX1_dropStep_19 ?_
      replace h := h _ rfl
      refine r_aload_n C 0 dX1_dropStep_20 rfl rfl ?_
      refine gX1_15 C h_v0 dX1_dropStep_21 ?_
      refine r_iload_n C 1 dX1_dropStep_24 rfl rfl ?_
      refine r_bipush (v := (10 : Int32)) C dX1_dropStep_25 rfl ?_
      refine r_imul C dX1_dropStep_27 ?_
      refine r_iload_n C 2 dX1_dropStep_28 rfl rfl ?_
      refine r_iadd C dX1_dropStep_29 ?_
      refine r_iconst (v := (0 : Int32)) C dX1_dropStep_30 rfl ?_
      refine r_iast C (isX1_A2 h_v0) q dX1_dropStep_31 ?_
      replace h := h _ rfl
      refine r_iinc C 2 (v := _) [(2, .int _), (0, .ref _), (1, .int _)] dX1_dropStep_32 rfl rfl (by decide) rfl ?_
      refine r_goto C 2 dX1_dropStep_35 (by decide) ?_
      exact r_sub [1, 2, 0] rfl (ih _ _ h)

def f_X1_dropStep (v0 : Nat) (v1 : Int32) (M : Mem) (K : Mem → Prop) : Prop := (∃ k2 : Nat, L_X1_dropStep_2 v0 v1 (fun  (M_4 : Mem) => ∀ M_5 : Mem, M_5 = wI M_4 v0 6 ((M_4.1 v0 6) &&& (((1 : Int32) <<< (v1 &&& 31)) ^^^ (-1 : Int32))) → K M_5) K k2 (0 : Int32) M)

set_option maxHeartbeats 1000000 in
set_option maxRecDepth 10000 in
theorem m_X1_dropStep (l : Launch) {v0 : Nat} {v1 : Int32} (h_v0 : isX1 v0) {M : Mem} {K : Mem → Prop} (h : f_X1_dropStep v0 v1 M K) : CTv l yX1_dropStep cX1_dropStep 3 none rm_X1_dropStep (fun ad => [.ref (ad v0), .int v1]) M K := by
  refine rw_entv (by decide +kernel) (fun ad => Nat.le_of_ble_eq_true rfl) (fun p e s m args below meth c D cy ad C => ?_)
  change rw_W p l e _ s m args below meth c D cy ad 3 0 0 _ 0 [(0, .ref (ad v0)), (1, .int v1)] [] M
  unfold f_X1_dropStep at h
  refine r_iconst (v := (0 : Int32)) C dX1_dropStep_0 rfl ?_
  refine r_istore_n C [(2, .int _), (0, .ref _), (1, .int _)] dX1_dropStep_1 rfl (by decide) rfl ?_
  obtain ⟨n2, h⟩ := h
  refine r_sub [1, 2, 0] rfl (mL_X1_dropStep_2 C h_v0 (fun M_4 h => ?_) n2 _ _ h)
  refine r_aload_n C 0 dX1_dropStep_38 rfl rfl ?_
  refine r_dup C dX1_dropStep_39 rfl ?_
  refine gX1_31 C h_v0 dX1_dropStep_40 ?_
  refine r_iconst (v := (1 : Int32)) C dX1_dropStep_43 rfl ?_
  refine r_iload_n C 1 dX1_dropStep_44 rfl rfl ?_
  refine r_ishl C dX1_dropStep_45 ?_
  refine r_iconst (v := (-1 : Int32)) C dX1_dropStep_46 rfl ?_
  refine r_ixor C dX1_dropStep_47 ?_
  refine r_iand C dX1_dropStep_48 ?_
  refine pX1_31 C h_v0 dX1_dropStep_49 ?_
  replace h := h _ rfl
  exact r_vret C dX1_dropStep_52 h
def f_X1_hasPlace (v0 : Nat) (v1 : Int32) (M : Mem) (K : Int32 → Mem → Prop) : Prop := ((v1 < 0 → K (0 : Int32) M) ∧ (¬ v1 < 0 → (((10 : Int32) ≤ v1 → K (0 : Int32) M) ∧ (¬ (10 : Int32) ≤ v1 → ((¬ (((M.1 v0 5) >>> (v1 &&& 31)) &&& (1 : Int32)) = (1 : Int32) → K (0 : Int32) M) ∧ ((((M.1 v0 5) >>> (v1 &&& 31)) &&& (1 : Int32)) = (1 : Int32) → K (1 : Int32) M))))))

set_option maxHeartbeats 1000000 in
set_option maxRecDepth 10000 in
theorem m_X1_hasPlace (l : Launch) {v0 : Nat} {v1 : Int32} (h_v0 : isX1 v0) {M : Mem} {K : Int32 → Mem → Prop} (h : f_X1_hasPlace v0 v1 M K) : CTi l yX1_hasPlace cX1_hasPlace 2 (some .boolean) rm_X1_hasPlace (fun ad => [.ref (ad v0), .int v1]) M K := by
  refine rw_enti (by decide +kernel) (fun ad => Nat.le_of_ble_eq_true rfl) (fun p e s m args below meth c D cy ad C => ?_)
  change rw_W p l e _ s m args below meth c D cy ad 2 0 0 _ 0 [(0, .ref (ad v0)), (1, .int v1)] [] M
  unfold f_X1_hasPlace at h
  refine r_iload_n C 1 dX1_hasPlace_0 rfl rfl ?_
  refine r_if_lt C 26 dX1_hasPlace_1 (by decide) (fun hc => ?_) (fun hc => ?_)
  · replace h := h.1 hc
    refine r_iconst (v := (0 : Int32)) C dX1_hasPlace_26 rfl ?_
    exact r_zret C (by decide) dX1_hasPlace_27 h
  · replace h := h.2 hc
    refine r_iload_n C 1 dX1_hasPlace_4 rfl rfl ?_
    refine r_bipush (v := (10 : Int32)) C dX1_hasPlace_5 rfl ?_
    refine r_icmp_ge C 26 dX1_hasPlace_7 (by decide) (fun hc => ?_) (fun hc => ?_)
    · replace h := h.1 hc
      refine r_iconst (v := (0 : Int32)) C dX1_hasPlace_26 rfl ?_
      exact r_zret C (by decide) dX1_hasPlace_27 h
    · replace h := h.2 hc
      refine r_aload_n C 0 dX1_hasPlace_10 rfl rfl ?_
      refine gX1_28 C h_v0 dX1_hasPlace_11 ?_
      refine r_iload_n C 1 dX1_hasPlace_14 rfl rfl ?_
      refine r_ishr C dX1_hasPlace_15 ?_
      refine r_iconst (v := (1 : Int32)) C dX1_hasPlace_16 rfl ?_
      refine r_iand C dX1_hasPlace_17 ?_
      refine r_iconst (v := (1 : Int32)) C dX1_hasPlace_18 rfl ?_
      refine r_icmp_ne C 26 dX1_hasPlace_19 (by decide) (fun hc => ?_) (fun hc => ?_)
      · replace h := h.1 hc
        refine r_iconst (v := (0 : Int32)) C dX1_hasPlace_26 rfl ?_
        exact r_zret C (by decide) dX1_hasPlace_27 h
      · replace h := h.2 hc
        refine r_iconst (v := (1 : Int32)) C dX1_hasPlace_22 rfl ?_
        refine r_goto C 27 dX1_hasPlace_23 (by decide) ?_
        exact r_zret C (by decide) dX1_hasPlace_27 h
def L_X1_changesNothing_2 (v0 : Nat) (v1 : Int32) (X27 : Mem → Prop) (K : Int32 → Mem → Prop) : Nat → Int32 → Mem → Prop
  | 0, _, _ => False
  | n + 1, v2, M => (((M.1 v0 3) ≤ v2 → X27 M) ∧ (¬ (M.1 v0 3) ≤ v2 → f_X1_change v0 v1 v2 M (fun (r : Int32) (M_2 : Mem) => ((r = 0 → L_X1_changesNothing_2 v0 v1 X27 K n (v2 + (1 : Int32)) M_2) ∧ (¬ r = 0 → K (0 : Int32) M_2)))))

set_option maxHeartbeats 1000000 in
set_option maxRecDepth 10000 in
theorem mL_X1_changesNothing_2 (C : rw_C p s m meth c cX1_changesNothing 3 RX1 (some .boolean) D cy ad) {v0 : Nat} {v1 : Int32} (h_v0 : isX1 v0) {X27 : Mem → Prop} {K : Int32 → Mem → Prop} (hX27 : ∀  (M : Mem), X27 M → rw_W p l e rm_X1_changesNothing s m args below meth c D cy ad 3 0 0 (rw_Qi below args s D cy ad K) 27 [] [] M) : ∀ (n : Nat) (v2 : Int32) (M : Mem), L_X1_changesNothing_2 v0 v1 X27 K n v2 M → rw_W p l e rm_X1_changesNothing s m args below meth c D cy ad 3 0 0 (rw_Qi below args s D cy ad K) 2 [(0, .ref (ad v0)), (1, .int v1), (2, .int v2)] [] M := by
  intro n
  induction n with
  | zero => intro v2 M h; exact h.elim
  | succ n ih =>
    intro v2 M h
    refine r_iload_n C 2 dX1_changesNothing_2 rfl rfl ?_
    refine r_aload_n C 0 dX1_changesNothing_3 rfl rfl ?_
    refine gX1_21 C h_v0 dX1_changesNothing_4 ?_
    refine r_icmp_ge C 27 dX1_changesNothing_7 (by decide) (fun hc => ?_) (fun hc => ?_)
    · replace h := h.1 hc
      exact r_sub [] rfl (hX27 _ h)
    · replace h := h.2 hc
      refine r_aload_n C 0 dX1_changesNothing_10 rfl rfl ?_
      refine r_iload_n C 1 dX1_changesNothing_11 rfl rfl ?_
      refine r_iload_n C 2 dX1_changesNothing_12 rfl rfl ?_
      refine cX1_52 C h_v0 (m_X1_change l h_v0 h) ⟨Nat.le_of_ble_eq_true rfl, Nat.le_of_ble_eq_true rfl⟩ (Nat.le_of_ble_eq_true rfl) ⟨Nat.le_refl 0, Nat.le_refl 0⟩ dX1_changesNothing_13 (fun r M_2 h => ?_)
      refine r_if_eq C 21 dX1_changesNothing_16 (by decide) (fun hc => ?_) (fun hc => ?_)
      · replace h := h.1 hc
        refine r_iinc C 2 (v := _) [(2, .int _), (0, .ref _), (1, .int _)] dX1_changesNothing_21 rfl rfl (by decide) rfl ?_
        refine r_goto C 2 dX1_changesNothing_24 (by decide) ?_
        exact r_sub [1, 2, 0] rfl (ih _ _ h)
      · replace h := h.2 hc
        refine r_iconst (v := (0 : Int32)) C dX1_changesNothing_19 rfl ?_
        exact r_zret C (by decide) dX1_changesNothing_20 h

def f_X1_changesNothing (v0 : Nat) (v1 : Int32) (M : Mem) (K : Int32 → Mem → Prop) : Prop := (∃ k2 : Nat, L_X1_changesNothing_2 v0 v1 (fun  (M_3 : Mem) => K (1 : Int32) M_3) K k2 (0 : Int32) M)

set_option maxHeartbeats 1000000 in
set_option maxRecDepth 10000 in
theorem m_X1_changesNothing (l : Launch) {v0 : Nat} {v1 : Int32} (h_v0 : isX1 v0) {M : Mem} {K : Int32 → Mem → Prop} (h : f_X1_changesNothing v0 v1 M K) : CTi l yX1_changesNothing cX1_changesNothing 3 (some .boolean) rm_X1_changesNothing (fun ad => [.ref (ad v0), .int v1]) M K := by
  refine rw_enti (by decide +kernel) (fun ad => Nat.le_of_ble_eq_true rfl) (fun p e s m args below meth c D cy ad C => ?_)
  change rw_W p l e _ s m args below meth c D cy ad 3 0 0 _ 0 [(0, .ref (ad v0)), (1, .int v1)] [] M
  unfold f_X1_changesNothing at h
  refine r_iconst (v := (0 : Int32)) C dX1_changesNothing_0 rfl ?_
  refine r_istore_n C [(2, .int _), (0, .ref _), (1, .int _)] dX1_changesNothing_1 rfl (by decide) rfl ?_
  obtain ⟨n2, h⟩ := h
  refine r_sub [1, 2, 0] rfl (mL_X1_changesNothing_2 C h_v0 (fun M_3 h => ?_) n2 _ _ h)
  refine r_iconst (v := (1 : Int32)) C dX1_changesNothing_27 rfl ?_
  exact r_zret C (by decide) dX1_changesNothing_28 h
def L_X1_changeAlike_2 (v0 : Nat) (v1 : Int32) (v2 : Int32) (X33 : Mem → Prop) (K : Int32 → Mem → Prop) : Nat → Int32 → Mem → Prop
  | 0, _, _ => False
  | n + 1, v3, M => (((M.1 v0 3) ≤ v3 → X33 M) ∧ (¬ (M.1 v0 3) ≤ v3 → f_X1_change v0 v1 v3 M (fun (r : Int32) (M_2 : Mem) => f_X1_change v0 v2 v3 M_2 (fun (r_2 : Int32) (M_3 : Mem) => ((r = r_2 → L_X1_changeAlike_2 v0 v1 v2 X33 K n (v3 + (1 : Int32)) M_3) ∧ (¬ r = r_2 → K (0 : Int32) M_3))))))

set_option maxHeartbeats 1000000 in
set_option maxRecDepth 10000 in
theorem mL_X1_changeAlike_2 (C : rw_C p s m meth c cX1_changeAlike 4 RX1 (some .boolean) D cy ad) {v0 : Nat} {v1 : Int32} {v2 : Int32} (h_v0 : isX1 v0) {X33 : Mem → Prop} {K : Int32 → Mem → Prop} (hX33 : ∀  (M : Mem), X33 M → rw_W p l e rm_X1_changeAlike s m args below meth c D cy ad 4 0 0 (rw_Qi below args s D cy ad K) 33 [] [] M) : ∀ (n : Nat) (v3 : Int32) (M : Mem), L_X1_changeAlike_2 v0 v1 v2 X33 K n v3 M → rw_W p l e rm_X1_changeAlike s m args below meth c D cy ad 4 0 0 (rw_Qi below args s D cy ad K) 2 [(0, .ref (ad v0)), (1, .int v1), (2, .int v2), (3, .int v3)] [] M := by
  intro n
  induction n with
  | zero => intro v3 M h; exact h.elim
  | succ n ih =>
    intro v3 M h
    refine r_iload_n C 3 dX1_changeAlike_2 rfl rfl ?_
    refine r_aload_n C 0 dX1_changeAlike_3 rfl rfl ?_
    refine gX1_21 C h_v0 dX1_changeAlike_4 ?_
    refine r_icmp_ge C 33 dX1_changeAlike_7 (by decide) (fun hc => ?_) (fun hc => ?_)
    · replace h := h.1 hc
      exact r_sub [] rfl (hX33 _ h)
    · replace h := h.2 hc
      refine r_aload_n C 0 dX1_changeAlike_10 rfl rfl ?_
      refine r_iload_n C 1 dX1_changeAlike_11 rfl rfl ?_
      refine r_iload_n C 3 dX1_changeAlike_12 rfl rfl ?_
      refine cX1_52 C h_v0 (m_X1_change l h_v0 h) ⟨Nat.le_of_ble_eq_true rfl, Nat.le_of_ble_eq_true rfl⟩ (Nat.le_of_ble_eq_true rfl) ⟨Nat.le_refl 0, Nat.le_refl 0⟩ dX1_changeAlike_13 (fun r M_2 h => ?_)
      refine r_aload_n C 0 dX1_changeAlike_16 rfl rfl ?_
      refine r_iload_n C 2 dX1_changeAlike_17 rfl rfl ?_
      refine r_iload_n C 3 dX1_changeAlike_18 rfl rfl ?_
      refine cX1_52 C h_v0 (m_X1_change l h_v0 h) ⟨Nat.le_of_ble_eq_true rfl, Nat.le_of_ble_eq_true rfl⟩ (Nat.le_of_ble_eq_true rfl) ⟨Nat.le_refl 0, Nat.le_refl 0⟩ dX1_changeAlike_19 (fun r_2 M_3 h => ?_)
      refine r_icmp_eq C 27 dX1_changeAlike_22 (by decide) (fun hc => ?_) (fun hc => ?_)
      · replace h := h.1 hc
        refine r_iinc C 3 (v := _) [(3, .int _), (0, .ref _), (1, .int _), (2, .int _)] dX1_changeAlike_27 rfl rfl (by decide) rfl ?_
        refine r_goto C 2 dX1_changeAlike_30 (by decide) ?_
        exact r_sub [1, 2, 3, 0] rfl (ih _ _ h)
      · replace h := h.2 hc
        refine r_iconst (v := (0 : Int32)) C dX1_changeAlike_25 rfl ?_
        exact r_zret C (by decide) dX1_changeAlike_26 h

def f_X1_changeAlike (v0 : Nat) (v1 : Int32) (v2 : Int32) (M : Mem) (K : Int32 → Mem → Prop) : Prop := (∃ k2 : Nat, L_X1_changeAlike_2 v0 v1 v2 (fun  (M_4 : Mem) => K (1 : Int32) M_4) K k2 (0 : Int32) M)

set_option maxHeartbeats 1000000 in
set_option maxRecDepth 10000 in
theorem m_X1_changeAlike (l : Launch) {v0 : Nat} {v1 : Int32} {v2 : Int32} (h_v0 : isX1 v0) {M : Mem} {K : Int32 → Mem → Prop} (h : f_X1_changeAlike v0 v1 v2 M K) : CTi l yX1_changeAlike cX1_changeAlike 4 (some .boolean) rm_X1_changeAlike (fun ad => [.ref (ad v0), .int v1, .int v2]) M K := by
  refine rw_enti (by decide +kernel) (fun ad => Nat.le_of_ble_eq_true rfl) (fun p e s m args below meth c D cy ad C => ?_)
  change rw_W p l e _ s m args below meth c D cy ad 4 0 0 _ 0 [(0, .ref (ad v0)), (1, .int v1), (2, .int v2)] [] M
  unfold f_X1_changeAlike at h
  refine r_iconst (v := (0 : Int32)) C dX1_changeAlike_0 rfl ?_
  refine r_istore_n C [(3, .int _), (0, .ref _), (1, .int _), (2, .int _)] dX1_changeAlike_1 rfl (by decide) rfl ?_
  obtain ⟨n2, h⟩ := h
  refine r_sub [1, 2, 3, 0] rfl (mL_X1_changeAlike_2 C h_v0 (fun M_4 h => ?_) n2 _ _ h)
  refine r_iconst (v := (1 : Int32)) C dX1_changeAlike_33 rfl ?_
  exact r_zret C (by decide) dX1_changeAlike_34 h
def L_X1_allTokens_4 (v0 : Nat) (X27 : Int32 → Mem → Prop) (K : Int32 → Mem → Prop) : Nat → Int32 → Int32 → Mem → Prop
  | 0, _, _, _ => False
  | n + 1, v1, v2, M => (((M.1 v0 3) ≤ v2 → X27 v1 M) ∧ (¬ (M.1 v0 3) ≤ v2 → vp_in v2 10 ∧ ∀ x1 : Int32, x1 = v1 + (gI M (v0 + 3) v2) → L_X1_allTokens_4 v0 X27 K n x1 (v2 + (1 : Int32)) M))

set_option maxHeartbeats 1000000 in
set_option maxRecDepth 10000 in
theorem mL_X1_allTokens_4 (C : rw_C p s m meth c cX1_allTokens 3 RX1 (some .int) D cy ad) {v0 : Nat} (h_v0 : isX1 v0) {X27 : Int32 → Mem → Prop} {K : Int32 → Mem → Prop} (hX27 : ∀ (u1 : Int32) (M : Mem), X27 u1 M → rw_W p l e rm_X1_allTokens s m args below meth c D cy ad 3 0 0 (rw_Qi below args s D cy ad K) 27 [(1, .int u1)] [] M) : ∀ (n : Nat) (v1 : Int32) (v2 : Int32) (M : Mem), L_X1_allTokens_4 v0 X27 K n v1 v2 M → rw_W p l e rm_X1_allTokens s m args below meth c D cy ad 3 0 0 (rw_Qi below args s D cy ad K) 4 [(0, .ref (ad v0)), (1, .int v1), (2, .int v2)] [] M := by
  intro n
  induction n with
  | zero => intro v1 v2 M h; exact h.elim
  | succ n ih =>
    intro v1 v2 M h
    refine r_iload_n C 2 dX1_allTokens_4 rfl rfl ?_
    refine r_aload_n C 0 dX1_allTokens_5 rfl rfl ?_
    refine gX1_21 C h_v0 dX1_allTokens_6 ?_
    refine r_icmp_ge C 27 dX1_allTokens_9 (by decide) (fun hc => ?_) (fun hc => ?_)
    · replace h := h.1 hc
      exact r_sub [1] rfl (hX27 _ _ h)
    · replace h := h.2 hc
      refine r_iload_n C 1 dX1_allTokens_12 rfl rfl ?_
      refine r_aload_n C 0 dX1_allTokens_13 rfl rfl ?_
      refine gX1_18 C h_v0 dX1_allTokens_14 ?_
      refine r_iload_n C 2 dX1_allTokens_17 rfl rfl ?_
      obtain ⟨q, h⟩ := h
      refine r_iald C (isX1_A3 h_v0) q dX1_allTokens_18 ?_
      refine r_iadd C dX1_allTokens_19 ?_
      refine r_istore_n C [(1, .int _), (0, .ref _), (2, .int _)] dX1_allTokens_20 rfl (by decide) rfl ?_
      replace h := h _ rfl
      refine r_iinc C 2 (v := _) [(2, .int _), (1, .int _), (0, .ref _)] dX1_allTokens_21 rfl rfl (by decide) rfl ?_
      refine r_goto C 4 dX1_allTokens_24 (by decide) ?_
      exact r_sub [2, 1, 0] rfl (ih _ _ _ h)

def f_X1_allTokens (v0 : Nat) (M : Mem) (K : Int32 → Mem → Prop) : Prop := (∃ k4 : Nat, L_X1_allTokens_4 v0 (fun (v1_2 : Int32) (M_2 : Mem) => K v1_2 M_2) K k4 (0 : Int32) (0 : Int32) M)

set_option maxHeartbeats 1000000 in
set_option maxRecDepth 10000 in
theorem m_X1_allTokens (l : Launch) {v0 : Nat} (h_v0 : isX1 v0) {M : Mem} {K : Int32 → Mem → Prop} (h : f_X1_allTokens v0 M K) : CTi l yX1_allTokens cX1_allTokens 3 (some .int) rm_X1_allTokens (fun ad => [.ref (ad v0)]) M K := by
  refine rw_enti (by decide +kernel) (fun ad => Nat.le_of_ble_eq_true rfl) (fun p e s m args below meth c D cy ad C => ?_)
  change rw_W p l e _ s m args below meth c D cy ad 3 0 0 _ 0 [(0, .ref (ad v0))] [] M
  unfold f_X1_allTokens at h
  refine r_iconst (v := (0 : Int32)) C dX1_allTokens_0 rfl ?_
  refine r_istore_n C [(1, .int _), (0, .ref _)] dX1_allTokens_1 rfl (by decide) rfl ?_
  refine r_iconst (v := (0 : Int32)) C dX1_allTokens_2 rfl ?_
  refine r_istore_n C [(2, .int _), (1, .int _), (0, .ref _)] dX1_allTokens_3 rfl (by decide) rfl ?_
  obtain ⟨n4, h⟩ := h
  refine r_sub [2, 1, 0] rfl (mL_X1_allTokens_4 C h_v0 (fun v1_2 M_2 h => ?_) n4 _ _ _ h)
  refine r_iload_n C 0 dX1_allTokens_27 rfl rfl ?_
  exact r_iret C dX1_allTokens_28 h
def L_X1_markedPlaces_4 (v0 : Nat) (X33 : Int32 → Mem → Prop) (K : Int32 → Mem → Prop) : Nat → Int32 → Int32 → Mem → Prop
  | 0, _, _, _ => False
  | n + 1, v1, v2, M => (((M.1 v0 3) ≤ v2 → X33 v1 M) ∧ (¬ (M.1 v0 3) ≤ v2 → vp_in v2 10 ∧ (((gI M (v0 + 3) v2) ≤ 0 → L_X1_markedPlaces_4 v0 X33 K n v1 (v2 + (1 : Int32)) M) ∧ (¬ (gI M (v0 + 3) v2) ≤ 0 → ∀ x1 : Int32, x1 = v1 ||| ((1 : Int32) <<< (v2 &&& 31)) → L_X1_markedPlaces_4 v0 X33 K n x1 (v2 + (1 : Int32)) M))))

set_option maxHeartbeats 1000000 in
set_option maxRecDepth 10000 in
theorem mL_X1_markedPlaces_4 (C : rw_C p s m meth c cX1_markedPlaces 3 RX1 (some .int) D cy ad) {v0 : Nat} (h_v0 : isX1 v0) {X33 : Int32 → Mem → Prop} {K : Int32 → Mem → Prop} (hX33 : ∀ (u1 : Int32) (M : Mem), X33 u1 M → rw_W p l e rm_X1_markedPlaces s m args below meth c D cy ad 3 0 0 (rw_Qi below args s D cy ad K) 33 [(1, .int u1)] [] M) : ∀ (n : Nat) (v1 : Int32) (v2 : Int32) (M : Mem), L_X1_markedPlaces_4 v0 X33 K n v1 v2 M → rw_W p l e rm_X1_markedPlaces s m args below meth c D cy ad 3 0 0 (rw_Qi below args s D cy ad K) 4 [(0, .ref (ad v0)), (1, .int v1), (2, .int v2)] [] M := by
  intro n
  induction n with
  | zero => intro v1 v2 M h; exact h.elim
  | succ n ih =>
    intro v1 v2 M h
    refine r_iload_n C 2 dX1_markedPlaces_4 rfl rfl ?_
    refine r_aload_n C 0 dX1_markedPlaces_5 rfl rfl ?_
    refine gX1_21 C h_v0 dX1_markedPlaces_6 ?_
    refine r_icmp_ge C 33 dX1_markedPlaces_9 (by decide) (fun hc => ?_) (fun hc => ?_)
    · replace h := h.1 hc
      exact r_sub [1] rfl (hX33 _ _ h)
    · replace h := h.2 hc
      refine r_aload_n C 0 dX1_markedPlaces_12 rfl rfl ?_
      refine gX1_18 C h_v0 dX1_markedPlaces_13 ?_
      refine r_iload_n C 2 dX1_markedPlaces_16 rfl rfl ?_
      obtain ⟨q, h⟩ := h
      refine r_iald C (isX1_A3 h_v0) q dX1_markedPlaces_17 ?_
      refine r_if_le C 27 dX1_markedPlaces_18 (by decide) (fun hc => ?_) (fun hc => ?_)
      · replace h := h.1 hc
        refine r_iinc C 2 (v := _) [(2, .int _), (0, .ref _), (1, .int _)] dX1_markedPlaces_27 rfl rfl (by decide) rfl ?_
        refine r_goto C 4 dX1_markedPlaces_30 (by decide) ?_
        exact r_sub [1, 2, 0] rfl (ih _ _ _ h)
      · replace h := h.2 hc
        refine r_iload_n C 1 dX1_markedPlaces_21 rfl rfl ?_
        refine r_iconst (v := (1 : Int32)) C dX1_markedPlaces_22 rfl ?_
        refine r_iload_n C 2 dX1_markedPlaces_23 rfl rfl ?_
        refine r_ishl C dX1_markedPlaces_24 ?_
        refine r_ior C dX1_markedPlaces_25 ?_
        refine r_istore_n C [(1, .int _), (0, .ref _), (2, .int _)] dX1_markedPlaces_26 rfl (by decide) rfl ?_
        replace h := h _ rfl
        refine r_iinc C 2 (v := _) [(2, .int _), (1, .int _), (0, .ref _)] dX1_markedPlaces_27 rfl rfl (by decide) rfl ?_
        refine r_goto C 4 dX1_markedPlaces_30 (by decide) ?_
        exact r_sub [2, 1, 0] rfl (ih _ _ _ h)

def f_X1_markedPlaces (v0 : Nat) (M : Mem) (K : Int32 → Mem → Prop) : Prop := (∃ k4 : Nat, L_X1_markedPlaces_4 v0 (fun (v1_2 : Int32) (M_2 : Mem) => K v1_2 M_2) K k4 (0 : Int32) (0 : Int32) M)

set_option maxHeartbeats 1000000 in
set_option maxRecDepth 10000 in
theorem m_X1_markedPlaces (l : Launch) {v0 : Nat} (h_v0 : isX1 v0) {M : Mem} {K : Int32 → Mem → Prop} (h : f_X1_markedPlaces v0 M K) : CTi l yX1_markedPlaces cX1_markedPlaces 3 (some .int) rm_X1_markedPlaces (fun ad => [.ref (ad v0)]) M K := by
  refine rw_enti (by decide +kernel) (fun ad => Nat.le_of_ble_eq_true rfl) (fun p e s m args below meth c D cy ad C => ?_)
  change rw_W p l e _ s m args below meth c D cy ad 3 0 0 _ 0 [(0, .ref (ad v0))] [] M
  unfold f_X1_markedPlaces at h
  refine r_iconst (v := (0 : Int32)) C dX1_markedPlaces_0 rfl ?_
  refine r_istore_n C [(1, .int _), (0, .ref _)] dX1_markedPlaces_1 rfl (by decide) rfl ?_
  refine r_iconst (v := (0 : Int32)) C dX1_markedPlaces_2 rfl ?_
  refine r_istore_n C [(2, .int _), (1, .int _), (0, .ref _)] dX1_markedPlaces_3 rfl (by decide) rfl ?_
  obtain ⟨n4, h⟩ := h
  refine r_sub [2, 1, 0] rfl (mL_X1_markedPlaces_4 C h_v0 (fun v1_2 M_2 h => ?_) n4 _ _ _ h)
  refine r_iload_n C 0 dX1_markedPlaces_33 rfl rfl ?_
  exact r_iret C dX1_markedPlaces_34 h
def L_X1_placesWith_5 (v0 : Nat) (v1 : Nat) (v2 : Int32) (X39 : Int32 → Mem → Prop) (K : Int32 → Mem → Prop) : Nat → Int32 → Int32 → Mem → Prop
  | 0, _, _, _ => False
  | n + 1, v3, v4, M => (((M.1 v0 3) ≤ v4 → X39 v3 M) ∧ (¬ (M.1 v0 3) ≤ v4 → vp_in ((v2 * (10 : Int32)) + v4) (alen v1) ∧ (((gI M v1 ((v2 * (10 : Int32)) + v4)) ≤ 0 → L_X1_placesWith_5 v0 v1 v2 X39 K n v3 (v4 + (1 : Int32)) M) ∧ (¬ (gI M v1 ((v2 * (10 : Int32)) + v4)) ≤ 0 → ∀ x3 : Int32, x3 = v3 ||| ((1 : Int32) <<< (v4 &&& 31)) → L_X1_placesWith_5 v0 v1 v2 X39 K n x3 (v4 + (1 : Int32)) M))))

set_option maxHeartbeats 1000000 in
set_option maxRecDepth 10000 in
theorem mL_X1_placesWith_5 (C : rw_C p s m meth c cX1_placesWith 5 RX1 (some .int) D cy ad) {v0 : Nat} {v1 : Nat} {v2 : Int32} (h_v0 : isX1 v0) (h_v1 : isA v1 0 (alen v1)) {X39 : Int32 → Mem → Prop} {K : Int32 → Mem → Prop} (hX39 : ∀ (u3 : Int32) (M : Mem), X39 u3 M → rw_W p l e rm_X1_placesWith s m args below meth c D cy ad 5 0 0 (rw_Qi below args s D cy ad K) 39 [(3, .int u3)] [] M) : ∀ (n : Nat) (v3 : Int32) (v4 : Int32) (M : Mem), L_X1_placesWith_5 v0 v1 v2 X39 K n v3 v4 M → rw_W p l e rm_X1_placesWith s m args below meth c D cy ad 5 0 0 (rw_Qi below args s D cy ad K) 5 [(0, .ref (ad v0)), (1, .ref (ad v1)), (2, .int v2), (3, .int v3), (4, .int v4)] [] M := by
  intro n
  induction n with
  | zero => intro v3 v4 M h; exact h.elim
  | succ n ih =>
    intro v3 v4 M h
    refine r_iload C 4 dX1_placesWith_5 rfl ?_
    refine r_aload_n C 0 dX1_placesWith_7 rfl rfl ?_
    refine gX1_21 C h_v0 dX1_placesWith_8 ?_
    refine r_icmp_ge C 39 dX1_placesWith_11 (by decide) (fun hc => ?_) (fun hc => ?_)
    · replace h := h.1 hc
      exact r_sub [3] rfl (hX39 _ _ h)
    · replace h := h.2 hc
      refine r_aload_n C 1 dX1_placesWith_14 rfl rfl ?_
      refine r_iload_n C 2 dX1_placesWith_15 rfl rfl ?_
      refine r_bipush (v := (10 : Int32)) C dX1_placesWith_16 rfl ?_
      refine r_imul C dX1_placesWith_18 ?_
      refine r_iload C 4 dX1_placesWith_19 rfl ?_
      refine r_iadd C dX1_placesWith_21 ?_
      obtain ⟨q, h⟩ := h
      refine r_iald C h_v1 q dX1_placesWith_22 ?_
      refine r_if_le C 33 dX1_placesWith_23 (by decide) (fun hc => ?_) (fun hc => ?_)
      · replace h := h.1 hc
        refine r_iinc C 4 (v := _) [(4, .int _), (0, .ref _), (1, .ref _), (2, .int _), (3, .int _)] dX1_placesWith_33 rfl rfl (by decide) rfl ?_
        refine r_goto C 5 dX1_placesWith_36 (by decide) ?_
        exact r_sub [1, 2, 3, 4, 0] rfl (ih _ _ _ h)
      · replace h := h.2 hc
        refine r_iload_n C 3 dX1_placesWith_26 rfl rfl ?_
        refine r_iconst (v := (1 : Int32)) C dX1_placesWith_27 rfl ?_
        refine r_iload C 4 dX1_placesWith_28 rfl ?_
        refine r_ishl C dX1_placesWith_30 ?_
        refine r_ior C dX1_placesWith_31 ?_
        refine r_istore_n C [(3, .int _), (0, .ref _), (1, .ref _), (2, .int _), (4, .int _)] dX1_placesWith_32 rfl (by decide) rfl ?_
        replace h := h _ rfl
        refine r_iinc C 4 (v := _) [(4, .int _), (3, .int _), (0, .ref _), (1, .ref _), (2, .int _)] dX1_placesWith_33 rfl rfl (by decide) rfl ?_
        refine r_goto C 5 dX1_placesWith_36 (by decide) ?_
        exact r_sub [2, 3, 4, 1, 0] rfl (ih _ _ _ h)

def f_X1_placesWith (v0 : Nat) (v1 : Nat) (v2 : Int32) (M : Mem) (K : Int32 → Mem → Prop) : Prop := (∃ k5 : Nat, L_X1_placesWith_5 v0 v1 v2 (fun (v3_2 : Int32) (M_2 : Mem) => K v3_2 M_2) K k5 (0 : Int32) (0 : Int32) M)

set_option maxHeartbeats 1000000 in
set_option maxRecDepth 10000 in
theorem m_X1_placesWith (l : Launch) {v0 : Nat} {v1 : Nat} {v2 : Int32} (h_v0 : isX1 v0) (h_v1 : isI v1) {M : Mem} {K : Int32 → Mem → Prop} (h : f_X1_placesWith v0 v1 v2 M K) : CTi l yX1_placesWith cX1_placesWith 5 (some .int) rm_X1_placesWith (fun ad => [.ref (ad v0), .ref (ad v1), .int v2]) M K := by
  refine rw_enti (by decide +kernel) (fun ad => Nat.le_of_ble_eq_true rfl) (fun p e s m args below meth c D cy ad C => ?_)
  change rw_W p l e _ s m args below meth c D cy ad 5 0 0 _ 0 [(0, .ref (ad v0)), (1, .ref (ad v1)), (2, .int v2)] [] M
  unfold f_X1_placesWith at h
  refine r_iconst (v := (0 : Int32)) C dX1_placesWith_0 rfl ?_
  refine r_istore_n C [(3, .int _), (0, .ref _), (1, .ref _), (2, .int _)] dX1_placesWith_1 rfl (by decide) rfl ?_
  refine r_iconst (v := (0 : Int32)) C dX1_placesWith_2 rfl ?_
  refine r_istore C [(4, .int _), (3, .int _), (0, .ref _), (1, .ref _), (2, .int _)] dX1_placesWith_3 (by decide) rfl ?_
  obtain ⟨n5, h⟩ := h
  refine r_sub [2, 3, 4, 1, 0] rfl (mL_X1_placesWith_5 C h_v0 h_v1 (fun v3_2 M_2 h => ?_) n5 _ _ _ h)
  refine r_iload_n C 0 dX1_placesWith_39 rfl rfl ?_
  exact r_iret C dX1_placesWith_40 h
def f_X1_takenFrom (v0 : Nat) (v1 : Int32) (M : Mem) (K : Int32 → Mem → Prop) : Prop := f_X1_placesWith v0 (v0 + 1) v1 M (fun (r : Int32) (M_2 : Mem) => K r M_2)

set_option maxHeartbeats 1000000 in
set_option maxRecDepth 10000 in
theorem m_X1_takenFrom (l : Launch) {v0 : Nat} {v1 : Int32} (h_v0 : isX1 v0) {M : Mem} {K : Int32 → Mem → Prop} (h : f_X1_takenFrom v0 v1 M K) : CTi l yX1_takenFrom cX1_takenFrom 2 (some .int) rm_X1_takenFrom (fun ad => [.ref (ad v0), .int v1]) M K := by
  refine rw_enti (by decide +kernel) (fun ad => Nat.le_of_ble_eq_true rfl) (fun p e s m args below meth c D cy ad C => ?_)
  change rw_W p l e _ s m args below meth c D cy ad 2 0 0 _ 0 [(0, .ref (ad v0)), (1, .int v1)] [] M
  unfold f_X1_takenFrom at h
  refine r_aload_n C 0 dX1_takenFrom_0 rfl rfl ?_
  refine r_aload_n C 0 dX1_takenFrom_1 rfl rfl ?_
  refine gX1_9 C h_v0 dX1_takenFrom_2 ?_
  refine r_iload_n C 1 dX1_takenFrom_5 rfl rfl ?_
  refine cX1_56 C h_v0 (m_X1_placesWith l h_v0 (isI_of (isX1_A1 h_v0)) h) ⟨Nat.le_of_ble_eq_true rfl, Nat.le_of_ble_eq_true rfl⟩ (Nat.le_of_ble_eq_true rfl) ⟨Nat.le_refl 0, Nat.le_refl 0⟩ dX1_takenFrom_6 (fun r M_2 h => ?_)
  exact r_iret C dX1_takenFrom_9 h
def f_X1_givenTo (v0 : Nat) (v1 : Int32) (M : Mem) (K : Int32 → Mem → Prop) : Prop := f_X1_placesWith v0 (v0 + 2) v1 M (fun (r : Int32) (M_2 : Mem) => K r M_2)

set_option maxHeartbeats 1000000 in
set_option maxRecDepth 10000 in
theorem m_X1_givenTo (l : Launch) {v0 : Nat} {v1 : Int32} (h_v0 : isX1 v0) {M : Mem} {K : Int32 → Mem → Prop} (h : f_X1_givenTo v0 v1 M K) : CTi l yX1_givenTo cX1_givenTo 2 (some .int) rm_X1_givenTo (fun ad => [.ref (ad v0), .int v1]) M K := by
  refine rw_enti (by decide +kernel) (fun ad => Nat.le_of_ble_eq_true rfl) (fun p e s m args below meth c D cy ad C => ?_)
  change rw_W p l e _ s m args below meth c D cy ad 2 0 0 _ 0 [(0, .ref (ad v0)), (1, .int v1)] [] M
  unfold f_X1_givenTo at h
  refine r_aload_n C 0 dX1_givenTo_0 rfl rfl ?_
  refine r_aload_n C 0 dX1_givenTo_1 rfl rfl ?_
  refine gX1_15 C h_v0 dX1_givenTo_2 ?_
  refine r_iload_n C 1 dX1_givenTo_5 rfl rfl ?_
  refine cX1_56 C h_v0 (m_X1_placesWith l h_v0 (isI_of (isX1_A2 h_v0)) h) ⟨Nat.le_of_ble_eq_true rfl, Nat.le_of_ble_eq_true rfl⟩ (Nat.le_of_ble_eq_true rfl) ⟨Nat.le_refl 0, Nat.le_refl 0⟩ dX1_givenTo_6 (fun r M_2 h => ?_)
  exact r_iret C dX1_givenTo_9 h
def L_X1_allowed_4 (v0 : Nat) (X37 : Int32 → Mem → Prop) (K : Int32 → Mem → Prop) : Nat → Int32 → Int32 → Mem → Prop
  | 0, _, _, _ => False
  | n + 1, v1, v2, M => (((M.1 v0 4) ≤ v2 → X37 v1 M) ∧ (¬ (M.1 v0 4) ≤ v2 → f_X1_allows v0 v2 (v0 + 3) (0 : Int32) M (fun (r : Int32) (M_2 : Mem) => ((r = 0 → L_X1_allowed_4 v0 X37 K n v1 (v2 + (1 : Int32)) M_2) ∧ (¬ r = 0 → ∀ x1 : Int32, x1 = v1 ||| ((1 : Int32) <<< (v2 &&& 31)) → L_X1_allowed_4 v0 X37 K n x1 (v2 + (1 : Int32)) M_2)))))

set_option maxHeartbeats 1000000 in
set_option maxRecDepth 10000 in
theorem mL_X1_allowed_4 (C : rw_C p s m meth c cX1_allowed 3 RX1 (some .int) D cy ad) {v0 : Nat} (h_v0 : isX1 v0) {X37 : Int32 → Mem → Prop} {K : Int32 → Mem → Prop} (hX37 : ∀ (u1 : Int32) (M : Mem), X37 u1 M → rw_W p l e rm_X1_allowed s m args below meth c D cy ad 3 0 0 (rw_Qi below args s D cy ad K) 37 [(1, .int u1)] [] M) : ∀ (n : Nat) (v1 : Int32) (v2 : Int32) (M : Mem), L_X1_allowed_4 v0 X37 K n v1 v2 M → rw_W p l e rm_X1_allowed s m args below meth c D cy ad 3 0 0 (rw_Qi below args s D cy ad K) 4 [(0, .ref (ad v0)), (1, .int v1), (2, .int v2)] [] M := by
  intro n
  induction n with
  | zero => intro v1 v2 M h; exact h.elim
  | succ n ih =>
    intro v1 v2 M h
    refine r_iload_n C 2 dX1_allowed_4 rfl rfl ?_
    refine r_aload_n C 0 dX1_allowed_5 rfl rfl ?_
    refine gX1_25 C h_v0 dX1_allowed_6 ?_
    refine r_icmp_ge C 37 dX1_allowed_9 (by decide) (fun hc => ?_) (fun hc => ?_)
    · replace h := h.1 hc
      exact r_sub [1] rfl (hX37 _ _ h)
    · replace h := h.2 hc
      refine r_aload_n C 0 dX1_allowed_12 rfl rfl ?_
      refine r_iload_n C 2 dX1_allowed_13 rfl rfl ?_
      refine r_aload_n C 0 dX1_allowed_14 rfl rfl ?_
      refine gX1_18 C h_v0 dX1_allowed_15 ?_
      refine r_iconst (v := (0 : Int32)) C dX1_allowed_18 rfl ?_
      refine cX1_64 C h_v0 (m_X1_allows l h_v0 (isI_of (isX1_A3 h_v0)) h) ⟨Nat.le_of_ble_eq_true rfl, Nat.le_of_ble_eq_true rfl⟩ (Nat.le_of_ble_eq_true rfl) ⟨Nat.le_refl 0, Nat.le_refl 0⟩ dX1_allowed_19 (fun r M_2 h => ?_)
      refine r_if_eq C 31 dX1_allowed_22 (by decide) (fun hc => ?_) (fun hc => ?_)
      · replace h := h.1 hc
        refine r_iinc C 2 (v := _) [(2, .int _), (0, .ref _), (1, .int _)] dX1_allowed_31 rfl rfl (by decide) rfl ?_
        refine r_goto C 4 dX1_allowed_34 (by decide) ?_
        exact r_sub [1, 2, 0] rfl (ih _ _ _ h)
      · replace h := h.2 hc
        refine r_iload_n C 1 dX1_allowed_25 rfl rfl ?_
        refine r_iconst (v := (1 : Int32)) C dX1_allowed_26 rfl ?_
        refine r_iload_n C 2 dX1_allowed_27 rfl rfl ?_
        refine r_ishl C dX1_allowed_28 ?_
        refine r_ior C dX1_allowed_29 ?_
        refine r_istore_n C [(1, .int _), (0, .ref _), (2, .int _)] dX1_allowed_30 rfl (by decide) rfl ?_
        replace h := h _ rfl
        refine r_iinc C 2 (v := _) [(2, .int _), (1, .int _), (0, .ref _)] dX1_allowed_31 rfl rfl (by decide) rfl ?_
        refine r_goto C 4 dX1_allowed_34 (by decide) ?_
        exact r_sub [2, 1, 0] rfl (ih _ _ _ h)

def f_X1_allowed (v0 : Nat) (M : Mem) (K : Int32 → Mem → Prop) : Prop := (∃ k4 : Nat, L_X1_allowed_4 v0 (fun (v1_2 : Int32) (M_3 : Mem) => K v1_2 M_3) K k4 (0 : Int32) (0 : Int32) M)

set_option maxHeartbeats 1000000 in
set_option maxRecDepth 10000 in
theorem m_X1_allowed (l : Launch) {v0 : Nat} (h_v0 : isX1 v0) {M : Mem} {K : Int32 → Mem → Prop} (h : f_X1_allowed v0 M K) : CTi l yX1_allowed cX1_allowed 3 (some .int) rm_X1_allowed (fun ad => [.ref (ad v0)]) M K := by
  refine rw_enti (by decide +kernel) (fun ad => Nat.le_of_ble_eq_true rfl) (fun p e s m args below meth c D cy ad C => ?_)
  change rw_W p l e _ s m args below meth c D cy ad 3 0 0 _ 0 [(0, .ref (ad v0))] [] M
  unfold f_X1_allowed at h
  refine r_iconst (v := (0 : Int32)) C dX1_allowed_0 rfl ?_
  refine r_istore_n C [(1, .int _), (0, .ref _)] dX1_allowed_1 rfl (by decide) rfl ?_
  refine r_iconst (v := (0 : Int32)) C dX1_allowed_2 rfl ?_
  refine r_istore_n C [(2, .int _), (1, .int _), (0, .ref _)] dX1_allowed_3 rfl (by decide) rfl ?_
  obtain ⟨n4, h⟩ := h
  refine r_sub [2, 1, 0] rfl (mL_X1_allowed_4 C h_v0 (fun v1_2 M_3 h => ?_) n4 _ _ _ h)
  refine r_iload_n C 0 dX1_allowed_37 rfl rfl ?_
  exact r_iret C dX1_allowed_38 h
def L_X1_allOfStep_5 (v0 : Nat) (v1 : Nat) (v2 : Int32) (X32 : Int32 → Mem → Prop) (K : Int32 → Mem → Prop) : Nat → Int32 → Int32 → Mem → Prop
  | 0, _, _, _ => False
  | n + 1, v3, v4, M => (((M.1 v0 3) ≤ v4 → X32 v3 M) ∧ (¬ (M.1 v0 3) ≤ v4 → vp_in ((v2 * (10 : Int32)) + v4) (alen v1) ∧ ∀ x3 : Int32, x3 = v3 + (gI M v1 ((v2 * (10 : Int32)) + v4)) → L_X1_allOfStep_5 v0 v1 v2 X32 K n x3 (v4 + (1 : Int32)) M))

set_option maxHeartbeats 1000000 in
set_option maxRecDepth 10000 in
theorem mL_X1_allOfStep_5 (C : rw_C p s m meth c cX1_allOfStep 5 RX1 (some .int) D cy ad) {v0 : Nat} {v1 : Nat} {v2 : Int32} (h_v0 : isX1 v0) (h_v1 : isA v1 0 (alen v1)) {X32 : Int32 → Mem → Prop} {K : Int32 → Mem → Prop} (hX32 : ∀ (u3 : Int32) (M : Mem), X32 u3 M → rw_W p l e rm_X1_allOfStep s m args below meth c D cy ad 5 0 0 (rw_Qi below args s D cy ad K) 32 [(3, .int u3)] [] M) : ∀ (n : Nat) (v3 : Int32) (v4 : Int32) (M : Mem), L_X1_allOfStep_5 v0 v1 v2 X32 K n v3 v4 M → rw_W p l e rm_X1_allOfStep s m args below meth c D cy ad 5 0 0 (rw_Qi below args s D cy ad K) 5 [(0, .ref (ad v0)), (1, .ref (ad v1)), (2, .int v2), (3, .int v3), (4, .int v4)] [] M := by
  intro n
  induction n with
  | zero => intro v3 v4 M h; exact h.elim
  | succ n ih =>
    intro v3 v4 M h
    refine r_iload C 4 dX1_allOfStep_5 rfl ?_
    refine r_aload_n C 0 dX1_allOfStep_7 rfl rfl ?_
    refine gX1_21 C h_v0 dX1_allOfStep_8 ?_
    refine r_icmp_ge C 32 dX1_allOfStep_11 (by decide) (fun hc => ?_) (fun hc => ?_)
    · replace h := h.1 hc
      exact r_sub [3] rfl (hX32 _ _ h)
    · replace h := h.2 hc
      refine r_iload_n C 3 dX1_allOfStep_14 rfl rfl ?_
      refine r_aload_n C 1 dX1_allOfStep_15 rfl rfl ?_
      refine r_iload_n C 2 dX1_allOfStep_16 rfl rfl ?_
      refine r_bipush (v := (10 : Int32)) C dX1_allOfStep_17 rfl ?_
      refine r_imul C dX1_allOfStep_19 ?_
      refine r_iload C 4 dX1_allOfStep_20 rfl ?_
      refine r_iadd C dX1_allOfStep_22 ?_
      obtain ⟨q, h⟩ := h
      refine r_iald C h_v1 q dX1_allOfStep_23 ?_
      refine r_iadd C dX1_allOfStep_24 ?_
      refine r_istore_n C [(3, .int _), (0, .ref _), (1, .ref _), (2, .int _), (4, .int _)] dX1_allOfStep_25 rfl (by decide) rfl ?_
      replace h := h _ rfl
      refine r_iinc C 4 (v := _) [(4, .int _), (3, .int _), (0, .ref _), (1, .ref _), (2, .int _)] dX1_allOfStep_26 rfl rfl (by decide) rfl ?_
      refine r_goto C 5 dX1_allOfStep_29 (by decide) ?_
      exact r_sub [2, 3, 4, 1, 0] rfl (ih _ _ _ h)

def f_X1_allOfStep (v0 : Nat) (v1 : Nat) (v2 : Int32) (M : Mem) (K : Int32 → Mem → Prop) : Prop := (∃ k5 : Nat, L_X1_allOfStep_5 v0 v1 v2 (fun (v3_2 : Int32) (M_2 : Mem) => K v3_2 M_2) K k5 (0 : Int32) (0 : Int32) M)

set_option maxHeartbeats 1000000 in
set_option maxRecDepth 10000 in
theorem m_X1_allOfStep (l : Launch) {v0 : Nat} {v1 : Nat} {v2 : Int32} (h_v0 : isX1 v0) (h_v1 : isI v1) {M : Mem} {K : Int32 → Mem → Prop} (h : f_X1_allOfStep v0 v1 v2 M K) : CTi l yX1_allOfStep cX1_allOfStep 5 (some .int) rm_X1_allOfStep (fun ad => [.ref (ad v0), .ref (ad v1), .int v2]) M K := by
  refine rw_enti (by decide +kernel) (fun ad => Nat.le_of_ble_eq_true rfl) (fun p e s m args below meth c D cy ad C => ?_)
  change rw_W p l e _ s m args below meth c D cy ad 5 0 0 _ 0 [(0, .ref (ad v0)), (1, .ref (ad v1)), (2, .int v2)] [] M
  unfold f_X1_allOfStep at h
  refine r_iconst (v := (0 : Int32)) C dX1_allOfStep_0 rfl ?_
  refine r_istore_n C [(3, .int _), (0, .ref _), (1, .ref _), (2, .int _)] dX1_allOfStep_1 rfl (by decide) rfl ?_
  refine r_iconst (v := (0 : Int32)) C dX1_allOfStep_2 rfl ?_
  refine r_istore C [(4, .int _), (3, .int _), (0, .ref _), (1, .ref _), (2, .int _)] dX1_allOfStep_3 (by decide) rfl ?_
  obtain ⟨n5, h⟩ := h
  refine r_sub [2, 3, 4, 1, 0] rfl (mL_X1_allOfStep_5 C h_v0 h_v1 (fun v3_2 M_2 h => ?_) n5 _ _ _ h)
  refine r_iload_n C 0 dX1_allOfStep_32 rfl rfl ?_
  exact r_iret C dX1_allOfStep_33 h
def L_X1_eachStepMovesOne_2 (v0 : Nat) (X52 : Mem → Prop) (K : Int32 → Mem → Prop) : Nat → Int32 → Mem → Prop
  | 0, _, _ => False
  | n + 1, v1, M => (((M.1 v0 4) ≤ v1 → X52 M) ∧ (¬ (M.1 v0 4) ≤ v1 → f_X1_hasStep v0 v1 M (fun (r : Int32) (M_2 : Mem) => ((r = 0 → L_X1_eachStepMovesOne_2 v0 X52 K n (v1 + (1 : Int32)) M_2) ∧ (¬ r = 0 → f_X1_allOfStep v0 (v0 + 1) v1 M_2 (fun (r_2 : Int32) (M_3 : Mem) => ((¬ r_2 = (1 : Int32) → K (0 : Int32) M_3) ∧ (r_2 = (1 : Int32) → f_X1_allOfStep v0 (v0 + 2) v1 M_3 (fun (r_3 : Int32) (M_4 : Mem) => ((r_3 = (1 : Int32) → L_X1_eachStepMovesOne_2 v0 X52 K n (v1 + (1 : Int32)) M_4) ∧ (¬ r_3 = (1 : Int32) → K (0 : Int32) M_4)))))))))))

set_option maxHeartbeats 1000000 in
set_option maxRecDepth 10000 in
theorem mL_X1_eachStepMovesOne_2 (C : rw_C p s m meth c cX1_eachStepMovesOne 2 RX1 (some .boolean) D cy ad) {v0 : Nat} (h_v0 : isX1 v0) {X52 : Mem → Prop} {K : Int32 → Mem → Prop} (hX52 : ∀  (M : Mem), X52 M → rw_W p l e rm_X1_eachStepMovesOne s m args below meth c D cy ad 2 0 0 (rw_Qi below args s D cy ad K) 52 [] [] M) : ∀ (n : Nat) (v1 : Int32) (M : Mem), L_X1_eachStepMovesOne_2 v0 X52 K n v1 M → rw_W p l e rm_X1_eachStepMovesOne s m args below meth c D cy ad 2 0 0 (rw_Qi below args s D cy ad K) 2 [(0, .ref (ad v0)), (1, .int v1)] [] M := by
  intro n
  induction n with
  | zero => intro v1 M h; exact h.elim
  | succ n ih =>
    intro v1 M h
    refine r_iload_n C 1 dX1_eachStepMovesOne_2 rfl rfl ?_
    refine r_aload_n C 0 dX1_eachStepMovesOne_3 rfl rfl ?_
    refine gX1_25 C h_v0 dX1_eachStepMovesOne_4 ?_
    refine r_icmp_ge C 52 dX1_eachStepMovesOne_7 (by decide) (fun hc => ?_) (fun hc => ?_)
    · replace h := h.1 hc
      exact r_sub [] rfl (hX52 _ h)
    · replace h := h.2 hc
      refine r_aload_n C 0 dX1_eachStepMovesOne_10 rfl rfl ?_
      refine r_iload_n C 1 dX1_eachStepMovesOne_11 rfl rfl ?_
      refine cX1_60 C h_v0 (m_X1_hasStep l h_v0 h) ⟨Nat.le_of_ble_eq_true rfl, Nat.le_of_ble_eq_true rfl⟩ (Nat.le_of_ble_eq_true rfl) ⟨Nat.le_refl 0, Nat.le_refl 0⟩ dX1_eachStepMovesOne_12 (fun r M_2 h => ?_)
      refine r_if_eq C 46 dX1_eachStepMovesOne_15 (by decide) (fun hc => ?_) (fun hc => ?_)
      · replace h := h.1 hc
        refine r_iinc C 1 (v := _) [(1, .int _), (0, .ref _)] dX1_eachStepMovesOne_46 rfl rfl (by decide) rfl ?_
        refine r_goto C 2 dX1_eachStepMovesOne_49 (by decide) ?_
        exact r_sub [1, 0] rfl (ih _ _ h)
      · replace h := h.2 hc
        refine r_aload_n C 0 dX1_eachStepMovesOne_18 rfl rfl ?_
        refine r_aload_n C 0 dX1_eachStepMovesOne_19 rfl rfl ?_
        refine gX1_9 C h_v0 dX1_eachStepMovesOne_20 ?_
        refine r_iload_n C 1 dX1_eachStepMovesOne_23 rfl rfl ?_
        refine cX1_68 C h_v0 (m_X1_allOfStep l h_v0 (isI_of (isX1_A1 h_v0)) h) ⟨Nat.le_of_ble_eq_true rfl, Nat.le_of_ble_eq_true rfl⟩ (Nat.le_of_ble_eq_true rfl) ⟨Nat.le_refl 0, Nat.le_refl 0⟩ dX1_eachStepMovesOne_24 (fun r_2 M_3 h => ?_)
        refine r_iconst (v := (1 : Int32)) C dX1_eachStepMovesOne_27 rfl ?_
        refine r_icmp_ne C 44 dX1_eachStepMovesOne_28 (by decide) (fun hc => ?_) (fun hc => ?_)
        · replace h := h.1 hc
          refine r_iconst (v := (0 : Int32)) C dX1_eachStepMovesOne_44 rfl ?_
          exact r_zret C (by decide) dX1_eachStepMovesOne_45 h
        · replace h := h.2 hc
          refine r_aload_n C 0 dX1_eachStepMovesOne_31 rfl rfl ?_
          refine r_aload_n C 0 dX1_eachStepMovesOne_32 rfl rfl ?_
          refine gX1_15 C h_v0 dX1_eachStepMovesOne_33 ?_
          refine r_iload_n C 1 dX1_eachStepMovesOne_36 rfl rfl ?_
          refine cX1_68 C h_v0 (m_X1_allOfStep l h_v0 (isI_of (isX1_A2 h_v0)) h) ⟨Nat.le_of_ble_eq_true rfl, Nat.le_of_ble_eq_true rfl⟩ (Nat.le_of_ble_eq_true rfl) ⟨Nat.le_refl 0, Nat.le_refl 0⟩ dX1_eachStepMovesOne_37 (fun r_3 M_4 h => ?_)
          refine r_iconst (v := (1 : Int32)) C dX1_eachStepMovesOne_40 rfl ?_
          refine r_icmp_eq C 46 dX1_eachStepMovesOne_41 (by decide) (fun hc => ?_) (fun hc => ?_)
          · replace h := h.1 hc
            refine r_iinc C 1 (v := _) [(1, .int _), (0, .ref _)] dX1_eachStepMovesOne_46 rfl rfl (by decide) rfl ?_
            refine r_goto C 2 dX1_eachStepMovesOne_49 (by decide) ?_
            exact r_sub [1, 0] rfl (ih _ _ h)
          · replace h := h.2 hc
            refine r_iconst (v := (0 : Int32)) C dX1_eachStepMovesOne_44 rfl ?_
            exact r_zret C (by decide) dX1_eachStepMovesOne_45 h

def f_X1_eachStepMovesOne (v0 : Nat) (M : Mem) (K : Int32 → Mem → Prop) : Prop := (∃ k2 : Nat, L_X1_eachStepMovesOne_2 v0 (fun  (M_5 : Mem) => K (1 : Int32) M_5) K k2 (0 : Int32) M)

set_option maxHeartbeats 1000000 in
set_option maxRecDepth 10000 in
theorem m_X1_eachStepMovesOne (l : Launch) {v0 : Nat} (h_v0 : isX1 v0) {M : Mem} {K : Int32 → Mem → Prop} (h : f_X1_eachStepMovesOne v0 M K) : CTi l yX1_eachStepMovesOne cX1_eachStepMovesOne 2 (some .boolean) rm_X1_eachStepMovesOne (fun ad => [.ref (ad v0)]) M K := by
  refine rw_enti (by decide +kernel) (fun ad => Nat.le_of_ble_eq_true rfl) (fun p e s m args below meth c D cy ad C => ?_)
  change rw_W p l e _ s m args below meth c D cy ad 2 0 0 _ 0 [(0, .ref (ad v0))] [] M
  unfold f_X1_eachStepMovesOne at h
  refine r_iconst (v := (0 : Int32)) C dX1_eachStepMovesOne_0 rfl ?_
  refine r_istore_n C [(1, .int _), (0, .ref _)] dX1_eachStepMovesOne_1 rfl (by decide) rfl ?_
  obtain ⟨n2, h⟩ := h
  refine r_sub [1, 0] rfl (mL_X1_eachStepMovesOne_2 C h_v0 (fun M_5 h => ?_) n2 _ _ h)
  refine r_iconst (v := (1 : Int32)) C dX1_eachStepMovesOne_52 rfl ?_
  exact r_zret C (by decide) dX1_eachStepMovesOne_53 h
def L_X1_allOfPlace_5 (v0 : Nat) (v1 : Nat) (v2 : Int32) (X32 : Int32 → Mem → Prop) (K : Int32 → Mem → Prop) : Nat → Int32 → Int32 → Mem → Prop
  | 0, _, _, _ => False
  | n + 1, v3, v4, M => (((M.1 v0 4) ≤ v4 → X32 v3 M) ∧ (¬ (M.1 v0 4) ≤ v4 → vp_in ((v4 * (10 : Int32)) + v2) (alen v1) ∧ ∀ x3 : Int32, x3 = v3 + (gI M v1 ((v4 * (10 : Int32)) + v2)) → L_X1_allOfPlace_5 v0 v1 v2 X32 K n x3 (v4 + (1 : Int32)) M))

set_option maxHeartbeats 1000000 in
set_option maxRecDepth 10000 in
theorem mL_X1_allOfPlace_5 (C : rw_C p s m meth c cX1_allOfPlace 5 RX1 (some .int) D cy ad) {v0 : Nat} {v1 : Nat} {v2 : Int32} (h_v0 : isX1 v0) (h_v1 : isA v1 0 (alen v1)) {X32 : Int32 → Mem → Prop} {K : Int32 → Mem → Prop} (hX32 : ∀ (u3 : Int32) (M : Mem), X32 u3 M → rw_W p l e rm_X1_allOfPlace s m args below meth c D cy ad 5 0 0 (rw_Qi below args s D cy ad K) 32 [(3, .int u3)] [] M) : ∀ (n : Nat) (v3 : Int32) (v4 : Int32) (M : Mem), L_X1_allOfPlace_5 v0 v1 v2 X32 K n v3 v4 M → rw_W p l e rm_X1_allOfPlace s m args below meth c D cy ad 5 0 0 (rw_Qi below args s D cy ad K) 5 [(0, .ref (ad v0)), (1, .ref (ad v1)), (2, .int v2), (3, .int v3), (4, .int v4)] [] M := by
  intro n
  induction n with
  | zero => intro v3 v4 M h; exact h.elim
  | succ n ih =>
    intro v3 v4 M h
    refine r_iload C 4 dX1_allOfPlace_5 rfl ?_
    refine r_aload_n C 0 dX1_allOfPlace_7 rfl rfl ?_
    refine gX1_25 C h_v0 dX1_allOfPlace_8 ?_
    refine r_icmp_ge C 32 dX1_allOfPlace_11 (by decide) (fun hc => ?_) (fun hc => ?_)
    · replace h := h.1 hc
      exact r_sub [3] rfl (hX32 _ _ h)
    · replace h := h.2 hc
      refine r_iload_n C 3 dX1_allOfPlace_14 rfl rfl ?_
      refine r_aload_n C 1 dX1_allOfPlace_15 rfl rfl ?_
      refine r_iload C 4 dX1_allOfPlace_16 rfl ?_
      refine r_bipush (v := (10 : Int32)) C dX1_allOfPlace_18 rfl ?_
      refine r_imul C dX1_allOfPlace_20 ?_
      refine r_iload_n C 2 dX1_allOfPlace_21 rfl rfl ?_
      refine r_iadd C dX1_allOfPlace_22 ?_
      obtain ⟨q, h⟩ := h
      refine r_iald C h_v1 q dX1_allOfPlace_23 ?_
      refine r_iadd C dX1_allOfPlace_24 ?_
      refine r_istore_n C [(3, .int _), (0, .ref _), (1, .ref _), (2, .int _), (4, .int _)] dX1_allOfPlace_25 rfl (by decide) rfl ?_
      replace h := h _ rfl
      refine r_iinc C 4 (v := _) [(4, .int _), (3, .int _), (0, .ref _), (1, .ref _), (2, .int _)] dX1_allOfPlace_26 rfl rfl (by decide) rfl ?_
      refine r_goto C 5 dX1_allOfPlace_29 (by decide) ?_
      exact r_sub [2, 3, 4, 1, 0] rfl (ih _ _ _ h)

def f_X1_allOfPlace (v0 : Nat) (v1 : Nat) (v2 : Int32) (M : Mem) (K : Int32 → Mem → Prop) : Prop := (∃ k5 : Nat, L_X1_allOfPlace_5 v0 v1 v2 (fun (v3_2 : Int32) (M_2 : Mem) => K v3_2 M_2) K k5 (0 : Int32) (0 : Int32) M)

set_option maxHeartbeats 1000000 in
set_option maxRecDepth 10000 in
theorem m_X1_allOfPlace (l : Launch) {v0 : Nat} {v1 : Nat} {v2 : Int32} (h_v0 : isX1 v0) (h_v1 : isI v1) {M : Mem} {K : Int32 → Mem → Prop} (h : f_X1_allOfPlace v0 v1 v2 M K) : CTi l yX1_allOfPlace cX1_allOfPlace 5 (some .int) rm_X1_allOfPlace (fun ad => [.ref (ad v0), .ref (ad v1), .int v2]) M K := by
  refine rw_enti (by decide +kernel) (fun ad => Nat.le_of_ble_eq_true rfl) (fun p e s m args below meth c D cy ad C => ?_)
  change rw_W p l e _ s m args below meth c D cy ad 5 0 0 _ 0 [(0, .ref (ad v0)), (1, .ref (ad v1)), (2, .int v2)] [] M
  unfold f_X1_allOfPlace at h
  refine r_iconst (v := (0 : Int32)) C dX1_allOfPlace_0 rfl ?_
  refine r_istore_n C [(3, .int _), (0, .ref _), (1, .ref _), (2, .int _)] dX1_allOfPlace_1 rfl (by decide) rfl ?_
  refine r_iconst (v := (0 : Int32)) C dX1_allOfPlace_2 rfl ?_
  refine r_istore C [(4, .int _), (3, .int _), (0, .ref _), (1, .ref _), (2, .int _)] dX1_allOfPlace_3 (by decide) rfl ?_
  obtain ⟨n5, h⟩ := h
  refine r_sub [2, 3, 4, 1, 0] rfl (mL_X1_allOfPlace_5 C h_v0 h_v1 (fun v3_2 M_2 h => ?_) n5 _ _ _ h)
  refine r_iload_n C 0 dX1_allOfPlace_32 rfl rfl ?_
  exact r_iret C dX1_allOfPlace_33 h
def L_X1_eachPlaceIsPassed_2 (v0 : Nat) (X52 : Mem → Prop) (K : Int32 → Mem → Prop) : Nat → Int32 → Mem → Prop
  | 0, _, _ => False
  | n + 1, v1, M => (((M.1 v0 3) ≤ v1 → X52 M) ∧ (¬ (M.1 v0 3) ≤ v1 → f_X1_hasPlace v0 v1 M (fun (r : Int32) (M_2 : Mem) => ((r = 0 → L_X1_eachPlaceIsPassed_2 v0 X52 K n (v1 + (1 : Int32)) M_2) ∧ (¬ r = 0 → f_X1_allOfPlace v0 (v0 + 1) v1 M_2 (fun (r_2 : Int32) (M_3 : Mem) => ((¬ r_2 = (1 : Int32) → K (0 : Int32) M_3) ∧ (r_2 = (1 : Int32) → f_X1_allOfPlace v0 (v0 + 2) v1 M_3 (fun (r_3 : Int32) (M_4 : Mem) => ((r_3 = (1 : Int32) → L_X1_eachPlaceIsPassed_2 v0 X52 K n (v1 + (1 : Int32)) M_4) ∧ (¬ r_3 = (1 : Int32) → K (0 : Int32) M_4)))))))))))

set_option maxHeartbeats 1000000 in
set_option maxRecDepth 10000 in
theorem mL_X1_eachPlaceIsPassed_2 (C : rw_C p s m meth c cX1_eachPlaceIsPassed 2 RX1 (some .boolean) D cy ad) {v0 : Nat} (h_v0 : isX1 v0) {X52 : Mem → Prop} {K : Int32 → Mem → Prop} (hX52 : ∀  (M : Mem), X52 M → rw_W p l e rm_X1_eachPlaceIsPassed s m args below meth c D cy ad 2 0 0 (rw_Qi below args s D cy ad K) 52 [] [] M) : ∀ (n : Nat) (v1 : Int32) (M : Mem), L_X1_eachPlaceIsPassed_2 v0 X52 K n v1 M → rw_W p l e rm_X1_eachPlaceIsPassed s m args below meth c D cy ad 2 0 0 (rw_Qi below args s D cy ad K) 2 [(0, .ref (ad v0)), (1, .int v1)] [] M := by
  intro n
  induction n with
  | zero => intro v1 M h; exact h.elim
  | succ n ih =>
    intro v1 M h
    refine r_iload_n C 1 dX1_eachPlaceIsPassed_2 rfl rfl ?_
    refine r_aload_n C 0 dX1_eachPlaceIsPassed_3 rfl rfl ?_
    refine gX1_21 C h_v0 dX1_eachPlaceIsPassed_4 ?_
    refine r_icmp_ge C 52 dX1_eachPlaceIsPassed_7 (by decide) (fun hc => ?_) (fun hc => ?_)
    · replace h := h.1 hc
      exact r_sub [] rfl (hX52 _ h)
    · replace h := h.2 hc
      refine r_aload_n C 0 dX1_eachPlaceIsPassed_10 rfl rfl ?_
      refine r_iload_n C 1 dX1_eachPlaceIsPassed_11 rfl rfl ?_
      refine cX1_71 C h_v0 (m_X1_hasPlace l h_v0 h) ⟨Nat.le_of_ble_eq_true rfl, Nat.le_of_ble_eq_true rfl⟩ (Nat.le_of_ble_eq_true rfl) ⟨Nat.le_refl 0, Nat.le_refl 0⟩ dX1_eachPlaceIsPassed_12 (fun r M_2 h => ?_)
      refine r_if_eq C 46 dX1_eachPlaceIsPassed_15 (by decide) (fun hc => ?_) (fun hc => ?_)
      · replace h := h.1 hc
        refine r_iinc C 1 (v := _) [(1, .int _), (0, .ref _)] dX1_eachPlaceIsPassed_46 rfl rfl (by decide) rfl ?_
        refine r_goto C 2 dX1_eachPlaceIsPassed_49 (by decide) ?_
        exact r_sub [1, 0] rfl (ih _ _ h)
      · replace h := h.2 hc
        refine r_aload_n C 0 dX1_eachPlaceIsPassed_18 rfl rfl ?_
        refine r_aload_n C 0 dX1_eachPlaceIsPassed_19 rfl rfl ?_
        refine gX1_9 C h_v0 dX1_eachPlaceIsPassed_20 ?_
        refine r_iload_n C 1 dX1_eachPlaceIsPassed_23 rfl rfl ?_
        refine cX1_74 C h_v0 (m_X1_allOfPlace l h_v0 (isI_of (isX1_A1 h_v0)) h) ⟨Nat.le_of_ble_eq_true rfl, Nat.le_of_ble_eq_true rfl⟩ (Nat.le_of_ble_eq_true rfl) ⟨Nat.le_refl 0, Nat.le_refl 0⟩ dX1_eachPlaceIsPassed_24 (fun r_2 M_3 h => ?_)
        refine r_iconst (v := (1 : Int32)) C dX1_eachPlaceIsPassed_27 rfl ?_
        refine r_icmp_ne C 44 dX1_eachPlaceIsPassed_28 (by decide) (fun hc => ?_) (fun hc => ?_)
        · replace h := h.1 hc
          refine r_iconst (v := (0 : Int32)) C dX1_eachPlaceIsPassed_44 rfl ?_
          exact r_zret C (by decide) dX1_eachPlaceIsPassed_45 h
        · replace h := h.2 hc
          refine r_aload_n C 0 dX1_eachPlaceIsPassed_31 rfl rfl ?_
          refine r_aload_n C 0 dX1_eachPlaceIsPassed_32 rfl rfl ?_
          refine gX1_15 C h_v0 dX1_eachPlaceIsPassed_33 ?_
          refine r_iload_n C 1 dX1_eachPlaceIsPassed_36 rfl rfl ?_
          refine cX1_74 C h_v0 (m_X1_allOfPlace l h_v0 (isI_of (isX1_A2 h_v0)) h) ⟨Nat.le_of_ble_eq_true rfl, Nat.le_of_ble_eq_true rfl⟩ (Nat.le_of_ble_eq_true rfl) ⟨Nat.le_refl 0, Nat.le_refl 0⟩ dX1_eachPlaceIsPassed_37 (fun r_3 M_4 h => ?_)
          refine r_iconst (v := (1 : Int32)) C dX1_eachPlaceIsPassed_40 rfl ?_
          refine r_icmp_eq C 46 dX1_eachPlaceIsPassed_41 (by decide) (fun hc => ?_) (fun hc => ?_)
          · replace h := h.1 hc
            refine r_iinc C 1 (v := _) [(1, .int _), (0, .ref _)] dX1_eachPlaceIsPassed_46 rfl rfl (by decide) rfl ?_
            refine r_goto C 2 dX1_eachPlaceIsPassed_49 (by decide) ?_
            exact r_sub [1, 0] rfl (ih _ _ h)
          · replace h := h.2 hc
            refine r_iconst (v := (0 : Int32)) C dX1_eachPlaceIsPassed_44 rfl ?_
            exact r_zret C (by decide) dX1_eachPlaceIsPassed_45 h

def f_X1_eachPlaceIsPassed (v0 : Nat) (M : Mem) (K : Int32 → Mem → Prop) : Prop := (∃ k2 : Nat, L_X1_eachPlaceIsPassed_2 v0 (fun  (M_5 : Mem) => K (1 : Int32) M_5) K k2 (0 : Int32) M)

set_option maxHeartbeats 1000000 in
set_option maxRecDepth 10000 in
theorem m_X1_eachPlaceIsPassed (l : Launch) {v0 : Nat} (h_v0 : isX1 v0) {M : Mem} {K : Int32 → Mem → Prop} (h : f_X1_eachPlaceIsPassed v0 M K) : CTi l yX1_eachPlaceIsPassed cX1_eachPlaceIsPassed 2 (some .boolean) rm_X1_eachPlaceIsPassed (fun ad => [.ref (ad v0)]) M K := by
  refine rw_enti (by decide +kernel) (fun ad => Nat.le_of_ble_eq_true rfl) (fun p e s m args below meth c D cy ad C => ?_)
  change rw_W p l e _ s m args below meth c D cy ad 2 0 0 _ 0 [(0, .ref (ad v0))] [] M
  unfold f_X1_eachPlaceIsPassed at h
  refine r_iconst (v := (0 : Int32)) C dX1_eachPlaceIsPassed_0 rfl ?_
  refine r_istore_n C [(1, .int _), (0, .ref _)] dX1_eachPlaceIsPassed_1 rfl (by decide) rfl ?_
  obtain ⟨n2, h⟩ := h
  refine r_sub [1, 0] rfl (mL_X1_eachPlaceIsPassed_2 C h_v0 (fun M_5 h => ?_) n2 _ _ h)
  refine r_iconst (v := (1 : Int32)) C dX1_eachPlaceIsPassed_52 rfl ?_
  exact r_zret C (by decide) dX1_eachPlaceIsPassed_53 h
def L_X1_sameOfSteps_3 (v0 : Nat) (v1 : Nat) (v2 : Int32) (v3 : Int32) (X41 : Mem → Prop) (K : Int32 → Mem → Prop) : Nat → Int32 → Mem → Prop
  | 0, _, _ => False
  | n + 1, v4, M => (((M.1 v0 3) ≤ v4 → X41 M) ∧ (¬ (M.1 v0 3) ≤ v4 → vp_in ((v2 * (10 : Int32)) + v4) (alen v1) ∧ vp_in ((v3 * (10 : Int32)) + v4) (alen v1) ∧ (((gI M v1 ((v2 * (10 : Int32)) + v4)) = (gI M v1 ((v3 * (10 : Int32)) + v4)) → L_X1_sameOfSteps_3 v0 v1 v2 v3 X41 K n (v4 + (1 : Int32)) M) ∧ (¬ (gI M v1 ((v2 * (10 : Int32)) + v4)) = (gI M v1 ((v3 * (10 : Int32)) + v4)) → K (0 : Int32) M))))

set_option maxHeartbeats 1000000 in
set_option maxRecDepth 10000 in
theorem mL_X1_sameOfSteps_3 (C : rw_C p s m meth c cX1_sameOfSteps 5 RX1 (some .boolean) D cy ad) {v0 : Nat} {v1 : Nat} {v2 : Int32} {v3 : Int32} (h_v0 : isX1 v0) (h_v1 : isA v1 0 (alen v1)) {X41 : Mem → Prop} {K : Int32 → Mem → Prop} (hX41 : ∀  (M : Mem), X41 M → rw_W p l e rm_X1_sameOfSteps s m args below meth c D cy ad 5 0 0 (rw_Qi below args s D cy ad K) 41 [] [] M) : ∀ (n : Nat) (v4 : Int32) (M : Mem), L_X1_sameOfSteps_3 v0 v1 v2 v3 X41 K n v4 M → rw_W p l e rm_X1_sameOfSteps s m args below meth c D cy ad 5 0 0 (rw_Qi below args s D cy ad K) 3 [(0, .ref (ad v0)), (1, .ref (ad v1)), (2, .int v2), (3, .int v3), (4, .int v4)] [] M := by
  intro n
  induction n with
  | zero => intro v4 M h; exact h.elim
  | succ n ih =>
    intro v4 M h
    refine r_iload C 4 dX1_sameOfSteps_3 rfl ?_
    refine r_aload_n C 0 dX1_sameOfSteps_5 rfl rfl ?_
    refine gX1_21 C h_v0 dX1_sameOfSteps_6 ?_
    refine r_icmp_ge C 41 dX1_sameOfSteps_9 (by decide) (fun hc => ?_) (fun hc => ?_)
    · replace h := h.1 hc
      exact r_sub [] rfl (hX41 _ h)
    · replace h := h.2 hc
      refine r_aload_n C 1 dX1_sameOfSteps_12 rfl rfl ?_
      refine r_iload_n C 2 dX1_sameOfSteps_13 rfl rfl ?_
      refine r_bipush (v := (10 : Int32)) C dX1_sameOfSteps_14 rfl ?_
      refine r_imul C dX1_sameOfSteps_16 ?_
      refine r_iload C 4 dX1_sameOfSteps_17 rfl ?_
      refine r_iadd C dX1_sameOfSteps_19 ?_
      obtain ⟨q, h⟩ := h
      refine r_iald C h_v1 q dX1_sameOfSteps_20 ?_
      refine r_aload_n C 1 dX1_sameOfSteps_21 rfl rfl ?_
      refine r_iload_n C 3 dX1_sameOfSteps_22 rfl rfl ?_
      refine r_bipush (v := (10 : Int32)) C dX1_sameOfSteps_23 rfl ?_
      refine r_imul C dX1_sameOfSteps_25 ?_
      refine r_iload C 4 dX1_sameOfSteps_26 rfl ?_
      refine r_iadd C dX1_sameOfSteps_28 ?_
      obtain ⟨q_2, h⟩ := h
      refine r_iald C h_v1 q_2 dX1_sameOfSteps_29 ?_
      refine r_icmp_eq C 35 dX1_sameOfSteps_30 (by decide) (fun hc => ?_) (fun hc => ?_)
      · replace h := h.1 hc
        refine r_iinc C 4 (v := _) [(4, .int _), (0, .ref _), (1, .ref _), (2, .int _), (3, .int _)] dX1_sameOfSteps_35 rfl rfl (by decide) rfl ?_
        refine r_goto C 3 dX1_sameOfSteps_38 (by decide) ?_
        exact r_sub [1, 2, 3, 4, 0] rfl (ih _ _ h)
      · replace h := h.2 hc
        refine r_iconst (v := (0 : Int32)) C dX1_sameOfSteps_33 rfl ?_
        exact r_zret C (by decide) dX1_sameOfSteps_34 h

def f_X1_sameOfSteps (v0 : Nat) (v1 : Nat) (v2 : Int32) (v3 : Int32) (M : Mem) (K : Int32 → Mem → Prop) : Prop := (∃ k3 : Nat, L_X1_sameOfSteps_3 v0 v1 v2 v3 (fun  (M_2 : Mem) => K (1 : Int32) M_2) K k3 (0 : Int32) M)

set_option maxHeartbeats 1000000 in
set_option maxRecDepth 10000 in
theorem m_X1_sameOfSteps (l : Launch) {v0 : Nat} {v1 : Nat} {v2 : Int32} {v3 : Int32} (h_v0 : isX1 v0) (h_v1 : isI v1) {M : Mem} {K : Int32 → Mem → Prop} (h : f_X1_sameOfSteps v0 v1 v2 v3 M K) : CTi l yX1_sameOfSteps cX1_sameOfSteps 5 (some .boolean) rm_X1_sameOfSteps (fun ad => [.ref (ad v0), .ref (ad v1), .int v2, .int v3]) M K := by
  refine rw_enti (by decide +kernel) (fun ad => Nat.le_of_ble_eq_true rfl) (fun p e s m args below meth c D cy ad C => ?_)
  change rw_W p l e _ s m args below meth c D cy ad 5 0 0 _ 0 [(0, .ref (ad v0)), (1, .ref (ad v1)), (2, .int v2), (3, .int v3)] [] M
  unfold f_X1_sameOfSteps at h
  refine r_iconst (v := (0 : Int32)) C dX1_sameOfSteps_0 rfl ?_
  refine r_istore C [(4, .int _), (0, .ref _), (1, .ref _), (2, .int _), (3, .int _)] dX1_sameOfSteps_1 (by decide) rfl ?_
  obtain ⟨n3, h⟩ := h
  refine r_sub [1, 2, 3, 4, 0] rfl (mL_X1_sameOfSteps_3 C h_v0 h_v1 (fun M_2 h => ?_) n3 _ _ h)
  refine r_iconst (v := (1 : Int32)) C dX1_sameOfSteps_41 rfl ?_
  exact r_zret C (by decide) dX1_sameOfSteps_42 h
def L_X1_rivalsTakeAlike_14 (v0 : Nat) (v1 : Int32) (X57 : Mem → Prop) (K : Int32 → Mem → Prop) : Nat → Int32 → Mem → Prop
  | 0, _, _ => False
  | n + 1, v2, M => (((M.1 v0 4) ≤ v2 → X57 M) ∧ (¬ (M.1 v0 4) ≤ v2 → f_X1_takenFrom v0 v1 M (fun (r : Int32) (M_2 : Mem) => f_X1_takenFrom v0 v2 M_2 (fun (r_2 : Int32) (M_3 : Mem) => (((r &&& r_2) = 0 → L_X1_rivalsTakeAlike_14 v0 v1 X57 K n (v2 + (1 : Int32)) M_3) ∧ (¬ (r &&& r_2) = 0 → f_X1_sameOfSteps v0 (v0 + 1) v1 v2 M_3 (fun (r_3 : Int32) (M_4 : Mem) => ((¬ r_3 = 0 → L_X1_rivalsTakeAlike_14 v0 v1 X57 K n (v2 + (1 : Int32)) M_4) ∧ (r_3 = 0 → K (0 : Int32) M_4)))))))))

set_option maxHeartbeats 1000000 in
set_option maxRecDepth 10000 in
theorem mL_X1_rivalsTakeAlike_14 (C : rw_C p s m meth c cX1_rivalsTakeAlike 3 RX1 (some .boolean) D cy ad) {v0 : Nat} {v1 : Int32} (h_v0 : isX1 v0) {X57 : Mem → Prop} {K : Int32 → Mem → Prop} (hX57 : ∀  (M : Mem), X57 M → rw_W p l e rm_X1_rivalsTakeAlike s m args below meth c D cy ad 3 0 0 (rw_Qi below args s D cy ad K) 57 [(0, .ref (ad v0)), (1, .int v1)] [] M) : ∀ (n : Nat) (v2 : Int32) (M : Mem), L_X1_rivalsTakeAlike_14 v0 v1 X57 K n v2 M → rw_W p l e rm_X1_rivalsTakeAlike s m args below meth c D cy ad 3 0 0 (rw_Qi below args s D cy ad K) 14 [(0, .ref (ad v0)), (1, .int v1), (2, .int v2)] [] M := by
  intro n
  induction n with
  | zero => intro v2 M h; exact h.elim
  | succ n ih =>
    intro v2 M h
    refine r_iload_n C 2 dX1_rivalsTakeAlike_14 rfl rfl ?_
    refine r_aload_n C 0 dX1_rivalsTakeAlike_15 rfl rfl ?_
    refine gX1_25 C h_v0 dX1_rivalsTakeAlike_16 ?_
    refine r_icmp_ge C 57 dX1_rivalsTakeAlike_19 (by decide) (fun hc => ?_) (fun hc => ?_)
    · replace h := h.1 hc
      exact r_sub [0, 1] rfl (hX57 _ h)
    · replace h := h.2 hc
      refine r_aload_n C 0 dX1_rivalsTakeAlike_22 rfl rfl ?_
      refine r_iload_n C 1 dX1_rivalsTakeAlike_23 rfl rfl ?_
      refine cX1_77 C h_v0 (m_X1_takenFrom l h_v0 h) ⟨Nat.le_of_ble_eq_true rfl, Nat.le_of_ble_eq_true rfl⟩ (Nat.le_of_ble_eq_true rfl) ⟨Nat.le_refl 0, Nat.le_refl 0⟩ dX1_rivalsTakeAlike_24 (fun r M_2 h => ?_)
      refine r_aload_n C 0 dX1_rivalsTakeAlike_27 rfl rfl ?_
      refine r_iload_n C 2 dX1_rivalsTakeAlike_28 rfl rfl ?_
      refine cX1_77 C h_v0 (m_X1_takenFrom l h_v0 h) ⟨Nat.le_of_ble_eq_true rfl, Nat.le_of_ble_eq_true rfl⟩ (Nat.le_of_ble_eq_true rfl) ⟨Nat.le_refl 0, Nat.le_refl 0⟩ dX1_rivalsTakeAlike_29 (fun r_2 M_3 h => ?_)
      refine r_iand C dX1_rivalsTakeAlike_32 ?_
      refine r_if_eq C 51 dX1_rivalsTakeAlike_33 (by decide) (fun hc => ?_) (fun hc => ?_)
      · replace h := h.1 hc
        refine r_iinc C 2 (v := _) [(2, .int _), (0, .ref _), (1, .int _)] dX1_rivalsTakeAlike_51 rfl rfl (by decide) rfl ?_
        refine r_goto C 14 dX1_rivalsTakeAlike_54 (by decide) ?_
        exact r_sub [1, 2, 0] rfl (ih _ _ h)
      · replace h := h.2 hc
        refine r_aload_n C 0 dX1_rivalsTakeAlike_36 rfl rfl ?_
        refine r_aload_n C 0 dX1_rivalsTakeAlike_37 rfl rfl ?_
        refine gX1_9 C h_v0 dX1_rivalsTakeAlike_38 ?_
        refine r_iload_n C 1 dX1_rivalsTakeAlike_41 rfl rfl ?_
        refine r_iload_n C 2 dX1_rivalsTakeAlike_42 rfl rfl ?_
        refine cX1_81 C h_v0 (m_X1_sameOfSteps l h_v0 (isI_of (isX1_A1 h_v0)) h) ⟨Nat.le_of_ble_eq_true rfl, Nat.le_of_ble_eq_true rfl⟩ (Nat.le_of_ble_eq_true rfl) ⟨Nat.le_refl 0, Nat.le_refl 0⟩ dX1_rivalsTakeAlike_43 (fun r_3 M_4 h => ?_)
        refine r_if_ne C 51 dX1_rivalsTakeAlike_46 (by decide) (fun hc => ?_) (fun hc => ?_)
        · replace h := h.1 hc
          refine r_iinc C 2 (v := _) [(2, .int _), (0, .ref _), (1, .int _)] dX1_rivalsTakeAlike_51 rfl rfl (by decide) rfl ?_
          refine r_goto C 14 dX1_rivalsTakeAlike_54 (by decide) ?_
          exact r_sub [1, 2, 0] rfl (ih _ _ h)
        · replace h := h.2 hc
          refine r_iconst (v := (0 : Int32)) C dX1_rivalsTakeAlike_49 rfl ?_
          exact r_zret C (by decide) dX1_rivalsTakeAlike_50 h

def L_X1_rivalsTakeAlike_2 (v0 : Nat) (X63 : Mem → Prop) (K : Int32 → Mem → Prop) : Nat → Int32 → Mem → Prop
  | 0, _, _ => False
  | n + 1, v1, M => (((M.1 v0 4) ≤ v1 → X63 M) ∧ (¬ (M.1 v0 4) ≤ v1 → ∀ x2 : Int32, x2 = v1 + (1 : Int32) → (∃ k14 : Nat, L_X1_rivalsTakeAlike_14 v0 v1 (fun  (M_5 : Mem) => L_X1_rivalsTakeAlike_2 v0 X63 K n (v1 + (1 : Int32)) M_5) K k14 x2 M)))

set_option maxHeartbeats 1000000 in
set_option maxRecDepth 10000 in
theorem mL_X1_rivalsTakeAlike_2 (C : rw_C p s m meth c cX1_rivalsTakeAlike 3 RX1 (some .boolean) D cy ad) {v0 : Nat} (h_v0 : isX1 v0) {X63 : Mem → Prop} {K : Int32 → Mem → Prop} (hX63 : ∀  (M : Mem), X63 M → rw_W p l e rm_X1_rivalsTakeAlike s m args below meth c D cy ad 3 0 0 (rw_Qi below args s D cy ad K) 63 [] [] M) : ∀ (n : Nat) (v1 : Int32) (M : Mem), L_X1_rivalsTakeAlike_2 v0 X63 K n v1 M → rw_W p l e rm_X1_rivalsTakeAlike s m args below meth c D cy ad 3 0 0 (rw_Qi below args s D cy ad K) 2 [(0, .ref (ad v0)), (1, .int v1)] [] M := by
  intro n
  induction n with
  | zero => intro v1 M h; exact h.elim
  | succ n ih =>
    intro v1 M h
    refine r_iload_n C 1 dX1_rivalsTakeAlike_2 rfl rfl ?_
    refine r_aload_n C 0 dX1_rivalsTakeAlike_3 rfl rfl ?_
    refine gX1_25 C h_v0 dX1_rivalsTakeAlike_4 ?_
    refine r_icmp_ge C 63 dX1_rivalsTakeAlike_7 (by decide) (fun hc => ?_) (fun hc => ?_)
    · replace h := h.1 hc
      exact r_sub [] rfl (hX63 _ h)
    · replace h := h.2 hc
      refine r_iload_n C 1 dX1_rivalsTakeAlike_10 rfl rfl ?_
      refine r_iconst (v := (1 : Int32)) C dX1_rivalsTakeAlike_11 rfl ?_
      refine r_iadd C dX1_rivalsTakeAlike_12 ?_
      refine r_istore_n C [(2, .int _), (0, .ref _), (1, .int _)] dX1_rivalsTakeAlike_13 rfl (by decide) rfl ?_
      replace h := h _ rfl
      obtain ⟨n14, h⟩ := h
      refine r_sub [1, 2, 0] rfl (mL_X1_rivalsTakeAlike_14 C h_v0 (fun M_5 h => ?_) n14 _ _ h)
      refine r_iinc C 1 (v := _) [(1, .int _), (0, .ref _)] dX1_rivalsTakeAlike_57 rfl rfl (by decide) rfl ?_
      refine r_goto C 2 dX1_rivalsTakeAlike_60 (by decide) ?_
      exact r_sub [1, 0] rfl (ih _ _ h)

def f_X1_rivalsTakeAlike (v0 : Nat) (M : Mem) (K : Int32 → Mem → Prop) : Prop := (∃ k2 : Nat, L_X1_rivalsTakeAlike_2 v0 (fun  (M_6 : Mem) => K (1 : Int32) M_6) K k2 (0 : Int32) M)

set_option maxHeartbeats 1000000 in
set_option maxRecDepth 10000 in
theorem m_X1_rivalsTakeAlike (l : Launch) {v0 : Nat} (h_v0 : isX1 v0) {M : Mem} {K : Int32 → Mem → Prop} (h : f_X1_rivalsTakeAlike v0 M K) : CTi l yX1_rivalsTakeAlike cX1_rivalsTakeAlike 3 (some .boolean) rm_X1_rivalsTakeAlike (fun ad => [.ref (ad v0)]) M K := by
  refine rw_enti (by decide +kernel) (fun ad => Nat.le_of_ble_eq_true rfl) (fun p e s m args below meth c D cy ad C => ?_)
  change rw_W p l e _ s m args below meth c D cy ad 3 0 0 _ 0 [(0, .ref (ad v0))] [] M
  unfold f_X1_rivalsTakeAlike at h
  refine r_iconst (v := (0 : Int32)) C dX1_rivalsTakeAlike_0 rfl ?_
  refine r_istore_n C [(1, .int _), (0, .ref _)] dX1_rivalsTakeAlike_1 rfl (by decide) rfl ?_
  obtain ⟨n2, h⟩ := h
  refine r_sub [1, 0] rfl (mL_X1_rivalsTakeAlike_2 C h_v0 (fun M_6 h => ?_) n2 _ _ h)
  refine r_iconst (v := (1 : Int32)) C dX1_rivalsTakeAlike_63 rfl ?_
  exact r_zret C (by decide) dX1_rivalsTakeAlike_64 h
def L_X1_sameOfPlaces_3 (v0 : Nat) (v1 : Nat) (v2 : Int32) (v3 : Int32) (X41 : Mem → Prop) (K : Int32 → Mem → Prop) : Nat → Int32 → Mem → Prop
  | 0, _, _ => False
  | n + 1, v4, M => (((M.1 v0 4) ≤ v4 → X41 M) ∧ (¬ (M.1 v0 4) ≤ v4 → vp_in ((v4 * (10 : Int32)) + v2) (alen v1) ∧ vp_in ((v4 * (10 : Int32)) + v3) (alen v1) ∧ (((gI M v1 ((v4 * (10 : Int32)) + v2)) = (gI M v1 ((v4 * (10 : Int32)) + v3)) → L_X1_sameOfPlaces_3 v0 v1 v2 v3 X41 K n (v4 + (1 : Int32)) M) ∧ (¬ (gI M v1 ((v4 * (10 : Int32)) + v2)) = (gI M v1 ((v4 * (10 : Int32)) + v3)) → K (0 : Int32) M))))

set_option maxHeartbeats 1000000 in
set_option maxRecDepth 10000 in
theorem mL_X1_sameOfPlaces_3 (C : rw_C p s m meth c cX1_sameOfPlaces 5 RX1 (some .boolean) D cy ad) {v0 : Nat} {v1 : Nat} {v2 : Int32} {v3 : Int32} (h_v0 : isX1 v0) (h_v1 : isA v1 0 (alen v1)) {X41 : Mem → Prop} {K : Int32 → Mem → Prop} (hX41 : ∀  (M : Mem), X41 M → rw_W p l e rm_X1_sameOfPlaces s m args below meth c D cy ad 5 0 0 (rw_Qi below args s D cy ad K) 41 [] [] M) : ∀ (n : Nat) (v4 : Int32) (M : Mem), L_X1_sameOfPlaces_3 v0 v1 v2 v3 X41 K n v4 M → rw_W p l e rm_X1_sameOfPlaces s m args below meth c D cy ad 5 0 0 (rw_Qi below args s D cy ad K) 3 [(0, .ref (ad v0)), (1, .ref (ad v1)), (2, .int v2), (3, .int v3), (4, .int v4)] [] M := by
  intro n
  induction n with
  | zero => intro v4 M h; exact h.elim
  | succ n ih =>
    intro v4 M h
    refine r_iload C 4 dX1_sameOfPlaces_3 rfl ?_
    refine r_aload_n C 0 dX1_sameOfPlaces_5 rfl rfl ?_
    refine gX1_25 C h_v0 dX1_sameOfPlaces_6 ?_
    refine r_icmp_ge C 41 dX1_sameOfPlaces_9 (by decide) (fun hc => ?_) (fun hc => ?_)
    · replace h := h.1 hc
      exact r_sub [] rfl (hX41 _ h)
    · replace h := h.2 hc
      refine r_aload_n C 1 dX1_sameOfPlaces_12 rfl rfl ?_
      refine r_iload C 4 dX1_sameOfPlaces_13 rfl ?_
      refine r_bipush (v := (10 : Int32)) C dX1_sameOfPlaces_15 rfl ?_
      refine r_imul C dX1_sameOfPlaces_17 ?_
      refine r_iload_n C 2 dX1_sameOfPlaces_18 rfl rfl ?_
      refine r_iadd C dX1_sameOfPlaces_19 ?_
      obtain ⟨q, h⟩ := h
      refine r_iald C h_v1 q dX1_sameOfPlaces_20 ?_
      refine r_aload_n C 1 dX1_sameOfPlaces_21 rfl rfl ?_
      refine r_iload C 4 dX1_sameOfPlaces_22 rfl ?_
      refine r_bipush (v := (10 : Int32)) C dX1_sameOfPlaces_24 rfl ?_
      refine r_imul C dX1_sameOfPlaces_26 ?_
      refine r_iload_n C 3 dX1_sameOfPlaces_27 rfl rfl ?_
      refine r_iadd C dX1_sameOfPlaces_28 ?_
      obtain ⟨q_2, h⟩ := h
      refine r_iald C h_v1 q_2 dX1_sameOfPlaces_29 ?_
      refine r_icmp_eq C 35 dX1_sameOfPlaces_30 (by decide) (fun hc => ?_) (fun hc => ?_)
      · replace h := h.1 hc
        refine r_iinc C 4 (v := _) [(4, .int _), (0, .ref _), (1, .ref _), (2, .int _), (3, .int _)] dX1_sameOfPlaces_35 rfl rfl (by decide) rfl ?_
        refine r_goto C 3 dX1_sameOfPlaces_38 (by decide) ?_
        exact r_sub [1, 2, 3, 4, 0] rfl (ih _ _ h)
      · replace h := h.2 hc
        refine r_iconst (v := (0 : Int32)) C dX1_sameOfPlaces_33 rfl ?_
        exact r_zret C (by decide) dX1_sameOfPlaces_34 h

def f_X1_sameOfPlaces (v0 : Nat) (v1 : Nat) (v2 : Int32) (v3 : Int32) (M : Mem) (K : Int32 → Mem → Prop) : Prop := (∃ k3 : Nat, L_X1_sameOfPlaces_3 v0 v1 v2 v3 (fun  (M_2 : Mem) => K (1 : Int32) M_2) K k3 (0 : Int32) M)

set_option maxHeartbeats 1000000 in
set_option maxRecDepth 10000 in
theorem m_X1_sameOfPlaces (l : Launch) {v0 : Nat} {v1 : Nat} {v2 : Int32} {v3 : Int32} (h_v0 : isX1 v0) (h_v1 : isI v1) {M : Mem} {K : Int32 → Mem → Prop} (h : f_X1_sameOfPlaces v0 v1 v2 v3 M K) : CTi l yX1_sameOfPlaces cX1_sameOfPlaces 5 (some .boolean) rm_X1_sameOfPlaces (fun ad => [.ref (ad v0), .ref (ad v1), .int v2, .int v3]) M K := by
  refine rw_enti (by decide +kernel) (fun ad => Nat.le_of_ble_eq_true rfl) (fun p e s m args below meth c D cy ad C => ?_)
  change rw_W p l e _ s m args below meth c D cy ad 5 0 0 _ 0 [(0, .ref (ad v0)), (1, .ref (ad v1)), (2, .int v2), (3, .int v3)] [] M
  unfold f_X1_sameOfPlaces at h
  refine r_iconst (v := (0 : Int32)) C dX1_sameOfPlaces_0 rfl ?_
  refine r_istore C [(4, .int _), (0, .ref _), (1, .ref _), (2, .int _), (3, .int _)] dX1_sameOfPlaces_1 (by decide) rfl ?_
  obtain ⟨n3, h⟩ := h
  refine r_sub [1, 2, 3, 4, 0] rfl (mL_X1_sameOfPlaces_3 C h_v0 h_v1 (fun M_2 h => ?_) n3 _ _ h)
  refine r_iconst (v := (1 : Int32)) C dX1_sameOfPlaces_41 rfl ?_
  exact r_zret C (by decide) dX1_sameOfPlaces_42 h
end MG
