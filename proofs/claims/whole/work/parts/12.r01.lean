section MG
variable {p : Program} {l : Launch} {e : Env} {R : Room} {s : State} {m : MethodId} {args : Array Value} {below : List Frame} {meth : Method} {c : Code} {D : va_G} {cy : Nat → ClassId} {ad : Nat → Nat}
def f_X9_thrown (M : Mem) (K : Int32 → Mem → Prop) : Prop := K (M.1 0 0) M

set_option maxHeartbeats 1000000 in
set_option maxRecDepth 10000 in
theorem m_X9_thrown (l : Launch)   {M : Mem} {K : Int32 → Mem → Prop} (h : f_X9_thrown M K) : CTi l yX9_thrown cX9_thrown 1 (some .int) rm_X9_thrown (fun ad => [.ref (ad 0)]) M K := by
  refine rw_enti (by decide +kernel) (fun ad => Nat.le_of_ble_eq_true rfl) (fun p e s m args below meth c D cy ad C => ?_)
  change rw_W p l e _ s m args below meth c D cy ad 1 0 0 _ 0 [(0, .ref (ad 0))] [] M
  unfold f_X9_thrown at h
  refine r_aload_n C 0 dX9_thrown_0 rfl rfl ?_
  refine gX9_133 C dX9_thrown_1 ?_
  exact r_iret C dX9_thrown_4 h
def f_X9_in (v0 : Int32) (v1 : Int32) (v2 : Int32) (M : Mem) (K : Int32 → Mem → Prop) : Prop := ((v0 < v1 → K (0 : Int32) M) ∧ (¬ v0 < v1 → ((v2 < v0 → K (0 : Int32) M) ∧ (¬ v2 < v0 → K (1 : Int32) M))))

set_option maxHeartbeats 1000000 in
set_option maxRecDepth 10000 in
theorem m_X9_in (l : Launch) {v0 : Int32} {v1 : Int32} {v2 : Int32}  {M : Mem} {K : Int32 → Mem → Prop} (h : f_X9_in v0 v1 v2 M K) : CTi l yX9_in cX9_in 3 (some .boolean) rm_X9_in (fun ad => [.int v0, .int v1, .int v2]) M K := by
  refine rw_enti (by decide +kernel) (fun ad => Nat.le_of_ble_eq_true rfl) (fun p e s m args below meth c D cy ad C => ?_)
  change rw_W p l e _ s m args below meth c D cy ad 3 0 0 _ 0 [(0, .int v0), (1, .int v1), (2, .int v2)] [] M
  unfold f_X9_in at h
  refine r_iload_n C 0 dX9_in_0 rfl rfl ?_
  refine r_iload_n C 1 dX9_in_1 rfl rfl ?_
  refine r_icmp_lt C 14 dX9_in_2 (by decide) (fun hc => ?_) (fun hc => ?_)
  · replace h := h.1 hc
    refine r_iconst (v := (0 : Int32)) C dX9_in_14 rfl ?_
    exact r_zret C (by decide) dX9_in_15 h
  · replace h := h.2 hc
    refine r_iload_n C 0 dX9_in_5 rfl rfl ?_
    refine r_iload_n C 2 dX9_in_6 rfl rfl ?_
    refine r_icmp_gt C 14 dX9_in_7 (by decide) (fun hc => ?_) (fun hc => ?_)
    · replace h := h.1 hc
      refine r_iconst (v := (0 : Int32)) C dX9_in_14 rfl ?_
      exact r_zret C (by decide) dX9_in_15 h
    · replace h := h.2 hc
      refine r_iconst (v := (1 : Int32)) C dX9_in_10 rfl ?_
      refine r_goto C 15 dX9_in_11 (by decide) ?_
      exact r_zret C (by decide) dX9_in_15 h
def f_X9_isOf (v0 : Int32) (v1 : Int32) (M : Mem) (K : Int32 → Mem → Prop) : Prop := ((¬ ((v0 >>> (v1 &&& 31)) &&& (1 : Int32)) = (1 : Int32) → K (0 : Int32) M) ∧ (((v0 >>> (v1 &&& 31)) &&& (1 : Int32)) = (1 : Int32) → K (1 : Int32) M))

set_option maxHeartbeats 1000000 in
set_option maxRecDepth 10000 in
theorem m_X9_isOf (l : Launch) {v0 : Int32} {v1 : Int32}  {M : Mem} {K : Int32 → Mem → Prop} (h : f_X9_isOf v0 v1 M K) : CTi l yX9_isOf cX9_isOf 2 (some .boolean) rm_X9_isOf (fun ad => [.int v0, .int v1]) M K := by
  refine rw_enti (by decide +kernel) (fun ad => Nat.le_of_ble_eq_true rfl) (fun p e s m args below meth c D cy ad C => ?_)
  change rw_W p l e _ s m args below meth c D cy ad 2 0 0 _ 0 [(0, .int v0), (1, .int v1)] [] M
  unfold f_X9_isOf at h
  refine r_iload_n C 0 dX9_isOf_0 rfl rfl ?_
  refine r_iload_n C 1 dX9_isOf_1 rfl rfl ?_
  refine r_ishr C dX9_isOf_2 ?_
  refine r_iconst (v := (1 : Int32)) C dX9_isOf_3 rfl ?_
  refine r_iand C dX9_isOf_4 ?_
  refine r_iconst (v := (1 : Int32)) C dX9_isOf_5 rfl ?_
  refine r_icmp_ne C 13 dX9_isOf_6 (by decide) (fun hc => ?_) (fun hc => ?_)
  · replace h := h.1 hc
    refine r_iconst (v := (0 : Int32)) C dX9_isOf_13 rfl ?_
    exact r_zret C (by decide) dX9_isOf_14 h
  · replace h := h.2 hc
    refine r_iconst (v := (1 : Int32)) C dX9_isOf_9 rfl ?_
    refine r_goto C 14 dX9_isOf_10 (by decide) ?_
    exact r_zret C (by decide) dX9_isOf_14 h
def f_X9_lesser (v0 : Int32) (v1 : Int32) (M : Mem) (K : Int32 → Mem → Prop) : Prop := ((v1 ≤ v0 → K v1 M) ∧ (¬ v1 ≤ v0 → K v0 M))

set_option maxHeartbeats 1000000 in
set_option maxRecDepth 10000 in
theorem m_X9_lesser (l : Launch) {v0 : Int32} {v1 : Int32}  {M : Mem} {K : Int32 → Mem → Prop} (h : f_X9_lesser v0 v1 M K) : CTi l yX9_lesser cX9_lesser 2 (some .int) rm_X9_lesser (fun ad => [.int v0, .int v1]) M K := by
  refine rw_enti (by decide +kernel) (fun ad => Nat.le_of_ble_eq_true rfl) (fun p e s m args below meth c D cy ad C => ?_)
  change rw_W p l e _ s m args below meth c D cy ad 2 0 0 _ 0 [(0, .int v0), (1, .int v1)] [] M
  unfold f_X9_lesser at h
  refine r_iload_n C 0 dX9_lesser_0 rfl rfl ?_
  refine r_iload_n C 1 dX9_lesser_1 rfl rfl ?_
  refine r_icmp_ge C 9 dX9_lesser_2 (by decide) (fun hc => ?_) (fun hc => ?_)
  · replace h := h.1 hc
    refine r_iload_n C 1 dX9_lesser_9 rfl rfl ?_
    exact r_iret C dX9_lesser_10 h
  · replace h := h.2 hc
    refine r_iload_n C 0 dX9_lesser_5 rfl rfl ?_
    refine r_goto C 10 dX9_lesser_6 (by decide) ?_
    exact r_iret C dX9_lesser_10 h
def f_X9_greater (v0 : Int32) (v1 : Int32) (M : Mem) (K : Int32 → Mem → Prop) : Prop := ((v0 ≤ v1 → K v1 M) ∧ (¬ v0 ≤ v1 → K v0 M))

set_option maxHeartbeats 1000000 in
set_option maxRecDepth 10000 in
theorem m_X9_greater (l : Launch) {v0 : Int32} {v1 : Int32}  {M : Mem} {K : Int32 → Mem → Prop} (h : f_X9_greater v0 v1 M K) : CTi l yX9_greater cX9_greater 2 (some .int) rm_X9_greater (fun ad => [.int v0, .int v1]) M K := by
  refine rw_enti (by decide +kernel) (fun ad => Nat.le_of_ble_eq_true rfl) (fun p e s m args below meth c D cy ad C => ?_)
  change rw_W p l e _ s m args below meth c D cy ad 2 0 0 _ 0 [(0, .int v0), (1, .int v1)] [] M
  unfold f_X9_greater at h
  refine r_iload_n C 0 dX9_greater_0 rfl rfl ?_
  refine r_iload_n C 1 dX9_greater_1 rfl rfl ?_
  refine r_icmp_le C 9 dX9_greater_2 (by decide) (fun hc => ?_) (fun hc => ?_)
  · replace h := h.1 hc
    refine r_iload_n C 1 dX9_greater_9 rfl rfl ?_
    exact r_iret C dX9_greater_10 h
  · replace h := h.2 hc
    refine r_iload_n C 0 dX9_greater_5 rfl rfl ?_
    refine r_goto C 10 dX9_greater_6 (by decide) ?_
    exact r_iret C dX9_greater_10 h
def L_X9_many_4 (v0 : Int32) (X24 : Int32 → Mem → Prop) (K : Int32 → Mem → Prop) : Nat → Int32 → Int32 → Mem → Prop
  | 0, _, _, _ => False
  | n + 1, v1, v2, M => (((10 : Int32) ≤ v2 → X24 v1 M) ∧ (¬ (10 : Int32) ≤ v2 → ∀ x1 : Int32, x1 = v1 + ((v0 >>> (v2 &&& 31)) &&& (1 : Int32)) → L_X9_many_4 v0 X24 K n x1 (v2 + (1 : Int32)) M))

set_option maxHeartbeats 1000000 in
set_option maxRecDepth 10000 in
theorem mL_X9_many_4 (C : rw_C p s m meth c cX9_many 3 RX9 (some .int) D cy ad) {v0 : Int32} {X24 : Int32 → Mem → Prop} {K : Int32 → Mem → Prop} (hX24 : ∀ (u1 : Int32) (M : Mem), X24 u1 M → rw_W p l e rm_X9_many s m args below meth c D cy ad 3 0 0 (rw_Qi below args s D cy ad K) 24 [(1, .int u1)] [] M) : ∀ (n : Nat) (v1 : Int32) (v2 : Int32) (M : Mem), L_X9_many_4 v0 X24 K n v1 v2 M → rw_W p l e rm_X9_many s m args below meth c D cy ad 3 0 0 (rw_Qi below args s D cy ad K) 4 [(0, .int v0), (1, .int v1), (2, .int v2)] [] M := by
  intro n
  induction n with
  | zero => intro v1 v2 M h; exact h.elim
  | succ n ih =>
    intro v1 v2 M h
    refine r_iload_n C 2 dX9_many_4 rfl rfl ?_
    refine r_bipush (v := (10 : Int32)) C dX9_many_5 rfl ?_
    refine r_icmp_ge C 24 dX9_many_7 (by decide) (fun hc => ?_) (fun hc => ?_)
    · replace h := h.1 hc
      exact r_sub [1] rfl (hX24 _ _ h)
    · replace h := h.2 hc
      refine r_iload_n C 1 dX9_many_10 rfl rfl ?_
      refine r_iload_n C 0 dX9_many_11 rfl rfl ?_
      refine r_iload_n C 2 dX9_many_12 rfl rfl ?_
      refine r_ishr C dX9_many_13 ?_
      refine r_iconst (v := (1 : Int32)) C dX9_many_14 rfl ?_
      refine r_iand C dX9_many_15 ?_
      refine r_iadd C dX9_many_16 ?_
      refine r_istore_n C [(1, .int _), (0, .int _), (2, .int _)] dX9_many_17 rfl (by decide) rfl ?_
      replace h := h _ rfl
      refine r_iinc C 2 (v := _) [(2, .int _), (1, .int _), (0, .int _)] dX9_many_18 rfl rfl (by decide) rfl ?_
      refine r_goto C 4 dX9_many_21 (by decide) ?_
      exact r_sub [2, 1, 0] rfl (ih _ _ _ h)

def f_X9_many (v0 : Int32) (M : Mem) (K : Int32 → Mem → Prop) : Prop := (∃ k4 : Nat, L_X9_many_4 v0 (fun (v1_2 : Int32) (M_2 : Mem) => K v1_2 M_2) K k4 (0 : Int32) (0 : Int32) M)

set_option maxHeartbeats 1000000 in
set_option maxRecDepth 10000 in
theorem m_X9_many (l : Launch) {v0 : Int32}  {M : Mem} {K : Int32 → Mem → Prop} (h : f_X9_many v0 M K) : CTi l yX9_many cX9_many 3 (some .int) rm_X9_many (fun ad => [.int v0]) M K := by
  refine rw_enti (by decide +kernel) (fun ad => Nat.le_of_ble_eq_true rfl) (fun p e s m args below meth c D cy ad C => ?_)
  change rw_W p l e _ s m args below meth c D cy ad 3 0 0 _ 0 [(0, .int v0)] [] M
  unfold f_X9_many at h
  refine r_iconst (v := (0 : Int32)) C dX9_many_0 rfl ?_
  refine r_istore_n C [(1, .int _), (0, .int _)] dX9_many_1 rfl (by decide) rfl ?_
  refine r_iconst (v := (0 : Int32)) C dX9_many_2 rfl ?_
  refine r_istore_n C [(2, .int _), (1, .int _), (0, .int _)] dX9_many_3 rfl (by decide) rfl ?_
  obtain ⟨n4, h⟩ := h
  refine r_sub [2, 1, 0] rfl (mL_X9_many_4 C (fun v1_2 M_2 h => ?_) n4 _ _ _ h)
  refine r_iload_n C 0 dX9_many_24 rfl rfl ?_
  exact r_iret C dX9_many_25 h
def f_X9_isPlace (v1 : Int32) (M : Mem) (K : Int32 → Mem → Prop) : Prop := f_X9_in v1 (0 : Int32) (9 : Int32) M (fun (r : Int32) (M_2 : Mem) => ((r = 0 → K (0 : Int32) M_2) ∧ (¬ r = 0 → f_X9_isOf (gI M_2 4 (0 : Int32)) v1 M_2 (fun (r_2 : Int32) (M_3 : Mem) => ((r_2 = 0 → K (0 : Int32) M_3) ∧ (¬ r_2 = 0 → K (1 : Int32) M_3))))))

set_option maxHeartbeats 1000000 in
set_option maxRecDepth 10000 in
theorem m_X9_isPlace (l : Launch) {v1 : Int32}  {M : Mem} {K : Int32 → Mem → Prop} (h : f_X9_isPlace v1 M K) : CTi l yX9_isPlace cX9_isPlace 2 (some .boolean) rm_X9_isPlace (fun ad => [.ref (ad 0), .int v1]) M K := by
  refine rw_enti (by decide +kernel) (fun ad => Nat.le_of_ble_eq_true rfl) (fun p e s m args below meth c D cy ad C => ?_)
  change rw_W p l e _ s m args below meth c D cy ad 2 0 0 _ 0 [(0, .ref (ad 0)), (1, .int v1)] [] M
  unfold f_X9_isPlace at h
  refine r_iload_n C 1 dX9_isPlace_0 rfl rfl ?_
  refine r_iconst (v := (0 : Int32)) C dX9_isPlace_1 rfl ?_
  refine r_bipush (v := (9 : Int32)) C dX9_isPlace_2 rfl ?_
  refine cX9_136 C (m_X9_in l h) ⟨Nat.le_of_ble_eq_true rfl, Nat.le_of_ble_eq_true rfl⟩ (Nat.le_of_ble_eq_true rfl) ⟨Nat.le_refl 0, Nat.le_refl 0⟩ dX9_isPlace_4 (fun r M_2 h => ?_)
  refine r_if_eq C 27 dX9_isPlace_7 (by decide) (fun hc => ?_) (fun hc => ?_)
  · replace h := h.1 hc
    refine r_iconst (v := (0 : Int32)) C dX9_isPlace_27 rfl ?_
    exact r_zret C (by decide) dX9_isPlace_28 h
  · replace h := h.2 hc
    refine r_aload_n C 0 dX9_isPlace_10 rfl rfl ?_
    refine gX9_19 C dX9_isPlace_11 ?_
    refine r_iconst (v := (0 : Int32)) C dX9_isPlace_14 rfl ?_
    refine r_iald C sh_4 (vpd (i := (0 : Int32)) (n := 3) (by decide +kernel)) dX9_isPlace_15 ?_
    refine r_iload_n C 1 dX9_isPlace_16 rfl rfl ?_
    refine cX9_140 C (m_X9_isOf l h) ⟨Nat.le_of_ble_eq_true rfl, Nat.le_of_ble_eq_true rfl⟩ (Nat.le_of_ble_eq_true rfl) ⟨Nat.le_refl 0, Nat.le_refl 0⟩ dX9_isPlace_17 (fun r_2 M_3 h => ?_)
    refine r_if_eq C 27 dX9_isPlace_20 (by decide) (fun hc => ?_) (fun hc => ?_)
    · replace h := h.1 hc
      refine r_iconst (v := (0 : Int32)) C dX9_isPlace_27 rfl ?_
      exact r_zret C (by decide) dX9_isPlace_28 h
    · replace h := h.2 hc
      refine r_iconst (v := (1 : Int32)) C dX9_isPlace_23 rfl ?_
      refine r_goto C 28 dX9_isPlace_24 (by decide) ?_
      exact r_zret C (by decide) dX9_isPlace_28 h
def f_X9_isStep (v1 : Int32) (M : Mem) (K : Int32 → Mem → Prop) : Prop := f_X9_in v1 (0 : Int32) (7 : Int32) M (fun (r : Int32) (M_2 : Mem) => ((r = 0 → K (0 : Int32) M_2) ∧ (¬ r = 0 → f_X9_isOf (gI M_2 5 (0 : Int32)) v1 M_2 (fun (r_2 : Int32) (M_3 : Mem) => ((r_2 = 0 → K (0 : Int32) M_3) ∧ (¬ r_2 = 0 → K (1 : Int32) M_3))))))

set_option maxHeartbeats 1000000 in
set_option maxRecDepth 10000 in
theorem m_X9_isStep (l : Launch) {v1 : Int32}  {M : Mem} {K : Int32 → Mem → Prop} (h : f_X9_isStep v1 M K) : CTi l yX9_isStep cX9_isStep 2 (some .boolean) rm_X9_isStep (fun ad => [.ref (ad 0), .int v1]) M K := by
  refine rw_enti (by decide +kernel) (fun ad => Nat.le_of_ble_eq_true rfl) (fun p e s m args below meth c D cy ad C => ?_)
  change rw_W p l e _ s m args below meth c D cy ad 2 0 0 _ 0 [(0, .ref (ad 0)), (1, .int v1)] [] M
  unfold f_X9_isStep at h
  refine r_iload_n C 1 dX9_isStep_0 rfl rfl ?_
  refine r_iconst (v := (0 : Int32)) C dX9_isStep_1 rfl ?_
  refine r_bipush (v := (7 : Int32)) C dX9_isStep_2 rfl ?_
  refine cX9_136 C (m_X9_in l h) ⟨Nat.le_of_ble_eq_true rfl, Nat.le_of_ble_eq_true rfl⟩ (Nat.le_of_ble_eq_true rfl) ⟨Nat.le_refl 0, Nat.le_refl 0⟩ dX9_isStep_4 (fun r M_2 h => ?_)
  refine r_if_eq C 27 dX9_isStep_7 (by decide) (fun hc => ?_) (fun hc => ?_)
  · replace h := h.1 hc
    refine r_iconst (v := (0 : Int32)) C dX9_isStep_27 rfl ?_
    exact r_zret C (by decide) dX9_isStep_28 h
  · replace h := h.2 hc
    refine r_aload_n C 0 dX9_isStep_10 rfl rfl ?_
    refine gX9_22 C dX9_isStep_11 ?_
    refine r_iconst (v := (0 : Int32)) C dX9_isStep_14 rfl ?_
    refine r_iald C sh_5 (vpd (i := (0 : Int32)) (n := 3) (by decide +kernel)) dX9_isStep_15 ?_
    refine r_iload_n C 1 dX9_isStep_16 rfl rfl ?_
    refine cX9_140 C (m_X9_isOf l h) ⟨Nat.le_of_ble_eq_true rfl, Nat.le_of_ble_eq_true rfl⟩ (Nat.le_of_ble_eq_true rfl) ⟨Nat.le_refl 0, Nat.le_refl 0⟩ dX9_isStep_17 (fun r_2 M_3 h => ?_)
    refine r_if_eq C 27 dX9_isStep_20 (by decide) (fun hc => ?_) (fun hc => ?_)
    · replace h := h.1 hc
      refine r_iconst (v := (0 : Int32)) C dX9_isStep_27 rfl ?_
      exact r_zret C (by decide) dX9_isStep_28 h
    · replace h := h.2 hc
      refine r_iconst (v := (1 : Int32)) C dX9_isStep_23 rfl ?_
      refine r_goto C 28 dX9_isStep_24 (by decide) ?_
      exact r_zret C (by decide) dX9_isStep_28 h
def f_X9_arcAt (v1 : Int32) (v2 : Int32) (v3 : Int32) (M : Mem) (K : Int32 → Mem → Prop) : Prop := K ((((80 : Int32) * v1) + ((10 : Int32) * v2)) + v3) M

set_option maxHeartbeats 1000000 in
set_option maxRecDepth 10000 in
theorem m_X9_arcAt (l : Launch) {v1 : Int32} {v2 : Int32} {v3 : Int32}  {M : Mem} {K : Int32 → Mem → Prop} (h : f_X9_arcAt v1 v2 v3 M K) : CTi l yX9_arcAt cX9_arcAt 4 (some .int) rm_X9_arcAt (fun ad => [.ref (ad 0), .int v1, .int v2, .int v3]) M K := by
  refine rw_enti (by decide +kernel) (fun ad => Nat.le_of_ble_eq_true rfl) (fun p e s m args below meth c D cy ad C => ?_)
  change rw_W p l e _ s m args below meth c D cy ad 4 0 0 _ 0 [(0, .ref (ad 0)), (1, .int v1), (2, .int v2), (3, .int v3)] [] M
  unfold f_X9_arcAt at h
  refine r_bipush (v := (80 : Int32)) C dX9_arcAt_0 rfl ?_
  refine r_iload_n C 1 dX9_arcAt_2 rfl rfl ?_
  refine r_imul C dX9_arcAt_3 ?_
  refine r_bipush (v := (10 : Int32)) C dX9_arcAt_4 rfl ?_
  refine r_iload_n C 2 dX9_arcAt_6 rfl rfl ?_
  refine r_imul C dX9_arcAt_7 ?_
  refine r_iadd C dX9_arcAt_8 ?_
  refine r_iload_n C 3 dX9_arcAt_9 rfl rfl ?_
  refine r_iadd C dX9_arcAt_10 ?_
  exact r_iret C dX9_arcAt_11 h
def f_X9_change (v1 : Int32) (v2 : Int32) (v3 : Int32) (M : Mem) (K : Int32 → Mem → Prop) : Prop := f_X9_arcAt v1 v2 v3 M (fun (r : Int32) (M_2 : Mem) => vp_in r 240 ∧ f_X9_arcAt v1 v2 v3 M_2 (fun (r_2 : Int32) (M_3 : Mem) => vp_in r_2 240 ∧ K ((gI M_2 2 r) - (gI M_3 1 r_2)) M_3))

set_option maxHeartbeats 1000000 in
set_option maxRecDepth 10000 in
theorem m_X9_change (l : Launch) {v1 : Int32} {v2 : Int32} {v3 : Int32}  {M : Mem} {K : Int32 → Mem → Prop} (h : f_X9_change v1 v2 v3 M K) : CTi l yX9_change cX9_change 4 (some .int) rm_X9_change (fun ad => [.ref (ad 0), .int v1, .int v2, .int v3]) M K := by
  refine rw_enti (by decide +kernel) (fun ad => Nat.le_of_ble_eq_true rfl) (fun p e s m args below meth c D cy ad C => ?_)
  change rw_W p l e _ s m args below meth c D cy ad 4 0 0 _ 0 [(0, .ref (ad 0)), (1, .int v1), (2, .int v2), (3, .int v3)] [] M
  unfold f_X9_change at h
  refine r_aload_n C 0 dX9_change_0 rfl rfl ?_
  refine gX9_13 C dX9_change_1 ?_
  refine r_aload_n C 0 dX9_change_4 rfl rfl ?_
  refine r_iload_n C 1 dX9_change_5 rfl rfl ?_
  refine r_iload_n C 2 dX9_change_6 rfl rfl ?_
  refine r_iload_n C 3 dX9_change_7 rfl rfl ?_
  refine cX9_144 C (m_X9_arcAt l h) ⟨Nat.le_of_ble_eq_true rfl, Nat.le_of_ble_eq_true rfl⟩ (Nat.le_of_ble_eq_true rfl) ⟨Nat.le_refl 0, Nat.le_refl 0⟩ dX9_change_8 (fun r M_2 h => ?_)
  obtain ⟨q, h⟩ := h
  refine r_iald C sh_2 q dX9_change_11 ?_
  refine r_aload_n C 0 dX9_change_12 rfl rfl ?_
  refine gX9_7 C dX9_change_13 ?_
  refine r_aload_n C 0 dX9_change_16 rfl rfl ?_
  refine r_iload_n C 1 dX9_change_17 rfl rfl ?_
  refine r_iload_n C 2 dX9_change_18 rfl rfl ?_
  refine r_iload_n C 3 dX9_change_19 rfl rfl ?_
  refine cX9_144 C (m_X9_arcAt l h) ⟨Nat.le_of_ble_eq_true rfl, Nat.le_of_ble_eq_true rfl⟩ (Nat.le_of_ble_eq_true rfl) ⟨Nat.le_refl 0, Nat.le_refl 0⟩ dX9_change_20 (fun r_2 M_3 h => ?_)
  obtain ⟨q_2, h⟩ := h
  refine r_iald C sh_1 q_2 dX9_change_23 ?_
  refine r_isub C dX9_change_24 ?_
  exact r_iret C dX9_change_25 h
def L_X9_copies_2 (v1 : Int32) (v2 : Int32) (X58 : Mem → Prop) (K : Mem → Prop) : Nat → Int32 → Mem → Prop
  | 0, _, _ => False
  | n + 1, v3, M => (((80 : Int32) ≤ v3 → X58 M) ∧ (¬ (80 : Int32) ≤ v3 → vp_in (((80 : Int32) * v1) + v3) 240 ∧ vp_in (((80 : Int32) * v2) + v3) 240 ∧ ∀ M_2 : Mem, M_2 = wI M 1 (((80 : Int32) * v2) + v3).toNatClampNeg (gI M 1 (((80 : Int32) * v1) + v3)) → ∀ M_3 : Mem, M_3 = wI M_2 2 (((80 : Int32) * v2) + v3).toNatClampNeg (gI M_2 2 (((80 : Int32) * v1) + v3)) → L_X9_copies_2 v1 v2 X58 K n (v3 + (1 : Int32)) M_3))

set_option maxHeartbeats 1000000 in
set_option maxRecDepth 10000 in
theorem mL_X9_copies_2 (C : rw_C p s m meth c cX9_copies 4 RX9 none D cy ad) {v1 : Int32} {v2 : Int32} {X58 : Mem → Prop} {K : Mem → Prop} (hX58 : ∀  (M : Mem), X58 M → rw_W p l e rm_X9_copies s m args below meth c D cy ad 4 0 0 (rw_Qv below args s D cy ad K) 58 [(0, .ref (ad 0)), (1, .int v1), (2, .int v2)] [] M) : ∀ (n : Nat) (v3 : Int32) (M : Mem), L_X9_copies_2 v1 v2 X58 K n v3 M → rw_W p l e rm_X9_copies s m args below meth c D cy ad 4 0 0 (rw_Qv below args s D cy ad K) 2 [(0, .ref (ad 0)), (1, .int v1), (2, .int v2), (3, .int v3)] [] M := by
  intro n
  induction n with
  | zero => intro v3 M h; exact h.elim
  | succ n ih =>
    intro v3 M h
    refine r_iload_n C 3 dX9_copies_2 rfl rfl ?_
    refine r_bipush (v := (80 : Int32)) C dX9_copies_3 rfl ?_
    refine r_icmp_ge C 58 dX9_copies_5 (by decide) (fun hc => ?_) (fun hc => ?_)
    · replace h := h.1 hc
      exact r_sub [0, 1, 2] rfl (hX58 _ h)
    · replace h := h.2 hc
      refine r_aload_n C 0 dX9_copies_8 rfl rfl ?_
      refine gX9_7 C dX9_copies_9 ?_
      refine r_bipush (v := (80 : Int32)) C dX9_copies_12 rfl ?_
      refine r_iload_n C 2 dX9_copies_14 rfl rfl ?_
      refine r_imul C dX9_copies_15 ?_
      refine r_iload_n C 3 dX9_copies_16 rfl rfl ?_
      refine r_iadd C dX9_copies_17 ?_
      refine r_aload_n C 0 dX9_copies_18 rfl rfl ?_
      refine gX9_7 C dX9_copies_19 ?_
      refine r_bipush (v := (80 : Int32)) C dX9_copies_22 rfl ?_
      refine r_iload_n C 1 dX9_copies_24 rfl rfl ?_
      refine r_imul C dX9_copies_25 ?_
      refine r_iload_n C 3 dX9_copies_26 rfl rfl ?_
      refine r_iadd C dX9_copies_27 ?_
      obtain ⟨q, h⟩ := h
      refine r_iald C sh_1 q dX9_copies_28 ?_
      obtain ⟨q_2, h⟩ := h
      refine r_iast C sh_1 q_2 dX9_copies_29 ?_
      replace h := h _ rfl
      refine r_aload_n C 0 dX9_copies_30 rfl rfl ?_
      refine gX9_13 C dX9_copies_31 ?_
      refine r_bipush (v := (80 : Int32)) C dX9_copies_34 rfl ?_
      refine r_iload_n C 2 dX9_copies_36 rfl rfl ?_
      refine r_imul C dX9_copies_37 ?_
      refine r_iload_n C 3 dX9_copies_38 rfl rfl ?_
      refine r_iadd C dX9_copies_39 ?_
      refine r_aload_n C 0 dX9_copies_40 rfl rfl ?_
      refine gX9_13 C dX9_copies_41 ?_
      refine r_bipush (v := (80 : Int32)) C dX9_copies_44 rfl ?_
      refine r_iload_n C 1 dX9_copies_46 rfl rfl ?_
      refine r_imul C dX9_copies_47 ?_
      refine r_iload_n C 3 dX9_copies_48 rfl rfl ?_
      refine r_iadd C dX9_copies_49 ?_
      refine r_iald C sh_2 q dX9_copies_50 ?_
      refine r_iast C sh_2 q_2 dX9_copies_51 ?_
      replace h := h _ rfl
      refine r_iinc C 3 (v := _) [(3, .int _), (0, .ref _), (1, .int _), (2, .int _)] dX9_copies_52 rfl rfl (by decide) rfl ?_
      refine r_goto C 2 dX9_copies_55 (by decide) ?_
      exact r_sub [1, 2, 3, 0] rfl (ih _ _ h)

def L_X9_copies_60 (v1 : Int32) (v2 : Int32) (X94 : Mem → Prop) (K : Mem → Prop) : Nat → Int32 → Mem → Prop
  | 0, _, _ => False
  | n + 1, v3, M => (((10 : Int32) ≤ v3 → X94 M) ∧ (¬ (10 : Int32) ≤ v3 → vp_in (((10 : Int32) * v1) + v3) 30 ∧ vp_in (((10 : Int32) * v2) + v3) 30 ∧ ∀ M_5 : Mem, M_5 = wI M 3 (((10 : Int32) * v2) + v3).toNatClampNeg (gI M 3 (((10 : Int32) * v1) + v3)) → L_X9_copies_60 v1 v2 X94 K n (v3 + (1 : Int32)) M_5))

set_option maxHeartbeats 1000000 in
set_option maxRecDepth 10000 in
theorem mL_X9_copies_60 (C : rw_C p s m meth c cX9_copies 4 RX9 none D cy ad) {v1 : Int32} {v2 : Int32} {X94 : Mem → Prop} {K : Mem → Prop} (hX94 : ∀  (M : Mem), X94 M → rw_W p l e rm_X9_copies s m args below meth c D cy ad 4 0 0 (rw_Qv below args s D cy ad K) 94 [(0, .ref (ad 0)), (1, .int v1), (2, .int v2)] [] M) : ∀ (n : Nat) (v3 : Int32) (M : Mem), L_X9_copies_60 v1 v2 X94 K n v3 M → rw_W p l e rm_X9_copies s m args below meth c D cy ad 4 0 0 (rw_Qv below args s D cy ad K) 60 [(0, .ref (ad 0)), (1, .int v1), (2, .int v2), (3, .int v3)] [] M := by
  intro n
  induction n with
  | zero => intro v3 M h; exact h.elim
  | succ n ih =>
    intro v3 M h
    refine r_iload_n C 3 dX9_copies_60 rfl rfl ?_
    refine r_bipush (v := (10 : Int32)) C dX9_copies_61 rfl ?_
    refine r_icmp_ge C 94 dX9_copies_63 (by decide) (fun hc => ?_) (fun hc => ?_)
    · replace h := h.1 hc
      exact r_sub [0, 1, 2] rfl (hX94 _ h)
    · replace h := h.2 hc
      refine r_aload_n C 0 dX9_copies_66 rfl rfl ?_
      refine gX9_16 C dX9_copies_67 ?_
      refine r_bipush (v := (10 : Int32)) C dX9_copies_70 rfl ?_
      refine r_iload_n C 2 dX9_copies_72 rfl rfl ?_
      refine r_imul C dX9_copies_73 ?_
      refine r_iload_n C 3 dX9_copies_74 rfl rfl ?_
      refine r_iadd C dX9_copies_75 ?_
      refine r_aload_n C 0 dX9_copies_76 rfl rfl ?_
      refine gX9_16 C dX9_copies_77 ?_
      refine r_bipush (v := (10 : Int32)) C dX9_copies_80 rfl ?_
      refine r_iload_n C 1 dX9_copies_82 rfl rfl ?_
      refine r_imul C dX9_copies_83 ?_
      refine r_iload_n C 3 dX9_copies_84 rfl rfl ?_
      refine r_iadd C dX9_copies_85 ?_
      obtain ⟨q_3, h⟩ := h
      refine r_iald C sh_3 q_3 dX9_copies_86 ?_
      obtain ⟨q_4, h⟩ := h
      refine r_iast C sh_3 q_4 dX9_copies_87 ?_
      replace h := h _ rfl
      refine r_iinc C 3 (v := _) [(3, .int _), (0, .ref _), (1, .int _), (2, .int _)] dX9_copies_88 rfl rfl (by decide) rfl ?_
      refine r_goto C 60 dX9_copies_91 (by decide) ?_
      exact r_sub [1, 2, 3, 0] rfl (ih _ _ h)

def f_X9_copies (v1 : Int32) (v2 : Int32) (M : Mem) (K : Mem → Prop) : Prop := (∃ k2 : Nat, L_X9_copies_2 v1 v2 (fun  (M_4 : Mem) => (∃ k60 : Nat, L_X9_copies_60 v1 v2 (fun  (M_6 : Mem) => vp_in v1 3 ∧ vp_in v2 3 ∧ ∀ M_7 : Mem, M_7 = wI M_6 4 v2.toNatClampNeg (gI M_6 4 v1) → ∀ M_8 : Mem, M_8 = wI M_7 5 v2.toNatClampNeg (gI M_7 5 v1) → K M_8) K k60 (0 : Int32) M_4)) K k2 (0 : Int32) M)

set_option maxHeartbeats 1000000 in
set_option maxRecDepth 10000 in
theorem m_X9_copies (l : Launch) {v1 : Int32} {v2 : Int32}  {M : Mem} {K : Mem → Prop} (h : f_X9_copies v1 v2 M K) : CTv l yX9_copies cX9_copies 4 none rm_X9_copies (fun ad => [.ref (ad 0), .int v1, .int v2]) M K := by
  refine rw_entv (by decide +kernel) (fun ad => Nat.le_of_ble_eq_true rfl) (fun p e s m args below meth c D cy ad C => ?_)
  change rw_W p l e _ s m args below meth c D cy ad 4 0 0 _ 0 [(0, .ref (ad 0)), (1, .int v1), (2, .int v2)] [] M
  unfold f_X9_copies at h
  refine r_iconst (v := (0 : Int32)) C dX9_copies_0 rfl ?_
  refine r_istore_n C [(3, .int _), (0, .ref _), (1, .int _), (2, .int _)] dX9_copies_1 rfl (by decide) rfl ?_
  obtain ⟨n2, h⟩ := h
  refine r_sub [1, 2, 3, 0] rfl (mL_X9_copies_2 C (fun M_4 h => ?_) n2 _ _ h)
  refine r_iconst (v := (0 : Int32)) C dX9_copies_58 rfl ?_
  refine r_istore_n C [(3, .int _), (0, .ref _), (1, .int _), (2, .int _)] dX9_copies_59 rfl (by decide) rfl ?_
  obtain ⟨n60, h⟩ := h
  refine r_sub [1, 2, 3, 0] rfl (mL_X9_copies_60 C (fun M_6 h => ?_) n60 _ _ h)
  refine r_aload_n C 0 dX9_copies_94 rfl rfl ?_
  refine gX9_19 C dX9_copies_95 ?_
  refine r_iload_n C 2 dX9_copies_98 rfl rfl ?_
  refine r_aload_n C 0 dX9_copies_99 rfl rfl ?_
  refine gX9_19 C dX9_copies_100 ?_
  refine r_iload_n C 1 dX9_copies_103 rfl rfl ?_
  obtain ⟨q_5, h⟩ := h
  refine r_iald C sh_4 q_5 dX9_copies_104 ?_
  obtain ⟨q_6, h⟩ := h
  refine r_iast C sh_4 q_6 dX9_copies_105 ?_
  replace h := h _ rfl
  refine r_aload_n C 0 dX9_copies_106 rfl rfl ?_
  refine gX9_22 C dX9_copies_107 ?_
  refine r_iload_n C 2 dX9_copies_110 rfl rfl ?_
  refine r_aload_n C 0 dX9_copies_111 rfl rfl ?_
  refine gX9_22 C dX9_copies_112 ?_
  refine r_iload_n C 1 dX9_copies_115 rfl rfl ?_
  refine r_iald C sh_5 q_5 dX9_copies_116 ?_
  refine r_iast C sh_5 q_6 dX9_copies_117 ?_
  replace h := h _ rfl
  exact r_vret C dX9_copies_118 h
def L_X9_four_3 (v1 : Int32) (X39 : Mem → Prop) (K : Mem → Prop) : Nat → Int32 → Mem → Prop
  | 0, _, _ => False
  | n + 1, v2, M => ((v2 < 0 → X39 M) ∧ (¬ v2 < 0 → vp_in (M.1 0 10) 900 ∧ ∀ M_2 : Mem, M_2 = wI M 9 (M.1 0 10).toNatClampNeg ((v1 >>> (v2 &&& 31)) &&& (255 : Int32)) → ∀ M_3 : Mem, M_3 = wI M_2 0 10 ((M_2.1 0 10) + (1 : Int32)) → L_X9_four_3 v1 X39 K n (v2 + (-8 : Int32)) M_3))

set_option maxHeartbeats 1000000 in
set_option maxRecDepth 10000 in
theorem mL_X9_four_3 (C : rw_C p s m meth c cX9_four 3 RX9 none D cy ad) {v1 : Int32} {X39 : Mem → Prop} {K : Mem → Prop} (hX39 : ∀  (M : Mem), X39 M → rw_W p l e rm_X9_four s m args below meth c D cy ad 3 0 0 (rw_Qv below args s D cy ad K) 39 [] [] M) : ∀ (n : Nat) (v2 : Int32) (M : Mem), L_X9_four_3 v1 X39 K n v2 M → rw_W p l e rm_X9_four s m args below meth c D cy ad 3 0 0 (rw_Qv below args s D cy ad K) 3 [(0, .ref (ad 0)), (1, .int v1), (2, .int v2)] [] M := by
  intro n
  induction n with
  | zero => intro v2 M h; exact h.elim
  | succ n ih =>
    intro v2 M h
    refine r_iload_n C 2 dX9_four_3 rfl rfl ?_
    refine r_if_lt C 39 dX9_four_4 (by decide) (fun hc => ?_) (fun hc => ?_)
    · replace h := h.1 hc
      exact r_sub [] rfl (hX39 _ h)
    · replace h := h.2 hc
      refine r_aload_n C 0 dX9_four_7 rfl rfl ?_
      refine gX9_34 C dX9_four_8 ?_
      refine r_aload_n C 0 dX9_four_11 rfl rfl ?_
      refine gX9_148 C dX9_four_12 ?_
      refine r_iload_n C 1 dX9_four_15 rfl rfl ?_
      refine r_iload_n C 2 dX9_four_16 rfl rfl ?_
      refine r_ishr C dX9_four_17 ?_
      refine r_sipush (v := (255 : Int32)) C dX9_four_18 rfl ?_
      refine r_iand C dX9_four_21 ?_
      obtain ⟨q, h⟩ := h
      refine r_iast C sh_9 q dX9_four_22 ?_
      replace h := h _ rfl
      refine r_aload_n C 0 dX9_four_23 rfl rfl ?_
      refine r_dup C dX9_four_24 rfl ?_
      refine gX9_148 C dX9_four_25 ?_
      refine r_iconst (v := (1 : Int32)) C dX9_four_28 rfl ?_
      refine r_iadd C dX9_four_29 ?_
      refine pX9_148 C dX9_four_30 ?_
      replace h := h _ rfl
      refine r_iinc C 2 (v := _) [(2, .int _), (0, .ref _), (1, .int _)] dX9_four_33 rfl rfl (by decide) rfl ?_
      refine r_goto C 3 dX9_four_36 (by decide) ?_
      exact r_sub [1, 2, 0] rfl (ih _ _ h)

def f_X9_four (v1 : Int32) (M : Mem) (K : Mem → Prop) : Prop := (∃ k3 : Nat, L_X9_four_3 v1 (fun  (M_4 : Mem) => K M_4) K k3 (24 : Int32) M)

set_option maxHeartbeats 1000000 in
set_option maxRecDepth 10000 in
theorem m_X9_four (l : Launch) {v1 : Int32}  {M : Mem} {K : Mem → Prop} (h : f_X9_four v1 M K) : CTv l yX9_four cX9_four 3 none rm_X9_four (fun ad => [.ref (ad 0), .int v1]) M K := by
  refine rw_entv (by decide +kernel) (fun ad => Nat.le_of_ble_eq_true rfl) (fun p e s m args below meth c D cy ad C => ?_)
  change rw_W p l e _ s m args below meth c D cy ad 3 0 0 _ 0 [(0, .ref (ad 0)), (1, .int v1)] [] M
  unfold f_X9_four at h
  refine r_bipush (v := (24 : Int32)) C dX9_four_0 rfl ?_
  refine r_istore_n C [(2, .int _), (0, .ref _), (1, .int _)] dX9_four_2 rfl (by decide) rfl ?_
  obtain ⟨n3, h⟩ := h
  refine r_sub [1, 2, 0] rfl (mL_X9_four_3 C (fun M_4 h => ?_) n3 _ _ h)
  exact r_vret C dX9_four_39 h
def f_X9_feed (v1 : Int32) (v2 : Int32) (v3 : Int32) (v4 : Int32) (v5 : Int32) (M : Mem) (K : Int32 → Mem → Prop) : Prop := ∀ M_2 : Mem, M_2 = wI M 0 0 (0 : Int32) → ((((M_2.1 0 10) + (20 : Int32)) ≤ (900 : Int32) → f_X9_four v1 M_2 (fun (M_3 : Mem) => f_X9_four v2 M_3 (fun (M_4 : Mem) => f_X9_four v3 M_4 (fun (M_5 : Mem) => f_X9_four v4 M_5 (fun (M_6 : Mem) => f_X9_four v5 M_6 (fun (M_7 : Mem) => K (M_7.1 0 10) M_7)))))) ∧ (¬ ((M_2.1 0 10) + (20 : Int32)) ≤ (900 : Int32) → K (-1 : Int32) M_2))

set_option maxHeartbeats 1000000 in
set_option maxRecDepth 10000 in
theorem m_X9_feed (l : Launch) {v1 : Int32} {v2 : Int32} {v3 : Int32} {v4 : Int32} {v5 : Int32}  {M : Mem} {K : Int32 → Mem → Prop} (h : f_X9_feed v1 v2 v3 v4 v5 M K) : CTi l yX9_feed cX9_feed 6 (some .int) rm_X9_feed (fun ad => [.ref (ad 0), .int v1, .int v2, .int v3, .int v4, .int v5]) M K := by
  refine rw_enti (by decide +kernel) (fun ad => Nat.le_of_ble_eq_true rfl) (fun p e s m args below meth c D cy ad C => ?_)
  change rw_W p l e _ s m args below meth c D cy ad 6 0 0 _ 0 [(0, .ref (ad 0)), (1, .int v1), (2, .int v2), (3, .int v3), (4, .int v4), (5, .int v5)] [] M
  unfold f_X9_feed at h
  refine r_aload_n C 0 dX9_feed_0 rfl rfl ?_
  refine r_iconst (v := (0 : Int32)) C dX9_feed_1 rfl ?_
  refine pX9_133 C dX9_feed_2 ?_
  replace h := h _ rfl
  refine r_aload_n C 0 dX9_feed_5 rfl rfl ?_
  refine gX9_148 C dX9_feed_6 ?_
  refine r_bipush (v := (20 : Int32)) C dX9_feed_9 rfl ?_
  refine r_iadd C dX9_feed_11 ?_
  refine r_sipush (v := (900 : Int32)) C dX9_feed_12 rfl ?_
  refine r_icmp_le C 20 dX9_feed_15 (by decide) (fun hc => ?_) (fun hc => ?_)
  · replace h := h.1 hc
    refine r_aload_n C 0 dX9_feed_20 rfl rfl ?_
    refine r_iload_n C 1 dX9_feed_21 rfl rfl ?_
    refine cX9_151 C (m_X9_four l h) ⟨Nat.le_of_ble_eq_true rfl, Nat.le_of_ble_eq_true rfl⟩ (Nat.le_of_ble_eq_true rfl) ⟨Nat.le_refl 0, Nat.le_refl 0⟩ dX9_feed_22 (fun M_3 h => ?_)
    refine r_aload_n C 0 dX9_feed_25 rfl rfl ?_
    refine r_iload_n C 2 dX9_feed_26 rfl rfl ?_
    refine cX9_151 C (m_X9_four l h) ⟨Nat.le_of_ble_eq_true rfl, Nat.le_of_ble_eq_true rfl⟩ (Nat.le_of_ble_eq_true rfl) ⟨Nat.le_refl 0, Nat.le_refl 0⟩ dX9_feed_27 (fun M_4 h => ?_)
    refine r_aload_n C 0 dX9_feed_30 rfl rfl ?_
    refine r_iload_n C 3 dX9_feed_31 rfl rfl ?_
    refine cX9_151 C (m_X9_four l h) ⟨Nat.le_of_ble_eq_true rfl, Nat.le_of_ble_eq_true rfl⟩ (Nat.le_of_ble_eq_true rfl) ⟨Nat.le_refl 0, Nat.le_refl 0⟩ dX9_feed_32 (fun M_5 h => ?_)
    refine r_aload_n C 0 dX9_feed_35 rfl rfl ?_
    refine r_iload C 4 dX9_feed_36 rfl ?_
    refine cX9_151 C (m_X9_four l h) ⟨Nat.le_of_ble_eq_true rfl, Nat.le_of_ble_eq_true rfl⟩ (Nat.le_of_ble_eq_true rfl) ⟨Nat.le_refl 0, Nat.le_refl 0⟩ dX9_feed_38 (fun M_6 h => ?_)
    refine r_aload_n C 0 dX9_feed_41 rfl rfl ?_
    refine r_iload C 5 dX9_feed_42 rfl ?_
    refine cX9_151 C (m_X9_four l h) ⟨Nat.le_of_ble_eq_true rfl, Nat.le_of_ble_eq_true rfl⟩ (Nat.le_of_ble_eq_true rfl) ⟨Nat.le_refl 0, Nat.le_refl 0⟩ dX9_feed_44 (fun M_7 h => ?_)
    refine r_aload_n C 0 dX9_feed_47 rfl rfl ?_
    refine gX9_148 C dX9_feed_48 ?_
    exact r_iret C dX9_feed_51 h
  · replace h := h.2 hc
    refine r_iconst (v := (-1 : Int32)) C dX9_feed_18 rfl ?_
    exact r_iret C dX9_feed_19 h
def f_X9_end (v1 : Int32) (M : Mem) (K : Int32 → Mem → Prop) : Prop := ∀ M_2 : Mem, M_2 = wI M 0 0 (0 : Int32) → f_X9_in v1 (0 : Int32) (M_2.1 0 10) M_2 (fun (r : Int32) (M_3 : Mem) => ((¬ r = 0 → ∀ M_4 : Mem, M_4 = wI M_3 0 10 v1 → K v1 M_4) ∧ (r = 0 → K (-1 : Int32) M_3)))

set_option maxHeartbeats 1000000 in
set_option maxRecDepth 10000 in
theorem m_X9_end (l : Launch) {v1 : Int32}  {M : Mem} {K : Int32 → Mem → Prop} (h : f_X9_end v1 M K) : CTi l yX9_end cX9_end 2 (some .int) rm_X9_end (fun ad => [.ref (ad 0), .int v1]) M K := by
  refine rw_enti (by decide +kernel) (fun ad => Nat.le_of_ble_eq_true rfl) (fun p e s m args below meth c D cy ad C => ?_)
  change rw_W p l e _ s m args below meth c D cy ad 2 0 0 _ 0 [(0, .ref (ad 0)), (1, .int v1)] [] M
  unfold f_X9_end at h
  refine r_aload_n C 0 dX9_end_0 rfl rfl ?_
  refine r_iconst (v := (0 : Int32)) C dX9_end_1 rfl ?_
  refine pX9_133 C dX9_end_2 ?_
  replace h := h _ rfl
  refine r_iload_n C 1 dX9_end_5 rfl rfl ?_
  refine r_iconst (v := (0 : Int32)) C dX9_end_6 rfl ?_
  refine r_aload_n C 0 dX9_end_7 rfl rfl ?_
  refine gX9_148 C dX9_end_8 ?_
  refine cX9_136 C (m_X9_in l h) ⟨Nat.le_of_ble_eq_true rfl, Nat.le_of_ble_eq_true rfl⟩ (Nat.le_of_ble_eq_true rfl) ⟨Nat.le_refl 0, Nat.le_refl 0⟩ dX9_end_11 (fun r M_3 h => ?_)
  refine r_if_ne C 19 dX9_end_14 (by decide) (fun hc => ?_) (fun hc => ?_)
  · replace h := h.1 hc
    refine r_aload_n C 0 dX9_end_19 rfl rfl ?_
    refine r_iload_n C 1 dX9_end_20 rfl rfl ?_
    refine pX9_148 C dX9_end_21 ?_
    replace h := h _ rfl
    refine r_iload_n C 1 dX9_end_24 rfl rfl ?_
    exact r_iret C dX9_end_25 h
  · replace h := h.2 hc
    refine r_iconst (v := (-1 : Int32)) C dX9_end_17 rfl ?_
    exact r_iret C dX9_end_18 h
def f_X9_byteAt (v1 : Int32) (M : Mem) (K : Int32 → Mem → Prop) : Prop := (((M.1 0 11) ≤ v1 → K (-1 : Int32) M) ∧ (¬ (M.1 0 11) ≤ v1 → vp_in v1 900 ∧ K (gI M 9 v1) M))

set_option maxHeartbeats 1000000 in
set_option maxRecDepth 10000 in
theorem m_X9_byteAt (l : Launch) {v1 : Int32}  {M : Mem} {K : Int32 → Mem → Prop} (h : f_X9_byteAt v1 M K) : CTi l yX9_byteAt cX9_byteAt 2 (some .int) rm_X9_byteAt (fun ad => [.ref (ad 0), .int v1]) M K := by
  refine rw_enti (by decide +kernel) (fun ad => Nat.le_of_ble_eq_true rfl) (fun p e s m args below meth c D cy ad C => ?_)
  change rw_W p l e _ s m args below meth c D cy ad 2 0 0 _ 0 [(0, .ref (ad 0)), (1, .int v1)] [] M
  unfold f_X9_byteAt at h
  refine r_iload_n C 1 dX9_byteAt_0 rfl rfl ?_
  refine r_aload_n C 0 dX9_byteAt_1 rfl rfl ?_
  refine gX9_155 C dX9_byteAt_2 ?_
  refine r_icmp_ge C 17 dX9_byteAt_5 (by decide) (fun hc => ?_) (fun hc => ?_)
  · replace h := h.1 hc
    refine r_iconst (v := (-1 : Int32)) C dX9_byteAt_17 rfl ?_
    exact r_iret C dX9_byteAt_18 h
  · replace h := h.2 hc
    refine r_aload_n C 0 dX9_byteAt_8 rfl rfl ?_
    refine gX9_34 C dX9_byteAt_9 ?_
    refine r_iload_n C 1 dX9_byteAt_12 rfl rfl ?_
    obtain ⟨q, h⟩ := h
    refine r_iald C sh_9 q dX9_byteAt_13 ?_
    refine r_goto C 18 dX9_byteAt_14 (by decide) ?_
    exact r_iret C dX9_byteAt_18 h
def f_X9_isSmall (v0 : Int32) (M : Mem) (K : Int32 → Mem → Prop) : Prop := ((v0 < (97 : Int32) → K (0 : Int32) M) ∧ (¬ v0 < (97 : Int32) → (((122 : Int32) < v0 → K (0 : Int32) M) ∧ (¬ (122 : Int32) < v0 → K (1 : Int32) M))))

set_option maxHeartbeats 1000000 in
set_option maxRecDepth 10000 in
theorem m_X9_isSmall (l : Launch) {v0 : Int32}  {M : Mem} {K : Int32 → Mem → Prop} (h : f_X9_isSmall v0 M K) : CTi l yX9_isSmall cX9_isSmall 1 (some .boolean) rm_X9_isSmall (fun ad => [.int v0]) M K := by
  refine rw_enti (by decide +kernel) (fun ad => Nat.le_of_ble_eq_true rfl) (fun p e s m args below meth c D cy ad C => ?_)
  change rw_W p l e _ s m args below meth c D cy ad 1 0 0 _ 0 [(0, .int v0)] [] M
  unfold f_X9_isSmall at h
  refine r_iload_n C 0 dX9_isSmall_0 rfl rfl ?_
  refine r_bipush (v := (97 : Int32)) C dX9_isSmall_1 rfl ?_
  refine r_icmp_lt C 16 dX9_isSmall_3 (by decide) (fun hc => ?_) (fun hc => ?_)
  · replace h := h.1 hc
    refine r_iconst (v := (0 : Int32)) C dX9_isSmall_16 rfl ?_
    exact r_zret C (by decide) dX9_isSmall_17 h
  · replace h := h.2 hc
    refine r_iload_n C 0 dX9_isSmall_6 rfl rfl ?_
    refine r_bipush (v := (122 : Int32)) C dX9_isSmall_7 rfl ?_
    refine r_icmp_gt C 16 dX9_isSmall_9 (by decide) (fun hc => ?_) (fun hc => ?_)
    · replace h := h.1 hc
      refine r_iconst (v := (0 : Int32)) C dX9_isSmall_16 rfl ?_
      exact r_zret C (by decide) dX9_isSmall_17 h
    · replace h := h.2 hc
      refine r_iconst (v := (1 : Int32)) C dX9_isSmall_12 rfl ?_
      refine r_goto C 17 dX9_isSmall_13 (by decide) ?_
      exact r_zret C (by decide) dX9_isSmall_17 h
def f_X9_isDigit (v0 : Int32) (M : Mem) (K : Int32 → Mem → Prop) : Prop := ((v0 < (48 : Int32) → K (0 : Int32) M) ∧ (¬ v0 < (48 : Int32) → (((57 : Int32) < v0 → K (0 : Int32) M) ∧ (¬ (57 : Int32) < v0 → K (1 : Int32) M))))

set_option maxHeartbeats 1000000 in
set_option maxRecDepth 10000 in
theorem m_X9_isDigit (l : Launch) {v0 : Int32}  {M : Mem} {K : Int32 → Mem → Prop} (h : f_X9_isDigit v0 M K) : CTi l yX9_isDigit cX9_isDigit 1 (some .boolean) rm_X9_isDigit (fun ad => [.int v0]) M K := by
  refine rw_enti (by decide +kernel) (fun ad => Nat.le_of_ble_eq_true rfl) (fun p e s m args below meth c D cy ad C => ?_)
  change rw_W p l e _ s m args below meth c D cy ad 1 0 0 _ 0 [(0, .int v0)] [] M
  unfold f_X9_isDigit at h
  refine r_iload_n C 0 dX9_isDigit_0 rfl rfl ?_
  refine r_bipush (v := (48 : Int32)) C dX9_isDigit_1 rfl ?_
  refine r_icmp_lt C 16 dX9_isDigit_3 (by decide) (fun hc => ?_) (fun hc => ?_)
  · replace h := h.1 hc
    refine r_iconst (v := (0 : Int32)) C dX9_isDigit_16 rfl ?_
    exact r_zret C (by decide) dX9_isDigit_17 h
  · replace h := h.2 hc
    refine r_iload_n C 0 dX9_isDigit_6 rfl rfl ?_
    refine r_bipush (v := (57 : Int32)) C dX9_isDigit_7 rfl ?_
    refine r_icmp_gt C 16 dX9_isDigit_9 (by decide) (fun hc => ?_) (fun hc => ?_)
    · replace h := h.1 hc
      refine r_iconst (v := (0 : Int32)) C dX9_isDigit_16 rfl ?_
      exact r_zret C (by decide) dX9_isDigit_17 h
    · replace h := h.2 hc
      refine r_iconst (v := (1 : Int32)) C dX9_isDigit_12 rfl ?_
      refine r_goto C 17 dX9_isDigit_13 (by decide) ?_
      exact r_zret C (by decide) dX9_isDigit_17 h
def L_X9_next_0 (X39 : Mem → Prop) (K : Mem → Prop) : Nat → Mem → Prop
  | 0, _ => False
  | n + 1, M => f_X9_byteAt (M.1 0 13) M (fun (r : Int32) (M_2 : Mem) => ((r = (32 : Int32) → ∀ M_3 : Mem, M_3 = wI M_2 0 13 ((M_2.1 0 13) + (1 : Int32)) → L_X9_next_0 X39 K n M_3) ∧ (¬ r = (32 : Int32) → f_X9_byteAt (M_2.1 0 13) M_2 (fun (r_2 : Int32) (M_4 : Mem) => ((¬ r_2 = (10 : Int32) → X39 M_4) ∧ (r_2 = (10 : Int32) → ∀ M_5 : Mem, M_5 = wI M_4 0 13 ((M_4.1 0 13) + (1 : Int32)) → L_X9_next_0 X39 K n M_5))))))

set_option maxHeartbeats 1000000 in
set_option maxRecDepth 10000 in
theorem mL_X9_next_0 (C : rw_C p s m meth c cX9_next 2 RX9 none D cy ad) {X39 : Mem → Prop} {K : Mem → Prop} (hX39 : ∀  (M : Mem), X39 M → rw_W p l e rm_X9_next s m args below meth c D cy ad 2 0 0 (rw_Qv below args s D cy ad K) 39 [(0, .ref (ad 0))] [] M) : ∀ (n : Nat) (M : Mem), L_X9_next_0 X39 K n M → rw_W p l e rm_X9_next s m args below meth c D cy ad 2 0 0 (rw_Qv below args s D cy ad K) 0 [(0, .ref (ad 0))] [] M := by
  intro n
  induction n with
  | zero => intro M h; exact h.elim
  | succ n ih =>
    intro M h
    refine r_aload_n C 0 dX9_next_0 rfl rfl ?_
    refine r_aload_n C 0 dX9_next_1 rfl rfl ?_
    refine gX9_158 C dX9_next_2 ?_
    refine cX9_161 C (m_X9_byteAt l h) ⟨Nat.le_of_ble_eq_true rfl, Nat.le_of_ble_eq_true rfl⟩ (Nat.le_of_ble_eq_true rfl) ⟨Nat.le_refl 0, Nat.le_refl 0⟩ dX9_next_5 (fun r M_2 h => ?_)
    refine r_bipush (v := (32 : Int32)) C dX9_next_8 rfl ?_
    refine r_icmp_eq C 26 dX9_next_10 (by decide) (fun hc => ?_) (fun hc => ?_)
    · replace h := h.1 hc
      refine r_aload_n C 0 dX9_next_26 rfl rfl ?_
      refine r_dup C dX9_next_27 rfl ?_
      refine gX9_158 C dX9_next_28 ?_
      refine r_iconst (v := (1 : Int32)) C dX9_next_31 rfl ?_
      refine r_iadd C dX9_next_32 ?_
      refine pX9_158 C dX9_next_33 ?_
      replace h := h _ rfl
      refine r_goto C 0 dX9_next_36 (by decide) ?_
      exact ih _ h
    · replace h := h.2 hc
      refine r_aload_n C 0 dX9_next_13 rfl rfl ?_
      refine r_aload_n C 0 dX9_next_14 rfl rfl ?_
      refine gX9_158 C dX9_next_15 ?_
      refine cX9_161 C (m_X9_byteAt l h) ⟨Nat.le_of_ble_eq_true rfl, Nat.le_of_ble_eq_true rfl⟩ (Nat.le_of_ble_eq_true rfl) ⟨Nat.le_refl 0, Nat.le_refl 0⟩ dX9_next_18 (fun r_2 M_4 h => ?_)
      refine r_bipush (v := (10 : Int32)) C dX9_next_21 rfl ?_
      refine r_icmp_ne C 39 dX9_next_23 (by decide) (fun hc => ?_) (fun hc => ?_)
      · replace h := h.1 hc
        exact hX39 _ h
      · replace h := h.2 hc
        refine r_aload_n C 0 dX9_next_26 rfl rfl ?_
        refine r_dup C dX9_next_27 rfl ?_
        refine gX9_158 C dX9_next_28 ?_
        refine r_iconst (v := (1 : Int32)) C dX9_next_31 rfl ?_
        refine r_iadd C dX9_next_32 ?_
        refine pX9_158 C dX9_next_33 ?_
        replace h := h _ rfl
        refine r_goto C 0 dX9_next_36 (by decide) ?_
        exact ih _ h

set_option maxHeartbeats 1000000 in
set_option maxRecDepth 10000 in
theorem mD_X9_next_291 (C : rw_C p s m meth c cX9_next 2 RX9 none D cy ad) {Q : State → Prop} {st : List Value} {M : Mem} {v1 : Int32} {o0 : Int32} {o1 : Int32} (kk : rw_W p l e R s m args below meth c D cy ad 2 0 0 Q 299 [(1, .int v1), (0, .ref (ad 0))] (.int (if ¬ o1 = o0 then (4 : Int32) else (3 : Int32)) :: st) M) : rw_W p l e R s m args below meth c D cy ad 2 0 0 Q 291 [(1, .int v1), (0, .ref (ad 0))] (.int o0 :: .int o1 :: st) M := by
  refine r_icmp_ne C 298 dX9_next_291 (by decide) (fun z0 => ?_) (fun z0 => ?_)
  · skip
    refine r_iconst (v := (4 : Int32)) C dX9_next_298 rfl ?_
    first | rw [if_pos z0] at kk | rw [if_neg (fun q9 => q9 z0)] at kk
    exact kk
  · skip
    refine r_iconst (v := (3 : Int32)) C dX9_next_294 rfl ?_
    refine r_goto C 299 dX9_next_295 (by decide) ?_
    first | rw [if_neg z0] at kk | rw [if_neg (fun q9 => q9 z0)] at kk
    exact kk

def L_X9_next_182 (X238 : Mem → Prop) (K : Mem → Prop) : Nat → Mem → Prop
  | 0, _ => False
  | n + 1, M => f_X9_byteAt (M.1 0 13) M (fun (r_6 : Int32) (M_14 : Mem) => f_X9_isDigit r_6 M_14 (fun (r_7 : Int32) (M_15 : Mem) => ((r_7 = 0 → X238 M_15) ∧ (¬ r_7 = 0 → f_X9_byteAt (M_15.1 0 13) M_15 (fun (r_8 : Int32) (M_16 : Mem) => f_X9_lesser (10000 : Int32) ((((M_15.1 0 15) * (10 : Int32)) + r_8) - (48 : Int32)) M_16 (fun (r_9 : Int32) (M_17 : Mem) => ∀ M_18 : Mem, M_18 = wI M_17 0 15 r_9 → ∀ M_19 : Mem, M_19 = wI M_18 0 13 ((M_18.1 0 13) + (1 : Int32)) → L_X9_next_182 X238 K n M_19))))))

set_option maxHeartbeats 1000000 in
set_option maxRecDepth 10000 in
theorem mL_X9_next_182 (C : rw_C p s m meth c cX9_next 2 RX9 none D cy ad) {X238 : Mem → Prop} {K : Mem → Prop} (hX238 : ∀  (M : Mem), X238 M → rw_W p l e rm_X9_next s m args below meth c D cy ad 2 0 0 (rw_Qv below args s D cy ad K) 238 [(0, .ref (ad 0))] [] M) : ∀ (n : Nat) (M : Mem), L_X9_next_182 X238 K n M → rw_W p l e rm_X9_next s m args below meth c D cy ad 2 0 0 (rw_Qv below args s D cy ad K) 182 [(0, .ref (ad 0))] [] M := by
  intro n
  induction n with
  | zero => intro M h; exact h.elim
  | succ n ih =>
    intro M h
    refine r_aload_n C 0 dX9_next_182 rfl rfl ?_
    refine r_aload_n C 0 dX9_next_183 rfl rfl ?_
    refine gX9_158 C dX9_next_184 ?_
    refine cX9_161 C (m_X9_byteAt l h) ⟨Nat.le_of_ble_eq_true rfl, Nat.le_of_ble_eq_true rfl⟩ (Nat.le_of_ble_eq_true rfl) ⟨Nat.le_refl 0, Nat.le_refl 0⟩ dX9_next_187 (fun r_6 M_14 h => ?_)
    refine cX9_178 C (m_X9_isDigit l h) ⟨Nat.le_of_ble_eq_true rfl, Nat.le_of_ble_eq_true rfl⟩ (Nat.le_of_ble_eq_true rfl) ⟨Nat.le_refl 0, Nat.le_refl 0⟩ dX9_next_190 (fun r_7 M_15 h => ?_)
    refine r_if_eq C 238 dX9_next_193 (by decide) (fun hc => ?_) (fun hc => ?_)
    · replace h := h.1 hc
      exact hX238 _ h
    · replace h := h.2 hc
      refine r_aload_n C 0 dX9_next_196 rfl rfl ?_
      refine r_sipush (v := (10000 : Int32)) C dX9_next_197 rfl ?_
      refine r_aload_n C 0 dX9_next_200 rfl rfl ?_
      refine gX9_168 C dX9_next_201 ?_
      refine r_bipush (v := (10 : Int32)) C dX9_next_204 rfl ?_
      refine r_imul C dX9_next_206 ?_
      refine r_aload_n C 0 dX9_next_207 rfl rfl ?_
      refine r_aload_n C 0 dX9_next_208 rfl rfl ?_
      refine gX9_158 C dX9_next_209 ?_
      refine cX9_161 C (m_X9_byteAt l h) ⟨Nat.le_of_ble_eq_true rfl, Nat.le_of_ble_eq_true rfl⟩ (Nat.le_of_ble_eq_true rfl) ⟨Nat.le_refl 0, Nat.le_refl 0⟩ dX9_next_212 (fun r_8 M_16 h => ?_)
      refine r_iadd C dX9_next_215 ?_
      refine r_bipush (v := (48 : Int32)) C dX9_next_216 rfl ?_
      refine r_isub C dX9_next_218 ?_
      refine cX9_181 C (m_X9_lesser l h) ⟨Nat.le_of_ble_eq_true rfl, Nat.le_of_ble_eq_true rfl⟩ (Nat.le_of_ble_eq_true rfl) ⟨Nat.le_refl 0, Nat.le_refl 0⟩ dX9_next_219 (fun r_9 M_17 h => ?_)
      refine pX9_168 C dX9_next_222 ?_
      replace h := h _ rfl
      refine r_aload_n C 0 dX9_next_225 rfl rfl ?_
      refine r_dup C dX9_next_226 rfl ?_
      refine gX9_158 C dX9_next_227 ?_
      refine r_iconst (v := (1 : Int32)) C dX9_next_230 rfl ?_
      refine r_iadd C dX9_next_231 ?_
      refine pX9_158 C dX9_next_232 ?_
      replace h := h _ rfl
      refine r_goto C 182 dX9_next_235 (by decide) ?_
      exact ih _ h

def S_X9_next_249 (o0 : Int32) (o1 : Int32) (X271 : Int32 → Mem → Prop) (K : Mem → Prop) (M : Mem) : Prop := (o0 < o1 → X271 (4 : Int32) M) ∧ (¬ o0 < o1 → f_X9_byteAt (M.1 0 13) M (fun (r_10 : Int32) (M_21 : Mem) => f_X9_isSmall r_10 M_21 (fun (r_11 : Int32) (M_22 : Mem) => ((r_11 = 0 → X271 (2 : Int32) M_22) ∧ (¬ r_11 = 0 → X271 (4 : Int32) M_22)))))

set_option maxHeartbeats 1000000 in
set_option maxRecDepth 10000 in
theorem mS_X9_next_249 (C : rw_C p s m meth c cX9_next 2 RX9 none D cy ad) {o0 : Int32} {o1 : Int32} {X271 : Int32 → Mem → Prop} {K : Mem → Prop} {M : Mem} (hX271 : ∀  (w0 : Int32) (M : Mem), X271 w0 M → rw_W p l e rm_X9_next s m args below meth c D cy ad 2 0 0 (rw_Qv below args s D cy ad K) 271 [] [.int w0, .ref (ad 0)] M) (h : S_X9_next_249 o0 o1 X271 K M) : rw_W p l e rm_X9_next s m args below meth c D cy ad 2 0 0 (rw_Qv below args s D cy ad K) 249 [(0, .ref (ad 0))] [.int o0, .int o1, .ref (ad 0)] M := by
  refine r_icmp_gt C 266 dX9_next_249 (by decide) (fun hc => ?_) (fun hc => ?_)
  · replace h := h.1 hc
    refine r_iconst (v := (4 : Int32)) C dX9_next_266 rfl ?_
    refine r_goto C 271 dX9_next_267 (by decide) ?_
    exact r_sub [] rfl (hX271 _ _ h)
  · replace h := h.2 hc
    refine r_aload_n C 0 dX9_next_252 rfl rfl ?_
    refine r_aload_n C 0 dX9_next_253 rfl rfl ?_
    refine gX9_158 C dX9_next_254 ?_
    refine cX9_161 C (m_X9_byteAt l h) ⟨Nat.le_of_ble_eq_true rfl, Nat.le_of_ble_eq_true rfl⟩ (Nat.le_of_ble_eq_true rfl) ⟨Nat.le_refl 0, Nat.le_refl 0⟩ dX9_next_257 (fun r_10 M_21 h => ?_)
    refine cX9_174 C (m_X9_isSmall l h) ⟨Nat.le_of_ble_eq_true rfl, Nat.le_of_ble_eq_true rfl⟩ (Nat.le_of_ble_eq_true rfl) ⟨Nat.le_refl 0, Nat.le_refl 0⟩ dX9_next_260 (fun r_11 M_22 h => ?_)
    refine r_if_eq C 270 dX9_next_263 (by decide) (fun hc => ?_) (fun hc => ?_)
    · replace h := h.1 hc
      refine r_iconst (v := (2 : Int32)) C dX9_next_270 rfl ?_
      exact r_sub [] rfl (hX271 _ _ h)
    · replace h := h.2 hc
      refine r_iconst (v := (4 : Int32)) C dX9_next_266 rfl ?_
      refine r_goto C 271 dX9_next_267 (by decide) ?_
      exact r_sub [] rfl (hX271 _ _ h)

def S_X9_next_107 (o0 : Int32) (o1 : Int32) (X133 : Int32 → Mem → Prop) (K : Mem → Prop) (M : Mem) : Prop := (o0 ≤ o1 → X133 (-1 : Int32) M) ∧ (¬ o0 ≤ o1 → f_X9_byteAt (M.1 0 13) M (fun (r_14 : Int32) (M_27 : Mem) => X133 ((((M.1 0 15) * (32 : Int32)) + r_14) - (96 : Int32)) M_27))

set_option maxHeartbeats 1000000 in
set_option maxRecDepth 10000 in
theorem mS_X9_next_107 (C : rw_C p s m meth c cX9_next 2 RX9 none D cy ad) {o0 : Int32} {o1 : Int32} {X133 : Int32 → Mem → Prop} {K : Mem → Prop} {M : Mem} (hX133 : ∀  (w0 : Int32) (M : Mem), X133 w0 M → rw_W p l e rm_X9_next s m args below meth c D cy ad 2 0 0 (rw_Qv below args s D cy ad K) 133 [(0, .ref (ad 0))] [.int w0, .ref (ad 0)] M) (h : S_X9_next_107 o0 o1 X133 K M) : rw_W p l e rm_X9_next s m args below meth c D cy ad 2 0 0 (rw_Qv below args s D cy ad K) 107 [(0, .ref (ad 0))] [.int o0, .int o1, .ref (ad 0)] M := by
  refine r_icmp_ge C 132 dX9_next_107 (by decide) (fun hc => ?_) (fun hc => ?_)
  · replace h := h.1 hc
    refine r_iconst (v := (-1 : Int32)) C dX9_next_132 rfl ?_
    exact hX133 _ _ h
  · replace h := h.2 hc
    refine r_aload_n C 0 dX9_next_110 rfl rfl ?_
    refine gX9_168 C dX9_next_111 ?_
    refine r_bipush (v := (32 : Int32)) C dX9_next_114 rfl ?_
    refine r_imul C dX9_next_116 ?_
    refine r_aload_n C 0 dX9_next_117 rfl rfl ?_
    refine r_aload_n C 0 dX9_next_118 rfl rfl ?_
    refine gX9_158 C dX9_next_119 ?_
    refine cX9_161 C (m_X9_byteAt l h) ⟨Nat.le_of_ble_eq_true rfl, Nat.le_of_ble_eq_true rfl⟩ (Nat.le_of_ble_eq_true rfl) ⟨Nat.le_refl 0, Nat.le_refl 0⟩ dX9_next_122 (fun r_14 M_27 h => ?_)
    refine r_iadd C dX9_next_125 ?_
    refine r_bipush (v := (96 : Int32)) C dX9_next_126 rfl ?_
    refine r_isub C dX9_next_128 ?_
    refine r_goto C 133 dX9_next_129 (by decide) ?_
    exact hX133 _ _ h

def L_X9_next_81 (X149 : Mem → Prop) (K : Mem → Prop) : Nat → Mem → Prop
  | 0, _ => False
  | n + 1, M => f_X9_byteAt (M.1 0 13) M (fun (r_12 : Int32) (M_25 : Mem) => f_X9_isSmall r_12 M_25 (fun (r_13 : Int32) (M_26 : Mem) => ((r_13 = 0 → X149 M_26) ∧ (¬ r_13 = 0 → (S_X9_next_107 (6 : Int32) ((M_26.1 0 13) - (M_26.1 0 12)) (fun (w_2 : Int32) (M_28 : Mem) => ∀ M_29 : Mem, M_29 = wI M_28 0 15 w_2 → ∀ M_30 : Mem, M_30 = wI M_29 0 13 ((M_29.1 0 13) + (1 : Int32)) → L_X9_next_81 X149 K n M_30) K M_26)))))

set_option maxHeartbeats 1000000 in
set_option maxRecDepth 10000 in
theorem mL_X9_next_81 (C : rw_C p s m meth c cX9_next 2 RX9 none D cy ad) {X149 : Mem → Prop} {K : Mem → Prop} (hX149 : ∀  (M : Mem), X149 M → rw_W p l e rm_X9_next s m args below meth c D cy ad 2 0 0 (rw_Qv below args s D cy ad K) 149 [(0, .ref (ad 0))] [] M) : ∀ (n : Nat) (M : Mem), L_X9_next_81 X149 K n M → rw_W p l e rm_X9_next s m args below meth c D cy ad 2 0 0 (rw_Qv below args s D cy ad K) 81 [(0, .ref (ad 0))] [] M := by
  intro n
  induction n with
  | zero => intro M h; exact h.elim
  | succ n ih =>
    intro M h
    refine r_aload_n C 0 dX9_next_81 rfl rfl ?_
    refine r_aload_n C 0 dX9_next_82 rfl rfl ?_
    refine gX9_158 C dX9_next_83 ?_
    refine cX9_161 C (m_X9_byteAt l h) ⟨Nat.le_of_ble_eq_true rfl, Nat.le_of_ble_eq_true rfl⟩ (Nat.le_of_ble_eq_true rfl) ⟨Nat.le_refl 0, Nat.le_refl 0⟩ dX9_next_86 (fun r_12 M_25 h => ?_)
    refine cX9_174 C (m_X9_isSmall l h) ⟨Nat.le_of_ble_eq_true rfl, Nat.le_of_ble_eq_true rfl⟩ (Nat.le_of_ble_eq_true rfl) ⟨Nat.le_refl 0, Nat.le_refl 0⟩ dX9_next_89 (fun r_13 M_26 h => ?_)
    refine r_if_eq C 149 dX9_next_92 (by decide) (fun hc => ?_) (fun hc => ?_)
    · replace h := h.1 hc
      exact hX149 _ h
    · replace h := h.2 hc
      refine r_aload_n C 0 dX9_next_95 rfl rfl ?_
      refine r_aload_n C 0 dX9_next_96 rfl rfl ?_
      refine gX9_158 C dX9_next_97 ?_
      refine r_aload_n C 0 dX9_next_100 rfl rfl ?_
      refine gX9_165 C dX9_next_101 ?_
      refine r_isub C dX9_next_104 ?_
      refine r_bipush (v := (6 : Int32)) C dX9_next_105 rfl ?_
      refine mS_X9_next_107 C (fun w_2 M_28 h => ?_) h
      refine pX9_168 C dX9_next_133 ?_
      replace h := h _ rfl
      refine r_aload_n C 0 dX9_next_136 rfl rfl ?_
      refine r_dup C dX9_next_137 rfl ?_
      refine gX9_158 C dX9_next_138 ?_
      refine r_iconst (v := (1 : Int32)) C dX9_next_141 rfl ?_
      refine r_iadd C dX9_next_142 ?_
      refine pX9_158 C dX9_next_143 ?_
      replace h := h _ rfl
      refine r_goto C 81 dX9_next_146 (by decide) ?_
      exact ih _ h

set_option maxHeartbeats 1000000 in
set_option maxRecDepth 10000 in
theorem mD_X9_next_161 (C : rw_C p s m meth c cX9_next 2 RX9 none D cy ad) {Q : State → Prop} {st : List Value} {M : Mem} {o0 : Int32} {o1 : Int32} (kk : rw_W p l e R s m args below meth c D cy ad 2 0 0 Q 169 [(0, .ref (ad 0))] (.int (if o1 ≤ o0 then (1 : Int32) else (4 : Int32)) :: st) M) : rw_W p l e R s m args below meth c D cy ad 2 0 0 Q 161 [(0, .ref (ad 0))] (.int o0 :: .int o1 :: st) M := by
  refine r_icmp_le C 168 dX9_next_161 (by decide) (fun z0 => ?_) (fun z0 => ?_)
  · skip
    refine r_iconst (v := (1 : Int32)) C dX9_next_168 rfl ?_
    first | rw [if_pos z0] at kk | rw [if_neg (fun q9 => q9 z0)] at kk
    exact kk
  · skip
    refine r_iconst (v := (4 : Int32)) C dX9_next_164 rfl ?_
    refine r_goto C 169 dX9_next_165 (by decide) ?_
    first | rw [if_neg z0] at kk | rw [if_neg (fun q9 => q9 z0)] at kk
    exact kk

def f_X9_next (M : Mem) (K : Mem → Prop) : Prop := (∃ k0 : Nat, L_X9_next_0 (fun  (M_6 : Mem) => ∀ M_7 : Mem, M_7 = wI M_6 0 12 (M_6.1 0 13) → f_X9_byteAt (M_7.1 0 12) M_7 (fun (r_3 : Int32) (M_8 : Mem) => ∀ M_9 : Mem, M_9 = wI M_8 0 15 (0 : Int32) → ((¬ r_3 = (-1 : Int32) → f_X9_isSmall r_3 M_9 (fun (r_4 : Int32) (M_10 : Mem) => ((r_4 = 0 → f_X9_isDigit r_3 M_10 (fun (r_5 : Int32) (M_11 : Mem) => ((r_5 = 0 → ∀ M_12 : Mem, M_12 = wI M_11 0 13 ((M_11.1 0 13) + (1 : Int32)) → ∀ M_13 : Mem, M_13 = wI M_12 0 14 (if ¬ r_3 = (59 : Int32) then (4 : Int32) else (3 : Int32)) → K M_13) ∧ (¬ r_5 = 0 → (∃ k182 : Nat, L_X9_next_182 (fun  (M_20 : Mem) => (S_X9_next_249 (3 : Int32) ((M_20.1 0 13) - (M_20.1 0 12)) (fun (w : Int32) (M_23 : Mem) => ∀ M_24 : Mem, M_24 = wI M_23 0 14 w → K M_24) K M_20)) K k182 M_11))))) ∧ (¬ r_4 = 0 → (∃ k81 : Nat, L_X9_next_81 (fun  (M_31 : Mem) => ∀ M_32 : Mem, M_32 = wI M_31 0 14 (if ((M_31.1 0 13) - (M_31.1 0 12)) ≤ (6 : Int32) then (1 : Int32) else (4 : Int32)) → K M_32) K k81 M_10))))) ∧ (r_3 = (-1 : Int32) → ∀ M_33 : Mem, M_33 = wI M_9 0 14 (0 : Int32) → K M_33)))) K k0 M)

set_option maxHeartbeats 1000000 in
set_option maxRecDepth 10000 in
theorem m_X9_next (l : Launch)   {M : Mem} {K : Mem → Prop} (h : f_X9_next M K) : CTv l yX9_next cX9_next 2 none rm_X9_next (fun ad => [.ref (ad 0)]) M K := by
  refine rw_entv (by decide +kernel) (fun ad => Nat.le_of_ble_eq_true rfl) (fun p e s m args below meth c D cy ad C => ?_)
  change rw_W p l e _ s m args below meth c D cy ad 2 0 0 _ 0 [(0, .ref (ad 0))] [] M
  unfold f_X9_next at h
  obtain ⟨n0, h⟩ := h
  refine mL_X9_next_0 C (fun M_6 h => ?_) n0 _ h
  refine r_aload_n C 0 dX9_next_39 rfl rfl ?_
  refine r_aload_n C 0 dX9_next_40 rfl rfl ?_
  refine gX9_158 C dX9_next_41 ?_
  refine pX9_165 C dX9_next_44 ?_
  replace h := h _ rfl
  refine r_aload_n C 0 dX9_next_47 rfl rfl ?_
  refine r_aload_n C 0 dX9_next_48 rfl rfl ?_
  refine gX9_165 C dX9_next_49 ?_
  refine cX9_161 C (m_X9_byteAt l h) ⟨Nat.le_of_ble_eq_true rfl, Nat.le_of_ble_eq_true rfl⟩ (Nat.le_of_ble_eq_true rfl) ⟨Nat.le_refl 0, Nat.le_refl 0⟩ dX9_next_52 (fun r_3 M_8 h => ?_)
  refine r_istore_n C [(1, .int _), (0, .ref _)] dX9_next_55 rfl (by decide) rfl ?_
  refine r_aload_n C 1 dX9_next_56 rfl rfl ?_
  refine r_iconst (v := (0 : Int32)) C dX9_next_57 rfl ?_
  refine pX9_168 C dX9_next_58 ?_
  replace h := h _ rfl
  refine r_iload_n C 0 dX9_next_61 rfl rfl ?_
  refine r_iconst (v := (-1 : Int32)) C dX9_next_62 rfl ?_
  refine r_icmp_ne C 74 dX9_next_63 (by decide) (fun hc => ?_) (fun hc => ?_)
  · replace h := h.1 hc
    refine r_iload_n C 0 dX9_next_74 rfl rfl ?_
    refine cX9_174 C (m_X9_isSmall l h) ⟨Nat.le_of_ble_eq_true rfl, Nat.le_of_ble_eq_true rfl⟩ (Nat.le_of_ble_eq_true rfl) ⟨Nat.le_refl 0, Nat.le_refl 0⟩ dX9_next_75 (fun r_4 M_10 h => ?_)
    refine r_if_eq C 175 dX9_next_78 (by decide) (fun hc => ?_) (fun hc => ?_)
    · replace h := h.1 hc
      refine r_iload_n C 0 dX9_next_175 rfl rfl ?_
      refine cX9_178 C (m_X9_isDigit l h) ⟨Nat.le_of_ble_eq_true rfl, Nat.le_of_ble_eq_true rfl⟩ (Nat.le_of_ble_eq_true rfl) ⟨Nat.le_refl 0, Nat.le_refl 0⟩ dX9_next_176 (fun r_5 M_11 h => ?_)
      refine r_if_eq C 277 dX9_next_179 (by decide) (fun hc => ?_) (fun hc => ?_)
      · replace h := h.1 hc
        refine r_aload_n C 1 dX9_next_277 rfl rfl ?_
        refine r_dup C dX9_next_278 rfl ?_
        refine gX9_158 C dX9_next_279 ?_
        refine r_iconst (v := (1 : Int32)) C dX9_next_282 rfl ?_
        refine r_iadd C dX9_next_283 ?_
        refine pX9_158 C dX9_next_284 ?_
        replace h := h _ rfl
        refine r_aload_n C 1 dX9_next_287 rfl rfl ?_
        refine r_iload_n C 0 dX9_next_288 rfl rfl ?_
        refine r_bipush (v := (59 : Int32)) C dX9_next_289 rfl ?_
        refine mD_X9_next_291 C ?_
        refine pX9_171 C dX9_next_299 ?_
        replace h := h _ rfl
        exact r_vret C dX9_next_302 h
      · replace h := h.2 hc
        obtain ⟨n182, h⟩ := h
        refine r_sub [1] rfl (mL_X9_next_182 C (fun M_20 h => ?_) n182 _ h)
        refine r_aload_n C 0 dX9_next_238 rfl rfl ?_
        refine r_aload_n C 0 dX9_next_239 rfl rfl ?_
        refine gX9_158 C dX9_next_240 ?_
        refine r_aload_n C 0 dX9_next_243 rfl rfl ?_
        refine gX9_165 C dX9_next_244 ?_
        refine r_isub C dX9_next_247 ?_
        refine r_iconst (v := (3 : Int32)) C dX9_next_248 rfl ?_
        refine mS_X9_next_249 C (fun w M_23 h => ?_) h
        refine pX9_171 C dX9_next_271 ?_
        replace h := h _ rfl
        refine r_goto C 302 dX9_next_274 (by decide) ?_
        exact r_vret C dX9_next_302 h
    · replace h := h.2 hc
      obtain ⟨n81, h⟩ := h
      refine r_sub [1] rfl (mL_X9_next_81 C (fun M_31 h => ?_) n81 _ h)
      refine r_aload_n C 0 dX9_next_149 rfl rfl ?_
      refine r_aload_n C 0 dX9_next_150 rfl rfl ?_
      refine gX9_158 C dX9_next_151 ?_
      refine r_aload_n C 0 dX9_next_154 rfl rfl ?_
      refine gX9_165 C dX9_next_155 ?_
      refine r_isub C dX9_next_158 ?_
      refine r_bipush (v := (6 : Int32)) C dX9_next_159 rfl ?_
      refine mD_X9_next_161 C ?_
      refine pX9_171 C dX9_next_169 ?_
      replace h := h _ rfl
      refine r_goto C 302 dX9_next_172 (by decide) ?_
      exact r_vret C dX9_next_302 h
  · replace h := h.2 hc
    refine r_aload_n C 1 dX9_next_66 rfl rfl ?_
    refine r_iconst (v := (0 : Int32)) C dX9_next_67 rfl ?_
    refine pX9_171 C dX9_next_68 ?_
    replace h := h _ rfl
    refine r_goto C 302 dX9_next_71 (by decide) ?_
    exact r_vret C dX9_next_302 h
def f_X9_isGood (M : Mem) (K : Int32 → Mem → Prop) : Prop := ((¬ (M.1 0 18) = 0 → K (0 : Int32) M) ∧ ((M.1 0 18) = 0 → K (1 : Int32) M))

set_option maxHeartbeats 1000000 in
set_option maxRecDepth 10000 in
theorem m_X9_isGood (l : Launch)   {M : Mem} {K : Int32 → Mem → Prop} (h : f_X9_isGood M K) : CTi l yX9_isGood cX9_isGood 1 (some .boolean) rm_X9_isGood (fun ad => [.ref (ad 0)]) M K := by
  refine rw_enti (by decide +kernel) (fun ad => Nat.le_of_ble_eq_true rfl) (fun p e s m args below meth c D cy ad C => ?_)
  change rw_W p l e _ s m args below meth c D cy ad 1 0 0 _ 0 [(0, .ref (ad 0))] [] M
  unfold f_X9_isGood at h
  refine r_aload_n C 0 dX9_isGood_0 rfl rfl ?_
  refine gX9_185 C dX9_isGood_1 ?_
  refine r_if_ne C 11 dX9_isGood_4 (by decide) (fun hc => ?_) (fun hc => ?_)
  · replace h := h.1 hc
    refine r_iconst (v := (0 : Int32)) C dX9_isGood_11 rfl ?_
    exact r_zret C (by decide) dX9_isGood_12 h
  · replace h := h.2 hc
    refine r_iconst (v := (1 : Int32)) C dX9_isGood_7 rfl ?_
    refine r_goto C 12 dX9_isGood_8 (by decide) ?_
    exact r_zret C (by decide) dX9_isGood_12 h
def f_X9_failsAt (v1 : Int32) (v2 : Int32) (M : Mem) (K : Mem → Prop) : Prop := ((¬ (M.1 0 18) = 0 → K M) ∧ ((M.1 0 18) = 0 → ∀ M_2 : Mem, M_2 = wI M 0 18 v1 → ∀ M_3 : Mem, M_3 = wI M_2 0 19 v2 → K M_3))

set_option maxHeartbeats 1000000 in
set_option maxRecDepth 10000 in
theorem m_X9_failsAt (l : Launch) {v1 : Int32} {v2 : Int32}  {M : Mem} {K : Mem → Prop} (h : f_X9_failsAt v1 v2 M K) : CTv l yX9_failsAt cX9_failsAt 3 none rm_X9_failsAt (fun ad => [.ref (ad 0), .int v1, .int v2]) M K := by
  refine rw_entv (by decide +kernel) (fun ad => Nat.le_of_ble_eq_true rfl) (fun p e s m args below meth c D cy ad C => ?_)
  change rw_W p l e _ s m args below meth c D cy ad 3 0 0 _ 0 [(0, .ref (ad 0)), (1, .int v1), (2, .int v2)] [] M
  unfold f_X9_failsAt at h
  refine r_aload_n C 0 dX9_failsAt_0 rfl rfl ?_
  refine gX9_185 C dX9_failsAt_1 ?_
  refine r_if_ne C 17 dX9_failsAt_4 (by decide) (fun hc => ?_) (fun hc => ?_)
  · replace h := h.1 hc
    exact r_vret C dX9_failsAt_17 h
  · replace h := h.2 hc
    refine r_aload_n C 0 dX9_failsAt_7 rfl rfl ?_
    refine r_iload_n C 1 dX9_failsAt_8 rfl rfl ?_
    refine pX9_185 C dX9_failsAt_9 ?_
    replace h := h _ rfl
    refine r_aload_n C 0 dX9_failsAt_12 rfl rfl ?_
    refine r_iload_n C 2 dX9_failsAt_13 rfl rfl ?_
    refine pX9_188 C dX9_failsAt_14 ?_
    replace h := h _ rfl
    exact r_vret C dX9_failsAt_17 h
set_option maxHeartbeats 1000000 in
set_option maxRecDepth 10000 in
theorem mD_X9_fails_6 (C : rw_C p s m meth c cX9_fails 2 RX9 none D cy ad) {Q : State → Prop} {st : List Value} {M : Mem} {v1 : Int32} {o0 : Int32} {o1 : Int32} (kk : rw_W p l e R s m args below meth c D cy ad 2 0 0 Q 14 [(0, .ref (ad 0)), (1, .int v1)] (.int (if ¬ o1 = o0 then v1 else (1 : Int32)) :: st) M) : rw_W p l e R s m args below meth c D cy ad 2 0 0 Q 6 [(0, .ref (ad 0)), (1, .int v1)] (.int o0 :: .int o1 :: st) M := by
  refine r_icmp_ne C 13 dX9_fails_6 (by decide) (fun z0 => ?_) (fun z0 => ?_)
  · skip
    refine r_iload_n C 1 dX9_fails_13 rfl rfl ?_
    first | rw [if_pos z0] at kk | rw [if_neg (fun q9 => q9 z0)] at kk
    exact kk
  · skip
    refine r_iconst (v := (1 : Int32)) C dX9_fails_9 rfl ?_
    refine r_goto C 14 dX9_fails_10 (by decide) ?_
    first | rw [if_neg z0] at kk | rw [if_neg (fun q9 => q9 z0)] at kk
    exact kk

def f_X9_fails (v1 : Int32) (M : Mem) (K : Mem → Prop) : Prop := f_X9_failsAt (if ¬ (M.1 0 14) = (4 : Int32) then v1 else (1 : Int32)) (M.1 0 12) M (fun (M_2 : Mem) => K M_2)

set_option maxHeartbeats 1000000 in
set_option maxRecDepth 10000 in
theorem m_X9_fails (l : Launch) {v1 : Int32}  {M : Mem} {K : Mem → Prop} (h : f_X9_fails v1 M K) : CTv l yX9_fails cX9_fails 2 none rm_X9_fails (fun ad => [.ref (ad 0), .int v1]) M K := by
  refine rw_entv (by decide +kernel) (fun ad => Nat.le_of_ble_eq_true rfl) (fun p e s m args below meth c D cy ad C => ?_)
  change rw_W p l e _ s m args below meth c D cy ad 2 0 0 _ 0 [(0, .ref (ad 0)), (1, .int v1)] [] M
  unfold f_X9_fails at h
  refine r_aload_n C 0 dX9_fails_0 rfl rfl ?_
  refine r_aload_n C 0 dX9_fails_1 rfl rfl ?_
  refine gX9_171 C dX9_fails_2 ?_
  refine r_iconst (v := (4 : Int32)) C dX9_fails_5 rfl ?_
  refine mD_X9_fails_6 C ?_
  refine r_aload_n C 0 dX9_fails_14 rfl rfl ?_
  refine gX9_165 C dX9_fails_15 ?_
  refine cX9_191 C (m_X9_failsAt l h) ⟨Nat.le_of_ble_eq_true rfl, Nat.le_of_ble_eq_true rfl⟩ (Nat.le_of_ble_eq_true rfl) ⟨Nat.le_refl 0, Nat.le_refl 0⟩ dX9_fails_18 (fun M_2 h => ?_)
  exact r_vret C dX9_fails_21 h
def f_X9_isWord (v1 : Int32) (M : Mem) (K : Int32 → Mem → Prop) : Prop := ((¬ (M.1 0 14) = (1 : Int32) → K (0 : Int32) M) ∧ ((M.1 0 14) = (1 : Int32) → ((¬ (M.1 0 15) = v1 → K (0 : Int32) M) ∧ ((M.1 0 15) = v1 → K (1 : Int32) M))))

set_option maxHeartbeats 1000000 in
set_option maxRecDepth 10000 in
theorem m_X9_isWord (l : Launch) {v1 : Int32}  {M : Mem} {K : Int32 → Mem → Prop} (h : f_X9_isWord v1 M K) : CTi l yX9_isWord cX9_isWord 2 (some .boolean) rm_X9_isWord (fun ad => [.ref (ad 0), .int v1]) M K := by
  refine rw_enti (by decide +kernel) (fun ad => Nat.le_of_ble_eq_true rfl) (fun p e s m args below meth c D cy ad C => ?_)
  change rw_W p l e _ s m args below meth c D cy ad 2 0 0 _ 0 [(0, .ref (ad 0)), (1, .int v1)] [] M
  unfold f_X9_isWord at h
  refine r_aload_n C 0 dX9_isWord_0 rfl rfl ?_
  refine gX9_171 C dX9_isWord_1 ?_
  refine r_iconst (v := (1 : Int32)) C dX9_isWord_4 rfl ?_
  refine r_icmp_ne C 20 dX9_isWord_5 (by decide) (fun hc => ?_) (fun hc => ?_)
  · replace h := h.1 hc
    refine r_iconst (v := (0 : Int32)) C dX9_isWord_20 rfl ?_
    exact r_zret C (by decide) dX9_isWord_21 h
  · replace h := h.2 hc
    refine r_aload_n C 0 dX9_isWord_8 rfl rfl ?_
    refine gX9_168 C dX9_isWord_9 ?_
    refine r_iload_n C 1 dX9_isWord_12 rfl rfl ?_
    refine r_icmp_ne C 20 dX9_isWord_13 (by decide) (fun hc => ?_) (fun hc => ?_)
    · replace h := h.1 hc
      refine r_iconst (v := (0 : Int32)) C dX9_isWord_20 rfl ?_
      exact r_zret C (by decide) dX9_isWord_21 h
    · replace h := h.2 hc
      refine r_iconst (v := (1 : Int32)) C dX9_isWord_16 rfl ?_
      refine r_goto C 21 dX9_isWord_17 (by decide) ?_
      exact r_zret C (by decide) dX9_isWord_21 h
def f_X9_goesOn (M : Mem) (K : Mem → Prop) : Prop := f_X9_isGood  M (fun (r : Int32) (M_2 : Mem) => ((r = 0 → K M_2) ∧ (¬ r = 0 → f_X9_next  M_2 (fun (M_3 : Mem) => K M_3))))

set_option maxHeartbeats 1000000 in
set_option maxRecDepth 10000 in
theorem m_X9_goesOn (l : Launch)   {M : Mem} {K : Mem → Prop} (h : f_X9_goesOn M K) : CTv l yX9_goesOn cX9_goesOn 1 none rm_X9_goesOn (fun ad => [.ref (ad 0)]) M K := by
  refine rw_entv (by decide +kernel) (fun ad => Nat.le_of_ble_eq_true rfl) (fun p e s m args below meth c D cy ad C => ?_)
  change rw_W p l e _ s m args below meth c D cy ad 1 0 0 _ 0 [(0, .ref (ad 0))] [] M
  unfold f_X9_goesOn at h
  refine r_aload_n C 0 dX9_goesOn_0 rfl rfl ?_
  refine cX9_195 C (m_X9_isGood l h) ⟨Nat.le_of_ble_eq_true rfl, Nat.le_of_ble_eq_true rfl⟩ (Nat.le_of_ble_eq_true rfl) ⟨Nat.le_refl 0, Nat.le_refl 0⟩ dX9_goesOn_1 (fun r M_2 h => ?_)
  refine r_if_eq C 11 dX9_goesOn_4 (by decide) (fun hc => ?_) (fun hc => ?_)
  · replace h := h.1 hc
    exact r_vret C dX9_goesOn_11 h
  · replace h := h.2 hc
    refine r_aload_n C 0 dX9_goesOn_7 rfl rfl ?_
    refine cX9_199 C (m_X9_next l h) ⟨Nat.le_of_ble_eq_true rfl, Nat.le_of_ble_eq_true rfl⟩ (Nat.le_of_ble_eq_true rfl) ⟨Nat.le_refl 0, Nat.le_refl 0⟩ dX9_goesOn_8 (fun M_3 h => ?_)
    exact r_vret C dX9_goesOn_11 h
def f_X9_mustBeName (M : Mem) (K : Mem → Prop) : Prop := ((¬ (M.1 0 14) = (1 : Int32) → f_X9_fails (2 : Int32) M (fun (M_2 : Mem) => K M_2)) ∧ ((M.1 0 14) = (1 : Int32) → f_X9_isWord (17171557 : Int32) M (fun (r_2 : Int32) (M_3 : Mem) => ((¬ r_2 = 0 → f_X9_fails (2 : Int32) M_3 (fun (M_4 : Mem) => K M_4)) ∧ (r_2 = 0 → f_X9_isWord (643248 : Int32) M_3 (fun (r_4 : Int32) (M_5 : Mem) => ((¬ r_4 = 0 → f_X9_fails (2 : Int32) M_5 (fun (M_6 : Mem) => K M_6)) ∧ (r_4 = 0 → f_X9_isWord (21015731 : Int32) M_5 (fun (r_6 : Int32) (M_7 : Mem) => ((¬ r_6 = 0 → f_X9_fails (2 : Int32) M_7 (fun (M_8 : Mem) => K M_8)) ∧ (r_6 = 0 → f_X9_isWord (7657651 : Int32) M_7 (fun (r_8 : Int32) (M_9 : Mem) => ((r_8 = 0 → K M_9) ∧ (¬ r_8 = 0 → f_X9_fails (2 : Int32) M_9 (fun (M_10 : Mem) => K M_10)))))))))))))))

set_option maxHeartbeats 1000000 in
set_option maxRecDepth 10000 in
theorem m_X9_mustBeName (l : Launch)   {M : Mem} {K : Mem → Prop} (h : f_X9_mustBeName M K) : CTv l yX9_mustBeName cX9_mustBeName 1 none rm_X9_mustBeName (fun ad => [.ref (ad 0)]) M K := by
  refine rw_entv (by decide +kernel) (fun ad => Nat.le_of_ble_eq_true rfl) (fun p e s m args below meth c D cy ad C => ?_)
  change rw_W p l e _ s m args below meth c D cy ad 1 0 0 _ 0 [(0, .ref (ad 0))] [] M
  unfold f_X9_mustBeName at h
  refine r_aload_n C 0 dX9_mustBeName_0 rfl rfl ?_
  refine gX9_171 C dX9_mustBeName_1 ?_
  refine r_iconst (v := (1 : Int32)) C dX9_mustBeName_4 rfl ?_
  refine r_icmp_ne C 44 dX9_mustBeName_5 (by decide) (fun hc => ?_) (fun hc => ?_)
  · replace h := h.1 hc
    refine r_aload_n C 0 dX9_mustBeName_44 rfl rfl ?_
    refine r_iconst (v := (2 : Int32)) C dX9_mustBeName_45 rfl ?_
    refine cX9_209 C (m_X9_fails l h) ⟨Nat.le_of_ble_eq_true rfl, Nat.le_of_ble_eq_true rfl⟩ (Nat.le_of_ble_eq_true rfl) ⟨Nat.le_refl 0, Nat.le_refl 0⟩ dX9_mustBeName_46 (fun M_2 h => ?_)
    exact r_vret C dX9_mustBeName_49 h
  · replace h := h.2 hc
    refine r_aload_n C 0 dX9_mustBeName_8 rfl rfl ?_
    refine kX9_202 C dX9_mustBeName_9 ?_
    refine cX9_203 C (m_X9_isWord l h) ⟨Nat.le_of_ble_eq_true rfl, Nat.le_of_ble_eq_true rfl⟩ (Nat.le_of_ble_eq_true rfl) ⟨Nat.le_refl 0, Nat.le_refl 0⟩ dX9_mustBeName_11 (fun r_2 M_3 h => ?_)
    refine r_if_ne C 44 dX9_mustBeName_14 (by decide) (fun hc => ?_) (fun hc => ?_)
    · replace h := h.1 hc
      refine r_aload_n C 0 dX9_mustBeName_44 rfl rfl ?_
      refine r_iconst (v := (2 : Int32)) C dX9_mustBeName_45 rfl ?_
      refine cX9_209 C (m_X9_fails l h) ⟨Nat.le_of_ble_eq_true rfl, Nat.le_of_ble_eq_true rfl⟩ (Nat.le_of_ble_eq_true rfl) ⟨Nat.le_refl 0, Nat.le_refl 0⟩ dX9_mustBeName_46 (fun M_4 h => ?_)
      exact r_vret C dX9_mustBeName_49 h
    · replace h := h.2 hc
      refine r_aload_n C 0 dX9_mustBeName_17 rfl rfl ?_
      refine kX9_206 C dX9_mustBeName_18 ?_
      refine cX9_203 C (m_X9_isWord l h) ⟨Nat.le_of_ble_eq_true rfl, Nat.le_of_ble_eq_true rfl⟩ (Nat.le_of_ble_eq_true rfl) ⟨Nat.le_refl 0, Nat.le_refl 0⟩ dX9_mustBeName_20 (fun r_4 M_5 h => ?_)
      refine r_if_ne C 44 dX9_mustBeName_23 (by decide) (fun hc => ?_) (fun hc => ?_)
      · replace h := h.1 hc
        refine r_aload_n C 0 dX9_mustBeName_44 rfl rfl ?_
        refine r_iconst (v := (2 : Int32)) C dX9_mustBeName_45 rfl ?_
        refine cX9_209 C (m_X9_fails l h) ⟨Nat.le_of_ble_eq_true rfl, Nat.le_of_ble_eq_true rfl⟩ (Nat.le_of_ble_eq_true rfl) ⟨Nat.le_refl 0, Nat.le_refl 0⟩ dX9_mustBeName_46 (fun M_6 h => ?_)
        exact r_vret C dX9_mustBeName_49 h
      · replace h := h.2 hc
        refine r_aload_n C 0 dX9_mustBeName_26 rfl rfl ?_
        refine kX9_207 C dX9_mustBeName_27 ?_
        refine cX9_203 C (m_X9_isWord l h) ⟨Nat.le_of_ble_eq_true rfl, Nat.le_of_ble_eq_true rfl⟩ (Nat.le_of_ble_eq_true rfl) ⟨Nat.le_refl 0, Nat.le_refl 0⟩ dX9_mustBeName_29 (fun r_6 M_7 h => ?_)
        refine r_if_ne C 44 dX9_mustBeName_32 (by decide) (fun hc => ?_) (fun hc => ?_)
        · replace h := h.1 hc
          refine r_aload_n C 0 dX9_mustBeName_44 rfl rfl ?_
          refine r_iconst (v := (2 : Int32)) C dX9_mustBeName_45 rfl ?_
          refine cX9_209 C (m_X9_fails l h) ⟨Nat.le_of_ble_eq_true rfl, Nat.le_of_ble_eq_true rfl⟩ (Nat.le_of_ble_eq_true rfl) ⟨Nat.le_refl 0, Nat.le_refl 0⟩ dX9_mustBeName_46 (fun M_8 h => ?_)
          exact r_vret C dX9_mustBeName_49 h
        · replace h := h.2 hc
          refine r_aload_n C 0 dX9_mustBeName_35 rfl rfl ?_
          refine kX9_208 C dX9_mustBeName_36 ?_
          refine cX9_203 C (m_X9_isWord l h) ⟨Nat.le_of_ble_eq_true rfl, Nat.le_of_ble_eq_true rfl⟩ (Nat.le_of_ble_eq_true rfl) ⟨Nat.le_refl 0, Nat.le_refl 0⟩ dX9_mustBeName_38 (fun r_8 M_9 h => ?_)
          refine r_if_eq C 49 dX9_mustBeName_41 (by decide) (fun hc => ?_) (fun hc => ?_)
          · replace h := h.1 hc
            exact r_vret C dX9_mustBeName_49 h
          · replace h := h.2 hc
            refine r_aload_n C 0 dX9_mustBeName_44 rfl rfl ?_
            refine r_iconst (v := (2 : Int32)) C dX9_mustBeName_45 rfl ?_
            refine cX9_209 C (m_X9_fails l h) ⟨Nat.le_of_ble_eq_true rfl, Nat.le_of_ble_eq_true rfl⟩ (Nat.le_of_ble_eq_true rfl) ⟨Nat.le_refl 0, Nat.le_refl 0⟩ dX9_mustBeName_46 (fun M_10 h => ?_)
            exact r_vret C dX9_mustBeName_49 h
def L_X9_placeCalled_2 (X31 : Mem → Prop) (K : Int32 → Mem → Prop) : Nat → Int32 → Mem → Prop
  | 0, _, _ => False
  | n + 1, v1, M => (((M.1 0 20) ≤ v1 → X31 M) ∧ (¬ (M.1 0 20) ≤ v1 → vp_in v1 10 ∧ ((¬ (gI M 6 v1) = (M.1 0 15) → L_X9_placeCalled_2 X31 K n (v1 + (1 : Int32)) M) ∧ ((gI M 6 v1) = (M.1 0 15) → K v1 M))))

set_option maxHeartbeats 1000000 in
set_option maxRecDepth 10000 in
theorem mL_X9_placeCalled_2 (C : rw_C p s m meth c cX9_placeCalled 2 RX9 (some .int) D cy ad) {X31 : Mem → Prop} {K : Int32 → Mem → Prop} (hX31 : ∀  (M : Mem), X31 M → rw_W p l e rm_X9_placeCalled s m args below meth c D cy ad 2 0 0 (rw_Qi below args s D cy ad K) 31 [] [] M) : ∀ (n : Nat) (v1 : Int32) (M : Mem), L_X9_placeCalled_2 X31 K n v1 M → rw_W p l e rm_X9_placeCalled s m args below meth c D cy ad 2 0 0 (rw_Qi below args s D cy ad K) 2 [(0, .ref (ad 0)), (1, .int v1)] [] M := by
  intro n
  induction n with
  | zero => intro v1 M h; exact h.elim
  | succ n ih =>
    intro v1 M h
    refine r_iload_n C 1 dX9_placeCalled_2 rfl rfl ?_
    refine r_aload_n C 0 dX9_placeCalled_3 rfl rfl ?_
    refine gX9_212 C dX9_placeCalled_4 ?_
    refine r_icmp_ge C 31 dX9_placeCalled_7 (by decide) (fun hc => ?_) (fun hc => ?_)
    · replace h := h.1 hc
      exact r_sub [] rfl (hX31 _ h)
    · replace h := h.2 hc
      refine r_aload_n C 0 dX9_placeCalled_10 rfl rfl ?_
      refine gX9_25 C dX9_placeCalled_11 ?_
      refine r_iload_n C 1 dX9_placeCalled_14 rfl rfl ?_
      obtain ⟨q, h⟩ := h
      refine r_iald C sh_6 q dX9_placeCalled_15 ?_
      refine r_aload_n C 0 dX9_placeCalled_16 rfl rfl ?_
      refine gX9_168 C dX9_placeCalled_17 ?_
      refine r_icmp_ne C 25 dX9_placeCalled_20 (by decide) (fun hc => ?_) (fun hc => ?_)
      · replace h := h.1 hc
        refine r_iinc C 1 (v := _) [(1, .int _), (0, .ref _)] dX9_placeCalled_25 rfl rfl (by decide) rfl ?_
        refine r_goto C 2 dX9_placeCalled_28 (by decide) ?_
        exact r_sub [1, 0] rfl (ih _ _ h)
      · replace h := h.2 hc
        refine r_iload_n C 1 dX9_placeCalled_23 rfl rfl ?_
        exact r_iret C dX9_placeCalled_24 h

def f_X9_placeCalled (M : Mem) (K : Int32 → Mem → Prop) : Prop := (∃ k2 : Nat, L_X9_placeCalled_2 (fun  (M_2 : Mem) => K (-1 : Int32) M_2) K k2 (0 : Int32) M)

set_option maxHeartbeats 1000000 in
set_option maxRecDepth 10000 in
theorem m_X9_placeCalled (l : Launch)   {M : Mem} {K : Int32 → Mem → Prop} (h : f_X9_placeCalled M K) : CTi l yX9_placeCalled cX9_placeCalled 2 (some .int) rm_X9_placeCalled (fun ad => [.ref (ad 0)]) M K := by
  refine rw_enti (by decide +kernel) (fun ad => Nat.le_of_ble_eq_true rfl) (fun p e s m args below meth c D cy ad C => ?_)
  change rw_W p l e _ s m args below meth c D cy ad 2 0 0 _ 0 [(0, .ref (ad 0))] [] M
  unfold f_X9_placeCalled at h
  refine r_iconst (v := (0 : Int32)) C dX9_placeCalled_0 rfl ?_
  refine r_istore_n C [(1, .int _), (0, .ref _)] dX9_placeCalled_1 rfl (by decide) rfl ?_
  obtain ⟨n2, h⟩ := h
  refine r_sub [1, 0] rfl (mL_X9_placeCalled_2 C (fun M_2 h => ?_) n2 _ _ h)
  refine r_iconst (v := (-1 : Int32)) C dX9_placeCalled_31 rfl ?_
  exact r_iret C dX9_placeCalled_32 h
set_option maxHeartbeats 1000000 in
set_option maxRecDepth 10000 in
theorem mD_X9_freshName_8 (C : rw_C p s m meth c cX9_freshName 3 RX9 (some .int) D cy ad) {Q : State → Prop} {st : List Value} {M : Mem} {o0 : Int32} (kk : rw_W p l e R s m args below meth c D cy ad 3 0 0 Q 16 [(0, .ref (ad 0))] (.int (if o0 < 0 then (0 : Int32) else (1 : Int32)) :: st) M) : rw_W p l e R s m args below meth c D cy ad 3 0 0 Q 8 [(0, .ref (ad 0))] (.int o0 :: st) M := by
  refine r_if_lt C 15 dX9_freshName_8 (by decide) (fun z0 => ?_) (fun z0 => ?_)
  · skip
    refine r_iconst (v := (0 : Int32)) C dX9_freshName_15 rfl ?_
    first | rw [if_pos z0] at kk | rw [if_neg (fun q9 => q9 z0)] at kk
    exact kk
  · skip
    refine r_iconst (v := (1 : Int32)) C dX9_freshName_11 rfl ?_
    refine r_goto C 16 dX9_freshName_12 (by decide) ?_
    first | rw [if_neg z0] at kk | rw [if_neg (fun q9 => q9 z0)] at kk
    exact kk

def L_X9_freshName_19 (X54 : Int32 → Mem → Prop) (K : Int32 → Mem → Prop) : Nat → Int32 → Int32 → Mem → Prop
  | 0, _, _, _ => False
  | n + 1, v1, v2, M => (((M.1 0 21) ≤ v2 → X54 v1 M) ∧ (¬ (M.1 0 21) ≤ v2 → vp_in v2 8 ∧ ((¬ (gI M 7 v2) = (M.1 0 15) → ∀ x1_2 : Int32, x1_2 = v1 ||| (0 : Int32) → L_X9_freshName_19 X54 K n x1_2 (v2 + (1 : Int32)) M) ∧ ((gI M 7 v2) = (M.1 0 15) → ∀ x1_3 : Int32, x1_3 = v1 ||| (1 : Int32) → L_X9_freshName_19 X54 K n x1_3 (v2 + (1 : Int32)) M))))

set_option maxHeartbeats 1000000 in
set_option maxRecDepth 10000 in
theorem mL_X9_freshName_19 (C : rw_C p s m meth c cX9_freshName 3 RX9 (some .int) D cy ad) {X54 : Int32 → Mem → Prop} {K : Int32 → Mem → Prop} (hX54 : ∀ (u1 : Int32) (M : Mem), X54 u1 M → rw_W p l e rm_X9_freshName s m args below meth c D cy ad 3 0 0 (rw_Qi below args s D cy ad K) 54 [(0, .ref (ad 0)), (1, .int u1)] [] M) : ∀ (n : Nat) (v1 : Int32) (v2 : Int32) (M : Mem), L_X9_freshName_19 X54 K n v1 v2 M → rw_W p l e rm_X9_freshName s m args below meth c D cy ad 3 0 0 (rw_Qi below args s D cy ad K) 19 [(0, .ref (ad 0)), (1, .int v1), (2, .int v2)] [] M := by
  intro n
  induction n with
  | zero => intro v1 v2 M h; exact h.elim
  | succ n ih =>
    intro v1 v2 M h
    refine r_iload_n C 2 dX9_freshName_19 rfl rfl ?_
    refine r_aload_n C 0 dX9_freshName_20 rfl rfl ?_
    refine gX9_222 C dX9_freshName_21 ?_
    refine r_icmp_ge C 54 dX9_freshName_24 (by decide) (fun hc => ?_) (fun hc => ?_)
    · replace h := h.1 hc
      exact r_sub [0, 1] rfl (hX54 _ _ h)
    · replace h := h.2 hc
      refine r_iload_n C 1 dX9_freshName_27 rfl rfl ?_
      refine r_aload_n C 0 dX9_freshName_28 rfl rfl ?_
      refine gX9_28 C dX9_freshName_29 ?_
      refine r_iload_n C 2 dX9_freshName_32 rfl rfl ?_
      obtain ⟨q, h⟩ := h
      refine r_iald C sh_7 q dX9_freshName_33 ?_
      refine r_aload_n C 0 dX9_freshName_34 rfl rfl ?_
      refine gX9_168 C dX9_freshName_35 ?_
      refine r_icmp_ne C 45 dX9_freshName_38 (by decide) (fun hc => ?_) (fun hc => ?_)
      · replace h := h.1 hc
        refine r_iconst (v := (0 : Int32)) C dX9_freshName_45 rfl ?_
        refine r_ior C dX9_freshName_46 ?_
        refine r_istore_n C [(1, .int _), (0, .ref _), (2, .int _)] dX9_freshName_47 rfl (by decide) rfl ?_
        replace h := h _ rfl
        refine r_iinc C 2 (v := _) [(2, .int _), (1, .int _), (0, .ref _)] dX9_freshName_48 rfl rfl (by decide) rfl ?_
        refine r_goto C 19 dX9_freshName_51 (by decide) ?_
        exact r_sub [2, 1, 0] rfl (ih _ _ _ h)
      · replace h := h.2 hc
        refine r_iconst (v := (1 : Int32)) C dX9_freshName_41 rfl ?_
        refine r_goto C 46 dX9_freshName_42 (by decide) ?_
        refine r_ior C dX9_freshName_46 ?_
        refine r_istore_n C [(1, .int _), (0, .ref _), (2, .int _)] dX9_freshName_47 rfl (by decide) rfl ?_
        replace h := h _ rfl
        refine r_iinc C 2 (v := _) [(2, .int _), (1, .int _), (0, .ref _)] dX9_freshName_48 rfl rfl (by decide) rfl ?_
        refine r_goto C 19 dX9_freshName_51 (by decide) ?_
        exact r_sub [2, 1, 0] rfl (ih _ _ _ h)

def S_X9_freshName_58 (v1 : Int32) (o0 : Int32) (X70 : Mem → Prop) (K : Int32 → Mem → Prop) (M : Mem) : Prop := (o0 = 0 → X70 M) ∧ (¬ o0 = 0 → ((v1 = 0 → X70 M) ∧ (¬ v1 = 0 → f_X9_fails (3 : Int32) M (fun (M_6 : Mem) => X70 M_6))))

set_option maxHeartbeats 1000000 in
set_option maxRecDepth 10000 in
theorem mS_X9_freshName_58 (C : rw_C p s m meth c cX9_freshName 3 RX9 (some .int) D cy ad) {v1 : Int32} {o0 : Int32} {X70 : Mem → Prop} {K : Int32 → Mem → Prop} {M : Mem} (hX70 : ∀  (M : Mem), X70 M → rw_W p l e rm_X9_freshName s m args below meth c D cy ad 3 0 0 (rw_Qi below args s D cy ad K) 70 [(0, .ref (ad 0))] [] M) (h : S_X9_freshName_58 v1 o0 X70 K M) : rw_W p l e rm_X9_freshName s m args below meth c D cy ad 3 0 0 (rw_Qi below args s D cy ad K) 58 [(0, .ref (ad 0)), (1, .int v1)] [.int o0] M := by
  refine r_if_eq C 70 dX9_freshName_58 (by decide) (fun hc => ?_) (fun hc => ?_)
  · replace h := h.1 hc
    exact r_sub [0] rfl (hX70 _ h)
  · replace h := h.2 hc
    refine r_iload_n C 1 dX9_freshName_61 rfl rfl ?_
    refine r_if_eq C 70 dX9_freshName_62 (by decide) (fun hc => ?_) (fun hc => ?_)
    · replace h := h.1 hc
      exact r_sub [0] rfl (hX70 _ h)
    · replace h := h.2 hc
      refine r_aload_n C 0 dX9_freshName_65 rfl rfl ?_
      refine r_iconst (v := (3 : Int32)) C dX9_freshName_66 rfl ?_
      refine cX9_209 C (m_X9_fails l h) ⟨Nat.le_of_ble_eq_true rfl, Nat.le_of_ble_eq_true rfl⟩ (Nat.le_of_ble_eq_true rfl) ⟨Nat.le_refl 0, Nat.le_refl 0⟩ dX9_freshName_67 (fun M_6 h => ?_)
      exact r_sub [0] rfl (hX70 _ h)

def f_X9_freshName (M : Mem) (K : Int32 → Mem → Prop) : Prop := f_X9_mustBeName  M (fun (M_2 : Mem) => f_X9_placeCalled  M_2 (fun (r_2 : Int32) (M_3 : Mem) => ∀ x1 : Int32, x1 = (if r_2 < 0 then (0 : Int32) else (1 : Int32)) → (∃ k19 : Nat, L_X9_freshName_19 (fun (v1_2 : Int32) (M_4 : Mem) => f_X9_isGood  M_4 (fun (r_3 : Int32) (M_5 : Mem) => (S_X9_freshName_58 v1_2 r_3 (fun  (M_7 : Mem) => ∀ x2 : Int32, x2 = M_7.1 0 15 → f_X9_goesOn  M_7 (fun (M_8 : Mem) => K x2 M_8)) K M_5))) K k19 x1 (0 : Int32) M_3)))

set_option maxHeartbeats 1000000 in
set_option maxRecDepth 10000 in
theorem m_X9_freshName (l : Launch)   {M : Mem} {K : Int32 → Mem → Prop} (h : f_X9_freshName M K) : CTi l yX9_freshName cX9_freshName 3 (some .int) rm_X9_freshName (fun ad => [.ref (ad 0)]) M K := by
  refine rw_enti (by decide +kernel) (fun ad => Nat.le_of_ble_eq_true rfl) (fun p e s m args below meth c D cy ad C => ?_)
  change rw_W p l e _ s m args below meth c D cy ad 3 0 0 _ 0 [(0, .ref (ad 0))] [] M
  unfold f_X9_freshName at h
  refine r_aload_n C 0 dX9_freshName_0 rfl rfl ?_
  refine cX9_215 C (m_X9_mustBeName l h) ⟨Nat.le_of_ble_eq_true rfl, Nat.le_of_ble_eq_true rfl⟩ (Nat.le_of_ble_eq_true rfl) ⟨Nat.le_refl 0, Nat.le_refl 0⟩ dX9_freshName_1 (fun M_2 h => ?_)
  refine r_aload_n C 0 dX9_freshName_4 rfl rfl ?_
  refine cX9_218 C (m_X9_placeCalled l h) ⟨Nat.le_of_ble_eq_true rfl, Nat.le_of_ble_eq_true rfl⟩ (Nat.le_of_ble_eq_true rfl) ⟨Nat.le_refl 0, Nat.le_refl 0⟩ dX9_freshName_5 (fun r_2 M_3 h => ?_)
  refine mD_X9_freshName_8 C ?_
  refine r_istore_n C [(1, .int _), (0, .ref _)] dX9_freshName_16 rfl (by decide) rfl ?_
  replace h := h _ rfl
  refine r_iconst (v := (0 : Int32)) C dX9_freshName_17 rfl ?_
  refine r_istore_n C [(2, .int _), (1, .int _), (0, .ref _)] dX9_freshName_18 rfl (by decide) rfl ?_
  obtain ⟨n19, h⟩ := h
  refine r_sub [2, 1, 0] rfl (mL_X9_freshName_19 C (fun v1_2 M_4 h => ?_) n19 _ _ _ h)
  refine r_aload_n C 0 dX9_freshName_54 rfl rfl ?_
  refine cX9_195 C (m_X9_isGood l h) ⟨Nat.le_of_ble_eq_true rfl, Nat.le_of_ble_eq_true rfl⟩ (Nat.le_of_ble_eq_true rfl) ⟨Nat.le_refl 0, Nat.le_refl 0⟩ dX9_freshName_55 (fun r_3 M_5 h => ?_)
  refine mS_X9_freshName_58 C (fun M_7 h => ?_) h
  refine r_aload_n C 0 dX9_freshName_70 rfl rfl ?_
  refine gX9_168 C dX9_freshName_71 ?_
  refine r_istore_n C [(2, .int _), (0, .ref _)] dX9_freshName_74 rfl (by decide) rfl ?_
  replace h := h _ rfl
  refine r_aload_n C 1 dX9_freshName_75 rfl rfl ?_
  refine cX9_225 C (m_X9_goesOn l h) ⟨Nat.le_of_ble_eq_true rfl, Nat.le_of_ble_eq_true rfl⟩ (Nat.le_of_ble_eq_true rfl) ⟨Nat.le_refl 0, Nat.le_refl 0⟩ dX9_freshName_76 (fun M_8 h => ?_)
  refine r_iload_n C 0 dX9_freshName_79 rfl rfl ?_
  exact r_iret C dX9_freshName_80 h
def S_X9_readPlace_42 (v1 : Int32) (o0 : Int32) (o1 : Int32) (X50 : Mem → Prop) (K : Mem → Prop) (M : Mem) : Prop := (o1 ≤ o0 → X50 M) ∧ (¬ o1 ≤ o0 → f_X9_fails (4 : Int32) M (fun (M_6 : Mem) => X50 M_6))

set_option maxHeartbeats 1000000 in
set_option maxRecDepth 10000 in
theorem mS_X9_readPlace_42 (C : rw_C p s m meth c cX9_readPlace 2 RX9 none D cy ad) {v1 : Int32} {o0 : Int32} {o1 : Int32} {X50 : Mem → Prop} {K : Mem → Prop} {M : Mem} (hX50 : ∀  (M : Mem), X50 M → rw_W p l e rm_X9_readPlace s m args below meth c D cy ad 2 0 0 (rw_Qv below args s D cy ad K) 50 [(0, .ref (ad 0)), (1, .int v1)] [] M) (h : S_X9_readPlace_42 v1 o0 o1 X50 K M) : rw_W p l e rm_X9_readPlace s m args below meth c D cy ad 2 0 0 (rw_Qv below args s D cy ad K) 42 [(0, .ref (ad 0)), (1, .int v1)] [.int o0, .int o1] M := by
  refine r_icmp_le C 50 dX9_readPlace_42 (by decide) (fun hc => ?_) (fun hc => ?_)
  · replace h := h.1 hc
    exact hX50 _ h
  · replace h := h.2 hc
    refine r_aload_n C 0 dX9_readPlace_45 rfl rfl ?_
    refine r_iconst (v := (4 : Int32)) C dX9_readPlace_46 rfl ?_
    refine cX9_209 C (m_X9_fails l h) ⟨Nat.le_of_ble_eq_true rfl, Nat.le_of_ble_eq_true rfl⟩ (Nat.le_of_ble_eq_true rfl) ⟨Nat.le_refl 0, Nat.le_refl 0⟩ dX9_readPlace_47 (fun M_6 h => ?_)
    exact hX50 _ h

def S_X9_readPlace_23 (v1 : Int32) (o0 : Int32) (X54 : Int32 → Mem → Prop) (K : Mem → Prop) (M : Mem) : Prop := (o0 = 0 → X54 v1 M) ∧ (¬ o0 = 0 → ((¬ (M.1 0 14) = (2 : Int32) → X54 v1 M) ∧ ((M.1 0 14) = (2 : Int32) → ∀ x1 : Int32, x1 = M.1 0 15 → (S_X9_readPlace_42 x1 (99 : Int32) x1 (fun  (M_7 : Mem) => f_X9_goesOn  M_7 (fun (M_8 : Mem) => X54 x1 M_8)) K M))))

set_option maxHeartbeats 1000000 in
set_option maxRecDepth 10000 in
theorem mS_X9_readPlace_23 (C : rw_C p s m meth c cX9_readPlace 2 RX9 none D cy ad) {v1 : Int32} {o0 : Int32} {X54 : Int32 → Mem → Prop} {K : Mem → Prop} {M : Mem} (hX54 : ∀ (u1 : Int32) (M : Mem), X54 u1 M → rw_W p l e rm_X9_readPlace s m args below meth c D cy ad 2 0 0 (rw_Qv below args s D cy ad K) 54 [(0, .ref (ad 0)), (1, .int u1)] [] M) (h : S_X9_readPlace_23 v1 o0 X54 K M) : rw_W p l e rm_X9_readPlace s m args below meth c D cy ad 2 0 0 (rw_Qv below args s D cy ad K) 23 [(0, .ref (ad 0)), (1, .int v1)] [.int o0] M := by
  refine r_if_eq C 54 dX9_readPlace_23 (by decide) (fun hc => ?_) (fun hc => ?_)
  · replace h := h.1 hc
    exact hX54 _ _ h
  · replace h := h.2 hc
    refine r_aload_n C 0 dX9_readPlace_26 rfl rfl ?_
    refine gX9_171 C dX9_readPlace_27 ?_
    refine r_iconst (v := (2 : Int32)) C dX9_readPlace_30 rfl ?_
    refine r_icmp_ne C 54 dX9_readPlace_31 (by decide) (fun hc => ?_) (fun hc => ?_)
    · replace h := h.1 hc
      exact hX54 _ _ h
    · replace h := h.2 hc
      refine r_aload_n C 0 dX9_readPlace_34 rfl rfl ?_
      refine gX9_168 C dX9_readPlace_35 ?_
      refine r_istore_n C [(1, .int _), (0, .ref _)] dX9_readPlace_38 rfl (by decide) rfl ?_
      replace h := h _ rfl
      refine r_iload_n C 0 dX9_readPlace_39 rfl rfl ?_
      refine r_bipush (v := (99 : Int32)) C dX9_readPlace_40 rfl ?_
      refine r_sub [1, 0] rfl (mS_X9_readPlace_42 C (fun M_7 h => ?_) h)
      refine r_aload_n C 0 dX9_readPlace_50 rfl rfl ?_
      refine cX9_225 C (m_X9_goesOn l h) ⟨Nat.le_of_ble_eq_true rfl, Nat.le_of_ble_eq_true rfl⟩ (Nat.le_of_ble_eq_true rfl) ⟨Nat.le_refl 0, Nat.le_refl 0⟩ dX9_readPlace_51 (fun M_8 h => ?_)
      exact hX54 _ _ h

def f_X9_readPlace (M : Mem) (K : Mem → Prop) : Prop := f_X9_next  M (fun (M_2 : Mem) => f_X9_freshName  M_2 (fun (r_2 : Int32) (M_3 : Mem) => vp_in (M_2.1 0 20) 10 ∧ ∀ M_4 : Mem, M_4 = wI M_3 6 (M_2.1 0 20).toNatClampNeg r_2 → f_X9_isGood  M_4 (fun (r_3 : Int32) (M_5 : Mem) => (S_X9_readPlace_23 (0 : Int32) r_3 (fun (v1_2 : Int32) (M_9 : Mem) => vp_in ((20 : Int32) + (M_9.1 0 20)) 30 ∧ ∀ M_10 : Mem, M_10 = wI M_9 3 ((20 : Int32) + (M_9.1 0 20)).toNatClampNeg v1_2 → ∀ M_11 : Mem, M_11 = wI M_10 0 20 ((M_10.1 0 20) + (1 : Int32)) → K M_11) K M_5))))

set_option maxHeartbeats 1000000 in
set_option maxRecDepth 10000 in
theorem m_X9_readPlace (l : Launch)   {M : Mem} {K : Mem → Prop} (h : f_X9_readPlace M K) : CTv l yX9_readPlace cX9_readPlace 2 none rm_X9_readPlace (fun ad => [.ref (ad 0)]) M K := by
  refine rw_entv (by decide +kernel) (fun ad => Nat.le_of_ble_eq_true rfl) (fun p e s m args below meth c D cy ad C => ?_)
  change rw_W p l e _ s m args below meth c D cy ad 2 0 0 _ 0 [(0, .ref (ad 0))] [] M
  unfold f_X9_readPlace at h
  refine r_aload_n C 0 dX9_readPlace_0 rfl rfl ?_
  refine cX9_199 C (m_X9_next l h) ⟨Nat.le_of_ble_eq_true rfl, Nat.le_of_ble_eq_true rfl⟩ (Nat.le_of_ble_eq_true rfl) ⟨Nat.le_refl 0, Nat.le_refl 0⟩ dX9_readPlace_1 (fun M_2 h => ?_)
  refine r_aload_n C 0 dX9_readPlace_4 rfl rfl ?_
  refine gX9_25 C dX9_readPlace_5 ?_
  refine r_aload_n C 0 dX9_readPlace_8 rfl rfl ?_
  refine gX9_212 C dX9_readPlace_9 ?_
  refine r_aload_n C 0 dX9_readPlace_12 rfl rfl ?_
  refine cX9_228 C (m_X9_freshName l h) ⟨Nat.le_of_ble_eq_true rfl, Nat.le_of_ble_eq_true rfl⟩ (Nat.le_of_ble_eq_true rfl) ⟨Nat.le_refl 0, Nat.le_refl 0⟩ dX9_readPlace_13 (fun r_2 M_3 h => ?_)
  obtain ⟨q, h⟩ := h
  refine r_iast C sh_6 q dX9_readPlace_16 ?_
  replace h := h _ rfl
  refine r_iconst (v := (0 : Int32)) C dX9_readPlace_17 rfl ?_
  refine r_istore_n C [(1, .int _), (0, .ref _)] dX9_readPlace_18 rfl (by decide) rfl ?_
  refine r_aload_n C 1 dX9_readPlace_19 rfl rfl ?_
  refine cX9_195 C (m_X9_isGood l h) ⟨Nat.le_of_ble_eq_true rfl, Nat.le_of_ble_eq_true rfl⟩ (Nat.le_of_ble_eq_true rfl) ⟨Nat.le_refl 0, Nat.le_refl 0⟩ dX9_readPlace_20 (fun r_3 M_5 h => ?_)
  refine r_sub [1, 0] rfl (mS_X9_readPlace_23 C (fun v1_2 M_9 h => ?_) h)
  refine r_aload_n C 0 dX9_readPlace_54 rfl rfl ?_
  refine gX9_16 C dX9_readPlace_55 ?_
  refine r_bipush (v := (20 : Int32)) C dX9_readPlace_58 rfl ?_
  refine r_aload_n C 0 dX9_readPlace_60 rfl rfl ?_
  refine gX9_212 C dX9_readPlace_61 ?_
  refine r_iadd C dX9_readPlace_64 ?_
  refine r_iload_n C 1 dX9_readPlace_65 rfl rfl ?_
  obtain ⟨q_2, h⟩ := h
  refine r_iast C sh_3 q_2 dX9_readPlace_66 ?_
  replace h := h _ rfl
  refine r_aload_n C 0 dX9_readPlace_67 rfl rfl ?_
  refine r_dup C dX9_readPlace_68 rfl ?_
  refine gX9_212 C dX9_readPlace_69 ?_
  refine r_iconst (v := (1 : Int32)) C dX9_readPlace_72 rfl ?_
  refine r_iadd C dX9_readPlace_73 ?_
  refine pX9_212 C dX9_readPlace_74 ?_
  replace h := h _ rfl
  exact r_vret C dX9_readPlace_77 h
end MG
