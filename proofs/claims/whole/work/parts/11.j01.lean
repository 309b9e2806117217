section MG
variable {p : Program} {l : Launch} {e : Env} {R : Room} {s : State} {m : MethodId} {args : Array Value} {below : List Frame} {meth : Method} {c : Code} {D : va_G} {cy : Nat → ClassId} {ad : Nat → Nat}
def L_J7_fill_53178_5 (v0 : Nat) (v1 : Int32) (v3 : Int32) (X20 : Mem → Prop) (K : Mem → Prop) : Nat → Int32 → Mem → Prop
  | 0, _, _ => False
  | n + 1, v2, M => ((v3 ≤ v2 → X20 M) ∧ (¬ v3 ≤ v2 → vp_in v2 (alen v0) ∧ ∀ M_2 : Mem, M_2 = wI M v0 v2.toNatClampNeg v1 → L_J7_fill_53178_5 v0 v1 v3 X20 K n (v2 + (1 : Int32)) M_2))

set_option maxHeartbeats 1000000 in
set_option maxRecDepth 10000 in
theorem mL_J7_fill_53178_5 (C : rw_C p s m meth c cJ7_fill_53178 4 RJ7 none D cy ad) {v0 : Nat} {v1 : Int32} {v3 : Int32} (h_v0 : isA v0 0 (alen v0)) {X20 : Mem → Prop} {K : Mem → Prop} (hX20 : ∀  (M : Mem), X20 M → rw_W p l e rm_J7_fill_53178 s m args below meth c D cy ad 4 0 0 (rw_Qv below args s D cy ad K) 20 [] [] M) : ∀ (n : Nat) (v2 : Int32) (M : Mem), L_J7_fill_53178_5 v0 v1 v3 X20 K n v2 M → rw_W p l e rm_J7_fill_53178 s m args below meth c D cy ad 4 0 0 (rw_Qv below args s D cy ad K) 5 [(0, .ref (ad v0)), (1, .int v1), (2, .int v2), (3, .int v3)] [] M := by
  intro n
  induction n with
  | zero => intro v2 M h; exact h.elim
  | succ n ih =>
    intro v2 M h
    refine r_iload_n C 2 dJ7_fill_53178_5 rfl rfl ?_
    refine r_iload_n C 3 dJ7_fill_53178_6 rfl rfl ?_
    refine r_icmp_ge C 20 dJ7_fill_53178_7 (by decide) (fun hc => ?_) (fun hc => ?_)
    · replace h := h.1 hc
      exact r_sub [] rfl (hX20 _ h)
    · replace h := h.2 hc
      refine r_aload_n C 0 dJ7_fill_53178_10 rfl rfl ?_
      refine r_iload_n C 2 dJ7_fill_53178_11 rfl rfl ?_
      refine r_iload_n C 1 dJ7_fill_53178_12 rfl rfl ?_
      obtain ⟨q, h⟩ := h
      refine r_iast C h_v0 q dJ7_fill_53178_13 ?_
      replace h := h _ rfl
      refine r_iinc C 2 (v := _) [(2, .int _), (0, .ref _), (1, .int _), (3, .int _)] dJ7_fill_53178_14 rfl rfl (by decide) rfl ?_
      refine r_goto C 5 dJ7_fill_53178_17 (by decide) ?_
      exact r_sub [1, 2, 0, 3] rfl (ih _ _ h)

def f_J7_fill_53178 (v0 : Nat) (v1 : Int32) (M : Mem) (K : Mem → Prop) : Prop := ∀ x3 : Int32, x3 = nI (alen v0) → (∃ k5 : Nat, L_J7_fill_53178_5 v0 v1 x3 (fun  (M_3 : Mem) => K M_3) K k5 (0 : Int32) M)

set_option maxHeartbeats 1000000 in
set_option maxRecDepth 10000 in
theorem m_J7_fill_53178 (l : Launch) {v0 : Nat} {v1 : Int32} (h_v0 : isI v0) {M : Mem} {K : Mem → Prop} (h : f_J7_fill_53178 v0 v1 M K) : CTv l yJ7_fill_53178 cJ7_fill_53178 4 none rm_J7_fill_53178 (fun ad => [.ref (ad v0), .int v1]) M K := by
  refine rw_entv (by decide +kernel) (fun ad => Nat.le_of_ble_eq_true rfl) (fun p e s m args below meth c D cy ad C => ?_)
  change rw_W p l e _ s m args below meth c D cy ad 4 0 0 _ 0 [(0, .ref (ad v0)), (1, .int v1)] [] M
  unfold f_J7_fill_53178 at h
  refine r_iconst (v := (0 : Int32)) C dJ7_fill_53178_0 rfl ?_
  refine r_istore_n C [(2, .int _), (0, .ref _), (1, .int _)] dJ7_fill_53178_1 rfl (by decide) rfl ?_
  refine r_aload_n C 1 dJ7_fill_53178_2 rfl rfl ?_
  refine r_alen C h_v0 (by decide) dJ7_fill_53178_3 ?_
  refine r_istore_n C [(3, .int _), (2, .int _), (0, .ref _), (1, .int _)] dJ7_fill_53178_4 rfl (by decide) rfl ?_
  replace h := h _ rfl
  obtain ⟨n5, h⟩ := h
  refine r_sub [2, 3, 1, 0] rfl (mL_J7_fill_53178_5 C h_v0 (fun M_3 h => ?_) n5 _ _ h)
  exact r_vret C dJ7_fill_53178_20 h
def f_J6_bitCount_0f7a4 (v0 : Int32) (M : Mem) (K : Int32 → Mem → Prop) : Prop := ∀ x0 : Int32, x0 = v0 - ((ushr v0 (1 : Int32)) &&& (1431655765 : Int32)) → ∀ x0_2 : Int32, x0_2 = (x0 &&& (858993459 : Int32)) + ((ushr x0 (2 : Int32)) &&& (858993459 : Int32)) → ∀ x0_3 : Int32, x0_3 = (x0_2 + (ushr x0_2 (4 : Int32))) &&& (252645135 : Int32) → ∀ x0_4 : Int32, x0_4 = x0_3 + (ushr x0_3 (8 : Int32)) → ∀ x0_5 : Int32, x0_5 = x0_4 + (ushr x0_4 (16 : Int32)) → K (x0_5 &&& (63 : Int32)) M

set_option maxHeartbeats 1000000 in
set_option maxRecDepth 10000 in
theorem m_J6_bitCount_0f7a4 (l : Launch) {v0 : Int32}  {M : Mem} {K : Int32 → Mem → Prop} (h : f_J6_bitCount_0f7a4 v0 M K) : CTi l yJ6_bitCount_0f7a4 cJ6_bitCount_0f7a4 1 (some .int) rm_J6_bitCount_0f7a4 (fun ad => [.int v0]) M K := by
  refine rw_enti (by decide +kernel) (fun ad => Nat.le_of_ble_eq_true rfl) (fun p e s m args below meth c D cy ad C => ?_)
  change rw_W p l e _ s m args below meth c D cy ad 1 0 0 _ 0 [(0, .int v0)] [] M
  unfold f_J6_bitCount_0f7a4 at h
  refine r_iload_n C 0 dJ6_bitCount_0f7a4_0 rfl rfl ?_
  refine r_iload_n C 0 dJ6_bitCount_0f7a4_1 rfl rfl ?_
  refine r_iconst (v := (1 : Int32)) C dJ6_bitCount_0f7a4_2 rfl ?_
  refine r_iushr C dJ6_bitCount_0f7a4_3 ?_
  refine kJ6_265 C dJ6_bitCount_0f7a4_4 ?_
  refine r_iand C dJ6_bitCount_0f7a4_7 ?_
  refine r_isub C dJ6_bitCount_0f7a4_8 ?_
  refine r_istore_n C [(0, .int _)] dJ6_bitCount_0f7a4_9 rfl (by decide) rfl ?_
  replace h := h _ rfl
  refine r_iload_n C 0 dJ6_bitCount_0f7a4_10 rfl rfl ?_
  refine kJ6_266 C dJ6_bitCount_0f7a4_11 ?_
  refine r_iand C dJ6_bitCount_0f7a4_14 ?_
  refine r_iload_n C 0 dJ6_bitCount_0f7a4_15 rfl rfl ?_
  refine r_iconst (v := (2 : Int32)) C dJ6_bitCount_0f7a4_16 rfl ?_
  refine r_iushr C dJ6_bitCount_0f7a4_17 ?_
  refine kJ6_266 C dJ6_bitCount_0f7a4_18 ?_
  refine r_iand C dJ6_bitCount_0f7a4_21 ?_
  refine r_iadd C dJ6_bitCount_0f7a4_22 ?_
  refine r_istore_n C [(0, .int _)] dJ6_bitCount_0f7a4_23 rfl (by decide) rfl ?_
  replace h := h _ rfl
  refine r_iload_n C 0 dJ6_bitCount_0f7a4_24 rfl rfl ?_
  refine r_iload_n C 0 dJ6_bitCount_0f7a4_25 rfl rfl ?_
  refine r_iconst (v := (4 : Int32)) C dJ6_bitCount_0f7a4_26 rfl ?_
  refine r_iushr C dJ6_bitCount_0f7a4_27 ?_
  refine r_iadd C dJ6_bitCount_0f7a4_28 ?_
  refine kJ6_267 C dJ6_bitCount_0f7a4_29 ?_
  refine r_iand C dJ6_bitCount_0f7a4_32 ?_
  refine r_istore_n C [(0, .int _)] dJ6_bitCount_0f7a4_33 rfl (by decide) rfl ?_
  replace h := h _ rfl
  refine r_iload_n C 0 dJ6_bitCount_0f7a4_34 rfl rfl ?_
  refine r_iload_n C 0 dJ6_bitCount_0f7a4_35 rfl rfl ?_
  refine r_bipush (v := (8 : Int32)) C dJ6_bitCount_0f7a4_36 rfl ?_
  refine r_iushr C dJ6_bitCount_0f7a4_38 ?_
  refine r_iadd C dJ6_bitCount_0f7a4_39 ?_
  refine r_istore_n C [(0, .int _)] dJ6_bitCount_0f7a4_40 rfl (by decide) rfl ?_
  replace h := h _ rfl
  refine r_iload_n C 0 dJ6_bitCount_0f7a4_41 rfl rfl ?_
  refine r_iload_n C 0 dJ6_bitCount_0f7a4_42 rfl rfl ?_
  refine r_bipush (v := (16 : Int32)) C dJ6_bitCount_0f7a4_43 rfl ?_
  refine r_iushr C dJ6_bitCount_0f7a4_45 ?_
  refine r_iadd C dJ6_bitCount_0f7a4_46 ?_
  refine r_istore_n C [(0, .int _)] dJ6_bitCount_0f7a4_47 rfl (by decide) rfl ?_
  replace h := h _ rfl
  refine r_iload_n C 0 dJ6_bitCount_0f7a4_48 rfl rfl ?_
  refine r_bipush (v := (63 : Int32)) C dJ6_bitCount_0f7a4_49 rfl ?_
  refine r_iand C dJ6_bitCount_0f7a4_51 ?_
  exact r_iret C dJ6_bitCount_0f7a4_52 h
def L_J7_fill_031fb_5 (v0 : Nat) (v1 : Int32) (v3 : Int32) (X20 : Mem → Prop) (K : Mem → Prop) : Nat → Int32 → Mem → Prop
  | 0, _, _ => False
  | n + 1, v2, M => ((v3 ≤ v2 → X20 M) ∧ (¬ v3 ≤ v2 → vp_in v2 (alen v0) ∧ ∀ M_2 : Mem, M_2 = wI M v0 v2.toNatClampNeg v1.toInt8.toInt32 → L_J7_fill_031fb_5 v0 v1 v3 X20 K n (v2 + (1 : Int32)) M_2))

set_option maxHeartbeats 1000000 in
set_option maxRecDepth 10000 in
theorem mL_J7_fill_031fb_5 (C : rw_C p s m meth c cJ7_fill_031fb 4 RJ7 none D cy ad) {v0 : Nat} {v1 : Int32} {v3 : Int32} (h_v0 : isA v0 2 (alen v0)) {X20 : Mem → Prop} {K : Mem → Prop} (hX20 : ∀  (M : Mem), X20 M → rw_W p l e rm_J7_fill_031fb s m args below meth c D cy ad 4 0 0 (rw_Qv below args s D cy ad K) 20 [] [] M) : ∀ (n : Nat) (v2 : Int32) (M : Mem), L_J7_fill_031fb_5 v0 v1 v3 X20 K n v2 M → rw_W p l e rm_J7_fill_031fb s m args below meth c D cy ad 4 0 0 (rw_Qv below args s D cy ad K) 5 [(0, .ref (ad v0)), (1, .int v1), (2, .int v2), (3, .int v3)] [] M := by
  intro n
  induction n with
  | zero => intro v2 M h; exact h.elim
  | succ n ih =>
    intro v2 M h
    refine r_iload_n C 2 dJ7_fill_031fb_5 rfl rfl ?_
    refine r_iload_n C 3 dJ7_fill_031fb_6 rfl rfl ?_
    refine r_icmp_ge C 20 dJ7_fill_031fb_7 (by decide) (fun hc => ?_) (fun hc => ?_)
    · replace h := h.1 hc
      exact r_sub [] rfl (hX20 _ h)
    · replace h := h.2 hc
      refine r_aload_n C 0 dJ7_fill_031fb_10 rfl rfl ?_
      refine r_iload_n C 2 dJ7_fill_031fb_11 rfl rfl ?_
      refine r_iload_n C 1 dJ7_fill_031fb_12 rfl rfl ?_
      obtain ⟨q, h⟩ := h
      refine r_bast C h_v0 q dJ7_fill_031fb_13 ?_
      replace h := h _ rfl
      refine r_iinc C 2 (v := _) [(2, .int _), (0, .ref _), (1, .int _), (3, .int _)] dJ7_fill_031fb_14 rfl rfl (by decide) rfl ?_
      refine r_goto C 5 dJ7_fill_031fb_17 (by decide) ?_
      exact r_sub [1, 2, 0, 3] rfl (ih _ _ h)

def f_J7_fill_031fb (v0 : Nat) (v1 : Int32) (M : Mem) (K : Mem → Prop) : Prop := ∀ x3 : Int32, x3 = nI (alen v0) → (∃ k5 : Nat, L_J7_fill_031fb_5 v0 v1 x3 (fun  (M_3 : Mem) => K M_3) K k5 (0 : Int32) M)

set_option maxHeartbeats 1000000 in
set_option maxRecDepth 10000 in
theorem m_J7_fill_031fb (l : Launch) {v0 : Nat} {v1 : Int32} (h_v0 : isB v0) {M : Mem} {K : Mem → Prop} (h : f_J7_fill_031fb v0 v1 M K) : CTv l yJ7_fill_031fb cJ7_fill_031fb 4 none rm_J7_fill_031fb (fun ad => [.ref (ad v0), .int v1]) M K := by
  refine rw_entv (by decide +kernel) (fun ad => Nat.le_of_ble_eq_true rfl) (fun p e s m args below meth c D cy ad C => ?_)
  change rw_W p l e _ s m args below meth c D cy ad 4 0 0 _ 0 [(0, .ref (ad v0)), (1, .int v1)] [] M
  unfold f_J7_fill_031fb at h
  refine r_iconst (v := (0 : Int32)) C dJ7_fill_031fb_0 rfl ?_
  refine r_istore_n C [(2, .int _), (0, .ref _), (1, .int _)] dJ7_fill_031fb_1 rfl (by decide) rfl ?_
  refine r_aload_n C 1 dJ7_fill_031fb_2 rfl rfl ?_
  refine r_alen C h_v0 (by decide) dJ7_fill_031fb_3 ?_
  refine r_istore_n C [(3, .int _), (2, .int _), (0, .ref _), (1, .int _)] dJ7_fill_031fb_4 rfl (by decide) rfl ?_
  replace h := h _ rfl
  obtain ⟨n5, h⟩ := h
  refine r_sub [2, 3, 1, 0] rfl (mL_J7_fill_031fb_5 C h_v0 (fun M_3 h => ?_) n5 _ _ h)
  exact r_vret C dJ7_fill_031fb_20 h
end MG
