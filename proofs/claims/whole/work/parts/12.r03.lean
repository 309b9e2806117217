section MG
variable {p : Program} {l : Launch} {e : Env} {R : Room} {s : State} {m : MethodId} {args : Array Value} {below : List Frame} {meth : Method} {c : Code} {D : va_G} {cy : Nat → ClassId} {ad : Nat → Nat}
def f_X9_arc (v1 : Int32) (v2 : Int32) (v3 : Int32) (M : Mem) (K : Int32 → Mem → Prop) : Prop := ∀ M_2 : Mem, M_2 = wI M 0 0 (0 : Int32) → f_X9_isStep v1 M_2 (fun (r : Int32) (M_3 : Mem) => ((r = 0 → K (-2147483648 : Int32) M_3) ∧ (¬ r = 0 → f_X9_isPlace v2 M_3 (fun (r_2 : Int32) (M_4 : Mem) => ((r_2 = 0 → K (-2147483648 : Int32) M_4) ∧ (¬ r_2 = 0 → f_X9_in v3 (0 : Int32) (2 : Int32) M_4 (fun (r_3 : Int32) (M_5 : Mem) => ((¬ r_3 = 0 → ((¬ v3 = 0 → ((¬ v3 = (1 : Int32) → f_X9_change (0 : Int32) v1 v2 M_5 (fun (r_4 : Int32) (M_6 : Mem) => K r_4 M_6)) ∧ (v3 = (1 : Int32) → f_X9_arcAt (0 : Int32) v1 v2 M_5 (fun (r_5 : Int32) (M_7 : Mem) => vp_in r_5 240 ∧ K (gI M_7 2 r_5) M_7)))) ∧ (v3 = 0 → f_X9_arcAt (0 : Int32) v1 v2 M_5 (fun (r_6 : Int32) (M_8 : Mem) => vp_in r_6 240 ∧ K (gI M_8 1 r_6) M_8)))) ∧ (r_3 = 0 → K (-2147483648 : Int32) M_5)))))))))

set_option maxHeartbeats 1000000 in
set_option maxRecDepth 10000 in
theorem m_X9_arc (l : Launch) {v1 : Int32} {v2 : Int32} {v3 : Int32}  {M : Mem} {K : Int32 → Mem → Prop} (h : f_X9_arc v1 v2 v3 M K) : CTi l yX9_arc cX9_arc 4 (some .int) rm_X9_arc (fun ad => [.ref (ad 0), .int v1, .int v2, .int v3]) M K := by
  refine rw_enti (by decide +kernel) (fun ad => Nat.le_of_ble_eq_true rfl) (fun p e s m args below meth c D cy ad C => ?_)
  change rw_W p l e _ s m args below meth c D cy ad 4 0 0 _ 0 [(0, .ref (ad 0)), (1, .int v1), (2, .int v2), (3, .int v3)] [] M
  unfold f_X9_arc at h
  refine r_aload_n C 0 dX9_arc_0 rfl rfl ?_
  refine r_iconst (v := (0 : Int32)) C dX9_arc_1 rfl ?_
  refine pX9_133 C dX9_arc_2 ?_
  replace h := h _ rfl
  refine r_aload_n C 0 dX9_arc_5 rfl rfl ?_
  refine r_iload_n C 1 dX9_arc_6 rfl rfl ?_
  refine cX9_272 C (m_X9_isStep l h) ⟨Nat.le_of_ble_eq_true rfl, Nat.le_of_ble_eq_true rfl⟩ (Nat.le_of_ble_eq_true rfl) ⟨Nat.le_refl 0, Nat.le_refl 0⟩ dX9_arc_7 (fun r M_3 h => ?_)
  refine r_if_eq C 30 dX9_arc_10 (by decide) (fun hc => ?_) (fun hc => ?_)
  · replace h := h.1 hc
    refine kX9_278 C dX9_arc_30 ?_
    exact r_iret C dX9_arc_33 h
  · replace h := h.2 hc
    refine r_aload_n C 0 dX9_arc_13 rfl rfl ?_
    refine r_iload_n C 2 dX9_arc_14 rfl rfl ?_
    refine cX9_275 C (m_X9_isPlace l h) ⟨Nat.le_of_ble_eq_true rfl, Nat.le_of_ble_eq_true rfl⟩ (Nat.le_of_ble_eq_true rfl) ⟨Nat.le_refl 0, Nat.le_refl 0⟩ dX9_arc_15 (fun r_2 M_4 h => ?_)
    refine r_if_eq C 30 dX9_arc_18 (by decide) (fun hc => ?_) (fun hc => ?_)
    · replace h := h.1 hc
      refine kX9_278 C dX9_arc_30 ?_
      exact r_iret C dX9_arc_33 h
    · replace h := h.2 hc
      refine r_iload_n C 3 dX9_arc_21 rfl rfl ?_
      refine r_iconst (v := (0 : Int32)) C dX9_arc_22 rfl ?_
      refine r_iconst (v := (2 : Int32)) C dX9_arc_23 rfl ?_
      refine cX9_136 C (m_X9_in l h) ⟨Nat.le_of_ble_eq_true rfl, Nat.le_of_ble_eq_true rfl⟩ (Nat.le_of_ble_eq_true rfl) ⟨Nat.le_refl 0, Nat.le_refl 0⟩ dX9_arc_24 (fun r_3 M_5 h => ?_)
      refine r_if_ne C 34 dX9_arc_27 (by decide) (fun hc => ?_) (fun hc => ?_)
      · replace h := h.1 hc
        refine r_iload_n C 3 dX9_arc_34 rfl rfl ?_
        refine r_if_ne C 53 dX9_arc_35 (by decide) (fun hc => ?_) (fun hc => ?_)
        · replace h := h.1 hc
          refine r_iload_n C 3 dX9_arc_53 rfl rfl ?_
          refine r_iconst (v := (1 : Int32)) C dX9_arc_54 rfl ?_
          refine r_icmp_ne C 73 dX9_arc_55 (by decide) (fun hc => ?_) (fun hc => ?_)
          · replace h := h.1 hc
            refine r_aload_n C 0 dX9_arc_73 rfl rfl ?_
            refine r_iconst (v := (0 : Int32)) C dX9_arc_74 rfl ?_
            refine r_iload_n C 1 dX9_arc_75 rfl rfl ?_
            refine r_iload_n C 2 dX9_arc_76 rfl rfl ?_
            refine cX9_279 C (m_X9_change l h) ⟨Nat.le_of_ble_eq_true rfl, Nat.le_of_ble_eq_true rfl⟩ (Nat.le_of_ble_eq_true rfl) ⟨Nat.le_refl 0, Nat.le_refl 0⟩ dX9_arc_77 (fun r_4 M_6 h => ?_)
            exact r_iret C dX9_arc_80 h
          · replace h := h.2 hc
            refine r_aload_n C 0 dX9_arc_58 rfl rfl ?_
            refine gX9_13 C dX9_arc_59 ?_
            refine r_aload_n C 0 dX9_arc_62 rfl rfl ?_
            refine r_iconst (v := (0 : Int32)) C dX9_arc_63 rfl ?_
            refine r_iload_n C 1 dX9_arc_64 rfl rfl ?_
            refine r_iload_n C 2 dX9_arc_65 rfl rfl ?_
            refine cX9_144 C (m_X9_arcAt l h) ⟨Nat.le_of_ble_eq_true rfl, Nat.le_of_ble_eq_true rfl⟩ (Nat.le_of_ble_eq_true rfl) ⟨Nat.le_refl 0, Nat.le_refl 0⟩ dX9_arc_66 (fun r_5 M_7 h => ?_)
            obtain ⟨q, h⟩ := h
            refine r_iald C sh_2 q dX9_arc_69 ?_
            refine r_goto C 80 dX9_arc_70 (by decide) ?_
            exact r_iret C dX9_arc_80 h
        · replace h := h.2 hc
          refine r_aload_n C 0 dX9_arc_38 rfl rfl ?_
          refine gX9_7 C dX9_arc_39 ?_
          refine r_aload_n C 0 dX9_arc_42 rfl rfl ?_
          refine r_iconst (v := (0 : Int32)) C dX9_arc_43 rfl ?_
          refine r_iload_n C 1 dX9_arc_44 rfl rfl ?_
          refine r_iload_n C 2 dX9_arc_45 rfl rfl ?_
          refine cX9_144 C (m_X9_arcAt l h) ⟨Nat.le_of_ble_eq_true rfl, Nat.le_of_ble_eq_true rfl⟩ (Nat.le_of_ble_eq_true rfl) ⟨Nat.le_refl 0, Nat.le_refl 0⟩ dX9_arc_46 (fun r_6 M_8 h => ?_)
          obtain ⟨q_2, h⟩ := h
          refine r_iald C sh_1 q_2 dX9_arc_49 ?_
          refine r_goto C 80 dX9_arc_50 (by decide) ?_
          exact r_iret C dX9_arc_80 h
      · replace h := h.2 hc
        refine kX9_278 C dX9_arc_30 ?_
        exact r_iret C dX9_arc_33 h
def f_X9_tokens (v1 : Int32) (M : Mem) (K : Int32 → Mem → Prop) : Prop := ∀ M_2 : Mem, M_2 = wI M 0 0 (0 : Int32) → f_X9_isPlace v1 M_2 (fun (r : Int32) (M_3 : Mem) => ((r = 0 → K (-1 : Int32) M_3) ∧ (¬ r = 0 → vp_in v1 30 ∧ K (gI M_3 3 v1) M_3)))

set_option maxHeartbeats 1000000 in
set_option maxRecDepth 10000 in
theorem m_X9_tokens (l : Launch) {v1 : Int32}  {M : Mem} {K : Int32 → Mem → Prop} (h : f_X9_tokens v1 M K) : CTi l yX9_tokens cX9_tokens 2 (some .int) rm_X9_tokens (fun ad => [.ref (ad 0), .int v1]) M K := by
  refine rw_enti (by decide +kernel) (fun ad => Nat.le_of_ble_eq_true rfl) (fun p e s m args below meth c D cy ad C => ?_)
  change rw_W p l e _ s m args below meth c D cy ad 2 0 0 _ 0 [(0, .ref (ad 0)), (1, .int v1)] [] M
  unfold f_X9_tokens at h
  refine r_aload_n C 0 dX9_tokens_0 rfl rfl ?_
  refine r_iconst (v := (0 : Int32)) C dX9_tokens_1 rfl ?_
  refine pX9_133 C dX9_tokens_2 ?_
  replace h := h _ rfl
  refine r_aload_n C 0 dX9_tokens_5 rfl rfl ?_
  refine r_iload_n C 1 dX9_tokens_6 rfl rfl ?_
  refine cX9_275 C (m_X9_isPlace l h) ⟨Nat.le_of_ble_eq_true rfl, Nat.le_of_ble_eq_true rfl⟩ (Nat.le_of_ble_eq_true rfl) ⟨Nat.le_refl 0, Nat.le_refl 0⟩ dX9_tokens_7 (fun r M_3 h => ?_)
  refine r_if_eq C 22 dX9_tokens_10 (by decide) (fun hc => ?_) (fun hc => ?_)
  · replace h := h.1 hc
    refine r_iconst (v := (-1 : Int32)) C dX9_tokens_22 rfl ?_
    exact r_iret C dX9_tokens_23 h
  · replace h := h.2 hc
    refine r_aload_n C 0 dX9_tokens_13 rfl rfl ?_
    refine gX9_16 C dX9_tokens_14 ?_
    refine r_iload_n C 1 dX9_tokens_17 rfl rfl ?_
    obtain ⟨q, h⟩ := h
    refine r_iald C sh_3 q dX9_tokens_18 ?_
    refine r_goto C 23 dX9_tokens_19 (by decide) ?_
    exact r_iret C dX9_tokens_23 h
def L_X9_isOne_5 (v1 : Int32) (v2 : Int32) (X54 : Int32 → Mem → Prop) (K : Int32 → Mem → Prop) : Nat → Int32 → Int32 → Mem → Prop
  | 0, _, _, _ => False
  | n + 1, v3, v4, M => (((10 : Int32) ≤ v4 → X54 v3 M) ∧ (¬ (10 : Int32) ≤ v4 → ((v2 = 0 → f_X9_arcAt (0 : Int32) v1 v4 M (fun (r : Int32) (M_2 : Mem) => vp_in r 240 ∧ ∀ x3 : Int32, x3 = v3 + (gI M_2 2 r) → L_X9_isOne_5 v1 v2 X54 K n x3 (v4 + (1 : Int32)) M_2)) ∧ (¬ v2 = 0 → f_X9_arcAt (0 : Int32) v1 v4 M (fun (r_2 : Int32) (M_3 : Mem) => vp_in r_2 240 ∧ ∀ x3_2 : Int32, x3_2 = v3 + (gI M_3 1 r_2) → L_X9_isOne_5 v1 v2 X54 K n x3_2 (v4 + (1 : Int32)) M_3)))))

set_option maxHeartbeats 1000000 in
set_option maxRecDepth 10000 in
theorem mL_X9_isOne_5 (C : rw_C p s m meth c cX9_isOne 5 RX9 (some .boolean) D cy ad) {v1 : Int32} {v2 : Int32} {X54 : Int32 → Mem → Prop} {K : Int32 → Mem → Prop} (hX54 : ∀ (u3 : Int32) (M : Mem), X54 u3 M → rw_W p l e rm_X9_isOne s m args below meth c D cy ad 5 0 0 (rw_Qi below args s D cy ad K) 54 [(3, .int u3)] [] M) : ∀ (n : Nat) (v3 : Int32) (v4 : Int32) (M : Mem), L_X9_isOne_5 v1 v2 X54 K n v3 v4 M → rw_W p l e rm_X9_isOne s m args below meth c D cy ad 5 0 0 (rw_Qi below args s D cy ad K) 5 [(0, .ref (ad 0)), (1, .int v1), (2, .int v2), (3, .int v3), (4, .int v4)] [] M := by
  intro n
  induction n with
  | zero => intro v3 v4 M h; exact h.elim
  | succ n ih =>
    intro v3 v4 M h
    refine r_iload C 4 dX9_isOne_5 rfl ?_
    refine r_bipush (v := (10 : Int32)) C dX9_isOne_7 rfl ?_
    refine r_icmp_ge C 54 dX9_isOne_9 (by decide) (fun hc => ?_) (fun hc => ?_)
    · replace h := h.1 hc
      exact r_sub [3] rfl (hX54 _ _ h)
    · replace h := h.2 hc
      refine r_iload_n C 3 dX9_isOne_12 rfl rfl ?_
      refine r_iload_n C 2 dX9_isOne_13 rfl rfl ?_
      refine r_if_eq C 33 dX9_isOne_14 (by decide) (fun hc => ?_) (fun hc => ?_)
      · replace h := h.1 hc
        refine r_aload_n C 0 dX9_isOne_33 rfl rfl ?_
        refine gX9_13 C dX9_isOne_34 ?_
        refine r_aload_n C 0 dX9_isOne_37 rfl rfl ?_
        refine r_iconst (v := (0 : Int32)) C dX9_isOne_38 rfl ?_
        refine r_iload_n C 1 dX9_isOne_39 rfl rfl ?_
        refine r_iload C 4 dX9_isOne_40 rfl ?_
        refine cX9_144 C (m_X9_arcAt l h) ⟨Nat.le_of_ble_eq_true rfl, Nat.le_of_ble_eq_true rfl⟩ (Nat.le_of_ble_eq_true rfl) ⟨Nat.le_refl 0, Nat.le_refl 0⟩ dX9_isOne_42 (fun r M_2 h => ?_)
        obtain ⟨q, h⟩ := h
        refine r_iald C sh_2 q dX9_isOne_45 ?_
        refine r_iadd C dX9_isOne_46 ?_
        refine r_istore_n C [(3, .int _), (0, .ref _), (1, .int _), (2, .int _), (4, .int _)] dX9_isOne_47 rfl (by decide) rfl ?_
        replace h := h _ rfl
        refine r_iinc C 4 (v := _) [(4, .int _), (3, .int _), (0, .ref _), (1, .int _), (2, .int _)] dX9_isOne_48 rfl rfl (by decide) rfl ?_
        refine r_goto C 5 dX9_isOne_51 (by decide) ?_
        exact r_sub [2, 3, 4, 1, 0] rfl (ih _ _ _ h)
      · replace h := h.2 hc
        refine r_aload_n C 0 dX9_isOne_17 rfl rfl ?_
        refine gX9_7 C dX9_isOne_18 ?_
        refine r_aload_n C 0 dX9_isOne_21 rfl rfl ?_
        refine r_iconst (v := (0 : Int32)) C dX9_isOne_22 rfl ?_
        refine r_iload_n C 1 dX9_isOne_23 rfl rfl ?_
        refine r_iload C 4 dX9_isOne_24 rfl ?_
        refine cX9_144 C (m_X9_arcAt l h) ⟨Nat.le_of_ble_eq_true rfl, Nat.le_of_ble_eq_true rfl⟩ (Nat.le_of_ble_eq_true rfl) ⟨Nat.le_refl 0, Nat.le_refl 0⟩ dX9_isOne_26 (fun r_2 M_3 h => ?_)
        obtain ⟨q_2, h⟩ := h
        refine r_iald C sh_1 q_2 dX9_isOne_29 ?_
        refine r_goto C 46 dX9_isOne_30 (by decide) ?_
        refine r_iadd C dX9_isOne_46 ?_
        refine r_istore_n C [(3, .int _), (0, .ref _), (1, .int _), (2, .int _), (4, .int _)] dX9_isOne_47 rfl (by decide) rfl ?_
        replace h := h _ rfl
        refine r_iinc C 4 (v := _) [(4, .int _), (3, .int _), (0, .ref _), (1, .int _), (2, .int _)] dX9_isOne_48 rfl rfl (by decide) rfl ?_
        refine r_goto C 5 dX9_isOne_51 (by decide) ?_
        exact r_sub [2, 3, 4, 1, 0] rfl (ih _ _ _ h)

def f_X9_isOne (v1 : Int32) (v2 : Int32) (M : Mem) (K : Int32 → Mem → Prop) : Prop := (∃ k5 : Nat, L_X9_isOne_5 v1 v2 (fun (v3_2 : Int32) (M_4 : Mem) => ((¬ v3_2 = (1 : Int32) → K (0 : Int32) M_4) ∧ (v3_2 = (1 : Int32) → K (1 : Int32) M_4))) K k5 (0 : Int32) (0 : Int32) M)

set_option maxHeartbeats 1000000 in
set_option maxRecDepth 10000 in
theorem m_X9_isOne (l : Launch) {v1 : Int32} {v2 : Int32}  {M : Mem} {K : Int32 → Mem → Prop} (h : f_X9_isOne v1 v2 M K) : CTi l yX9_isOne cX9_isOne 5 (some .boolean) rm_X9_isOne (fun ad => [.ref (ad 0), .int v1, .int v2]) M K := by
  refine rw_enti (by decide +kernel) (fun ad => Nat.le_of_ble_eq_true rfl) (fun p e s m args below meth c D cy ad C => ?_)
  change rw_W p l e _ s m args below meth c D cy ad 5 0 0 _ 0 [(0, .ref (ad 0)), (1, .int v1), (2, .int v2)] [] M
  unfold f_X9_isOne at h
  refine r_iconst (v := (0 : Int32)) C dX9_isOne_0 rfl ?_
  refine r_istore_n C [(3, .int _), (0, .ref _), (1, .int _), (2, .int _)] dX9_isOne_1 rfl (by decide) rfl ?_
  refine r_iconst (v := (0 : Int32)) C dX9_isOne_2 rfl ?_
  refine r_istore C [(4, .int _), (3, .int _), (0, .ref _), (1, .int _), (2, .int _)] dX9_isOne_3 (by decide) rfl ?_
  obtain ⟨n5, h⟩ := h
  refine r_sub [2, 3, 4, 1, 0] rfl (mL_X9_isOne_5 C (fun v3_2 M_4 h => ?_) n5 _ _ _ h)
  refine r_iload_n C 0 dX9_isOne_54 rfl rfl ?_
  refine r_iconst (v := (1 : Int32)) C dX9_isOne_55 rfl ?_
  refine r_icmp_ne C 63 dX9_isOne_56 (by decide) (fun hc => ?_) (fun hc => ?_)
  · replace h := h.1 hc
    refine r_iconst (v := (0 : Int32)) C dX9_isOne_63 rfl ?_
    exact r_zret C (by decide) dX9_isOne_64 h
  · replace h := h.2 hc
    refine r_iconst (v := (1 : Int32)) C dX9_isOne_59 rfl ?_
    refine r_goto C 64 dX9_isOne_60 (by decide) ?_
    exact r_zret C (by decide) dX9_isOne_64 h
def L_X9_isOneAt_5 (v1 : Int32) (v2 : Int32) (X54 : Int32 → Mem → Prop) (K : Int32 → Mem → Prop) : Nat → Int32 → Int32 → Mem → Prop
  | 0, _, _, _ => False
  | n + 1, v3, v4, M => (((8 : Int32) ≤ v4 → X54 v3 M) ∧ (¬ (8 : Int32) ≤ v4 → ((v2 = 0 → f_X9_arcAt (0 : Int32) v4 v1 M (fun (r : Int32) (M_2 : Mem) => vp_in r 240 ∧ ∀ x3 : Int32, x3 = v3 + (gI M_2 2 r) → L_X9_isOneAt_5 v1 v2 X54 K n x3 (v4 + (1 : Int32)) M_2)) ∧ (¬ v2 = 0 → f_X9_arcAt (0 : Int32) v4 v1 M (fun (r_2 : Int32) (M_3 : Mem) => vp_in r_2 240 ∧ ∀ x3_2 : Int32, x3_2 = v3 + (gI M_3 1 r_2) → L_X9_isOneAt_5 v1 v2 X54 K n x3_2 (v4 + (1 : Int32)) M_3)))))

set_option maxHeartbeats 1000000 in
set_option maxRecDepth 10000 in
theorem mL_X9_isOneAt_5 (C : rw_C p s m meth c cX9_isOneAt 5 RX9 (some .boolean) D cy ad) {v1 : Int32} {v2 : Int32} {X54 : Int32 → Mem → Prop} {K : Int32 → Mem → Prop} (hX54 : ∀ (u3 : Int32) (M : Mem), X54 u3 M → rw_W p l e rm_X9_isOneAt s m args below meth c D cy ad 5 0 0 (rw_Qi below args s D cy ad K) 54 [(3, .int u3)] [] M) : ∀ (n : Nat) (v3 : Int32) (v4 : Int32) (M : Mem), L_X9_isOneAt_5 v1 v2 X54 K n v3 v4 M → rw_W p l e rm_X9_isOneAt s m args below meth c D cy ad 5 0 0 (rw_Qi below args s D cy ad K) 5 [(0, .ref (ad 0)), (1, .int v1), (2, .int v2), (3, .int v3), (4, .int v4)] [] M := by
  intro n
  induction n with
  | zero => intro v3 v4 M h; exact h.elim
  | succ n ih =>
    intro v3 v4 M h
    refine r_iload C 4 dX9_isOneAt_5 rfl ?_
    refine r_bipush (v := (8 : Int32)) C dX9_isOneAt_7 rfl ?_
    refine r_icmp_ge C 54 dX9_isOneAt_9 (by decide) (fun hc => ?_) (fun hc => ?_)
    · replace h := h.1 hc
      exact r_sub [3] rfl (hX54 _ _ h)
    · replace h := h.2 hc
      refine r_iload_n C 3 dX9_isOneAt_12 rfl rfl ?_
      refine r_iload_n C 2 dX9_isOneAt_13 rfl rfl ?_
      refine r_if_eq C 33 dX9_isOneAt_14 (by decide) (fun hc => ?_) (fun hc => ?_)
      · replace h := h.1 hc
        refine r_aload_n C 0 dX9_isOneAt_33 rfl rfl ?_
        refine gX9_13 C dX9_isOneAt_34 ?_
        refine r_aload_n C 0 dX9_isOneAt_37 rfl rfl ?_
        refine r_iconst (v := (0 : Int32)) C dX9_isOneAt_38 rfl ?_
        refine r_iload C 4 dX9_isOneAt_39 rfl ?_
        refine r_iload_n C 1 dX9_isOneAt_41 rfl rfl ?_
        refine cX9_144 C (m_X9_arcAt l h) ⟨Nat.le_of_ble_eq_true rfl, Nat.le_of_ble_eq_true rfl⟩ (Nat.le_of_ble_eq_true rfl) ⟨Nat.le_refl 0, Nat.le_refl 0⟩ dX9_isOneAt_42 (fun r M_2 h => ?_)
        obtain ⟨q, h⟩ := h
        refine r_iald C sh_2 q dX9_isOneAt_45 ?_
        refine r_iadd C dX9_isOneAt_46 ?_
        refine r_istore_n C [(3, .int _), (0, .ref _), (1, .int _), (2, .int _), (4, .int _)] dX9_isOneAt_47 rfl (by decide) rfl ?_
        replace h := h _ rfl
        refine r_iinc C 4 (v := _) [(4, .int _), (3, .int _), (0, .ref _), (1, .int _), (2, .int _)] dX9_isOneAt_48 rfl rfl (by decide) rfl ?_
        refine r_goto C 5 dX9_isOneAt_51 (by decide) ?_
        exact r_sub [2, 3, 4, 1, 0] rfl (ih _ _ _ h)
      · replace h := h.2 hc
        refine r_aload_n C 0 dX9_isOneAt_17 rfl rfl ?_
        refine gX9_7 C dX9_isOneAt_18 ?_
        refine r_aload_n C 0 dX9_isOneAt_21 rfl rfl ?_
        refine r_iconst (v := (0 : Int32)) C dX9_isOneAt_22 rfl ?_
        refine r_iload C 4 dX9_isOneAt_23 rfl ?_
        refine r_iload_n C 1 dX9_isOneAt_25 rfl rfl ?_
        refine cX9_144 C (m_X9_arcAt l h) ⟨Nat.le_of_ble_eq_true rfl, Nat.le_of_ble_eq_true rfl⟩ (Nat.le_of_ble_eq_true rfl) ⟨Nat.le_refl 0, Nat.le_refl 0⟩ dX9_isOneAt_26 (fun r_2 M_3 h => ?_)
        obtain ⟨q_2, h⟩ := h
        refine r_iald C sh_1 q_2 dX9_isOneAt_29 ?_
        refine r_goto C 46 dX9_isOneAt_30 (by decide) ?_
        refine r_iadd C dX9_isOneAt_46 ?_
        refine r_istore_n C [(3, .int _), (0, .ref _), (1, .int _), (2, .int _), (4, .int _)] dX9_isOneAt_47 rfl (by decide) rfl ?_
        replace h := h _ rfl
        refine r_iinc C 4 (v := _) [(4, .int _), (3, .int _), (0, .ref _), (1, .int _), (2, .int _)] dX9_isOneAt_48 rfl rfl (by decide) rfl ?_
        refine r_goto C 5 dX9_isOneAt_51 (by decide) ?_
        exact r_sub [2, 3, 4, 1, 0] rfl (ih _ _ _ h)

def f_X9_isOneAt (v1 : Int32) (v2 : Int32) (M : Mem) (K : Int32 → Mem → Prop) : Prop := (∃ k5 : Nat, L_X9_isOneAt_5 v1 v2 (fun (v3_2 : Int32) (M_4 : Mem) => ((¬ v3_2 = (1 : Int32) → K (0 : Int32) M_4) ∧ (v3_2 = (1 : Int32) → K (1 : Int32) M_4))) K k5 (0 : Int32) (0 : Int32) M)

set_option maxHeartbeats 1000000 in
set_option maxRecDepth 10000 in
theorem m_X9_isOneAt (l : Launch) {v1 : Int32} {v2 : Int32}  {M : Mem} {K : Int32 → Mem → Prop} (h : f_X9_isOneAt v1 v2 M K) : CTi l yX9_isOneAt cX9_isOneAt 5 (some .boolean) rm_X9_isOneAt (fun ad => [.ref (ad 0), .int v1, .int v2]) M K := by
  refine rw_enti (by decide +kernel) (fun ad => Nat.le_of_ble_eq_true rfl) (fun p e s m args below meth c D cy ad C => ?_)
  change rw_W p l e _ s m args below meth c D cy ad 5 0 0 _ 0 [(0, .ref (ad 0)), (1, .int v1), (2, .int v2)] [] M
  unfold f_X9_isOneAt at h
  refine r_iconst (v := (0 : Int32)) C dX9_isOneAt_0 rfl ?_
  refine r_istore_n C [(3, .int _), (0, .ref _), (1, .int _), (2, .int _)] dX9_isOneAt_1 rfl (by decide) rfl ?_
  refine r_iconst (v := (0 : Int32)) C dX9_isOneAt_2 rfl ?_
  refine r_istore C [(4, .int _), (3, .int _), (0, .ref _), (1, .int _), (2, .int _)] dX9_isOneAt_3 (by decide) rfl ?_
  obtain ⟨n5, h⟩ := h
  refine r_sub [2, 3, 4, 1, 0] rfl (mL_X9_isOneAt_5 C (fun v3_2 M_4 h => ?_) n5 _ _ _ h)
  refine r_iload_n C 0 dX9_isOneAt_54 rfl rfl ?_
  refine r_iconst (v := (1 : Int32)) C dX9_isOneAt_55 rfl ?_
  refine r_icmp_ne C 63 dX9_isOneAt_56 (by decide) (fun hc => ?_) (fun hc => ?_)
  · replace h := h.1 hc
    refine r_iconst (v := (0 : Int32)) C dX9_isOneAt_63 rfl ?_
    exact r_zret C (by decide) dX9_isOneAt_64 h
  · replace h := h.2 hc
    refine r_iconst (v := (1 : Int32)) C dX9_isOneAt_59 rfl ?_
    refine r_goto C 64 dX9_isOneAt_60 (by decide) ?_
    exact r_zret C (by decide) dX9_isOneAt_64 h
set_option maxHeartbeats 1000000 in
set_option maxRecDepth 10000 in
theorem mD_X9_isFair_48 (C : rw_C p s m meth c cX9_isFair 8 RX9 (some .boolean) D cy ad) {Q : State → Prop} {st : List Value} {M : Mem} {v7 : Int32} {v6 : Int32} {v1 : Int32} {v2 : Int32} {v3 : Int32} {v4 : Int32} {v5 : Int32} {o0 : Int32} (kk : rw_W p l e R s m args below meth c D cy ad 8 0 0 Q 61 [(7, .int v7), (6, .int v6), (0, .ref (ad 0)), (1, .int v1), (2, .int v2), (3, .int v3), (4, .int v4), (5, .int v5)] (.int (if o0 ≤ 0 then (0 : Int32) else (if v7 ≤ 0 then (0 : Int32) else (1 : Int32))) :: st) M) : rw_W p l e R s m args below meth c D cy ad 8 0 0 Q 48 [(7, .int v7), (6, .int v6), (0, .ref (ad 0)), (1, .int v1), (2, .int v2), (3, .int v3), (4, .int v4), (5, .int v5)] (.int o0 :: st) M := by
  refine r_if_le C 60 dX9_isFair_48 (by decide) (fun z0 => ?_) (fun z0 => ?_)
  · skip
    refine r_iconst (v := (0 : Int32)) C dX9_isFair_60 rfl ?_
    first | rw [if_pos z0] at kk | rw [if_neg (fun q9 => q9 z0)] at kk
    exact kk
  · skip
    refine r_iload C 0 dX9_isFair_51 rfl ?_
    refine r_if_le C 60 dX9_isFair_53 (by decide) (fun z1 => ?_) (fun z1 => ?_)
    · skip
      refine r_iconst (v := (0 : Int32)) C dX9_isFair_60 rfl ?_
      first | rw [if_neg z0] at kk | rw [if_neg (fun q9 => q9 z0)] at kk
      first | rw [if_pos z1] at kk | rw [if_neg (fun q9 => q9 z1)] at kk
      exact kk
    · skip
      refine r_iconst (v := (1 : Int32)) C dX9_isFair_56 rfl ?_
      refine r_goto C 61 dX9_isFair_57 (by decide) ?_
      first | rw [if_neg z0] at kk | rw [if_neg (fun q9 => q9 z0)] at kk
      first | rw [if_neg z1] at kk | rw [if_neg (fun q9 => q9 z1)] at kk
      exact kk

def L_X9_isFair_8 (v1 : Int32) (v2 : Int32) (X86 : Int32 → Int32 → Mem → Prop) (K : Int32 → Mem → Prop) : Nat → Int32 → Int32 → Int32 → Mem → Prop
  | 0, _, _, _, _ => False
  | n + 1, v3, v4, v5, M => (((10 : Int32) ≤ v5 → X86 v3 v4 M) ∧ (¬ (10 : Int32) ≤ v5 → f_X9_arcAt (0 : Int32) v1 v5 M (fun (r : Int32) (M_2 : Mem) => vp_in r 240 ∧ ∀ x6 : Int32, x6 = gI M_2 1 r → f_X9_arcAt (0 : Int32) v2 v5 M_2 (fun (r_2 : Int32) (M_3 : Mem) => vp_in r_2 240 ∧ ∀ x7 : Int32, x7 = gI M_3 1 r_2 → ∀ x3 : Int32, x3 = v3 ||| (if x6 ≤ 0 then (0 : Int32) else (if x7 ≤ 0 then (0 : Int32) else (1 : Int32))) → ((¬ x6 = x7 → ∀ x4 : Int32, x4 = v4 &&& (0 : Int32) → L_X9_isFair_8 v1 v2 X86 K n x3 x4 (v5 + (1 : Int32)) M_3) ∧ (x6 = x7 → ∀ x4_2 : Int32, x4_2 = v4 &&& (1 : Int32) → L_X9_isFair_8 v1 v2 X86 K n x3 x4_2 (v5 + (1 : Int32)) M_3))))))

set_option maxHeartbeats 1000000 in
set_option maxRecDepth 10000 in
theorem mL_X9_isFair_8 (C : rw_C p s m meth c cX9_isFair 8 RX9 (some .boolean) D cy ad) {v1 : Int32} {v2 : Int32} {X86 : Int32 → Int32 → Mem → Prop} {K : Int32 → Mem → Prop} (hX86 : ∀ (u3 : Int32) (u4 : Int32) (M : Mem), X86 u3 u4 M → rw_W p l e rm_X9_isFair s m args below meth c D cy ad 8 0 0 (rw_Qi below args s D cy ad K) 86 [(3, .int u3), (4, .int u4)] [] M) : ∀ (n : Nat) (v3 : Int32) (v4 : Int32) (v5 : Int32) (M : Mem), L_X9_isFair_8 v1 v2 X86 K n v3 v4 v5 M → rw_W p l e rm_X9_isFair s m args below meth c D cy ad 8 0 0 (rw_Qi below args s D cy ad K) 8 [(0, .ref (ad 0)), (1, .int v1), (2, .int v2), (3, .int v3), (4, .int v4), (5, .int v5)] [] M := by
  intro n
  induction n with
  | zero => intro v3 v4 v5 M h; exact h.elim
  | succ n ih =>
    intro v3 v4 v5 M h
    refine r_iload C 5 dX9_isFair_8 rfl ?_
    refine r_bipush (v := (10 : Int32)) C dX9_isFair_10 rfl ?_
    refine r_icmp_ge C 86 dX9_isFair_12 (by decide) (fun hc => ?_) (fun hc => ?_)
    · replace h := h.1 hc
      exact r_sub [3, 4] rfl (hX86 _ _ _ h)
    · replace h := h.2 hc
      refine r_aload_n C 0 dX9_isFair_15 rfl rfl ?_
      refine gX9_7 C dX9_isFair_16 ?_
      refine r_aload_n C 0 dX9_isFair_19 rfl rfl ?_
      refine r_iconst (v := (0 : Int32)) C dX9_isFair_20 rfl ?_
      refine r_iload_n C 1 dX9_isFair_21 rfl rfl ?_
      refine r_iload C 5 dX9_isFair_22 rfl ?_
      refine cX9_144 C (m_X9_arcAt l h) ⟨Nat.le_of_ble_eq_true rfl, Nat.le_of_ble_eq_true rfl⟩ (Nat.le_of_ble_eq_true rfl) ⟨Nat.le_refl 0, Nat.le_refl 0⟩ dX9_isFair_24 (fun r M_2 h => ?_)
      obtain ⟨q, h⟩ := h
      refine r_iald C sh_1 q dX9_isFair_27 ?_
      refine r_istore C [(6, .int _), (0, .ref _), (1, .int _), (2, .int _), (3, .int _), (4, .int _), (5, .int _)] dX9_isFair_28 (by decide) rfl ?_
      replace h := h _ rfl
      refine r_aload_n C 1 dX9_isFair_30 rfl rfl ?_
      refine gX9_7 C dX9_isFair_31 ?_
      refine r_aload_n C 1 dX9_isFair_34 rfl rfl ?_
      refine r_iconst (v := (0 : Int32)) C dX9_isFair_35 rfl ?_
      refine r_iload_n C 3 dX9_isFair_36 rfl rfl ?_
      refine r_iload C 6 dX9_isFair_37 rfl ?_
      refine cX9_144 C (m_X9_arcAt l h) ⟨Nat.le_of_ble_eq_true rfl, Nat.le_of_ble_eq_true rfl⟩ (Nat.le_of_ble_eq_true rfl) ⟨Nat.le_refl 0, Nat.le_refl 0⟩ dX9_isFair_39 (fun r_2 M_3 h => ?_)
      obtain ⟨q_2, h⟩ := h
      refine r_iald C sh_1 q_2 dX9_isFair_42 ?_
      refine r_istore C [(7, .int _), (6, .int _), (0, .ref _), (1, .int _), (2, .int _), (3, .int _), (4, .int _), (5, .int _)] dX9_isFair_43 (by decide) rfl ?_
      replace h := h _ rfl
      refine r_iload_n C 5 dX9_isFair_45 rfl rfl ?_
      refine r_iload C 1 dX9_isFair_46 rfl ?_
      refine mD_X9_isFair_48 C ?_
      refine r_ior C dX9_isFair_61 ?_
      refine r_istore_n C [(3, .int _), (7, .int _), (6, .int _), (0, .ref _), (1, .int _), (2, .int _), (4, .int _), (5, .int _)] dX9_isFair_62 rfl (by decide) rfl ?_
      replace h := h _ rfl
      refine r_iload C 6 dX9_isFair_63 rfl ?_
      refine r_iload C 2 dX9_isFair_65 rfl ?_
      refine r_iload C 1 dX9_isFair_67 rfl ?_
      refine r_icmp_ne C 76 dX9_isFair_69 (by decide) (fun hc => ?_) (fun hc => ?_)
      · replace h := h.1 hc
        refine r_iconst (v := (0 : Int32)) C dX9_isFair_76 rfl ?_
        refine r_iand C dX9_isFair_77 ?_
        refine r_istore C [(4, .int _), (3, .int _), (7, .int _), (6, .int _), (0, .ref _), (1, .int _), (2, .int _), (5, .int _)] dX9_isFair_78 (by decide) rfl ?_
        replace h := h _ rfl
        refine r_iinc C 7 (v := _) [(5, .int _), (4, .int _), (3, .int _), (7, .int _), (6, .int _), (0, .ref _), (1, .int _), (2, .int _)] dX9_isFair_80 rfl rfl (by decide) rfl ?_
        refine r_goto C 8 dX9_isFair_83 (by decide) ?_
        exact r_sub [5, 6, 7, 2, 1, 0] rfl (ih _ _ _ _ h)
      · replace h := h.2 hc
        refine r_iconst (v := (1 : Int32)) C dX9_isFair_72 rfl ?_
        refine r_goto C 77 dX9_isFair_73 (by decide) ?_
        refine r_iand C dX9_isFair_77 ?_
        refine r_istore C [(4, .int _), (3, .int _), (7, .int _), (6, .int _), (0, .ref _), (1, .int _), (2, .int _), (5, .int _)] dX9_isFair_78 (by decide) rfl ?_
        replace h := h _ rfl
        refine r_iinc C 7 (v := _) [(5, .int _), (4, .int _), (3, .int _), (7, .int _), (6, .int _), (0, .ref _), (1, .int _), (2, .int _)] dX9_isFair_80 rfl rfl (by decide) rfl ?_
        refine r_goto C 8 dX9_isFair_83 (by decide) ?_
        exact r_sub [5, 6, 7, 2, 1, 0] rfl (ih _ _ _ _ h)

def f_X9_isFair (v1 : Int32) (v2 : Int32) (M : Mem) (K : Int32 → Mem → Prop) : Prop := (∃ k8 : Nat, L_X9_isFair_8 v1 v2 (fun (v3_2 : Int32) (v4_2 : Int32) (M_4 : Mem) => ((v3_2 = 0 → K (1 : Int32) M_4) ∧ (¬ v3_2 = 0 → ((v4_2 = 0 → K (0 : Int32) M_4) ∧ (¬ v4_2 = 0 → K (1 : Int32) M_4))))) K k8 (0 : Int32) (1 : Int32) (0 : Int32) M)

set_option maxHeartbeats 1000000 in
set_option maxRecDepth 10000 in
theorem m_X9_isFair (l : Launch) {v1 : Int32} {v2 : Int32}  {M : Mem} {K : Int32 → Mem → Prop} (h : f_X9_isFair v1 v2 M K) : CTi l yX9_isFair cX9_isFair 8 (some .boolean) rm_X9_isFair (fun ad => [.ref (ad 0), .int v1, .int v2]) M K := by
  refine rw_enti (by decide +kernel) (fun ad => Nat.le_of_ble_eq_true rfl) (fun p e s m args below meth c D cy ad C => ?_)
  change rw_W p l e _ s m args below meth c D cy ad 8 0 0 _ 0 [(0, .ref (ad 0)), (1, .int v1), (2, .int v2)] [] M
  unfold f_X9_isFair at h
  refine r_iconst (v := (0 : Int32)) C dX9_isFair_0 rfl ?_
  refine r_istore_n C [(3, .int _), (0, .ref _), (1, .int _), (2, .int _)] dX9_isFair_1 rfl (by decide) rfl ?_
  refine r_iconst (v := (1 : Int32)) C dX9_isFair_2 rfl ?_
  refine r_istore C [(4, .int _), (3, .int _), (0, .ref _), (1, .int _), (2, .int _)] dX9_isFair_3 (by decide) rfl ?_
  refine r_iconst (v := (0 : Int32)) C dX9_isFair_5 rfl ?_
  refine r_istore C [(5, .int _), (4, .int _), (3, .int _), (0, .ref _), (1, .int _), (2, .int _)] dX9_isFair_6 (by decide) rfl ?_
  obtain ⟨n8, h⟩ := h
  refine r_sub [3, 4, 5, 2, 1, 0] rfl (mL_X9_isFair_8 C (fun v3_2 v4_2 M_4 h => ?_) n8 _ _ _ _ h)
  refine r_iload_n C 0 dX9_isFair_86 rfl rfl ?_
  refine r_if_eq C 95 dX9_isFair_87 (by decide) (fun hc => ?_) (fun hc => ?_)
  · replace h := h.1 hc
    refine r_iconst (v := (1 : Int32)) C dX9_isFair_95 rfl ?_
    refine r_goto C 100 dX9_isFair_96 (by decide) ?_
    exact r_zret C (by decide) dX9_isFair_100 h
  · replace h := h.2 hc
    refine r_iload C 1 dX9_isFair_90 rfl ?_
    refine r_if_eq C 99 dX9_isFair_92 (by decide) (fun hc => ?_) (fun hc => ?_)
    · replace h := h.1 hc
      refine r_iconst (v := (0 : Int32)) C dX9_isFair_99 rfl ?_
      exact r_zret C (by decide) dX9_isFair_100 h
    · replace h := h.2 hc
      refine r_iconst (v := (1 : Int32)) C dX9_isFair_95 rfl ?_
      refine r_goto C 100 dX9_isFair_96 (by decide) ?_
      exact r_zret C (by decide) dX9_isFair_100 h
def S_X9_kind_39 (v1 : Int32) (v2 : Int32) (v3 : Int32) (o0 : Int32) (b0 : Int32) (X65 : Int32 → Mem → Prop) (K : Int32 → Mem → Prop) (M : Mem) : Prop := (¬ o0 = 0 → X65 (1 : Int32) M) ∧ (o0 = 0 → f_X9_isOne v3 (1 : Int32) M (fun (r_3 : Int32) (M_5 : Mem) => ((r_3 = 0 → X65 (0 : Int32) M_5) ∧ (¬ r_3 = 0 → f_X9_isOne v3 (0 : Int32) M_5 (fun (r_4 : Int32) (M_6 : Mem) => ((r_4 = 0 → X65 (0 : Int32) M_6) ∧ (¬ r_4 = 0 → X65 (1 : Int32) M_6)))))))

set_option maxHeartbeats 1000000 in
set_option maxRecDepth 10000 in
theorem mS_X9_kind_39 (C : rw_C p s m meth c cX9_kind 5 RX9 (some .int) D cy ad) {v1 : Int32} {v2 : Int32} {v3 : Int32} {o0 : Int32} {b0 : Int32} {X65 : Int32 → Mem → Prop} {K : Int32 → Mem → Prop} {M : Mem} (hX65 : ∀  (w0 : Int32) (M : Mem), X65 w0 M → rw_W p l e rm_X9_kind s m args below meth c D cy ad 5 0 0 (rw_Qi below args s D cy ad K) 65 [(0, .ref (ad 0)), (1, .int v1), (3, .int v3)] [.int w0, .int b0] M) (h : S_X9_kind_39 v1 v2 v3 o0 b0 X65 K M) : rw_W p l e rm_X9_kind s m args below meth c D cy ad 5 0 0 (rw_Qi below args s D cy ad K) 39 [(0, .ref (ad 0)), (1, .int v1), (2, .int v2), (3, .int v3)] [.int o0, .int b0] M := by
  refine r_if_ne C 60 dX9_kind_39 (by decide) (fun hc => ?_) (fun hc => ?_)
  · replace h := h.1 hc
    refine r_iconst (v := (1 : Int32)) C dX9_kind_60 rfl ?_
    refine r_goto C 65 dX9_kind_61 (by decide) ?_
    exact r_sub [0, 1, 3] rfl (hX65 _ _ h)
  · replace h := h.2 hc
    refine r_aload_n C 0 dX9_kind_42 rfl rfl ?_
    refine r_iload_n C 3 dX9_kind_43 rfl rfl ?_
    refine r_iconst (v := (1 : Int32)) C dX9_kind_44 rfl ?_
    refine cX9_282 C (m_X9_isOne l h) ⟨Nat.le_of_ble_eq_true rfl, Nat.le_of_ble_eq_true rfl⟩ (Nat.le_of_ble_eq_true rfl) ⟨Nat.le_refl 0, Nat.le_refl 0⟩ dX9_kind_45 (fun r_3 M_5 h => ?_)
    refine r_if_eq C 64 dX9_kind_48 (by decide) (fun hc => ?_) (fun hc => ?_)
    · replace h := h.1 hc
      refine r_iconst (v := (0 : Int32)) C dX9_kind_64 rfl ?_
      exact r_sub [0, 1, 3] rfl (hX65 _ _ h)
    · replace h := h.2 hc
      refine r_aload_n C 0 dX9_kind_51 rfl rfl ?_
      refine r_iload_n C 3 dX9_kind_52 rfl rfl ?_
      refine r_iconst (v := (0 : Int32)) C dX9_kind_53 rfl ?_
      refine cX9_282 C (m_X9_isOne l h) ⟨Nat.le_of_ble_eq_true rfl, Nat.le_of_ble_eq_true rfl⟩ (Nat.le_of_ble_eq_true rfl) ⟨Nat.le_refl 0, Nat.le_refl 0⟩ dX9_kind_54 (fun r_4 M_6 h => ?_)
      refine r_if_eq C 64 dX9_kind_57 (by decide) (fun hc => ?_) (fun hc => ?_)
      · replace h := h.1 hc
        refine r_iconst (v := (0 : Int32)) C dX9_kind_64 rfl ?_
        exact r_sub [0, 1, 3] rfl (hX65 _ _ h)
      · replace h := h.2 hc
        refine r_iconst (v := (1 : Int32)) C dX9_kind_60 rfl ?_
        refine r_goto C 65 dX9_kind_61 (by decide) ?_
        exact r_sub [0, 1, 3] rfl (hX65 _ _ h)

def L_X9_kind_70 (v1 : Int32) (v3 : Int32) (X114 : Int32 → Mem → Prop) (K : Int32 → Mem → Prop) : Nat → Int32 → Int32 → Mem → Prop
  | 0, _, _, _ => False
  | n + 1, v2, v4, M => ((v3 ≤ v4 → X114 v2 M) ∧ (¬ v3 ≤ v4 → ((¬ v1 = (2 : Int32) → ∀ x2_2 : Int32, x2_2 = v2 &&& (1 : Int32) → L_X9_kind_70 v1 v3 X114 K n x2_2 (v4 + (1 : Int32)) M) ∧ (v1 = (2 : Int32) → f_X9_isStep v4 M (fun (r_5 : Int32) (M_8 : Mem) => ((r_5 = 0 → ∀ x2_3 : Int32, x2_3 = v2 &&& (1 : Int32) → L_X9_kind_70 v1 v3 X114 K n x2_3 (v4 + (1 : Int32)) M_8) ∧ (¬ r_5 = 0 → f_X9_isFair v3 v4 M_8 (fun (r_6 : Int32) (M_9 : Mem) => ((r_6 = 0 → ∀ x2_4 : Int32, x2_4 = v2 &&& (0 : Int32) → L_X9_kind_70 v1 v3 X114 K n x2_4 (v4 + (1 : Int32)) M_9) ∧ (¬ r_6 = 0 → ∀ x2_5 : Int32, x2_5 = v2 &&& (1 : Int32) → L_X9_kind_70 v1 v3 X114 K n x2_5 (v4 + (1 : Int32)) M_9))))))))))

set_option maxHeartbeats 1000000 in
set_option maxRecDepth 10000 in
theorem mL_X9_kind_70 (C : rw_C p s m meth c cX9_kind 5 RX9 (some .int) D cy ad) {v1 : Int32} {v3 : Int32} {X114 : Int32 → Mem → Prop} {K : Int32 → Mem → Prop} (hX114 : ∀ (u2 : Int32) (M : Mem), X114 u2 M → rw_W p l e rm_X9_kind s m args below meth c D cy ad 5 0 0 (rw_Qi below args s D cy ad K) 114 [(0, .ref (ad 0)), (1, .int v1), (2, .int u2), (3, .int v3)] [] M) : ∀ (n : Nat) (v2 : Int32) (v4 : Int32) (M : Mem), L_X9_kind_70 v1 v3 X114 K n v2 v4 M → rw_W p l e rm_X9_kind s m args below meth c D cy ad 5 0 0 (rw_Qi below args s D cy ad K) 70 [(0, .ref (ad 0)), (1, .int v1), (2, .int v2), (3, .int v3), (4, .int v4)] [] M := by
  intro n
  induction n with
  | zero => intro v2 v4 M h; exact h.elim
  | succ n ih =>
    intro v2 v4 M h
    refine r_iload C 4 dX9_kind_70 rfl ?_
    refine r_iload_n C 3 dX9_kind_72 rfl rfl ?_
    refine r_icmp_ge C 114 dX9_kind_73 (by decide) (fun hc => ?_) (fun hc => ?_)
    · replace h := h.1 hc
      exact r_sub [0, 1, 2, 3] rfl (hX114 _ _ h)
    · replace h := h.2 hc
      refine r_iload_n C 2 dX9_kind_76 rfl rfl ?_
      refine r_iload_n C 1 dX9_kind_77 rfl rfl ?_
      refine r_iconst (v := (2 : Int32)) C dX9_kind_78 rfl ?_
      refine r_icmp_ne C 101 dX9_kind_79 (by decide) (fun hc => ?_) (fun hc => ?_)
      · replace h := h.1 hc
        refine r_iconst (v := (1 : Int32)) C dX9_kind_101 rfl ?_
        refine r_goto C 106 dX9_kind_102 (by decide) ?_
        refine r_iand C dX9_kind_106 ?_
        refine r_istore_n C [(2, .int _), (0, .ref _), (1, .int _), (3, .int _), (4, .int _)] dX9_kind_107 rfl (by decide) rfl ?_
        replace h := h _ rfl
        refine r_iinc C 4 (v := _) [(4, .int _), (2, .int _), (0, .ref _), (1, .int _), (3, .int _)] dX9_kind_108 rfl rfl (by decide) rfl ?_
        refine r_goto C 70 dX9_kind_111 (by decide) ?_
        exact r_sub [2, 3, 1, 4, 0] rfl (ih _ _ _ h)
      · replace h := h.2 hc
        refine r_aload_n C 0 dX9_kind_82 rfl rfl ?_
        refine r_iload C 4 dX9_kind_83 rfl ?_
        refine cX9_272 C (m_X9_isStep l h) ⟨Nat.le_of_ble_eq_true rfl, Nat.le_of_ble_eq_true rfl⟩ (Nat.le_of_ble_eq_true rfl) ⟨Nat.le_refl 0, Nat.le_refl 0⟩ dX9_kind_85 (fun r_5 M_8 h => ?_)
        refine r_if_eq C 101 dX9_kind_88 (by decide) (fun hc => ?_) (fun hc => ?_)
        · replace h := h.1 hc
          refine r_iconst (v := (1 : Int32)) C dX9_kind_101 rfl ?_
          refine r_goto C 106 dX9_kind_102 (by decide) ?_
          refine r_iand C dX9_kind_106 ?_
          refine r_istore_n C [(2, .int _), (0, .ref _), (1, .int _), (3, .int _), (4, .int _)] dX9_kind_107 rfl (by decide) rfl ?_
          replace h := h _ rfl
          refine r_iinc C 4 (v := _) [(4, .int _), (2, .int _), (0, .ref _), (1, .int _), (3, .int _)] dX9_kind_108 rfl rfl (by decide) rfl ?_
          refine r_goto C 70 dX9_kind_111 (by decide) ?_
          exact r_sub [2, 3, 1, 4, 0] rfl (ih _ _ _ h)
        · replace h := h.2 hc
          refine r_aload_n C 0 dX9_kind_91 rfl rfl ?_
          refine r_iload_n C 3 dX9_kind_92 rfl rfl ?_
          refine r_iload C 4 dX9_kind_93 rfl ?_
          refine cX9_286 C (m_X9_isFair l h) ⟨Nat.le_of_ble_eq_true rfl, Nat.le_of_ble_eq_true rfl⟩ (Nat.le_of_ble_eq_true rfl) ⟨Nat.le_refl 0, Nat.le_refl 0⟩ dX9_kind_95 (fun r_6 M_9 h => ?_)
          refine r_if_eq C 105 dX9_kind_98 (by decide) (fun hc => ?_) (fun hc => ?_)
          · replace h := h.1 hc
            refine r_iconst (v := (0 : Int32)) C dX9_kind_105 rfl ?_
            refine r_iand C dX9_kind_106 ?_
            refine r_istore_n C [(2, .int _), (0, .ref _), (1, .int _), (3, .int _), (4, .int _)] dX9_kind_107 rfl (by decide) rfl ?_
            replace h := h _ rfl
            refine r_iinc C 4 (v := _) [(4, .int _), (2, .int _), (0, .ref _), (1, .int _), (3, .int _)] dX9_kind_108 rfl rfl (by decide) rfl ?_
            refine r_goto C 70 dX9_kind_111 (by decide) ?_
            exact r_sub [2, 3, 1, 4, 0] rfl (ih _ _ _ h)
          · replace h := h.2 hc
            refine r_iconst (v := (1 : Int32)) C dX9_kind_101 rfl ?_
            refine r_goto C 106 dX9_kind_102 (by decide) ?_
            refine r_iand C dX9_kind_106 ?_
            refine r_istore_n C [(2, .int _), (0, .ref _), (1, .int _), (3, .int _), (4, .int _)] dX9_kind_107 rfl (by decide) rfl ?_
            replace h := h _ rfl
            refine r_iinc C 4 (v := _) [(4, .int _), (2, .int _), (0, .ref _), (1, .int _), (3, .int _)] dX9_kind_108 rfl rfl (by decide) rfl ?_
            refine r_goto C 70 dX9_kind_111 (by decide) ?_
            exact r_sub [2, 3, 1, 4, 0] rfl (ih _ _ _ h)

def L_X9_kind_20 (v1 : Int32) (X120 : Int32 → Mem → Prop) (K : Int32 → Mem → Prop) : Nat → Int32 → Int32 → Mem → Prop
  | 0, _, _, _ => False
  | n + 1, v2, v3, M => (((8 : Int32) ≤ v3 → X120 v2 M) ∧ (¬ (8 : Int32) ≤ v3 → f_X9_isStep v3 M (fun (r_2 : Int32) (M_4 : Mem) => ((¬ r_2 = 0 → (S_X9_kind_39 v1 v2 v3 v1 v2 (fun (w : Int32) (M_7 : Mem) => ∀ x2 : Int32, x2 = v2 &&& w → (∃ k70 : Nat, L_X9_kind_70 v1 v3 (fun (v2_2 : Int32) (M_10 : Mem) => L_X9_kind_20 v1 X120 K n v2_2 (v3 + (1 : Int32)) M_10) K k70 x2 (0 : Int32) M_7)) K M_4)) ∧ (r_2 = 0 → L_X9_kind_20 v1 X120 K n v2 (v3 + (1 : Int32)) M_4)))))

set_option maxHeartbeats 1000000 in
set_option maxRecDepth 10000 in
theorem mL_X9_kind_20 (C : rw_C p s m meth c cX9_kind 5 RX9 (some .int) D cy ad) {v1 : Int32} {X120 : Int32 → Mem → Prop} {K : Int32 → Mem → Prop} (hX120 : ∀ (u2 : Int32) (M : Mem), X120 u2 M → rw_W p l e rm_X9_kind s m args below meth c D cy ad 5 0 0 (rw_Qi below args s D cy ad K) 120 [(0, .ref (ad 0)), (1, .int v1), (2, .int u2)] [] M) : ∀ (n : Nat) (v2 : Int32) (v3 : Int32) (M : Mem), L_X9_kind_20 v1 X120 K n v2 v3 M → rw_W p l e rm_X9_kind s m args below meth c D cy ad 5 0 0 (rw_Qi below args s D cy ad K) 20 [(0, .ref (ad 0)), (1, .int v1), (2, .int v2), (3, .int v3)] [] M := by
  intro n
  induction n with
  | zero => intro v2 v3 M h; exact h.elim
  | succ n ih =>
    intro v2 v3 M h
    refine r_iload_n C 3 dX9_kind_20 rfl rfl ?_
    refine r_bipush (v := (8 : Int32)) C dX9_kind_21 rfl ?_
    refine r_icmp_ge C 120 dX9_kind_23 (by decide) (fun hc => ?_) (fun hc => ?_)
    · replace h := h.1 hc
      exact r_sub [0, 1, 2] rfl (hX120 _ _ h)
    · replace h := h.2 hc
      refine r_aload_n C 0 dX9_kind_26 rfl rfl ?_
      refine r_iload_n C 3 dX9_kind_27 rfl rfl ?_
      refine cX9_272 C (m_X9_isStep l h) ⟨Nat.le_of_ble_eq_true rfl, Nat.le_of_ble_eq_true rfl⟩ (Nat.le_of_ble_eq_true rfl) ⟨Nat.le_refl 0, Nat.le_refl 0⟩ dX9_kind_28 (fun r_2 M_4 h => ?_)
      refine r_if_ne C 37 dX9_kind_31 (by decide) (fun hc => ?_) (fun hc => ?_)
      · replace h := h.1 hc
        refine r_iload_n C 2 dX9_kind_37 rfl rfl ?_
        refine r_iload_n C 1 dX9_kind_38 rfl rfl ?_
        refine mS_X9_kind_39 C (fun w M_7 h => ?_) h
        refine r_iand C dX9_kind_65 ?_
        refine r_istore_n C [(2, .int _), (0, .ref _), (1, .int _), (3, .int _)] dX9_kind_66 rfl (by decide) rfl ?_
        replace h := h _ rfl
        refine r_iconst (v := (0 : Int32)) C dX9_kind_67 rfl ?_
        refine r_istore C [(4, .int _), (2, .int _), (0, .ref _), (1, .int _), (3, .int _)] dX9_kind_68 (by decide) rfl ?_
        obtain ⟨n70, h⟩ := h
        refine r_sub [2, 3, 1, 4, 0] rfl (mL_X9_kind_70 C (fun v2_2 M_10 h => ?_) n70 _ _ _ h)
        refine r_iinc C 3 (v := _) [(3, .int _), (0, .ref _), (1, .int _), (2, .int _)] dX9_kind_114 rfl rfl (by decide) rfl ?_
        refine r_goto C 20 dX9_kind_117 (by decide) ?_
        exact r_sub [1, 2, 3, 0] rfl (ih _ _ _ h)
      · replace h := h.2 hc
        refine r_goto C 114 dX9_kind_34 (by decide) ?_
        refine r_iinc C 3 (v := _) [(3, .int _), (0, .ref _), (1, .int _), (2, .int _)] dX9_kind_114 rfl rfl (by decide) rfl ?_
        refine r_goto C 20 dX9_kind_117 (by decide) ?_
        exact r_sub [1, 2, 3, 0] rfl (ih _ _ _ h)

def L_X9_kind_122 (v1 : Int32) (X173 : Int32 → Mem → Prop) (K : Int32 → Mem → Prop) : Nat → Int32 → Int32 → Mem → Prop
  | 0, _, _, _ => False
  | n + 1, v2, v3, M => (((10 : Int32) ≤ v3 → X173 v2 M) ∧ (¬ (10 : Int32) ≤ v3 → ((¬ v1 = (1 : Int32) → ∀ x2_6 : Int32, x2_6 = v2 &&& (1 : Int32) → L_X9_kind_122 v1 X173 K n x2_6 (v3 + (1 : Int32)) M) ∧ (v1 = (1 : Int32) → f_X9_isPlace v3 M (fun (r_7 : Int32) (M_12 : Mem) => ((r_7 = 0 → ∀ x2_7 : Int32, x2_7 = v2 &&& (1 : Int32) → L_X9_kind_122 v1 X173 K n x2_7 (v3 + (1 : Int32)) M_12) ∧ (¬ r_7 = 0 → f_X9_isOneAt v3 (1 : Int32) M_12 (fun (r_8 : Int32) (M_13 : Mem) => ((r_8 = 0 → ∀ x2_8 : Int32, x2_8 = v2 &&& (0 : Int32) → L_X9_kind_122 v1 X173 K n x2_8 (v3 + (1 : Int32)) M_13) ∧ (¬ r_8 = 0 → f_X9_isOneAt v3 (0 : Int32) M_13 (fun (r_9 : Int32) (M_14 : Mem) => ((r_9 = 0 → ∀ x2_9 : Int32, x2_9 = v2 &&& (0 : Int32) → L_X9_kind_122 v1 X173 K n x2_9 (v3 + (1 : Int32)) M_14) ∧ (¬ r_9 = 0 → ∀ x2_10 : Int32, x2_10 = v2 &&& (1 : Int32) → L_X9_kind_122 v1 X173 K n x2_10 (v3 + (1 : Int32)) M_14)))))))))))))

set_option maxHeartbeats 1000000 in
set_option maxRecDepth 10000 in
theorem mL_X9_kind_122 (C : rw_C p s m meth c cX9_kind 5 RX9 (some .int) D cy ad) {v1 : Int32} {X173 : Int32 → Mem → Prop} {K : Int32 → Mem → Prop} (hX173 : ∀ (u2 : Int32) (M : Mem), X173 u2 M → rw_W p l e rm_X9_kind s m args below meth c D cy ad 5 0 0 (rw_Qi below args s D cy ad K) 173 [(2, .int u2)] [] M) : ∀ (n : Nat) (v2 : Int32) (v3 : Int32) (M : Mem), L_X9_kind_122 v1 X173 K n v2 v3 M → rw_W p l e rm_X9_kind s m args below meth c D cy ad 5 0 0 (rw_Qi below args s D cy ad K) 122 [(0, .ref (ad 0)), (1, .int v1), (2, .int v2), (3, .int v3)] [] M := by
  intro n
  induction n with
  | zero => intro v2 v3 M h; exact h.elim
  | succ n ih =>
    intro v2 v3 M h
    refine r_iload_n C 3 dX9_kind_122 rfl rfl ?_
    refine r_bipush (v := (10 : Int32)) C dX9_kind_123 rfl ?_
    refine r_icmp_ge C 173 dX9_kind_125 (by decide) (fun hc => ?_) (fun hc => ?_)
    · replace h := h.1 hc
      exact r_sub [2] rfl (hX173 _ _ h)
    · replace h := h.2 hc
      refine r_iload_n C 2 dX9_kind_128 rfl rfl ?_
      refine r_iload_n C 1 dX9_kind_129 rfl rfl ?_
      refine r_iconst (v := (1 : Int32)) C dX9_kind_130 rfl ?_
      refine r_icmp_ne C 160 dX9_kind_131 (by decide) (fun hc => ?_) (fun hc => ?_)
      · replace h := h.1 hc
        refine r_iconst (v := (1 : Int32)) C dX9_kind_160 rfl ?_
        refine r_goto C 165 dX9_kind_161 (by decide) ?_
        refine r_iand C dX9_kind_165 ?_
        refine r_istore_n C [(2, .int _), (0, .ref _), (1, .int _), (3, .int _)] dX9_kind_166 rfl (by decide) rfl ?_
        replace h := h _ rfl
        refine r_iinc C 3 (v := _) [(3, .int _), (2, .int _), (0, .ref _), (1, .int _)] dX9_kind_167 rfl rfl (by decide) rfl ?_
        refine r_goto C 122 dX9_kind_170 (by decide) ?_
        exact r_sub [2, 3, 1, 0] rfl (ih _ _ _ h)
      · replace h := h.2 hc
        refine r_aload_n C 0 dX9_kind_134 rfl rfl ?_
        refine r_iload_n C 3 dX9_kind_135 rfl rfl ?_
        refine cX9_275 C (m_X9_isPlace l h) ⟨Nat.le_of_ble_eq_true rfl, Nat.le_of_ble_eq_true rfl⟩ (Nat.le_of_ble_eq_true rfl) ⟨Nat.le_refl 0, Nat.le_refl 0⟩ dX9_kind_136 (fun r_7 M_12 h => ?_)
        refine r_if_eq C 160 dX9_kind_139 (by decide) (fun hc => ?_) (fun hc => ?_)
        · replace h := h.1 hc
          refine r_iconst (v := (1 : Int32)) C dX9_kind_160 rfl ?_
          refine r_goto C 165 dX9_kind_161 (by decide) ?_
          refine r_iand C dX9_kind_165 ?_
          refine r_istore_n C [(2, .int _), (0, .ref _), (1, .int _), (3, .int _)] dX9_kind_166 rfl (by decide) rfl ?_
          replace h := h _ rfl
          refine r_iinc C 3 (v := _) [(3, .int _), (2, .int _), (0, .ref _), (1, .int _)] dX9_kind_167 rfl rfl (by decide) rfl ?_
          refine r_goto C 122 dX9_kind_170 (by decide) ?_
          exact r_sub [2, 3, 1, 0] rfl (ih _ _ _ h)
        · replace h := h.2 hc
          refine r_aload_n C 0 dX9_kind_142 rfl rfl ?_
          refine r_iload_n C 3 dX9_kind_143 rfl rfl ?_
          refine r_iconst (v := (1 : Int32)) C dX9_kind_144 rfl ?_
          refine cX9_289 C (m_X9_isOneAt l h) ⟨Nat.le_of_ble_eq_true rfl, Nat.le_of_ble_eq_true rfl⟩ (Nat.le_of_ble_eq_true rfl) ⟨Nat.le_refl 0, Nat.le_refl 0⟩ dX9_kind_145 (fun r_8 M_13 h => ?_)
          refine r_if_eq C 164 dX9_kind_148 (by decide) (fun hc => ?_) (fun hc => ?_)
          · replace h := h.1 hc
            refine r_iconst (v := (0 : Int32)) C dX9_kind_164 rfl ?_
            refine r_iand C dX9_kind_165 ?_
            refine r_istore_n C [(2, .int _), (0, .ref _), (1, .int _), (3, .int _)] dX9_kind_166 rfl (by decide) rfl ?_
            replace h := h _ rfl
            refine r_iinc C 3 (v := _) [(3, .int _), (2, .int _), (0, .ref _), (1, .int _)] dX9_kind_167 rfl rfl (by decide) rfl ?_
            refine r_goto C 122 dX9_kind_170 (by decide) ?_
            exact r_sub [2, 3, 1, 0] rfl (ih _ _ _ h)
          · replace h := h.2 hc
            refine r_aload_n C 0 dX9_kind_151 rfl rfl ?_
            refine r_iload_n C 3 dX9_kind_152 rfl rfl ?_
            refine r_iconst (v := (0 : Int32)) C dX9_kind_153 rfl ?_
            refine cX9_289 C (m_X9_isOneAt l h) ⟨Nat.le_of_ble_eq_true rfl, Nat.le_of_ble_eq_true rfl⟩ (Nat.le_of_ble_eq_true rfl) ⟨Nat.le_refl 0, Nat.le_refl 0⟩ dX9_kind_154 (fun r_9 M_14 h => ?_)
            refine r_if_eq C 164 dX9_kind_157 (by decide) (fun hc => ?_) (fun hc => ?_)
            · replace h := h.1 hc
              refine r_iconst (v := (0 : Int32)) C dX9_kind_164 rfl ?_
              refine r_iand C dX9_kind_165 ?_
              refine r_istore_n C [(2, .int _), (0, .ref _), (1, .int _), (3, .int _)] dX9_kind_166 rfl (by decide) rfl ?_
              replace h := h _ rfl
              refine r_iinc C 3 (v := _) [(3, .int _), (2, .int _), (0, .ref _), (1, .int _)] dX9_kind_167 rfl rfl (by decide) rfl ?_
              refine r_goto C 122 dX9_kind_170 (by decide) ?_
              exact r_sub [2, 3, 1, 0] rfl (ih _ _ _ h)
            · replace h := h.2 hc
              refine r_iconst (v := (1 : Int32)) C dX9_kind_160 rfl ?_
              refine r_goto C 165 dX9_kind_161 (by decide) ?_
              refine r_iand C dX9_kind_165 ?_
              refine r_istore_n C [(2, .int _), (0, .ref _), (1, .int _), (3, .int _)] dX9_kind_166 rfl (by decide) rfl ?_
              replace h := h _ rfl
              refine r_iinc C 3 (v := _) [(3, .int _), (2, .int _), (0, .ref _), (1, .int _)] dX9_kind_167 rfl rfl (by decide) rfl ?_
              refine r_goto C 122 dX9_kind_170 (by decide) ?_
              exact r_sub [2, 3, 1, 0] rfl (ih _ _ _ h)

def f_X9_kind (v1 : Int32) (M : Mem) (K : Int32 → Mem → Prop) : Prop := ∀ M_2 : Mem, M_2 = wI M 0 0 (0 : Int32) → f_X9_in v1 (0 : Int32) (2 : Int32) M_2 (fun (r : Int32) (M_3 : Mem) => ((¬ r = 0 → (∃ k20 : Nat, L_X9_kind_20 v1 (fun (v2_3 : Int32) (M_11 : Mem) => (∃ k122 : Nat, L_X9_kind_122 v1 (fun (v2_4 : Int32) (M_15 : Mem) => ((v2_4 = 0 → K (0 : Int32) M_15) ∧ (¬ v2_4 = 0 → K (1 : Int32) M_15))) K k122 v2_3 (0 : Int32) M_11)) K k20 (1 : Int32) (0 : Int32) M_3)) ∧ (r = 0 → K (-1 : Int32) M_3)))

set_option maxHeartbeats 1000000 in
set_option maxRecDepth 10000 in
theorem m_X9_kind (l : Launch) {v1 : Int32}  {M : Mem} {K : Int32 → Mem → Prop} (h : f_X9_kind v1 M K) : CTi l yX9_kind cX9_kind 5 (some .int) rm_X9_kind (fun ad => [.ref (ad 0), .int v1]) M K := by
  refine rw_enti (by decide +kernel) (fun ad => Nat.le_of_ble_eq_true rfl) (fun p e s m args below meth c D cy ad C => ?_)
  change rw_W p l e _ s m args below meth c D cy ad 5 0 0 _ 0 [(0, .ref (ad 0)), (1, .int v1)] [] M
  unfold f_X9_kind at h
  refine r_aload_n C 0 dX9_kind_0 rfl rfl ?_
  refine r_iconst (v := (0 : Int32)) C dX9_kind_1 rfl ?_
  refine pX9_133 C dX9_kind_2 ?_
  replace h := h _ rfl
  refine r_iload_n C 1 dX9_kind_5 rfl rfl ?_
  refine r_iconst (v := (0 : Int32)) C dX9_kind_6 rfl ?_
  refine r_iconst (v := (2 : Int32)) C dX9_kind_7 rfl ?_
  refine cX9_136 C (m_X9_in l h) ⟨Nat.le_of_ble_eq_true rfl, Nat.le_of_ble_eq_true rfl⟩ (Nat.le_of_ble_eq_true rfl) ⟨Nat.le_refl 0, Nat.le_refl 0⟩ dX9_kind_8 (fun r M_3 h => ?_)
  refine r_if_ne C 16 dX9_kind_11 (by decide) (fun hc => ?_) (fun hc => ?_)
  · replace h := h.1 hc
    refine r_iconst (v := (1 : Int32)) C dX9_kind_16 rfl ?_
    refine r_istore_n C [(2, .int _), (0, .ref _), (1, .int _)] dX9_kind_17 rfl (by decide) rfl ?_
    refine r_iconst (v := (0 : Int32)) C dX9_kind_18 rfl ?_
    refine r_istore_n C [(3, .int _), (2, .int _), (0, .ref _), (1, .int _)] dX9_kind_19 rfl (by decide) rfl ?_
    obtain ⟨n20, h⟩ := h
    refine r_sub [2, 3, 1, 0] rfl (mL_X9_kind_20 C (fun v2_3 M_11 h => ?_) n20 _ _ _ h)
    refine r_iconst (v := (0 : Int32)) C dX9_kind_120 rfl ?_
    refine r_istore_n C [(3, .int _), (0, .ref _), (1, .int _), (2, .int _)] dX9_kind_121 rfl (by decide) rfl ?_
    obtain ⟨n122, h⟩ := h
    refine r_sub [1, 2, 3, 0] rfl (mL_X9_kind_122 C (fun v2_4 M_15 h => ?_) n122 _ _ _ h)
    refine r_iload_n C 0 dX9_kind_173 rfl rfl ?_
    refine r_if_eq C 181 dX9_kind_174 (by decide) (fun hc => ?_) (fun hc => ?_)
    · replace h := h.1 hc
      refine r_iconst (v := (0 : Int32)) C dX9_kind_181 rfl ?_
      exact r_iret C dX9_kind_182 h
    · replace h := h.2 hc
      refine r_iconst (v := (1 : Int32)) C dX9_kind_177 rfl ?_
      refine r_goto C 182 dX9_kind_178 (by decide) ?_
      exact r_iret C dX9_kind_182 h
  · replace h := h.2 hc
    refine r_iconst (v := (-1 : Int32)) C dX9_kind_14 rfl ?_
    exact r_iret C dX9_kind_15 h
def L_X9_keep_13 (X42 : Mem → Prop) (K : Mem → Prop) : Nat → Int32 → Mem → Prop
  | 0, _, _ => False
  | n + 1, v1, M => (((2064 : Int32) ≤ v1 → X42 M) ∧ (¬ (2064 : Int32) ≤ v1 → vp_in v1 2064 ∧ vp_in (v1 - (172 : Int32)) 2064 ∧ ∀ M_2 : Mem, M_2 = wI M 10 (v1 - (172 : Int32)).toNatClampNeg (gI M 10 v1) → L_X9_keep_13 X42 K n (v1 + (1 : Int32)) M_2))

set_option maxHeartbeats 1000000 in
set_option maxRecDepth 10000 in
theorem mL_X9_keep_13 (C : rw_C p s m meth c cX9_keep 3 RX9 none D cy ad) {X42 : Mem → Prop} {K : Mem → Prop} (hX42 : ∀  (M : Mem), X42 M → rw_W p l e rm_X9_keep s m args below meth c D cy ad 3 0 0 (rw_Qv below args s D cy ad K) 42 [(0, .ref (ad 0))] [] M) : ∀ (n : Nat) (v1 : Int32) (M : Mem), L_X9_keep_13 X42 K n v1 M → rw_W p l e rm_X9_keep s m args below meth c D cy ad 3 0 0 (rw_Qv below args s D cy ad K) 13 [(0, .ref (ad 0)), (1, .int v1)] [] M := by
  intro n
  induction n with
  | zero => intro v1 M h; exact h.elim
  | succ n ih =>
    intro v1 M h
    refine r_iload_n C 1 dX9_keep_13 rfl rfl ?_
    refine r_sipush (v := (2064 : Int32)) C dX9_keep_14 rfl ?_
    refine r_icmp_ge C 42 dX9_keep_17 (by decide) (fun hc => ?_) (fun hc => ?_)
    · replace h := h.1 hc
      exact r_sub [0] rfl (hX42 _ h)
    · replace h := h.2 hc
      refine r_aload_n C 0 dX9_keep_20 rfl rfl ?_
      refine gX9_41 C dX9_keep_21 ?_
      refine r_iload_n C 1 dX9_keep_24 rfl rfl ?_
      refine r_sipush (v := (172 : Int32)) C dX9_keep_25 rfl ?_
      refine r_isub C dX9_keep_28 ?_
      refine r_aload_n C 0 dX9_keep_29 rfl rfl ?_
      refine gX9_41 C dX9_keep_30 ?_
      refine r_iload_n C 1 dX9_keep_33 rfl rfl ?_
      obtain ⟨q, h⟩ := h
      refine r_iald C sh_10 q dX9_keep_34 ?_
      obtain ⟨q_2, h⟩ := h
      refine r_iast C sh_10 q_2 dX9_keep_35 ?_
      replace h := h _ rfl
      refine r_iinc C 1 (v := _) [(1, .int _), (0, .ref _)] dX9_keep_36 rfl rfl (by decide) rfl ?_
      refine r_goto C 13 dX9_keep_39 (by decide) ?_
      exact r_sub [1, 0] rfl (ih _ _ h)

def S_X9_keep_6 (o0 : Int32) (o1 : Int32) (X52 : Mem → Prop) (K : Mem → Prop) (M : Mem) : Prop := (¬ o1 = o0 → X52 M) ∧ (o1 = o0 → (∃ k13 : Nat, L_X9_keep_13 (fun  (M_3 : Mem) => ∀ M_4 : Mem, M_4 = wI M_3 0 26 ((M_3.1 0 26) - (1 : Int32)) → X52 M_4) K k13 (172 : Int32) M))

set_option maxHeartbeats 1000000 in
set_option maxRecDepth 10000 in
theorem mS_X9_keep_6 (C : rw_C p s m meth c cX9_keep 3 RX9 none D cy ad) {o0 : Int32} {o1 : Int32} {X52 : Mem → Prop} {K : Mem → Prop} {M : Mem} (hX52 : ∀  (M : Mem), X52 M → rw_W p l e rm_X9_keep s m args below meth c D cy ad 3 0 0 (rw_Qv below args s D cy ad K) 52 [(0, .ref (ad 0))] [] M) (h : S_X9_keep_6 o0 o1 X52 K M) : rw_W p l e rm_X9_keep s m args below meth c D cy ad 3 0 0 (rw_Qv below args s D cy ad K) 6 [(0, .ref (ad 0))] [.int o0, .int o1] M := by
  refine r_icmp_ne C 52 dX9_keep_6 (by decide) (fun hc => ?_) (fun hc => ?_)
  · replace h := h.1 hc
    exact hX52 _ h
  · replace h := h.2 hc
    refine r_sipush (v := (172 : Int32)) C dX9_keep_9 rfl ?_
    refine r_istore_n C [(1, .int _), (0, .ref _)] dX9_keep_12 rfl (by decide) rfl ?_
    obtain ⟨n13, h⟩ := h
    refine r_sub [1, 0] rfl (mL_X9_keep_13 C (fun M_3 h => ?_) n13 _ _ h)
    refine r_aload_n C 0 dX9_keep_42 rfl rfl ?_
    refine r_dup C dX9_keep_43 rfl ?_
    refine gX9_247 C dX9_keep_44 ?_
    refine r_iconst (v := (1 : Int32)) C dX9_keep_47 rfl ?_
    refine r_isub C dX9_keep_48 ?_
    refine pX9_247 C dX9_keep_49 ?_
    replace h := h _ rfl
    exact hX52 _ h

def L_X9_keep_63 (v1 : Int32) (X106 : Mem → Prop) (K : Mem → Prop) : Nat → Int32 → Mem → Prop
  | 0, _, _ => False
  | n + 1, v2, M => (((80 : Int32) ≤ v2 → X106 M) ∧ (¬ (80 : Int32) ≤ v2 → vp_in v2 240 ∧ vp_in (v1 + v2) 2064 ∧ ∀ M_6 : Mem, M_6 = wI M 10 (v1 + v2).toNatClampNeg (gI M 1 v2) → vp_in ((v1 + (80 : Int32)) + v2) 2064 ∧ ∀ M_7 : Mem, M_7 = wI M_6 10 ((v1 + (80 : Int32)) + v2).toNatClampNeg (gI M_6 2 v2) → L_X9_keep_63 v1 X106 K n (v2 + (1 : Int32)) M_7))

set_option maxHeartbeats 1000000 in
set_option maxRecDepth 10000 in
theorem mL_X9_keep_63 (C : rw_C p s m meth c cX9_keep 3 RX9 none D cy ad) {v1 : Int32} {X106 : Mem → Prop} {K : Mem → Prop} (hX106 : ∀  (M : Mem), X106 M → rw_W p l e rm_X9_keep s m args below meth c D cy ad 3 0 0 (rw_Qv below args s D cy ad K) 106 [(0, .ref (ad 0)), (1, .int v1)] [] M) : ∀ (n : Nat) (v2 : Int32) (M : Mem), L_X9_keep_63 v1 X106 K n v2 M → rw_W p l e rm_X9_keep s m args below meth c D cy ad 3 0 0 (rw_Qv below args s D cy ad K) 63 [(0, .ref (ad 0)), (1, .int v1), (2, .int v2)] [] M := by
  intro n
  induction n with
  | zero => intro v2 M h; exact h.elim
  | succ n ih =>
    intro v2 M h
    refine r_iload_n C 2 dX9_keep_63 rfl rfl ?_
    refine r_bipush (v := (80 : Int32)) C dX9_keep_64 rfl ?_
    refine r_icmp_ge C 106 dX9_keep_66 (by decide) (fun hc => ?_) (fun hc => ?_)
    · replace h := h.1 hc
      exact r_sub [0, 1] rfl (hX106 _ h)
    · replace h := h.2 hc
      refine r_aload_n C 0 dX9_keep_69 rfl rfl ?_
      refine gX9_41 C dX9_keep_70 ?_
      refine r_iload_n C 1 dX9_keep_73 rfl rfl ?_
      refine r_iload_n C 2 dX9_keep_74 rfl rfl ?_
      refine r_iadd C dX9_keep_75 ?_
      refine r_aload_n C 0 dX9_keep_76 rfl rfl ?_
      refine gX9_7 C dX9_keep_77 ?_
      refine r_iload_n C 2 dX9_keep_80 rfl rfl ?_
      obtain ⟨q_3, h⟩ := h
      refine r_iald C sh_1 q_3 dX9_keep_81 ?_
      obtain ⟨q_4, h⟩ := h
      refine r_iast C sh_10 q_4 dX9_keep_82 ?_
      replace h := h _ rfl
      refine r_aload_n C 0 dX9_keep_83 rfl rfl ?_
      refine gX9_41 C dX9_keep_84 ?_
      refine r_iload_n C 1 dX9_keep_87 rfl rfl ?_
      refine r_bipush (v := (80 : Int32)) C dX9_keep_88 rfl ?_
      refine r_iadd C dX9_keep_90 ?_
      refine r_iload_n C 2 dX9_keep_91 rfl rfl ?_
      refine r_iadd C dX9_keep_92 ?_
      refine r_aload_n C 0 dX9_keep_93 rfl rfl ?_
      refine gX9_13 C dX9_keep_94 ?_
      refine r_iload_n C 2 dX9_keep_97 rfl rfl ?_
      refine r_iald C sh_2 q_3 dX9_keep_98 ?_
      obtain ⟨q_5, h⟩ := h
      refine r_iast C sh_10 q_5 dX9_keep_99 ?_
      replace h := h _ rfl
      refine r_iinc C 2 (v := _) [(2, .int _), (0, .ref _), (1, .int _)] dX9_keep_100 rfl rfl (by decide) rfl ?_
      refine r_goto C 63 dX9_keep_103 (by decide) ?_
      exact r_sub [1, 2, 0] rfl (ih _ _ h)

def L_X9_keep_108 (v1 : Int32) (X138 : Mem → Prop) (K : Mem → Prop) : Nat → Int32 → Mem → Prop
  | 0, _, _ => False
  | n + 1, v2, M => (((10 : Int32) ≤ v2 → X138 M) ∧ (¬ (10 : Int32) ≤ v2 → vp_in v2 30 ∧ vp_in ((v1 + (160 : Int32)) + v2) 2064 ∧ ∀ M_9 : Mem, M_9 = wI M 10 ((v1 + (160 : Int32)) + v2).toNatClampNeg (gI M 3 v2) → L_X9_keep_108 v1 X138 K n (v2 + (1 : Int32)) M_9))

set_option maxHeartbeats 1000000 in
set_option maxRecDepth 10000 in
theorem mL_X9_keep_108 (C : rw_C p s m meth c cX9_keep 3 RX9 none D cy ad) {v1 : Int32} {X138 : Mem → Prop} {K : Mem → Prop} (hX138 : ∀  (M : Mem), X138 M → rw_W p l e rm_X9_keep s m args below meth c D cy ad 3 0 0 (rw_Qv below args s D cy ad K) 138 [(0, .ref (ad 0)), (1, .int v1)] [] M) : ∀ (n : Nat) (v2 : Int32) (M : Mem), L_X9_keep_108 v1 X138 K n v2 M → rw_W p l e rm_X9_keep s m args below meth c D cy ad 3 0 0 (rw_Qv below args s D cy ad K) 108 [(0, .ref (ad 0)), (1, .int v1), (2, .int v2)] [] M := by
  intro n
  induction n with
  | zero => intro v2 M h; exact h.elim
  | succ n ih =>
    intro v2 M h
    refine r_iload_n C 2 dX9_keep_108 rfl rfl ?_
    refine r_bipush (v := (10 : Int32)) C dX9_keep_109 rfl ?_
    refine r_icmp_ge C 138 dX9_keep_111 (by decide) (fun hc => ?_) (fun hc => ?_)
    · replace h := h.1 hc
      exact r_sub [0, 1] rfl (hX138 _ h)
    · replace h := h.2 hc
      refine r_aload_n C 0 dX9_keep_114 rfl rfl ?_
      refine gX9_41 C dX9_keep_115 ?_
      refine r_iload_n C 1 dX9_keep_118 rfl rfl ?_
      refine r_sipush (v := (160 : Int32)) C dX9_keep_119 rfl ?_
      refine r_iadd C dX9_keep_122 ?_
      refine r_iload_n C 2 dX9_keep_123 rfl rfl ?_
      refine r_iadd C dX9_keep_124 ?_
      refine r_aload_n C 0 dX9_keep_125 rfl rfl ?_
      refine gX9_16 C dX9_keep_126 ?_
      refine r_iload_n C 2 dX9_keep_129 rfl rfl ?_
      obtain ⟨q_6, h⟩ := h
      refine r_iald C sh_3 q_6 dX9_keep_130 ?_
      obtain ⟨q_7, h⟩ := h
      refine r_iast C sh_10 q_7 dX9_keep_131 ?_
      replace h := h _ rfl
      refine r_iinc C 2 (v := _) [(2, .int _), (0, .ref _), (1, .int _)] dX9_keep_132 rfl rfl (by decide) rfl ?_
      refine r_goto C 108 dX9_keep_135 (by decide) ?_
      exact r_sub [1, 2, 0] rfl (ih _ _ h)

def f_X9_keep (M : Mem) (K : Mem → Prop) : Prop := (S_X9_keep_6 (12 : Int32) (M.1 0 26) (fun  (M_5 : Mem) => ∀ x1 : Int32, x1 = (172 : Int32) * (M_5.1 0 26) → (∃ k63 : Nat, L_X9_keep_63 x1 (fun  (M_8 : Mem) => (∃ k108 : Nat, L_X9_keep_108 x1 (fun  (M_10 : Mem) => vp_in (x1 + (170 : Int32)) 2064 ∧ ∀ M_11 : Mem, M_11 = wI M_10 10 (x1 + (170 : Int32)).toNatClampNeg (gI M_10 4 (0 : Int32)) → vp_in (x1 + (171 : Int32)) 2064 ∧ ∀ M_12 : Mem, M_12 = wI M_11 10 (x1 + (171 : Int32)).toNatClampNeg (gI M_11 5 (0 : Int32)) → ∀ M_13 : Mem, M_13 = wI M_12 0 26 ((M_12.1 0 26) + (1 : Int32)) → K M_13) K k108 (0 : Int32) M_8)) K k63 (0 : Int32) M_5)) K M)

set_option maxHeartbeats 1000000 in
set_option maxRecDepth 10000 in
theorem m_X9_keep (l : Launch)   {M : Mem} {K : Mem → Prop} (h : f_X9_keep M K) : CTv l yX9_keep cX9_keep 3 none rm_X9_keep (fun ad => [.ref (ad 0)]) M K := by
  refine rw_entv (by decide +kernel) (fun ad => Nat.le_of_ble_eq_true rfl) (fun p e s m args below meth c D cy ad C => ?_)
  change rw_W p l e _ s m args below meth c D cy ad 3 0 0 _ 0 [(0, .ref (ad 0))] [] M
  unfold f_X9_keep at h
  refine r_aload_n C 0 dX9_keep_0 rfl rfl ?_
  refine gX9_247 C dX9_keep_1 ?_
  refine r_bipush (v := (12 : Int32)) C dX9_keep_4 rfl ?_
  refine mS_X9_keep_6 C (fun M_5 h => ?_) h
  refine r_sipush (v := (172 : Int32)) C dX9_keep_52 rfl ?_
  refine r_aload_n C 0 dX9_keep_55 rfl rfl ?_
  refine gX9_247 C dX9_keep_56 ?_
  refine r_imul C dX9_keep_59 ?_
  refine r_istore_n C [(1, .int _), (0, .ref _)] dX9_keep_60 rfl (by decide) rfl ?_
  replace h := h _ rfl
  refine r_iconst (v := (0 : Int32)) C dX9_keep_61 rfl ?_
  refine r_istore_n C [(2, .int _), (1, .int _), (0, .ref _)] dX9_keep_62 rfl (by decide) rfl ?_
  obtain ⟨n63, h⟩ := h
  refine r_sub [2, 1, 0] rfl (mL_X9_keep_63 C (fun M_8 h => ?_) n63 _ _ h)
  refine r_iconst (v := (0 : Int32)) C dX9_keep_106 rfl ?_
  refine r_istore_n C [(2, .int _), (0, .ref _), (1, .int _)] dX9_keep_107 rfl (by decide) rfl ?_
  obtain ⟨n108, h⟩ := h
  refine r_sub [1, 2, 0] rfl (mL_X9_keep_108 C (fun M_10 h => ?_) n108 _ _ h)
  refine r_aload_n C 0 dX9_keep_138 rfl rfl ?_
  refine gX9_41 C dX9_keep_139 ?_
  refine r_iload_n C 1 dX9_keep_142 rfl rfl ?_
  refine r_sipush (v := (170 : Int32)) C dX9_keep_143 rfl ?_
  refine r_iadd C dX9_keep_146 ?_
  refine r_aload_n C 0 dX9_keep_147 rfl rfl ?_
  refine gX9_19 C dX9_keep_148 ?_
  refine r_iconst (v := (0 : Int32)) C dX9_keep_151 rfl ?_
  refine r_iald C sh_4 (vpd (i := (0 : Int32)) (n := 3) (by decide +kernel)) dX9_keep_152 ?_
  obtain ⟨q_8, h⟩ := h
  refine r_iast C sh_10 q_8 dX9_keep_153 ?_
  replace h := h _ rfl
  refine r_aload_n C 0 dX9_keep_154 rfl rfl ?_
  refine gX9_41 C dX9_keep_155 ?_
  refine r_iload_n C 1 dX9_keep_158 rfl rfl ?_
  refine r_sipush (v := (171 : Int32)) C dX9_keep_159 rfl ?_
  refine r_iadd C dX9_keep_162 ?_
  refine r_aload_n C 0 dX9_keep_163 rfl rfl ?_
  refine gX9_22 C dX9_keep_164 ?_
  refine r_iconst (v := (0 : Int32)) C dX9_keep_167 rfl ?_
  refine r_iald C sh_5 (vpd (i := (0 : Int32)) (n := 3) (by decide +kernel)) dX9_keep_168 ?_
  obtain ⟨q_9, h⟩ := h
  refine r_iast C sh_10 q_9 dX9_keep_169 ?_
  replace h := h _ rfl
  refine r_aload_n C 0 dX9_keep_170 rfl rfl ?_
  refine r_dup C dX9_keep_171 rfl ?_
  refine gX9_247 C dX9_keep_172 ?_
  refine r_iconst (v := (1 : Int32)) C dX9_keep_175 rfl ?_
  refine r_iadd C dX9_keep_176 ?_
  refine pX9_247 C dX9_keep_177 ?_
  replace h := h _ rfl
  exact r_vret C dX9_keep_180 h
def L_X9_undo_35 (v1 : Int32) (X78 : Mem → Prop) (K : Int32 → Mem → Prop) : Nat → Int32 → Mem → Prop
  | 0, _, _ => False
  | n + 1, v2, M => (((80 : Int32) ≤ v2 → X78 M) ∧ (¬ (80 : Int32) ≤ v2 → vp_in (v1 + v2) 2064 ∧ vp_in v2 240 ∧ ∀ M_4 : Mem, M_4 = wI M 1 v2.toNatClampNeg (gI M 10 (v1 + v2)) → vp_in ((v1 + (80 : Int32)) + v2) 2064 ∧ ∀ M_5 : Mem, M_5 = wI M_4 2 v2.toNatClampNeg (gI M_4 10 ((v1 + (80 : Int32)) + v2)) → L_X9_undo_35 v1 X78 K n (v2 + (1 : Int32)) M_5))

set_option maxHeartbeats 1000000 in
set_option maxRecDepth 10000 in
theorem mL_X9_undo_35 (C : rw_C p s m meth c cX9_undo 3 RX9 (some .boolean) D cy ad) {v1 : Int32} {X78 : Mem → Prop} {K : Int32 → Mem → Prop} (hX78 : ∀  (M : Mem), X78 M → rw_W p l e rm_X9_undo s m args below meth c D cy ad 3 0 0 (rw_Qi below args s D cy ad K) 78 [(0, .ref (ad 0)), (1, .int v1)] [] M) : ∀ (n : Nat) (v2 : Int32) (M : Mem), L_X9_undo_35 v1 X78 K n v2 M → rw_W p l e rm_X9_undo s m args below meth c D cy ad 3 0 0 (rw_Qi below args s D cy ad K) 35 [(0, .ref (ad 0)), (1, .int v1), (2, .int v2)] [] M := by
  intro n
  induction n with
  | zero => intro v2 M h; exact h.elim
  | succ n ih =>
    intro v2 M h
    refine r_iload_n C 2 dX9_undo_35 rfl rfl ?_
    refine r_bipush (v := (80 : Int32)) C dX9_undo_36 rfl ?_
    refine r_icmp_ge C 78 dX9_undo_38 (by decide) (fun hc => ?_) (fun hc => ?_)
    · replace h := h.1 hc
      exact r_sub [0, 1] rfl (hX78 _ h)
    · replace h := h.2 hc
      refine r_aload_n C 0 dX9_undo_41 rfl rfl ?_
      refine gX9_7 C dX9_undo_42 ?_
      refine r_iload_n C 2 dX9_undo_45 rfl rfl ?_
      refine r_aload_n C 0 dX9_undo_46 rfl rfl ?_
      refine gX9_41 C dX9_undo_47 ?_
      refine r_iload_n C 1 dX9_undo_50 rfl rfl ?_
      refine r_iload_n C 2 dX9_undo_51 rfl rfl ?_
      refine r_iadd C dX9_undo_52 ?_
      obtain ⟨q, h⟩ := h
      refine r_iald C sh_10 q dX9_undo_53 ?_
      obtain ⟨q_2, h⟩ := h
      refine r_iast C sh_1 q_2 dX9_undo_54 ?_
      replace h := h _ rfl
      refine r_aload_n C 0 dX9_undo_55 rfl rfl ?_
      refine gX9_13 C dX9_undo_56 ?_
      refine r_iload_n C 2 dX9_undo_59 rfl rfl ?_
      refine r_aload_n C 0 dX9_undo_60 rfl rfl ?_
      refine gX9_41 C dX9_undo_61 ?_
      refine r_iload_n C 1 dX9_undo_64 rfl rfl ?_
      refine r_bipush (v := (80 : Int32)) C dX9_undo_65 rfl ?_
      refine r_iadd C dX9_undo_67 ?_
      refine r_iload_n C 2 dX9_undo_68 rfl rfl ?_
      refine r_iadd C dX9_undo_69 ?_
      obtain ⟨q_3, h⟩ := h
      refine r_iald C sh_10 q_3 dX9_undo_70 ?_
      refine r_iast C sh_2 q_2 dX9_undo_71 ?_
      replace h := h _ rfl
      refine r_iinc C 2 (v := _) [(2, .int _), (0, .ref _), (1, .int _)] dX9_undo_72 rfl rfl (by decide) rfl ?_
      refine r_goto C 35 dX9_undo_75 (by decide) ?_
      exact r_sub [1, 2, 0] rfl (ih _ _ h)

def L_X9_undo_80 (v1 : Int32) (X110 : Mem → Prop) (K : Int32 → Mem → Prop) : Nat → Int32 → Mem → Prop
  | 0, _, _ => False
  | n + 1, v2, M => (((10 : Int32) ≤ v2 → X110 M) ∧ (¬ (10 : Int32) ≤ v2 → vp_in ((v1 + (160 : Int32)) + v2) 2064 ∧ vp_in v2 30 ∧ ∀ M_7 : Mem, M_7 = wI M 3 v2.toNatClampNeg (gI M 10 ((v1 + (160 : Int32)) + v2)) → L_X9_undo_80 v1 X110 K n (v2 + (1 : Int32)) M_7))

set_option maxHeartbeats 1000000 in
set_option maxRecDepth 10000 in
theorem mL_X9_undo_80 (C : rw_C p s m meth c cX9_undo 3 RX9 (some .boolean) D cy ad) {v1 : Int32} {X110 : Mem → Prop} {K : Int32 → Mem → Prop} (hX110 : ∀  (M : Mem), X110 M → rw_W p l e rm_X9_undo s m args below meth c D cy ad 3 0 0 (rw_Qi below args s D cy ad K) 110 [(0, .ref (ad 0)), (1, .int v1)] [] M) : ∀ (n : Nat) (v2 : Int32) (M : Mem), L_X9_undo_80 v1 X110 K n v2 M → rw_W p l e rm_X9_undo s m args below meth c D cy ad 3 0 0 (rw_Qi below args s D cy ad K) 80 [(0, .ref (ad 0)), (1, .int v1), (2, .int v2)] [] M := by
  intro n
  induction n with
  | zero => intro v2 M h; exact h.elim
  | succ n ih =>
    intro v2 M h
    refine r_iload_n C 2 dX9_undo_80 rfl rfl ?_
    refine r_bipush (v := (10 : Int32)) C dX9_undo_81 rfl ?_
    refine r_icmp_ge C 110 dX9_undo_83 (by decide) (fun hc => ?_) (fun hc => ?_)
    · replace h := h.1 hc
      exact r_sub [0, 1] rfl (hX110 _ h)
    · replace h := h.2 hc
      refine r_aload_n C 0 dX9_undo_86 rfl rfl ?_
      refine gX9_16 C dX9_undo_87 ?_
      refine r_iload_n C 2 dX9_undo_90 rfl rfl ?_
      refine r_aload_n C 0 dX9_undo_91 rfl rfl ?_
      refine gX9_41 C dX9_undo_92 ?_
      refine r_iload_n C 1 dX9_undo_95 rfl rfl ?_
      refine r_sipush (v := (160 : Int32)) C dX9_undo_96 rfl ?_
      refine r_iadd C dX9_undo_99 ?_
      refine r_iload_n C 2 dX9_undo_100 rfl rfl ?_
      refine r_iadd C dX9_undo_101 ?_
      obtain ⟨q_4, h⟩ := h
      refine r_iald C sh_10 q_4 dX9_undo_102 ?_
      obtain ⟨q_5, h⟩ := h
      refine r_iast C sh_3 q_5 dX9_undo_103 ?_
      replace h := h _ rfl
      refine r_iinc C 2 (v := _) [(2, .int _), (0, .ref _), (1, .int _)] dX9_undo_104 rfl rfl (by decide) rfl ?_
      refine r_goto C 80 dX9_undo_107 (by decide) ?_
      exact r_sub [1, 2, 0] rfl (ih _ _ h)

def f_X9_undo (M : Mem) (K : Int32 → Mem → Prop) : Prop := ∀ M_2 : Mem, M_2 = wI M 0 0 (0 : Int32) → ((¬ (M_2.1 0 26) = 0 → ∀ M_3 : Mem, M_3 = wI M_2 0 26 ((M_2.1 0 26) - (1 : Int32)) → ∀ x1 : Int32, x1 = (172 : Int32) * (M_3.1 0 26) → (∃ k35 : Nat, L_X9_undo_35 x1 (fun  (M_6 : Mem) => (∃ k80 : Nat, L_X9_undo_80 x1 (fun  (M_8 : Mem) => vp_in (x1 + (170 : Int32)) 2064 ∧ ∀ M_9 : Mem, M_9 = wI M_8 4 (0 : Int32).toNatClampNeg (gI M_8 10 (x1 + (170 : Int32))) → vp_in (x1 + (171 : Int32)) 2064 ∧ ∀ M_10 : Mem, M_10 = wI M_9 5 (0 : Int32).toNatClampNeg (gI M_9 10 (x1 + (171 : Int32))) → f_X9_another  M_10 (fun (M_11 : Mem) => K (1 : Int32) M_11)) K k80 (0 : Int32) M_6)) K k35 (0 : Int32) M_3)) ∧ ((M_2.1 0 26) = 0 → K (0 : Int32) M_2))

set_option maxHeartbeats 1000000 in
set_option maxRecDepth 10000 in
theorem m_X9_undo (l : Launch)   {M : Mem} {K : Int32 → Mem → Prop} (h : f_X9_undo M K) : CTi l yX9_undo cX9_undo 3 (some .boolean) rm_X9_undo (fun ad => [.ref (ad 0)]) M K := by
  refine rw_enti (by decide +kernel) (fun ad => Nat.le_of_ble_eq_true rfl) (fun p e s m args below meth c D cy ad C => ?_)
  change rw_W p l e _ s m args below meth c D cy ad 3 0 0 _ 0 [(0, .ref (ad 0))] [] M
  unfold f_X9_undo at h
  refine r_aload_n C 0 dX9_undo_0 rfl rfl ?_
  refine r_iconst (v := (0 : Int32)) C dX9_undo_1 rfl ?_
  refine pX9_133 C dX9_undo_2 ?_
  replace h := h _ rfl
  refine r_aload_n C 0 dX9_undo_5 rfl rfl ?_
  refine gX9_247 C dX9_undo_6 ?_
  refine r_if_ne C 14 dX9_undo_9 (by decide) (fun hc => ?_) (fun hc => ?_)
  · replace h := h.1 hc
    refine r_aload_n C 0 dX9_undo_14 rfl rfl ?_
    refine r_dup C dX9_undo_15 rfl ?_
    refine gX9_247 C dX9_undo_16 ?_
    refine r_iconst (v := (1 : Int32)) C dX9_undo_19 rfl ?_
    refine r_isub C dX9_undo_20 ?_
    refine pX9_247 C dX9_undo_21 ?_
    replace h := h _ rfl
    refine r_sipush (v := (172 : Int32)) C dX9_undo_24 rfl ?_
    refine r_aload_n C 0 dX9_undo_27 rfl rfl ?_
    refine gX9_247 C dX9_undo_28 ?_
    refine r_imul C dX9_undo_31 ?_
    refine r_istore_n C [(1, .int _), (0, .ref _)] dX9_undo_32 rfl (by decide) rfl ?_
    replace h := h _ rfl
    refine r_iconst (v := (0 : Int32)) C dX9_undo_33 rfl ?_
    refine r_istore_n C [(2, .int _), (1, .int _), (0, .ref _)] dX9_undo_34 rfl (by decide) rfl ?_
    obtain ⟨n35, h⟩ := h
    refine r_sub [2, 1, 0] rfl (mL_X9_undo_35 C (fun M_6 h => ?_) n35 _ _ h)
    refine r_iconst (v := (0 : Int32)) C dX9_undo_78 rfl ?_
    refine r_istore_n C [(2, .int _), (0, .ref _), (1, .int _)] dX9_undo_79 rfl (by decide) rfl ?_
    obtain ⟨n80, h⟩ := h
    refine r_sub [1, 2, 0] rfl (mL_X9_undo_80 C (fun M_8 h => ?_) n80 _ _ h)
    refine r_aload_n C 0 dX9_undo_110 rfl rfl ?_
    refine gX9_19 C dX9_undo_111 ?_
    refine r_iconst (v := (0 : Int32)) C dX9_undo_114 rfl ?_
    refine r_aload_n C 0 dX9_undo_115 rfl rfl ?_
    refine gX9_41 C dX9_undo_116 ?_
    refine r_iload_n C 1 dX9_undo_119 rfl rfl ?_
    refine r_sipush (v := (170 : Int32)) C dX9_undo_120 rfl ?_
    refine r_iadd C dX9_undo_123 ?_
    obtain ⟨q_6, h⟩ := h
    refine r_iald C sh_10 q_6 dX9_undo_124 ?_
    refine r_iast C sh_4 (vpd (i := (0 : Int32)) (n := 3) (by decide +kernel)) dX9_undo_125 ?_
    replace h := h _ rfl
    refine r_aload_n C 0 dX9_undo_126 rfl rfl ?_
    refine gX9_22 C dX9_undo_127 ?_
    refine r_iconst (v := (0 : Int32)) C dX9_undo_130 rfl ?_
    refine r_aload_n C 0 dX9_undo_131 rfl rfl ?_
    refine gX9_41 C dX9_undo_132 ?_
    refine r_iload_n C 1 dX9_undo_135 rfl rfl ?_
    refine r_sipush (v := (171 : Int32)) C dX9_undo_136 rfl ?_
    refine r_iadd C dX9_undo_139 ?_
    obtain ⟨q_7, h⟩ := h
    refine r_iald C sh_10 q_7 dX9_undo_140 ?_
    refine r_iast C sh_5 (vpd (i := (0 : Int32)) (n := 3) (by decide +kernel)) dX9_undo_141 ?_
    replace h := h _ rfl
    refine r_aload_n C 0 dX9_undo_142 rfl rfl ?_
    refine cX9_250 C (m_X9_another l h) ⟨Nat.le_of_ble_eq_true rfl, Nat.le_of_ble_eq_true rfl⟩ (Nat.le_of_ble_eq_true rfl) ⟨Nat.le_refl 0, Nat.le_refl 0⟩ dX9_undo_143 (fun M_11 h => ?_)
    refine r_iconst (v := (1 : Int32)) C dX9_undo_146 rfl ?_
    exact r_zret C (by decide) dX9_undo_147 h
  · replace h := h.2 hc
    refine r_iconst (v := (0 : Int32)) C dX9_undo_12 rfl ?_
    exact r_zret C (by decide) dX9_undo_13 h
def L_X9_canBe_18 (v1 : Int32) (v2 : Int32) (v3 : Nat) (v4 : Int32) (X89 : Mem → Prop) (K : Int32 → Mem → Prop) : Nat → Int32 → Mem → Prop
  | 0, _, _ => False
  | n + 1, v5, M => (((10 : Int32) ≤ v5 → X89 M) ∧ (¬ (10 : Int32) ≤ v5 → f_X9_arcAt v1 v2 v5 M (fun (r_2 : Int32) (M_3 : Mem) => vp_in (v4 + v5) (alen v3) ∧ vp_in r_2 240 ∧ (((gI M_3 v3 (v4 + v5)) < (gI M_3 1 r_2) → K (0 : Int32) M_3) ∧ (¬ (gI M_3 v3 (v4 + v5)) < (gI M_3 1 r_2) → (((((gI M_3 v3 (v4 + v5)) - (gI M_3 1 r_2)) + (gI M_3 2 r_2)) ≤ (999 : Int32) → L_X9_canBe_18 v1 v2 v3 v4 X89 K n (v5 + (1 : Int32)) M_3) ∧ (¬ (((gI M_3 v3 (v4 + v5)) - (gI M_3 1 r_2)) + (gI M_3 2 r_2)) ≤ (999 : Int32) → K (0 : Int32) M_3)))))))

set_option maxHeartbeats 1000000 in
set_option maxRecDepth 10000 in
theorem mL_X9_canBe_18 (C : rw_C p s m meth c cX9_canBe 7 RX9 (some .boolean) D cy ad) {v1 : Int32} {v2 : Int32} {v3 : Nat} {v4 : Int32} (h_v3 : isA v3 0 (alen v3)) {X89 : Mem → Prop} {K : Int32 → Mem → Prop} (hX89 : ∀  (M : Mem), X89 M → rw_W p l e rm_X9_canBe s m args below meth c D cy ad 7 0 0 (rw_Qi below args s D cy ad K) 89 [] [] M) : ∀ (n : Nat) (v5 : Int32) (M : Mem), L_X9_canBe_18 v1 v2 v3 v4 X89 K n v5 M → rw_W p l e rm_X9_canBe s m args below meth c D cy ad 7 0 0 (rw_Qi below args s D cy ad K) 18 [(0, .ref (ad 0)), (1, .int v1), (2, .int v2), (3, .ref (ad v3)), (4, .int v4), (5, .int v5)] [] M := by
  intro n
  induction n with
  | zero => intro v5 M h; exact h.elim
  | succ n ih =>
    intro v5 M h
    refine r_iload C 5 dX9_canBe_18 rfl ?_
    refine r_bipush (v := (10 : Int32)) C dX9_canBe_20 rfl ?_
    refine r_icmp_ge C 89 dX9_canBe_22 (by decide) (fun hc => ?_) (fun hc => ?_)
    · replace h := h.1 hc
      exact r_sub [] rfl (hX89 _ h)
    · replace h := h.2 hc
      refine r_aload_n C 0 dX9_canBe_25 rfl rfl ?_
      refine r_iload_n C 1 dX9_canBe_26 rfl rfl ?_
      refine r_iload_n C 2 dX9_canBe_27 rfl rfl ?_
      refine r_iload C 5 dX9_canBe_28 rfl ?_
      refine cX9_144 C (m_X9_arcAt l h) ⟨Nat.le_of_ble_eq_true rfl, Nat.le_of_ble_eq_true rfl⟩ (Nat.le_of_ble_eq_true rfl) ⟨Nat.le_refl 0, Nat.le_refl 0⟩ dX9_canBe_30 (fun r_2 M_3 h => ?_)
      refine r_istore C [(6, .int _), (0, .ref _), (1, .int _), (2, .int _), (3, .ref _), (4, .int _), (5, .int _)] dX9_canBe_33 (by decide) rfl ?_
      refine r_aload_n C 4 dX9_canBe_35 rfl rfl ?_
      refine r_iload C 5 dX9_canBe_36 rfl ?_
      refine r_iload C 6 dX9_canBe_38 rfl ?_
      refine r_iadd C dX9_canBe_40 ?_
      obtain ⟨q_2, h⟩ := h
      refine r_iald C h_v3 q_2 dX9_canBe_41 ?_
      refine r_aload_n C 1 dX9_canBe_42 rfl rfl ?_
      refine gX9_7 C dX9_canBe_43 ?_
      refine r_iload C 0 dX9_canBe_46 rfl ?_
      obtain ⟨q_3, h⟩ := h
      refine r_iald C sh_1 q_3 dX9_canBe_48 ?_
      refine r_icmp_lt C 81 dX9_canBe_49 (by decide) (fun hc => ?_) (fun hc => ?_)
      · replace h := h.1 hc
        refine r_iconst (v := (0 : Int32)) C dX9_canBe_81 rfl ?_
        exact r_zret C (by decide) dX9_canBe_82 h
      · replace h := h.2 hc
        refine r_aload_n C 4 dX9_canBe_52 rfl rfl ?_
        refine r_iload C 5 dX9_canBe_53 rfl ?_
        refine r_iload C 6 dX9_canBe_55 rfl ?_
        refine r_iadd C dX9_canBe_57 ?_
        refine r_iald C h_v3 q_2 dX9_canBe_58 ?_
        refine r_aload_n C 1 dX9_canBe_59 rfl rfl ?_
        refine gX9_7 C dX9_canBe_60 ?_
        refine r_iload C 0 dX9_canBe_63 rfl ?_
        refine r_iald C sh_1 q_3 dX9_canBe_65 ?_
        refine r_isub C dX9_canBe_66 ?_
        refine r_aload_n C 1 dX9_canBe_67 rfl rfl ?_
        refine gX9_13 C dX9_canBe_68 ?_
        refine r_iload C 0 dX9_canBe_71 rfl ?_
        refine r_iald C sh_2 q_3 dX9_canBe_73 ?_
        refine r_iadd C dX9_canBe_74 ?_
        refine r_sipush (v := (999 : Int32)) C dX9_canBe_75 rfl ?_
        refine r_icmp_le C 83 dX9_canBe_78 (by decide) (fun hc => ?_) (fun hc => ?_)
        · replace h := h.1 hc
          refine r_iinc C 6 (v := _) [(5, .int _), (6, .int _), (0, .ref _), (1, .int _), (2, .int _), (3, .ref _), (4, .int _)] dX9_canBe_83 rfl rfl (by decide) rfl ?_
          refine r_goto C 18 dX9_canBe_86 (by decide) ?_
          exact r_sub [2, 3, 4, 5, 6, 0] rfl (ih _ _ h)
        · replace h := h.2 hc
          refine r_iconst (v := (0 : Int32)) C dX9_canBe_81 rfl ?_
          exact r_zret C (by decide) dX9_canBe_82 h

def f_X9_canBe (v1 : Int32) (v2 : Int32) (v3 : Nat) (v4 : Int32) (M : Mem) (K : Int32 → Mem → Prop) : Prop := vp_in v1 3 ∧ f_X9_isOf (gI M 5 v1) v2 M (fun (r : Int32) (M_2 : Mem) => ((¬ r = 0 → (∃ k18 : Nat, L_X9_canBe_18 v1 v2 v3 v4 (fun  (M_4 : Mem) => K (1 : Int32) M_4) K k18 (0 : Int32) M_2)) ∧ (r = 0 → K (0 : Int32) M_2)))

set_option maxHeartbeats 1000000 in
set_option maxRecDepth 10000 in
theorem m_X9_canBe (l : Launch) {v1 : Int32} {v2 : Int32} {v3 : Nat} {v4 : Int32} (h_v3 : isI v3) {M : Mem} {K : Int32 → Mem → Prop} (h : f_X9_canBe v1 v2 v3 v4 M K) : CTi l yX9_canBe cX9_canBe 7 (some .boolean) rm_X9_canBe (fun ad => [.ref (ad 0), .int v1, .int v2, .ref (ad v3), .int v4]) M K := by
  refine rw_enti (by decide +kernel) (fun ad => Nat.le_of_ble_eq_true rfl) (fun p e s m args below meth c D cy ad C => ?_)
  change rw_W p l e _ s m args below meth c D cy ad 7 0 0 _ 0 [(0, .ref (ad 0)), (1, .int v1), (2, .int v2), (3, .ref (ad v3)), (4, .int v4)] [] M
  unfold f_X9_canBe at h
  refine r_aload_n C 0 dX9_canBe_0 rfl rfl ?_
  refine gX9_22 C dX9_canBe_1 ?_
  refine r_iload_n C 1 dX9_canBe_4 rfl rfl ?_
  obtain ⟨q, h⟩ := h
  refine r_iald C sh_5 q dX9_canBe_5 ?_
  refine r_iload_n C 2 dX9_canBe_6 rfl rfl ?_
  refine cX9_140 C (m_X9_isOf l h) ⟨Nat.le_of_ble_eq_true rfl, Nat.le_of_ble_eq_true rfl⟩ (Nat.le_of_ble_eq_true rfl) ⟨Nat.le_refl 0, Nat.le_refl 0⟩ dX9_canBe_7 (fun r M_2 h => ?_)
  refine r_if_ne C 15 dX9_canBe_10 (by decide) (fun hc => ?_) (fun hc => ?_)
  · replace h := h.1 hc
    refine r_iconst (v := (0 : Int32)) C dX9_canBe_15 rfl ?_
    refine r_istore C [(5, .int _), (0, .ref _), (1, .int _), (2, .int _), (3, .ref _), (4, .int _)] dX9_canBe_16 (by decide) rfl ?_
    obtain ⟨n18, h⟩ := h
    refine r_sub [1, 2, 3, 4, 5, 0] rfl (mL_X9_canBe_18 C h_v3 (fun M_4 h => ?_) n18 _ _ h)
    refine r_iconst (v := (1 : Int32)) C dX9_canBe_89 rfl ?_
    exact r_zret C (by decide) dX9_canBe_90 h
  · replace h := h.2 hc
    refine r_iconst (v := (0 : Int32)) C dX9_canBe_13 rfl ?_
    exact r_zret C (by decide) dX9_canBe_14 h
def L_X9_allThatCan_4 (X40 : Int32 → Mem → Prop) (K : Int32 → Mem → Prop) : Nat → Int32 → Int32 → Mem → Prop
  | 0, _, _, _ => False
  | n + 1, v1, v2, M => (((8 : Int32) ≤ v2 → X40 v1 M) ∧ (¬ (8 : Int32) ≤ v2 → f_X9_canBe (0 : Int32) v2 3 (0 : Int32) M (fun (r : Int32) (M_2 : Mem) => ((r = 0 → ∀ x1 : Int32, x1 = v1 ||| (0 : Int32) → L_X9_allThatCan_4 X40 K n x1 (v2 + (1 : Int32)) M_2) ∧ (¬ r = 0 → ∀ x1_2 : Int32, x1_2 = v1 ||| ((1 : Int32) <<< (v2 &&& 31)) → L_X9_allThatCan_4 X40 K n x1_2 (v2 + (1 : Int32)) M_2)))))

set_option maxHeartbeats 1000000 in
set_option maxRecDepth 10000 in
theorem mL_X9_allThatCan_4 (C : rw_C p s m meth c cX9_allThatCan 3 RX9 (some .int) D cy ad) {X40 : Int32 → Mem → Prop} {K : Int32 → Mem → Prop} (hX40 : ∀ (u1 : Int32) (M : Mem), X40 u1 M → rw_W p l e rm_X9_allThatCan s m args below meth c D cy ad 3 0 0 (rw_Qi below args s D cy ad K) 40 [(1, .int u1)] [] M) : ∀ (n : Nat) (v1 : Int32) (v2 : Int32) (M : Mem), L_X9_allThatCan_4 X40 K n v1 v2 M → rw_W p l e rm_X9_allThatCan s m args below meth c D cy ad 3 0 0 (rw_Qi below args s D cy ad K) 4 [(0, .ref (ad 0)), (1, .int v1), (2, .int v2)] [] M := by
  intro n
  induction n with
  | zero => intro v1 v2 M h; exact h.elim
  | succ n ih =>
    intro v1 v2 M h
    refine r_iload_n C 2 dX9_allThatCan_4 rfl rfl ?_
    refine r_bipush (v := (8 : Int32)) C dX9_allThatCan_5 rfl ?_
    refine r_icmp_ge C 40 dX9_allThatCan_7 (by decide) (fun hc => ?_) (fun hc => ?_)
    · replace h := h.1 hc
      exact r_sub [1] rfl (hX40 _ _ h)
    · replace h := h.2 hc
      refine r_iload_n C 1 dX9_allThatCan_10 rfl rfl ?_
      refine r_aload_n C 0 dX9_allThatCan_11 rfl rfl ?_
      refine r_iconst (v := (0 : Int32)) C dX9_allThatCan_12 rfl ?_
      refine r_iload_n C 2 dX9_allThatCan_13 rfl rfl ?_
      refine r_aload_n C 0 dX9_allThatCan_14 rfl rfl ?_
      refine gX9_16 C dX9_allThatCan_15 ?_
      refine r_iconst (v := (0 : Int32)) C dX9_allThatCan_18 rfl ?_
      refine cX9_292 C (m_X9_canBe l (isI_of sh_3) h) ⟨Nat.le_of_ble_eq_true rfl, Nat.le_of_ble_eq_true rfl⟩ (Nat.le_of_ble_eq_true rfl) ⟨Nat.le_refl 0, Nat.le_refl 0⟩ dX9_allThatCan_19 (fun r M_2 h => ?_)
      refine r_if_eq C 31 dX9_allThatCan_22 (by decide) (fun hc => ?_) (fun hc => ?_)
      · replace h := h.1 hc
        refine r_iconst (v := (0 : Int32)) C dX9_allThatCan_31 rfl ?_
        refine r_ior C dX9_allThatCan_32 ?_
        refine r_istore_n C [(1, .int _), (0, .ref _), (2, .int _)] dX9_allThatCan_33 rfl (by decide) rfl ?_
        replace h := h _ rfl
        refine r_iinc C 2 (v := _) [(2, .int _), (1, .int _), (0, .ref _)] dX9_allThatCan_34 rfl rfl (by decide) rfl ?_
        refine r_goto C 4 dX9_allThatCan_37 (by decide) ?_
        exact r_sub [2, 1, 0] rfl (ih _ _ _ h)
      · replace h := h.2 hc
        refine r_iconst (v := (1 : Int32)) C dX9_allThatCan_25 rfl ?_
        refine r_iload_n C 2 dX9_allThatCan_26 rfl rfl ?_
        refine r_ishl C dX9_allThatCan_27 ?_
        refine r_goto C 32 dX9_allThatCan_28 (by decide) ?_
        refine r_ior C dX9_allThatCan_32 ?_
        refine r_istore_n C [(1, .int _), (0, .ref _), (2, .int _)] dX9_allThatCan_33 rfl (by decide) rfl ?_
        replace h := h _ rfl
        refine r_iinc C 2 (v := _) [(2, .int _), (1, .int _), (0, .ref _)] dX9_allThatCan_34 rfl rfl (by decide) rfl ?_
        refine r_goto C 4 dX9_allThatCan_37 (by decide) ?_
        exact r_sub [2, 1, 0] rfl (ih _ _ _ h)

def f_X9_allThatCan (M : Mem) (K : Int32 → Mem → Prop) : Prop := (∃ k4 : Nat, L_X9_allThatCan_4 (fun (v1_2 : Int32) (M_3 : Mem) => K v1_2 M_3) K k4 (0 : Int32) (0 : Int32) M)

set_option maxHeartbeats 1000000 in
set_option maxRecDepth 10000 in
theorem m_X9_allThatCan (l : Launch)   {M : Mem} {K : Int32 → Mem → Prop} (h : f_X9_allThatCan M K) : CTi l yX9_allThatCan cX9_allThatCan 3 (some .int) rm_X9_allThatCan (fun ad => [.ref (ad 0)]) M K := by
  refine rw_enti (by decide +kernel) (fun ad => Nat.le_of_ble_eq_true rfl) (fun p e s m args below meth c D cy ad C => ?_)
  change rw_W p l e _ s m args below meth c D cy ad 3 0 0 _ 0 [(0, .ref (ad 0))] [] M
  unfold f_X9_allThatCan at h
  refine r_iconst (v := (0 : Int32)) C dX9_allThatCan_0 rfl ?_
  refine r_istore_n C [(1, .int _), (0, .ref _)] dX9_allThatCan_1 rfl (by decide) rfl ?_
  refine r_iconst (v := (0 : Int32)) C dX9_allThatCan_2 rfl ?_
  refine r_istore_n C [(2, .int _), (1, .int _), (0, .ref _)] dX9_allThatCan_3 rfl (by decide) rfl ?_
  obtain ⟨n4, h⟩ := h
  refine r_sub [2, 1, 0] rfl (mL_X9_allThatCan_4 C (fun v1_2 M_3 h => ?_) n4 _ _ _ h)
  refine r_iload_n C 0 dX9_allThatCan_40 rfl rfl ?_
  exact r_iret C dX9_allThatCan_41 h
def L_X9_does_2 (v1 : Int32) (X30 : Mem → Prop) (K : Mem → Prop) : Nat → Int32 → Mem → Prop
  | 0, _, _ => False
  | n + 1, v2, M => (((10 : Int32) ≤ v2 → X30 M) ∧ (¬ (10 : Int32) ≤ v2 → vp_in v2 30 ∧ f_X9_change (0 : Int32) v1 v2 M (fun (r : Int32) (M_2 : Mem) => ∀ M_3 : Mem, M_3 = wI M_2 3 v2.toNatClampNeg ((gI M 3 v2) + r) → L_X9_does_2 v1 X30 K n (v2 + (1 : Int32)) M_3)))

set_option maxHeartbeats 1000000 in
set_option maxRecDepth 10000 in
theorem mL_X9_does_2 (C : rw_C p s m meth c cX9_does 3 RX9 none D cy ad) {v1 : Int32} {X30 : Mem → Prop} {K : Mem → Prop} (hX30 : ∀  (M : Mem), X30 M → rw_W p l e rm_X9_does s m args below meth c D cy ad 3 0 0 (rw_Qv below args s D cy ad K) 30 [] [] M) : ∀ (n : Nat) (v2 : Int32) (M : Mem), L_X9_does_2 v1 X30 K n v2 M → rw_W p l e rm_X9_does s m args below meth c D cy ad 3 0 0 (rw_Qv below args s D cy ad K) 2 [(0, .ref (ad 0)), (1, .int v1), (2, .int v2)] [] M := by
  intro n
  induction n with
  | zero => intro v2 M h; exact h.elim
  | succ n ih =>
    intro v2 M h
    refine r_iload_n C 2 dX9_does_2 rfl rfl ?_
    refine r_bipush (v := (10 : Int32)) C dX9_does_3 rfl ?_
    refine r_icmp_ge C 30 dX9_does_5 (by decide) (fun hc => ?_) (fun hc => ?_)
    · replace h := h.1 hc
      exact r_sub [] rfl (hX30 _ h)
    · replace h := h.2 hc
      refine r_aload_n C 0 dX9_does_8 rfl rfl ?_
      refine gX9_16 C dX9_does_9 ?_
      refine r_iload_n C 2 dX9_does_12 rfl rfl ?_
      refine r_dup2_11 C dX9_does_13 rfl rfl ?_
      obtain ⟨q, h⟩ := h
      refine r_iald C sh_3 q dX9_does_14 ?_
      refine r_aload_n C 0 dX9_does_15 rfl rfl ?_
      refine r_iconst (v := (0 : Int32)) C dX9_does_16 rfl ?_
      refine r_iload_n C 1 dX9_does_17 rfl rfl ?_
      refine r_iload_n C 2 dX9_does_18 rfl rfl ?_
      refine cX9_279 C (m_X9_change l h) ⟨Nat.le_of_ble_eq_true rfl, Nat.le_of_ble_eq_true rfl⟩ (Nat.le_of_ble_eq_true rfl) ⟨Nat.le_refl 0, Nat.le_refl 0⟩ dX9_does_19 (fun r M_2 h => ?_)
      refine r_iadd C dX9_does_22 ?_
      refine r_iast C sh_3 q dX9_does_23 ?_
      replace h := h _ rfl
      refine r_iinc C 2 (v := _) [(2, .int _), (0, .ref _), (1, .int _)] dX9_does_24 rfl rfl (by decide) rfl ?_
      refine r_goto C 2 dX9_does_27 (by decide) ?_
      exact r_sub [1, 2, 0] rfl (ih _ _ h)

def f_X9_does (v1 : Int32) (M : Mem) (K : Mem → Prop) : Prop := (∃ k2 : Nat, L_X9_does_2 v1 (fun  (M_4 : Mem) => K M_4) K k2 (0 : Int32) M)

set_option maxHeartbeats 1000000 in
set_option maxRecDepth 10000 in
theorem m_X9_does (l : Launch) {v1 : Int32}  {M : Mem} {K : Mem → Prop} (h : f_X9_does v1 M K) : CTv l yX9_does cX9_does 3 none rm_X9_does (fun ad => [.ref (ad 0), .int v1]) M K := by
  refine rw_entv (by decide +kernel) (fun ad => Nat.le_of_ble_eq_true rfl) (fun p e s m args below meth c D cy ad C => ?_)
  change rw_W p l e _ s m args below meth c D cy ad 3 0 0 _ 0 [(0, .ref (ad 0)), (1, .int v1)] [] M
  unfold f_X9_does at h
  refine r_iconst (v := (0 : Int32)) C dX9_does_0 rfl ?_
  refine r_istore_n C [(2, .int _), (0, .ref _), (1, .int _)] dX9_does_1 rfl (by decide) rfl ?_
  obtain ⟨n2, h⟩ := h
  refine r_sub [1, 2, 0] rfl (mL_X9_does_2 C (fun M_4 h => ?_) n2 _ _ h)
  exact r_vret C dX9_does_30 h
def f_X9_fire (v1 : Int32) (M : Mem) (K : Int32 → Mem → Prop) : Prop := ∀ M_2 : Mem, M_2 = wI M 0 0 (0 : Int32) → f_X9_isStep v1 M_2 (fun (r : Int32) (M_3 : Mem) => ((r = 0 → K (-1 : Int32) M_3) ∧ (¬ r = 0 → f_X9_canBe (0 : Int32) v1 3 (0 : Int32) M_3 (fun (r_2 : Int32) (M_4 : Mem) => ((¬ r_2 = 0 → f_X9_keep  M_4 (fun (M_5 : Mem) => f_X9_does v1 M_5 (fun (M_6 : Mem) => f_X9_moved  M_6 (fun (M_7 : Mem) => f_X9_allThatCan  M_7 (fun (r_6 : Int32) (M_8 : Mem) => K r_6 M_8))))) ∧ (r_2 = 0 → K (-1 : Int32) M_4))))))

set_option maxHeartbeats 1000000 in
set_option maxRecDepth 10000 in
theorem m_X9_fire (l : Launch) {v1 : Int32}  {M : Mem} {K : Int32 → Mem → Prop} (h : f_X9_fire v1 M K) : CTi l yX9_fire cX9_fire 2 (some .int) rm_X9_fire (fun ad => [.ref (ad 0), .int v1]) M K := by
  refine rw_enti (by decide +kernel) (fun ad => Nat.le_of_ble_eq_true rfl) (fun p e s m args below meth c D cy ad C => ?_)
  change rw_W p l e _ s m args below meth c D cy ad 2 0 0 _ 0 [(0, .ref (ad 0)), (1, .int v1)] [] M
  unfold f_X9_fire at h
  refine r_aload_n C 0 dX9_fire_0 rfl rfl ?_
  refine r_iconst (v := (0 : Int32)) C dX9_fire_1 rfl ?_
  refine pX9_133 C dX9_fire_2 ?_
  replace h := h _ rfl
  refine r_aload_n C 0 dX9_fire_5 rfl rfl ?_
  refine r_iload_n C 1 dX9_fire_6 rfl rfl ?_
  refine cX9_272 C (m_X9_isStep l h) ⟨Nat.le_of_ble_eq_true rfl, Nat.le_of_ble_eq_true rfl⟩ (Nat.le_of_ble_eq_true rfl) ⟨Nat.le_refl 0, Nat.le_refl 0⟩ dX9_fire_7 (fun r M_3 h => ?_)
  refine r_if_eq C 27 dX9_fire_10 (by decide) (fun hc => ?_) (fun hc => ?_)
  · replace h := h.1 hc
    refine r_iconst (v := (-1 : Int32)) C dX9_fire_27 rfl ?_
    exact r_iret C dX9_fire_28 h
  · replace h := h.2 hc
    refine r_aload_n C 0 dX9_fire_13 rfl rfl ?_
    refine r_iconst (v := (0 : Int32)) C dX9_fire_14 rfl ?_
    refine r_iload_n C 1 dX9_fire_15 rfl rfl ?_
    refine r_aload_n C 0 dX9_fire_16 rfl rfl ?_
    refine gX9_16 C dX9_fire_17 ?_
    refine r_iconst (v := (0 : Int32)) C dX9_fire_20 rfl ?_
    refine cX9_292 C (m_X9_canBe l (isI_of sh_3) h) ⟨Nat.le_of_ble_eq_true rfl, Nat.le_of_ble_eq_true rfl⟩ (Nat.le_of_ble_eq_true rfl) ⟨Nat.le_refl 0, Nat.le_refl 0⟩ dX9_fire_21 (fun r_2 M_4 h => ?_)
    refine r_if_ne C 29 dX9_fire_24 (by decide) (fun hc => ?_) (fun hc => ?_)
    · replace h := h.1 hc
      refine r_aload_n C 0 dX9_fire_29 rfl rfl ?_
      refine cX9_296 C (m_X9_keep l h) ⟨Nat.le_of_ble_eq_true rfl, Nat.le_of_ble_eq_true rfl⟩ (Nat.le_of_ble_eq_true rfl) ⟨Nat.le_refl 0, Nat.le_refl 0⟩ dX9_fire_30 (fun M_5 h => ?_)
      refine r_aload_n C 0 dX9_fire_33 rfl rfl ?_
      refine r_iload_n C 1 dX9_fire_34 rfl rfl ?_
      refine cX9_299 C (m_X9_does l h) ⟨Nat.le_of_ble_eq_true rfl, Nat.le_of_ble_eq_true rfl⟩ (Nat.le_of_ble_eq_true rfl) ⟨Nat.le_refl 0, Nat.le_refl 0⟩ dX9_fire_35 (fun M_6 h => ?_)
      refine r_aload_n C 0 dX9_fire_38 rfl rfl ?_
      refine cX9_263 C (m_X9_moved l h) ⟨Nat.le_of_ble_eq_true rfl, Nat.le_of_ble_eq_true rfl⟩ (Nat.le_of_ble_eq_true rfl) ⟨Nat.le_refl 0, Nat.le_refl 0⟩ dX9_fire_39 (fun M_7 h => ?_)
      refine r_aload_n C 0 dX9_fire_42 rfl rfl ?_
      refine cX9_302 C (m_X9_allThatCan l h) ⟨Nat.le_of_ble_eq_true rfl, Nat.le_of_ble_eq_true rfl⟩ (Nat.le_of_ble_eq_true rfl) ⟨Nat.le_refl 0, Nat.le_refl 0⟩ dX9_fire_43 (fun r_6 M_8 h => ?_)
      exact r_iret C dX9_fire_46 h
    · replace h := h.2 hc
      refine r_iconst (v := (-1 : Int32)) C dX9_fire_27 rfl ?_
      exact r_iret C dX9_fire_28 h
def f_X9_set (v1 : Int32) (v2 : Int32) (M : Mem) (K : Int32 → Mem → Prop) : Prop := ∀ M_2 : Mem, M_2 = wI M 0 0 (0 : Int32) → f_X9_isPlace v1 M_2 (fun (r : Int32) (M_3 : Mem) => ((r = 0 → K (-1 : Int32) M_3) ∧ (¬ r = 0 → f_X9_in v2 (0 : Int32) (999 : Int32) M_3 (fun (r_2 : Int32) (M_4 : Mem) => ((r_2 = 0 → K (-1 : Int32) M_4) ∧ (¬ r_2 = 0 → vp_in v1 30 ∧ ((¬ (gI M_4 3 v1) = v2 → f_X9_keep  M_4 (fun (M_5 : Mem) => ∀ x3 : Int32, x3 = gI M_5 3 v1 → ∀ M_6 : Mem, M_6 = wI M_5 3 v1.toNatClampNeg v2 → f_X9_moved  M_6 (fun (M_7 : Mem) => K x3 M_7))) ∧ ((gI M_4 3 v1) = v2 → K (-1 : Int32) M_4))))))))

set_option maxHeartbeats 1000000 in
set_option maxRecDepth 10000 in
theorem m_X9_set (l : Launch) {v1 : Int32} {v2 : Int32}  {M : Mem} {K : Int32 → Mem → Prop} (h : f_X9_set v1 v2 M K) : CTi l yX9_set cX9_set 4 (some .int) rm_X9_set (fun ad => [.ref (ad 0), .int v1, .int v2]) M K := by
  refine rw_enti (by decide +kernel) (fun ad => Nat.le_of_ble_eq_true rfl) (fun p e s m args below meth c D cy ad C => ?_)
  change rw_W p l e _ s m args below meth c D cy ad 4 0 0 _ 0 [(0, .ref (ad 0)), (1, .int v1), (2, .int v2)] [] M
  unfold f_X9_set at h
  refine r_aload_n C 0 dX9_set_0 rfl rfl ?_
  refine r_iconst (v := (0 : Int32)) C dX9_set_1 rfl ?_
  refine pX9_133 C dX9_set_2 ?_
  replace h := h _ rfl
  refine r_aload_n C 0 dX9_set_5 rfl rfl ?_
  refine r_iload_n C 1 dX9_set_6 rfl rfl ?_
  refine cX9_275 C (m_X9_isPlace l h) ⟨Nat.le_of_ble_eq_true rfl, Nat.le_of_ble_eq_true rfl⟩ (Nat.le_of_ble_eq_true rfl) ⟨Nat.le_refl 0, Nat.le_refl 0⟩ dX9_set_7 (fun r M_3 h => ?_)
  refine r_if_eq C 34 dX9_set_10 (by decide) (fun hc => ?_) (fun hc => ?_)
  · replace h := h.1 hc
    refine r_iconst (v := (-1 : Int32)) C dX9_set_34 rfl ?_
    exact r_iret C dX9_set_35 h
  · replace h := h.2 hc
    refine r_iload_n C 2 dX9_set_13 rfl rfl ?_
    refine r_iconst (v := (0 : Int32)) C dX9_set_14 rfl ?_
    refine r_sipush (v := (999 : Int32)) C dX9_set_15 rfl ?_
    refine cX9_136 C (m_X9_in l h) ⟨Nat.le_of_ble_eq_true rfl, Nat.le_of_ble_eq_true rfl⟩ (Nat.le_of_ble_eq_true rfl) ⟨Nat.le_refl 0, Nat.le_refl 0⟩ dX9_set_18 (fun r_2 M_4 h => ?_)
    refine r_if_eq C 34 dX9_set_21 (by decide) (fun hc => ?_) (fun hc => ?_)
    · replace h := h.1 hc
      refine r_iconst (v := (-1 : Int32)) C dX9_set_34 rfl ?_
      exact r_iret C dX9_set_35 h
    · replace h := h.2 hc
      refine r_aload_n C 0 dX9_set_24 rfl rfl ?_
      refine gX9_16 C dX9_set_25 ?_
      refine r_iload_n C 1 dX9_set_28 rfl rfl ?_
      obtain ⟨q, h⟩ := h
      refine r_iald C sh_3 q dX9_set_29 ?_
      refine r_iload_n C 2 dX9_set_30 rfl rfl ?_
      refine r_icmp_ne C 36 dX9_set_31 (by decide) (fun hc => ?_) (fun hc => ?_)
      · replace h := h.1 hc
        refine r_aload_n C 0 dX9_set_36 rfl rfl ?_
        refine cX9_296 C (m_X9_keep l h) ⟨Nat.le_of_ble_eq_true rfl, Nat.le_of_ble_eq_true rfl⟩ (Nat.le_of_ble_eq_true rfl) ⟨Nat.le_refl 0, Nat.le_refl 0⟩ dX9_set_37 (fun M_5 h => ?_)
        refine r_aload_n C 0 dX9_set_40 rfl rfl ?_
        refine gX9_16 C dX9_set_41 ?_
        refine r_iload_n C 1 dX9_set_44 rfl rfl ?_
        refine r_iald C sh_3 q dX9_set_45 ?_
        refine r_istore_n C [(3, .int _), (0, .ref _), (1, .int _), (2, .int _)] dX9_set_46 rfl (by decide) rfl ?_
        replace h := h _ rfl
        refine r_aload_n C 1 dX9_set_47 rfl rfl ?_
        refine gX9_16 C dX9_set_48 ?_
        refine r_iload_n C 2 dX9_set_51 rfl rfl ?_
        refine r_iload_n C 3 dX9_set_52 rfl rfl ?_
        refine r_iast C sh_3 q dX9_set_53 ?_
        replace h := h _ rfl
        refine r_aload_n C 1 dX9_set_54 rfl rfl ?_
        refine cX9_263 C (m_X9_moved l h) ⟨Nat.le_of_ble_eq_true rfl, Nat.le_of_ble_eq_true rfl⟩ (Nat.le_of_ble_eq_true rfl) ⟨Nat.le_refl 0, Nat.le_refl 0⟩ dX9_set_55 (fun M_7 h => ?_)
        refine r_iload_n C 0 dX9_set_58 rfl rfl ?_
        exact r_iret C dX9_set_59 h
      · replace h := h.2 hc
        refine r_iconst (v := (-1 : Int32)) C dX9_set_34 rfl ?_
        exact r_iret C dX9_set_35 h
end MG
