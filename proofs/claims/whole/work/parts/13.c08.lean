section MG
variable {p : Program} {l : Launch} {e : Env} {R : Room} {s : State} {m : MethodId} {args : Array Value} {below : List Frame} {meth : Method} {c : Code} {D : va_G} {cy : Nat → ClassId} {ad : Nat → Nat}
def L_X8_unguarded_27 (v1 : Int32) (v2 : Nat) (v3 : Nat) (v4 : Int32) (X79 : Int32 → Mem → Prop) (K : Int32 → Mem → Prop) : Nat → Int32 → Int32 → Mem → Prop
  | 0, _, _, _ => False
  | n + 1, v5, v6, M => (((M.1 v2 5) ≤ v6 → X79 v5 M) ∧ (¬ (M.1 v2 5) ≤ v6 → vp_in v6 256 ∧ f_X3_largestWithin v3 (gI M (v2 + 3) v6) M (fun (r_4 : Int32) (M_5 : Mem) => (((r_4 &&& v4) = 0 → ((¬ v5 = v1 → L_X8_unguarded_27 v1 v2 v3 v4 X79 K n (v5 + (1 : Int32)) (v6 + (1 : Int32)) M_5) ∧ (v5 = v1 → K (gI M_5 (v2 + 3) v6) M_5))) ∧ (¬ (r_4 &&& v4) = 0 → L_X8_unguarded_27 v1 v2 v3 v4 X79 K n v5 (v6 + (1 : Int32)) M_5)))))

set_option maxHeartbeats 1000000 in
set_option maxRecDepth 10000 in
theorem mL_X8_unguarded_27 (C : rw_C p s m meth c cX8_unguarded 7 RX8 (some .int) D cy ad) {v1 : Int32} {v2 : Nat} {v3 : Nat} {v4 : Int32} (h_v2 : isX3 v2) (h_v3 : isX3 v3) {X79 : Int32 → Mem → Prop} {K : Int32 → Mem → Prop} (hX79 : ∀ (u5 : Int32) (M : Mem), X79 u5 M → rw_W p l e rm_X8_unguarded s m args below meth c D cy ad 7 0 0 (rw_Qi below args s D cy ad K) 79 [(1, .int v1), (5, .int u5)] [] M) : ∀ (n : Nat) (v5 : Int32) (v6 : Int32) (M : Mem), L_X8_unguarded_27 v1 v2 v3 v4 X79 K n v5 v6 M → rw_W p l e rm_X8_unguarded s m args below meth c D cy ad 7 0 0 (rw_Qi below args s D cy ad K) 27 [(1, .int v1), (2, .ref (ad v2)), (3, .ref (ad v3)), (4, .int v4), (5, .int v5), (6, .int v6)] [] M := by
  intro n
  induction n with
  | zero => intro v5 v6 M h; exact h.elim
  | succ n ih =>
    intro v5 v6 M h
    refine r_iload C 5 dX8_unguarded_27 rfl ?_
    refine r_aload_n C 1 dX8_unguarded_29 rfl rfl ?_
    refine gX8_240 C h_v2 dX8_unguarded_30 ?_
    refine r_icmp_ge C 79 dX8_unguarded_33 (by decide) (fun hc => ?_) (fun hc => ?_)
    · replace h := h.1 hc
      exact r_sub [0, 4] rfl (hX79 _ _ h)
    · replace h := h.2 hc
      refine r_aload_n C 2 dX8_unguarded_36 rfl rfl ?_
      refine r_aload_n C 1 dX8_unguarded_37 rfl rfl ?_
      refine gX8_243 C h_v2 dX8_unguarded_38 ?_
      refine r_iload C 5 dX8_unguarded_41 rfl ?_
      obtain ⟨q_3, h⟩ := h
      refine r_iald C (isX3_A3 h_v2) q_3 dX8_unguarded_43 ?_
      refine cX8_252 C h_v3 (m_X3_largestWithin l h_v3 h) ⟨Nat.le_of_ble_eq_true rfl, Nat.le_of_ble_eq_true rfl⟩ (Nat.le_of_ble_eq_true rfl) ⟨Nat.le_refl 0, Nat.le_refl 0⟩ dX8_unguarded_44 (fun r_4 M_5 h => ?_)
      refine r_iload C 3 dX8_unguarded_47 rfl ?_
      refine r_iand C dX8_unguarded_49 ?_
      refine r_if_eq C 56 dX8_unguarded_50 (by decide) (fun hc => ?_) (fun hc => ?_)
      · replace h := h.1 hc
        refine r_iload C 4 dX8_unguarded_56 rfl ?_
        refine r_iload_n C 0 dX8_unguarded_58 rfl rfl ?_
        refine r_icmp_ne C 70 dX8_unguarded_59 (by decide) (fun hc => ?_) (fun hc => ?_)
        · replace h := h.1 hc
          refine r_iinc C 4 (v := _) [(5, .int _), (1, .int _), (2, .ref _), (3, .ref _), (4, .int _), (6, .int _)] dX8_unguarded_70 rfl rfl (by decide) rfl ?_
          refine r_iinc C 5 (v := _) [(6, .int _), (5, .int _), (1, .int _), (2, .ref _), (3, .ref _), (4, .int _)] dX8_unguarded_73 rfl rfl (by decide) rfl ?_
          refine r_goto C 27 dX8_unguarded_76 (by decide) ?_
          exact r_sub [2, 3, 4, 5, 1, 0] rfl (ih _ _ _ h)
        · replace h := h.2 hc
          refine r_aload_n C 1 dX8_unguarded_62 rfl rfl ?_
          refine gX8_243 C h_v2 dX8_unguarded_63 ?_
          refine r_iload C 5 dX8_unguarded_66 rfl ?_
          refine r_iald C (isX3_A3 h_v2) q_3 dX8_unguarded_68 ?_
          exact r_iret C dX8_unguarded_69 h
      · replace h := h.2 hc
        refine r_goto C 73 dX8_unguarded_53 (by decide) ?_
        refine r_iinc C 5 (v := _) [(6, .int _), (1, .int _), (2, .ref _), (3, .ref _), (4, .int _), (5, .int _)] dX8_unguarded_73 rfl rfl (by decide) rfl ?_
        refine r_goto C 27 dX8_unguarded_76 (by decide) ?_
        exact r_sub [1, 2, 3, 4, 5, 0] rfl (ih _ _ _ h)

def f_X8_unguarded (v1 : Int32) (M : Mem) (K : Int32 → Mem → Prop) : Prop := f_X8_leastSets (0 : Int32) M (fun (r : Nat) (M_2 : Mem) => isX3 r ∧ f_X8_placeSets (1 : Int32) M_2 (fun (r_2 : Nat) (M_3 : Mem) => isX3 r_2 ∧ f_X1_markedPlaces 50 M_3 (fun (r_3 : Int32) (M_4 : Mem) => (∃ k27 : Nat, L_X8_unguarded_27 v1 r r_2 r_3 (fun (v5_2 : Int32) (M_6 : Mem) => ((¬ v1 = (-1 : Int32) → K (-1 : Int32) M_6) ∧ (v1 = (-1 : Int32) → K v5_2 M_6))) K k27 (0 : Int32) (0 : Int32) M_4))))

set_option maxHeartbeats 1000000 in
set_option maxRecDepth 10000 in
theorem m_X8_unguarded (l : Launch) {v1 : Int32}  {M : Mem} {K : Int32 → Mem → Prop} (h : f_X8_unguarded v1 M K) : CTi l yX8_unguarded cX8_unguarded 7 (some .int) rm_X8_unguarded (fun ad => [.ref (ad 41), .int v1]) M K := by
  refine rw_enti (by decide +kernel) (fun ad => Nat.le_of_ble_eq_true rfl) (fun p e s m args below meth c D cy ad C => ?_)
  change rw_W p l e _ s m args below meth c D cy ad 7 0 0 _ 0 [(0, .ref (ad 41)), (1, .int v1)] [] M
  unfold f_X8_unguarded at h
  refine r_aload_n C 0 dX8_unguarded_0 rfl rfl ?_
  refine r_iconst (v := (0 : Int32)) C dX8_unguarded_1 rfl ?_
  refine cX8_236 C (m_X8_leastSets l h) ⟨Nat.le_of_ble_eq_true rfl, Nat.le_of_ble_eq_true rfl⟩ (Nat.le_of_ble_eq_true rfl) ⟨Nat.le_refl 0, Nat.le_refl 0⟩ dX8_unguarded_2 (fun r M_2 h => ?_)
  obtain ⟨q, h⟩ := h
  refine r_astore_n C [(2, .ref _), (0, .ref _), (1, .int _)] dX8_unguarded_5 rfl (by decide) rfl ?_
  refine r_aload_n C 1 dX8_unguarded_6 rfl rfl ?_
  refine r_iconst (v := (1 : Int32)) C dX8_unguarded_7 rfl ?_
  refine cX8_246 C (m_X8_placeSets l h) ⟨Nat.le_of_ble_eq_true rfl, Nat.le_of_ble_eq_true rfl⟩ (Nat.le_of_ble_eq_true rfl) ⟨Nat.le_refl 0, Nat.le_refl 0⟩ dX8_unguarded_8 (fun r_2 M_3 h => ?_)
  obtain ⟨q_2, h⟩ := h
  refine r_astore_n C [(3, .ref _), (2, .ref _), (0, .ref _), (1, .int _)] dX8_unguarded_11 rfl (by decide) rfl ?_
  refine r_aload_n C 2 dX8_unguarded_12 rfl rfl ?_
  refine gX8_23 C dX8_unguarded_13 ?_
  refine cX8_255 C isX1_50 (m_X1_markedPlaces l isX1_50 h) ⟨Nat.le_of_ble_eq_true rfl, Nat.le_of_ble_eq_true rfl⟩ (Nat.le_of_ble_eq_true rfl) ⟨Nat.le_refl 0, Nat.le_refl 0⟩ dX8_unguarded_16 (fun r_3 M_4 h => ?_)
  refine r_istore C [(4, .int _), (3, .ref _), (2, .ref _), (0, .ref _), (1, .int _)] dX8_unguarded_19 (by decide) rfl ?_
  refine r_iconst (v := (0 : Int32)) C dX8_unguarded_21 rfl ?_
  refine r_istore C [(5, .int _), (4, .int _), (3, .ref _), (2, .ref _), (0, .ref _), (1, .int _)] dX8_unguarded_22 (by decide) rfl ?_
  refine r_iconst (v := (0 : Int32)) C dX8_unguarded_24 rfl ?_
  refine r_istore C [(6, .int _), (5, .int _), (4, .int _), (3, .ref _), (2, .ref _), (0, .ref _), (1, .int _)] dX8_unguarded_25 (by decide) rfl ?_
  obtain ⟨n27, h⟩ := h
  refine r_sub [6, 4, 3, 2, 1, 0] rfl (mL_X8_unguarded_27 C q q_2 (fun v5_2 M_6 h => ?_) n27 _ _ _ h)
  refine r_iload_n C 0 dX8_unguarded_79 rfl rfl ?_
  refine r_iconst (v := (-1 : Int32)) C dX8_unguarded_80 rfl ?_
  refine r_icmp_ne C 89 dX8_unguarded_81 (by decide) (fun hc => ?_) (fun hc => ?_)
  · replace h := h.1 hc
    refine r_iconst (v := (-1 : Int32)) C dX8_unguarded_89 rfl ?_
    exact r_iret C dX8_unguarded_90 h
  · replace h := h.2 hc
    refine r_iload C 1 dX8_unguarded_84 rfl ?_
    refine r_goto C 90 dX8_unguarded_86 (by decide) ?_
    exact r_iret C dX8_unguarded_90 h
def L_X8_lost_33 (v2 : Int32) (X72 : Int32 → Mem → Prop) (K : Int32 → Mem → Prop) : Nat → Int32 → Int32 → Mem → Prop
  | 0, _, _, _ => False
  | n + 1, v3, v4, M => (((M.1 50 4) ≤ v4 → X72 v3 M) ∧ (¬ (M.1 50 4) ≤ v4 → f_X1_takenFrom 50 v4 M (fun (r_4 : Int32) (M_5 : Mem) => (((r_4 &&& v2) = 0 → L_X8_lost_33 v2 X72 K n v3 (v4 + (1 : Int32)) M_5) ∧ (¬ (r_4 &&& v2) = 0 → ∀ x3 : Int32, x3 = v3 ||| ((1 : Int32) <<< (v4 &&& 31)) → L_X8_lost_33 v2 X72 K n x3 (v4 + (1 : Int32)) M_5)))))

set_option maxHeartbeats 1000000 in
set_option maxRecDepth 10000 in
theorem mL_X8_lost_33 (C : rw_C p s m meth c cX8_lost 5 RX8 (some .int) D cy ad) {v2 : Int32} {X72 : Int32 → Mem → Prop} {K : Int32 → Mem → Prop} (hX72 : ∀ (u3 : Int32) (M : Mem), X72 u3 M → rw_W p l e rm_X8_lost s m args below meth c D cy ad 5 0 0 (rw_Qi below args s D cy ad K) 72 [(3, .int u3)] [] M) : ∀ (n : Nat) (v3 : Int32) (v4 : Int32) (M : Mem), L_X8_lost_33 v2 X72 K n v3 v4 M → rw_W p l e rm_X8_lost s m args below meth c D cy ad 5 0 0 (rw_Qi below args s D cy ad K) 33 [(0, .ref (ad 41)), (2, .int v2), (3, .int v3), (4, .int v4)] [] M := by
  intro n
  induction n with
  | zero => intro v3 v4 M h; exact h.elim
  | succ n ih =>
    intro v3 v4 M h
    refine r_iload C 3 dX8_lost_33 rfl ?_
    refine r_aload_n C 0 dX8_lost_35 rfl rfl ?_
    refine gX8_23 C dX8_lost_36 ?_
    refine gX8_258 C isX1_50 dX8_lost_39 ?_
    refine r_icmp_ge C 72 dX8_lost_42 (by decide) (fun hc => ?_) (fun hc => ?_)
    · replace h := h.1 hc
      exact r_sub [2] rfl (hX72 _ _ h)
    · replace h := h.2 hc
      refine r_aload_n C 0 dX8_lost_45 rfl rfl ?_
      refine gX8_23 C dX8_lost_46 ?_
      refine r_iload C 3 dX8_lost_49 rfl ?_
      refine cX8_261 C isX1_50 (m_X1_takenFrom l isX1_50 h) ⟨Nat.le_of_ble_eq_true rfl, Nat.le_of_ble_eq_true rfl⟩ (Nat.le_of_ble_eq_true rfl) ⟨Nat.le_refl 0, Nat.le_refl 0⟩ dX8_lost_51 (fun r_4 M_5 h => ?_)
      refine r_iload_n C 1 dX8_lost_54 rfl rfl ?_
      refine r_iand C dX8_lost_55 ?_
      refine r_if_eq C 66 dX8_lost_56 (by decide) (fun hc => ?_) (fun hc => ?_)
      · replace h := h.1 hc
        refine r_iinc C 3 (v := _) [(4, .int _), (0, .ref _), (2, .int _), (3, .int _)] dX8_lost_66 rfl rfl (by decide) rfl ?_
        refine r_goto C 33 dX8_lost_69 (by decide) ?_
        exact r_sub [1, 2, 3, 0] rfl (ih _ _ _ h)
      · replace h := h.2 hc
        refine r_iload_n C 2 dX8_lost_59 rfl rfl ?_
        refine r_iconst (v := (1 : Int32)) C dX8_lost_60 rfl ?_
        refine r_iload C 3 dX8_lost_61 rfl ?_
        refine r_ishl C dX8_lost_63 ?_
        refine r_ior C dX8_lost_64 ?_
        refine r_istore_n C [(3, .int _), (0, .ref _), (2, .int _), (4, .int _)] dX8_lost_65 rfl (by decide) rfl ?_
        replace h := h _ rfl
        refine r_iinc C 3 (v := _) [(4, .int _), (3, .int _), (0, .ref _), (2, .int _)] dX8_lost_66 rfl rfl (by decide) rfl ?_
        refine r_goto C 33 dX8_lost_69 (by decide) ?_
        exact r_sub [2, 3, 1, 0] rfl (ih _ _ _ h)

def f_X8_lost (M : Mem) (K : Int32 → Mem → Prop) : Prop := f_X1_markedPlaces 50 M (fun (r : Int32) (M_2 : Mem) => ∀ x1 : Int32, x1 = (M.1 50 5) &&& (r ^^^ (-1 : Int32)) → f_X8_placeSets (0 : Int32) M_2 (fun (r_2 : Nat) (M_3 : Mem) => isX3 r_2 ∧ f_X3_largestWithin r_2 x1 M_3 (fun (r_3 : Int32) (M_4 : Mem) => (∃ k33 : Nat, L_X8_lost_33 r_3 (fun (v3_2 : Int32) (M_6 : Mem) => K v3_2 M_6) K k33 (0 : Int32) (0 : Int32) M_4))))

set_option maxHeartbeats 1000000 in
set_option maxRecDepth 10000 in
theorem m_X8_lost (l : Launch)   {M : Mem} {K : Int32 → Mem → Prop} (h : f_X8_lost M K) : CTi l yX8_lost cX8_lost 5 (some .int) rm_X8_lost (fun ad => [.ref (ad 41)]) M K := by
  refine rw_enti (by decide +kernel) (fun ad => Nat.le_of_ble_eq_true rfl) (fun p e s m args below meth c D cy ad C => ?_)
  change rw_W p l e _ s m args below meth c D cy ad 5 0 0 _ 0 [(0, .ref (ad 41))] [] M
  unfold f_X8_lost at h
  refine r_aload_n C 0 dX8_lost_0 rfl rfl ?_
  refine gX8_23 C dX8_lost_1 ?_
  refine gX8_107 C isX1_50 dX8_lost_4 ?_
  refine r_aload_n C 0 dX8_lost_7 rfl rfl ?_
  refine gX8_23 C dX8_lost_8 ?_
  refine cX8_255 C isX1_50 (m_X1_markedPlaces l isX1_50 h) ⟨Nat.le_of_ble_eq_true rfl, Nat.le_of_ble_eq_true rfl⟩ (Nat.le_of_ble_eq_true rfl) ⟨Nat.le_refl 0, Nat.le_refl 0⟩ dX8_lost_11 (fun r M_2 h => ?_)
  refine r_iconst (v := (-1 : Int32)) C dX8_lost_14 rfl ?_
  refine r_ixor C dX8_lost_15 ?_
  refine r_iand C dX8_lost_16 ?_
  refine r_istore_n C [(1, .int _), (0, .ref _)] dX8_lost_17 rfl (by decide) rfl ?_
  replace h := h _ rfl
  refine r_aload_n C 1 dX8_lost_18 rfl rfl ?_
  refine r_iconst (v := (0 : Int32)) C dX8_lost_19 rfl ?_
  refine cX8_246 C (m_X8_placeSets l h) ⟨Nat.le_of_ble_eq_true rfl, Nat.le_of_ble_eq_true rfl⟩ (Nat.le_of_ble_eq_true rfl) ⟨Nat.le_refl 0, Nat.le_refl 0⟩ dX8_lost_20 (fun r_2 M_3 h => ?_)
  obtain ⟨q, h⟩ := h
  refine r_iload_n C 0 dX8_lost_23 rfl rfl ?_
  refine cX8_252 C q (m_X3_largestWithin l q h) ⟨Nat.le_of_ble_eq_true rfl, Nat.le_of_ble_eq_true rfl⟩ (Nat.le_of_ble_eq_true rfl) ⟨Nat.le_refl 0, Nat.le_refl 0⟩ dX8_lost_24 (fun r_3 M_4 h => ?_)
  refine r_istore_n C [(2, .int _), (1, .int _), (0, .ref _)] dX8_lost_27 rfl (by decide) rfl ?_
  refine r_iconst (v := (0 : Int32)) C dX8_lost_28 rfl ?_
  refine r_istore_n C [(3, .int _), (2, .int _), (1, .int _), (0, .ref _)] dX8_lost_29 rfl (by decide) rfl ?_
  refine r_iconst (v := (0 : Int32)) C dX8_lost_30 rfl ?_
  refine r_istore C [(4, .int _), (3, .int _), (2, .int _), (1, .int _), (0, .ref _)] dX8_lost_31 (by decide) rfl ?_
  obtain ⟨n33, h⟩ := h
  refine r_sub [4, 2, 1, 0] rfl (mL_X8_lost_33 C (fun v3_2 M_6 h => ?_) n33 _ _ _ h)
  refine r_iload_n C 0 dX8_lost_72 rfl rfl ?_
  exact r_iret C dX8_lost_73 h
def f_X8_aim (v1 : Int32) (v2 : Int32) (M : Mem) (K : Int32 → Mem → Prop) : Prop := f_X1_hasPlace 50 v1 M (fun (r : Int32) (M_2 : Mem) => ((r = 0 → K (-1 : Int32) M_2) ∧ (¬ r = 0 → f_X8_isTokens v2 M_2 (fun (r_2 : Int32) (M_3 : Mem) => ((¬ r_2 = 0 → f_X6_putAim v1 v2 M_3 (fun (r_3 : Int32) (M_4 : Mem) => K r_3 M_4)) ∧ (r_2 = 0 → K (-1 : Int32) M_3))))))

set_option maxHeartbeats 1000000 in
set_option maxRecDepth 10000 in
theorem m_X8_aim (l : Launch) {v1 : Int32} {v2 : Int32}  {M : Mem} {K : Int32 → Mem → Prop} (h : f_X8_aim v1 v2 M K) : CTi l yX8_aim cX8_aim 3 (some .int) rm_X8_aim (fun ad => [.ref (ad 41), .int v1, .int v2]) M K := by
  refine rw_enti (by decide +kernel) (fun ad => Nat.le_of_ble_eq_true rfl) (fun p e s m args below meth c D cy ad C => ?_)
  change rw_W p l e _ s m args below meth c D cy ad 3 0 0 _ 0 [(0, .ref (ad 41)), (1, .int v1), (2, .int v2)] [] M
  unfold f_X8_aim at h
  refine r_aload_n C 0 dX8_aim_0 rfl rfl ?_
  refine gX8_23 C dX8_aim_1 ?_
  refine r_iload_n C 1 dX8_aim_4 rfl rfl ?_
  refine cX8_140 C isX1_50 (m_X1_hasPlace l isX1_50 h) ⟨Nat.le_of_ble_eq_true rfl, Nat.le_of_ble_eq_true rfl⟩ (Nat.le_of_ble_eq_true rfl) ⟨Nat.le_refl 0, Nat.le_refl 0⟩ dX8_aim_5 (fun r M_2 h => ?_)
  refine r_if_eq C 18 dX8_aim_8 (by decide) (fun hc => ?_) (fun hc => ?_)
  · replace h := h.1 hc
    refine r_iconst (v := (-1 : Int32)) C dX8_aim_18 rfl ?_
    exact r_iret C dX8_aim_19 h
  · replace h := h.2 hc
    refine r_iload_n C 2 dX8_aim_11 rfl rfl ?_
    refine cX8_189 C (m_X8_isTokens l h) ⟨Nat.le_of_ble_eq_true rfl, Nat.le_of_ble_eq_true rfl⟩ (Nat.le_of_ble_eq_true rfl) ⟨Nat.le_refl 0, Nat.le_refl 0⟩ dX8_aim_12 (fun r_2 M_3 h => ?_)
    refine r_if_ne C 20 dX8_aim_15 (by decide) (fun hc => ?_) (fun hc => ?_)
    · replace h := h.1 hc
      refine r_aload_n C 0 dX8_aim_20 rfl rfl ?_
      refine gX8_58 C dX8_aim_21 ?_
      refine r_iload_n C 1 dX8_aim_24 rfl rfl ?_
      refine r_iload_n C 2 dX8_aim_25 rfl rfl ?_
      refine cX8_264 C (m_X6_putAim l h) ⟨Nat.le_of_ble_eq_true rfl, Nat.le_of_ble_eq_true rfl⟩ (Nat.le_of_ble_eq_true rfl) ⟨Nat.le_refl 0, Nat.le_refl 0⟩ dX8_aim_26 (fun r_3 M_4 h => ?_)
      exact r_iret C dX8_aim_29 h
    · replace h := h.2 hc
      refine r_iconst (v := (-1 : Int32)) C dX8_aim_18 rfl ?_
      exact r_iret C dX8_aim_19 h
def f_X8_counts (v1 : Int32) (M : Mem) (K : Int32 → Mem → Prop) : Prop := f_X6_findCounts 50 M (fun (M_2 : Mem) => ((¬ v1 = (-1 : Int32) → (((M_2.1 124 9) = (-1 : Int32) → K (-1 : Int32) M_2) ∧ (¬ (M_2.1 124 9) = (-1 : Int32) → f_X1_hasStep 50 v1 M_2 (fun (r_2 : Int32) (M_3 : Mem) => ((r_2 = 0 → K (-1 : Int32) M_3) ∧ (¬ r_2 = 0 → vp_in v1 8 ∧ K (gI M_3 129 v1) M_3)))))) ∧ (v1 = (-1 : Int32) → K (M_2.1 124 9) M_2)))

set_option maxHeartbeats 1000000 in
set_option maxRecDepth 10000 in
theorem m_X8_counts (l : Launch) {v1 : Int32}  {M : Mem} {K : Int32 → Mem → Prop} (h : f_X8_counts v1 M K) : CTi l yX8_counts cX8_counts 2 (some .int) rm_X8_counts (fun ad => [.ref (ad 41), .int v1]) M K := by
  refine rw_enti (by decide +kernel) (fun ad => Nat.le_of_ble_eq_true rfl) (fun p e s m args below meth c D cy ad C => ?_)
  change rw_W p l e _ s m args below meth c D cy ad 2 0 0 _ 0 [(0, .ref (ad 41)), (1, .int v1)] [] M
  unfold f_X8_counts at h
  refine r_aload_n C 0 dX8_counts_0 rfl rfl ?_
  refine gX8_58 C dX8_counts_1 ?_
  refine r_aload_n C 0 dX8_counts_4 rfl rfl ?_
  refine gX8_23 C dX8_counts_5 ?_
  refine cX8_267 C (m_X6_findCounts l isX1_50 h) ⟨Nat.le_of_ble_eq_true rfl, Nat.le_of_ble_eq_true rfl⟩ (Nat.le_of_ble_eq_true rfl) ⟨Nat.le_refl 0, Nat.le_refl 0⟩ dX8_counts_8 (fun M_2 h => ?_)
  refine r_iload_n C 1 dX8_counts_11 rfl rfl ?_
  refine r_iconst (v := (-1 : Int32)) C dX8_counts_12 rfl ?_
  refine r_icmp_ne C 24 dX8_counts_13 (by decide) (fun hc => ?_) (fun hc => ?_)
  · replace h := h.1 hc
    refine r_aload_n C 0 dX8_counts_24 rfl rfl ?_
    refine gX8_58 C dX8_counts_25 ?_
    refine gX8_270 C dX8_counts_28 ?_
    refine r_iconst (v := (-1 : Int32)) C dX8_counts_31 rfl ?_
    refine r_icmp_eq C 58 dX8_counts_32 (by decide) (fun hc => ?_) (fun hc => ?_)
    · replace h := h.1 hc
      refine r_iconst (v := (-1 : Int32)) C dX8_counts_58 rfl ?_
      exact r_iret C dX8_counts_59 h
    · replace h := h.2 hc
      refine r_aload_n C 0 dX8_counts_35 rfl rfl ?_
      refine gX8_23 C dX8_counts_36 ?_
      refine r_iload_n C 1 dX8_counts_39 rfl rfl ?_
      refine cX8_136 C isX1_50 (m_X1_hasStep l isX1_50 h) ⟨Nat.le_of_ble_eq_true rfl, Nat.le_of_ble_eq_true rfl⟩ (Nat.le_of_ble_eq_true rfl) ⟨Nat.le_refl 0, Nat.le_refl 0⟩ dX8_counts_40 (fun r_2 M_3 h => ?_)
      refine r_if_eq C 58 dX8_counts_43 (by decide) (fun hc => ?_) (fun hc => ?_)
      · replace h := h.1 hc
        refine r_iconst (v := (-1 : Int32)) C dX8_counts_58 rfl ?_
        exact r_iret C dX8_counts_59 h
      · replace h := h.2 hc
        refine r_aload_n C 0 dX8_counts_46 rfl rfl ?_
        refine gX8_58 C dX8_counts_47 ?_
        refine gX8_273 C dX8_counts_50 ?_
        refine r_iload_n C 1 dX8_counts_53 rfl rfl ?_
        obtain ⟨q, h⟩ := h
        refine r_iald C sh_129 q dX8_counts_54 ?_
        refine r_goto C 59 dX8_counts_55 (by decide) ?_
        exact r_iret C dX8_counts_59 h
  · replace h := h.2 hc
    refine r_aload_n C 0 dX8_counts_16 rfl rfl ?_
    refine gX8_58 C dX8_counts_17 ?_
    refine gX8_270 C dX8_counts_20 ?_
    exact r_iret C dX8_counts_23 h
def f_X8_order (v1 : Int32) (M : Mem) (K : Int32 → Mem → Prop) : Prop := f_X6_findCounts 50 M (fun (M_2 : Mem) => ((¬ (M_2.1 124 9) = (-1 : Int32) → f_X6_findOrder 50 M_2 (fun (r_2 : Int32) (M_3 : Mem) => ((¬ r_2 = 0 → ((v1 < 0 → K (-1 : Int32) M_3) ∧ (¬ v1 < 0 → (((M_3.1 124 9) ≤ v1 → K (-1 : Int32) M_3) ∧ (¬ (M_3.1 124 9) ≤ v1 → vp_in v1 12 ∧ K (gI M_3 130 v1) M_3))))) ∧ (r_2 = 0 → K (-2 : Int32) M_3)))) ∧ ((M_2.1 124 9) = (-1 : Int32) → K (-1 : Int32) M_2)))

set_option maxHeartbeats 1000000 in
set_option maxRecDepth 10000 in
theorem m_X8_order (l : Launch) {v1 : Int32}  {M : Mem} {K : Int32 → Mem → Prop} (h : f_X8_order v1 M K) : CTi l yX8_order cX8_order 2 (some .int) rm_X8_order (fun ad => [.ref (ad 41), .int v1]) M K := by
  refine rw_enti (by decide +kernel) (fun ad => Nat.le_of_ble_eq_true rfl) (fun p e s m args below meth c D cy ad C => ?_)
  change rw_W p l e _ s m args below meth c D cy ad 2 0 0 _ 0 [(0, .ref (ad 41)), (1, .int v1)] [] M
  unfold f_X8_order at h
  refine r_aload_n C 0 dX8_order_0 rfl rfl ?_
  refine gX8_58 C dX8_order_1 ?_
  refine r_aload_n C 0 dX8_order_4 rfl rfl ?_
  refine gX8_23 C dX8_order_5 ?_
  refine cX8_267 C (m_X6_findCounts l isX1_50 h) ⟨Nat.le_of_ble_eq_true rfl, Nat.le_of_ble_eq_true rfl⟩ (Nat.le_of_ble_eq_true rfl) ⟨Nat.le_refl 0, Nat.le_refl 0⟩ dX8_order_8 (fun M_2 h => ?_)
  refine r_aload_n C 0 dX8_order_11 rfl rfl ?_
  refine gX8_58 C dX8_order_12 ?_
  refine gX8_270 C dX8_order_15 ?_
  refine r_iconst (v := (-1 : Int32)) C dX8_order_18 rfl ?_
  refine r_icmp_ne C 24 dX8_order_19 (by decide) (fun hc => ?_) (fun hc => ?_)
  · replace h := h.1 hc
    refine r_aload_n C 0 dX8_order_24 rfl rfl ?_
    refine gX8_58 C dX8_order_25 ?_
    refine r_aload_n C 0 dX8_order_28 rfl rfl ?_
    refine gX8_23 C dX8_order_29 ?_
    refine cX8_276 C (m_X6_findOrder l isX1_50 h) ⟨Nat.le_of_ble_eq_true rfl, Nat.le_of_ble_eq_true rfl⟩ (Nat.le_of_ble_eq_true rfl) ⟨Nat.le_refl 0, Nat.le_refl 0⟩ dX8_order_32 (fun r_2 M_3 h => ?_)
    refine r_if_ne C 41 dX8_order_35 (by decide) (fun hc => ?_) (fun hc => ?_)
    · replace h := h.1 hc
      refine r_iload_n C 1 dX8_order_41 rfl rfl ?_
      refine r_if_lt C 68 dX8_order_42 (by decide) (fun hc => ?_) (fun hc => ?_)
      · replace h := h.1 hc
        refine r_iconst (v := (-1 : Int32)) C dX8_order_68 rfl ?_
        exact r_iret C dX8_order_69 h
      · replace h := h.2 hc
        refine r_iload_n C 1 dX8_order_45 rfl rfl ?_
        refine r_aload_n C 0 dX8_order_46 rfl rfl ?_
        refine gX8_58 C dX8_order_47 ?_
        refine gX8_270 C dX8_order_50 ?_
        refine r_icmp_ge C 68 dX8_order_53 (by decide) (fun hc => ?_) (fun hc => ?_)
        · replace h := h.1 hc
          refine r_iconst (v := (-1 : Int32)) C dX8_order_68 rfl ?_
          exact r_iret C dX8_order_69 h
        · replace h := h.2 hc
          refine r_aload_n C 0 dX8_order_56 rfl rfl ?_
          refine gX8_58 C dX8_order_57 ?_
          refine gX8_279 C dX8_order_60 ?_
          refine r_iload_n C 1 dX8_order_63 rfl rfl ?_
          obtain ⟨q, h⟩ := h
          refine r_iald C sh_130 q dX8_order_64 ?_
          refine r_goto C 69 dX8_order_65 (by decide) ?_
          exact r_iret C dX8_order_69 h
    · replace h := h.2 hc
      refine r_bipush (v := (-2 : Int32)) C dX8_order_38 rfl ?_
      exact r_iret C dX8_order_40 h
  · replace h := h.2 hc
    refine r_iconst (v := (-1 : Int32)) C dX8_order_22 rfl ?_
    exact r_iret C dX8_order_23 h
def f_X8_presentGraph (M : Mem) (K : Nat → Mem → Prop) : Prop := f_X0_grow 134 50 (M.1 50 8) M (fun (M_2 : Mem) => K 134 M_2)

set_option maxHeartbeats 1000000 in
set_option maxRecDepth 10000 in
theorem m_X8_presentGraph (l : Launch)   {M : Mem} {K : Nat → Mem → Prop} (h : f_X8_presentGraph M K) : CTr l yX8_presentGraph cX8_presentGraph 1 (some (.object "TokenSums$Graph")) rm_X8_presentGraph (fun ad => [.ref (ad 41)]) M K := by
  refine rw_entr (by decide +kernel) (fun ad => Nat.le_of_ble_eq_true rfl) (fun p e s m args below meth c D cy ad C => ?_)
  change rw_W p l e _ s m args below meth c D cy ad 1 0 0 _ 0 [(0, .ref (ad 41))] [] M
  unfold f_X8_presentGraph at h
  refine r_aload_n C 0 dX8_presentGraph_0 rfl rfl ?_
  refine gX8_65 C dX8_presentGraph_1 ?_
  refine r_aload_n C 0 dX8_presentGraph_4 rfl rfl ?_
  refine gX8_23 C dX8_presentGraph_5 ?_
  refine r_aload_n C 0 dX8_presentGraph_8 rfl rfl ?_
  refine gX8_23 C dX8_presentGraph_9 ?_
  refine gX8_349 C isX1_50 dX8_presentGraph_12 ?_
  refine cX8_363 C isX0_134 (m_X0_grow l isX0_134 isX1_50 h) ⟨Nat.le_of_ble_eq_true rfl, Nat.le_of_ble_eq_true rfl⟩ (Nat.le_of_ble_eq_true rfl) ⟨Nat.le_refl 0, Nat.le_refl 0⟩ dX8_presentGraph_15 (fun M_2 h => ?_)
  refine r_aload_n C 0 dX8_presentGraph_18 rfl rfl ?_
  refine gX8_65 C dX8_presentGraph_19 ?_
  exact r_aret C dX8_presentGraph_22 h
def L_X8_reaches_7 (v1 : Nat) (X52 : Mem → Prop) (K : Int32 → Mem → Prop) : Nat → Int32 → Mem → Prop
  | 0, _, _ => False
  | n + 1, v2, M => (((M.1 v1 12) ≤ v2 → X52 M) ∧ (¬ (M.1 v1 12) ≤ v2 → f_X6_isAimed (M.1 50 5) (v1 + 1) (v2 * (10 : Int32)) M (fun (r_2 : Int32) (M_3 : Mem) => ((r_2 = 0 → L_X8_reaches_7 v1 X52 K n (v2 + (1 : Int32)) M_3) ∧ (¬ r_2 = 0 → f_X0_depthOf v1 v2 M_3 (fun (r_3 : Int32) (M_4 : Mem) => K r_3 M_4))))))

set_option maxHeartbeats 1000000 in
set_option maxRecDepth 10000 in
theorem mL_X8_reaches_7 (C : rw_C p s m meth c cX8_reaches 3 RX8 (some .int) D cy ad) {v1 : Nat} (h_v1 : isX0 v1) {X52 : Mem → Prop} {K : Int32 → Mem → Prop} (hX52 : ∀  (M : Mem), X52 M → rw_W p l e rm_X8_reaches s m args below meth c D cy ad 3 0 0 (rw_Qi below args s D cy ad K) 52 [(1, .ref (ad v1))] [] M) : ∀ (n : Nat) (v2 : Int32) (M : Mem), L_X8_reaches_7 v1 X52 K n v2 M → rw_W p l e rm_X8_reaches s m args below meth c D cy ad 3 0 0 (rw_Qi below args s D cy ad K) 7 [(0, .ref (ad 41)), (1, .ref (ad v1)), (2, .int v2)] [] M := by
  intro n
  induction n with
  | zero => intro v2 M h; exact h.elim
  | succ n ih =>
    intro v2 M h
    refine r_iload_n C 2 dX8_reaches_7 rfl rfl ?_
    refine r_aload_n C 1 dX8_reaches_8 rfl rfl ?_
    refine gX8_286 C h_v1 dX8_reaches_9 ?_
    refine r_icmp_ge C 52 dX8_reaches_12 (by decide) (fun hc => ?_) (fun hc => ?_)
    · replace h := h.1 hc
      exact r_sub [1] rfl (hX52 _ h)
    · replace h := h.2 hc
      refine r_aload_n C 0 dX8_reaches_15 rfl rfl ?_
      refine gX8_58 C dX8_reaches_16 ?_
      refine r_aload_n C 0 dX8_reaches_19 rfl rfl ?_
      refine gX8_23 C dX8_reaches_20 ?_
      refine gX8_107 C isX1_50 dX8_reaches_23 ?_
      refine r_aload_n C 1 dX8_reaches_26 rfl rfl ?_
      refine gX8_289 C h_v1 dX8_reaches_27 ?_
      refine r_iload_n C 2 dX8_reaches_30 rfl rfl ?_
      refine r_bipush (v := (10 : Int32)) C dX8_reaches_31 rfl ?_
      refine r_imul C dX8_reaches_33 ?_
      refine cX8_292 C (m_X6_isAimed l (isI_of (isX0_A1 h_v1)) h) ⟨Nat.le_of_ble_eq_true rfl, Nat.le_of_ble_eq_true rfl⟩ (Nat.le_of_ble_eq_true rfl) ⟨Nat.le_refl 0, Nat.le_refl 0⟩ dX8_reaches_34 (fun r_2 M_3 h => ?_)
      refine r_if_eq C 46 dX8_reaches_37 (by decide) (fun hc => ?_) (fun hc => ?_)
      · replace h := h.1 hc
        refine r_iinc C 2 (v := _) [(2, .int _), (0, .ref _), (1, .ref _)] dX8_reaches_46 rfl rfl (by decide) rfl ?_
        refine r_goto C 7 dX8_reaches_49 (by decide) ?_
        exact r_sub [1, 2, 0] rfl (ih _ _ h)
      · replace h := h.2 hc
        refine r_aload_n C 1 dX8_reaches_40 rfl rfl ?_
        refine r_iload_n C 2 dX8_reaches_41 rfl rfl ?_
        refine cX8_295 C h_v1 (m_X0_depthOf l h_v1 h) ⟨Nat.le_of_ble_eq_true rfl, Nat.le_of_ble_eq_true rfl⟩ (Nat.le_of_ble_eq_true rfl) ⟨Nat.le_refl 0, Nat.le_refl 0⟩ dX8_reaches_42 (fun r_3 M_4 h => ?_)
        exact r_iret C dX8_reaches_45 h

def f_X8_reaches (M : Mem) (K : Int32 → Mem → Prop) : Prop := f_X8_presentGraph  M (fun (r : Nat) (M_2 : Mem) => isX0 r ∧ (∃ k7 : Nat, L_X8_reaches_7 r (fun  (M_5 : Mem) => (((M_5.1 r 13) = 0 → K (-1 : Int32) M_5) ∧ (¬ (M_5.1 r 13) = 0 → K (-2 : Int32) M_5))) K k7 (0 : Int32) M_2))

set_option maxHeartbeats 1000000 in
set_option maxRecDepth 10000 in
theorem m_X8_reaches (l : Launch)   {M : Mem} {K : Int32 → Mem → Prop} (h : f_X8_reaches M K) : CTi l yX8_reaches cX8_reaches 3 (some .int) rm_X8_reaches (fun ad => [.ref (ad 41)]) M K := by
  refine rw_enti (by decide +kernel) (fun ad => Nat.le_of_ble_eq_true rfl) (fun p e s m args below meth c D cy ad C => ?_)
  change rw_W p l e _ s m args below meth c D cy ad 3 0 0 _ 0 [(0, .ref (ad 41))] [] M
  unfold f_X8_reaches at h
  refine r_aload_n C 0 dX8_reaches_0 rfl rfl ?_
  refine cX8_282 C (m_X8_presentGraph l h) ⟨Nat.le_of_ble_eq_true rfl, Nat.le_of_ble_eq_true rfl⟩ (Nat.le_of_ble_eq_true rfl) ⟨Nat.le_refl 0, Nat.le_refl 0⟩ dX8_reaches_1 (fun r M_2 h => ?_)
  obtain ⟨q, h⟩ := h
  refine r_astore_n C [(1, .ref _), (0, .ref _)] dX8_reaches_4 rfl (by decide) rfl ?_
  refine r_iconst (v := (0 : Int32)) C dX8_reaches_5 rfl ?_
  refine r_istore_n C [(2, .int _), (1, .ref _), (0, .ref _)] dX8_reaches_6 rfl (by decide) rfl ?_
  obtain ⟨n7, h⟩ := h
  refine r_sub [2, 1, 0] rfl (mL_X8_reaches_7 C q (fun M_5 h => ?_) n7 _ _ h)
  refine r_aload_n C 0 dX8_reaches_52 rfl rfl ?_
  refine gX8_298 C q dX8_reaches_53 ?_
  refine r_if_eq C 64 dX8_reaches_56 (by decide) (fun hc => ?_) (fun hc => ?_)
  · replace h := h.1 hc
    refine r_iconst (v := (-1 : Int32)) C dX8_reaches_64 rfl ?_
    exact r_iret C dX8_reaches_65 h
  · replace h := h.2 hc
    refine r_bipush (v := (-2 : Int32)) C dX8_reaches_59 rfl ?_
    refine r_goto C 65 dX8_reaches_61 (by decide) ?_
    exact r_iret C dX8_reaches_65 h
def f_X8_graph (v1 : Int32) (M : Mem) (K : Int32 → Mem → Prop) : Prop := f_X8_presentGraph  M (fun (r : Nat) (M_2 : Mem) => isX0 r ∧ ((v1 = (0 : Int32) → K (M_2.1 r 12) M_2) ∧ (v1 = (1 : Int32) → f_X8_oneIf (M_2.1 r 13) M_2 (fun (r_2 : Int32) (M_3 : Mem) => K r_2 M_3)) ∧ (v1 = (2 : Int32) → f_X0_deadOnes r M_2 (fun (r_3 : Int32) (M_4 : Mem) => K r_3 M_4)) ∧ (v1 = (3 : Int32) → f_X0_firstDead r M_2 (fun (r_4 : Int32) (M_5 : Mem) => K r_4 M_5)) ∧ (v1 = (4 : Int32) → f_X0_findHomes r M_2 (fun (M_6 : Mem) => K (M_6.1 r 16) M_6)) ∧ (¬ v1 = (0 : Int32) → ¬ v1 = (1 : Int32) → ¬ v1 = (2 : Int32) → ¬ v1 = (3 : Int32) → ¬ v1 = (4 : Int32) → K (-1 : Int32) M_2)))

set_option maxHeartbeats 1000000 in
set_option maxRecDepth 10000 in
theorem m_X8_graph (l : Launch) {v1 : Int32}  {M : Mem} {K : Int32 → Mem → Prop} (h : f_X8_graph v1 M K) : CTi l yX8_graph cX8_graph 3 (some .int) rm_X8_graph (fun ad => [.ref (ad 41), .int v1]) M K := by
  refine rw_enti (by decide +kernel) (fun ad => Nat.le_of_ble_eq_true rfl) (fun p e s m args below meth c D cy ad C => ?_)
  change rw_W p l e _ s m args below meth c D cy ad 3 0 0 _ 0 [(0, .ref (ad 41)), (1, .int v1)] [] M
  unfold f_X8_graph at h
  refine r_aload_n C 0 dX8_graph_0 rfl rfl ?_
  refine cX8_282 C (m_X8_presentGraph l h) ⟨Nat.le_of_ble_eq_true rfl, Nat.le_of_ble_eq_true rfl⟩ (Nat.le_of_ble_eq_true rfl) ⟨Nat.le_refl 0, Nat.le_refl 0⟩ dX8_graph_1 (fun r M_2 h => ?_)
  obtain ⟨q, h⟩ := h
  refine r_astore_n C [(2, .ref _), (0, .ref _), (1, .int _)] dX8_graph_4 rfl (by decide) rfl ?_
  refine r_iload_n C 2 dX8_graph_5 rfl rfl ?_
  refine r_cases (0 : Int32) (fun hc0 => ?_) (fun hc0 => ?_)
  · refine r_tabIn C 40 dX8_graph_6 (off := 34) (by rw [hc0]; decide) (by rw [hc0]; decide) (by rw [hc0]; rfl) (by decide) ?_
    replace h := h.1 hc0
    refine r_aload_n C 0 dX8_graph_40 rfl rfl ?_
    refine gX8_286 C q dX8_graph_41 ?_
    exact r_iret C dX8_graph_44 h
  ·
    refine r_cases (1 : Int32) (fun hc1 => ?_) (fun hc1 => ?_)
    · refine r_tabIn C 45 dX8_graph_6 (off := 39) (by rw [hc1]; decide) (by rw [hc1]; decide) (by rw [hc1]; rfl) (by decide) ?_
      replace h := h.2.1 hc1
      refine r_aload_n C 0 dX8_graph_45 rfl rfl ?_
      refine gX8_298 C q dX8_graph_46 ?_
      refine cX8_162 C (m_X8_oneIf l h) ⟨Nat.le_of_ble_eq_true rfl, Nat.le_of_ble_eq_true rfl⟩ (Nat.le_of_ble_eq_true rfl) ⟨Nat.le_refl 0, Nat.le_refl 0⟩ dX8_graph_49 (fun r_2 M_3 h => ?_)
      exact r_iret C dX8_graph_52 h
    ·
      refine r_cases (2 : Int32) (fun hc2 => ?_) (fun hc2 => ?_)
      · refine r_tabIn C 53 dX8_graph_6 (off := 47) (by rw [hc2]; decide) (by rw [hc2]; decide) (by rw [hc2]; rfl) (by decide) ?_
        replace h := h.2.2.1 hc2
        refine r_aload_n C 0 dX8_graph_53 rfl rfl ?_
        refine cX8_302 C q (m_X0_deadOnes l q h) ⟨Nat.le_of_ble_eq_true rfl, Nat.le_of_ble_eq_true rfl⟩ (Nat.le_of_ble_eq_true rfl) ⟨Nat.le_refl 0, Nat.le_refl 0⟩ dX8_graph_54 (fun r_3 M_4 h => ?_)
        exact r_iret C dX8_graph_57 h
      ·
        refine r_cases (3 : Int32) (fun hc3 => ?_) (fun hc3 => ?_)
        · refine r_tabIn C 58 dX8_graph_6 (off := 52) (by rw [hc3]; decide) (by rw [hc3]; decide) (by rw [hc3]; rfl) (by decide) ?_
          replace h := h.2.2.2.1 hc3
          refine r_aload_n C 0 dX8_graph_58 rfl rfl ?_
          refine cX8_305 C q (m_X0_firstDead l q h) ⟨Nat.le_of_ble_eq_true rfl, Nat.le_of_ble_eq_true rfl⟩ (Nat.le_of_ble_eq_true rfl) ⟨Nat.le_refl 0, Nat.le_refl 0⟩ dX8_graph_59 (fun r_4 M_5 h => ?_)
          exact r_iret C dX8_graph_62 h
        ·
          refine r_cases (4 : Int32) (fun hc4 => ?_) (fun hc4 => ?_)
          · refine r_tabIn C 63 dX8_graph_6 (off := 57) (by rw [hc4]; decide) (by rw [hc4]; decide) (by rw [hc4]; rfl) (by decide) ?_
            replace h := h.2.2.2.2.1 hc4
            refine r_aload_n C 0 dX8_graph_63 rfl rfl ?_
            refine cX8_308 C q (m_X0_findHomes l q h) ⟨Nat.le_of_ble_eq_true rfl, Nat.le_of_ble_eq_true rfl⟩ (Nat.le_of_ble_eq_true rfl) ⟨Nat.le_refl 0, Nat.le_refl 0⟩ dX8_graph_64 (fun M_6 h => ?_)
            refine r_aload_n C 0 dX8_graph_67 rfl rfl ?_
            refine gX8_311 C q dX8_graph_68 ?_
            exact r_iret C dX8_graph_71 h
          ·
            refine r_tabOut C 72 dX8_graph_6 (tab_dflt 5 (fun j hj => by rcases (show j = 0 ∨ j = 1 ∨ j = 2 ∨ j = 3 ∨ j = 4 by omega) with rfl | rfl | rfl | rfl | rfl <;> assumption) (by decide) (by decide)) (by decide) ?_
            replace h := h.2.2.2.2.2 hc0 hc1 hc2 hc3 hc4
            refine r_iconst (v := (-1 : Int32)) C dX8_graph_72 rfl ?_
            exact r_iret C dX8_graph_73 h
set_option maxHeartbeats 1000000 in
set_option maxRecDepth 10000 in
theorem mD_X8_marking_13 (C : rw_C p s m meth c cX8_marking 5 RX8 (some .int) D cy ad) {Q : State → Prop} {st : List Value} {M : Mem} {v3 : Nat} {v1 : Int32} {v2 : Int32} {o0 : Int32} (h_v3 : isX0 v3) (kk : rw_W p l e R s m args below meth c D cy ad 5 0 0 Q 33 [(3, .ref (ad v3)), (0, .ref (ad 41)), (1, .int v1), (2, .int v2)] (.int (if o0 = 0 then (0 : Int32) else (if v1 < 0 then (0 : Int32) else (if (M.1 v3 12) ≤ v1 then (0 : Int32) else (1 : Int32)))) :: st) M) : rw_W p l e R s m args below meth c D cy ad 5 0 0 Q 13 [(3, .ref (ad v3)), (0, .ref (ad 41)), (1, .int v1), (2, .int v2)] (.int o0 :: st) M := by
  refine r_if_eq C 32 dX8_marking_13 (by decide) (fun z0 => ?_) (fun z0 => ?_)
  · skip
    refine r_iconst (v := (0 : Int32)) C dX8_marking_32 rfl ?_
    first | rw [if_pos z0] at kk | rw [if_neg (fun q9 => q9 z0)] at kk
    exact kk
  · skip
    refine r_iload_n C 2 dX8_marking_16 rfl rfl ?_
    refine r_if_lt C 32 dX8_marking_17 (by decide) (fun z1 => ?_) (fun z1 => ?_)
    · skip
      refine r_iconst (v := (0 : Int32)) C dX8_marking_32 rfl ?_
      first | rw [if_neg z0] at kk | rw [if_neg (fun q9 => q9 z0)] at kk
      first | rw [if_pos z1] at kk | rw [if_neg (fun q9 => q9 z1)] at kk
      exact kk
    · skip
      refine r_iload_n C 2 dX8_marking_20 rfl rfl ?_
      refine r_aload_n C 0 dX8_marking_21 rfl rfl ?_
      refine gX8_286 C h_v3 dX8_marking_22 ?_
      refine r_icmp_ge C 32 dX8_marking_25 (by decide) (fun z2 => ?_) (fun z2 => ?_)
      · skip
        refine r_iconst (v := (0 : Int32)) C dX8_marking_32 rfl ?_
        first | rw [if_neg z0] at kk | rw [if_neg (fun q9 => q9 z0)] at kk
        first | rw [if_neg z1] at kk | rw [if_neg (fun q9 => q9 z1)] at kk
        first | rw [if_pos z2] at kk | rw [if_neg (fun q9 => q9 z2)] at kk
        exact kk
      · skip
        refine r_iconst (v := (1 : Int32)) C dX8_marking_28 rfl ?_
        refine r_goto C 33 dX8_marking_29 (by decide) ?_
        first | rw [if_neg z0] at kk | rw [if_neg (fun q9 => q9 z0)] at kk
        first | rw [if_neg z1] at kk | rw [if_neg (fun q9 => q9 z1)] at kk
        first | rw [if_neg z2] at kk | rw [if_neg (fun q9 => q9 z2)] at kk
        exact kk

def f_X8_marking (v1 : Int32) (v2 : Int32) (M : Mem) (K : Int32 → Mem → Prop) : Prop := f_X8_presentGraph  M (fun (r : Nat) (M_2 : Mem) => isX0 r ∧ f_X1_hasPlace 50 v2 M_2 (fun (r_2 : Int32) (M_3 : Mem) => ∀ x4 : Int32, x4 = (if r_2 = 0 then (0 : Int32) else (if v1 < 0 then (0 : Int32) else (if (M_3.1 r 12) ≤ v1 then (0 : Int32) else (1 : Int32)))) → ((x4 = 0 → K (-1 : Int32) M_3) ∧ (¬ x4 = 0 → vp_in ((v1 * (10 : Int32)) + v2) 3010 ∧ K (gI M_3 (r + 1) ((v1 * (10 : Int32)) + v2)) M_3))))

set_option maxHeartbeats 1000000 in
set_option maxRecDepth 10000 in
theorem m_X8_marking (l : Launch) {v1 : Int32} {v2 : Int32}  {M : Mem} {K : Int32 → Mem → Prop} (h : f_X8_marking v1 v2 M K) : CTi l yX8_marking cX8_marking 5 (some .int) rm_X8_marking (fun ad => [.ref (ad 41), .int v1, .int v2]) M K := by
  refine rw_enti (by decide +kernel) (fun ad => Nat.le_of_ble_eq_true rfl) (fun p e s m args below meth c D cy ad C => ?_)
  change rw_W p l e _ s m args below meth c D cy ad 5 0 0 _ 0 [(0, .ref (ad 41)), (1, .int v1), (2, .int v2)] [] M
  unfold f_X8_marking at h
  refine r_aload_n C 0 dX8_marking_0 rfl rfl ?_
  refine cX8_282 C (m_X8_presentGraph l h) ⟨Nat.le_of_ble_eq_true rfl, Nat.le_of_ble_eq_true rfl⟩ (Nat.le_of_ble_eq_true rfl) ⟨Nat.le_refl 0, Nat.le_refl 0⟩ dX8_marking_1 (fun r M_2 h => ?_)
  obtain ⟨q, h⟩ := h
  refine r_astore_n C [(3, .ref _), (0, .ref _), (1, .int _), (2, .int _)] dX8_marking_4 rfl (by decide) rfl ?_
  refine r_aload_n C 1 dX8_marking_5 rfl rfl ?_
  refine gX8_23 C dX8_marking_6 ?_
  refine r_iload_n C 3 dX8_marking_9 rfl rfl ?_
  refine cX8_140 C isX1_50 (m_X1_hasPlace l isX1_50 h) ⟨Nat.le_of_ble_eq_true rfl, Nat.le_of_ble_eq_true rfl⟩ (Nat.le_of_ble_eq_true rfl) ⟨Nat.le_refl 0, Nat.le_refl 0⟩ dX8_marking_10 (fun r_2 M_3 h => ?_)
  refine mD_X8_marking_13 C q ?_
  refine r_istore C [(4, .int _), (3, .ref _), (0, .ref _), (1, .int _), (2, .int _)] dX8_marking_33 (by decide) rfl ?_
  replace h := h _ rfl
  refine r_iload C 0 dX8_marking_35 rfl ?_
  refine r_if_eq C 54 dX8_marking_37 (by decide) (fun hc => ?_) (fun hc => ?_)
  · replace h := h.1 hc
    refine r_iconst (v := (-1 : Int32)) C dX8_marking_54 rfl ?_
    exact r_iret C dX8_marking_55 h
  · replace h := h.2 hc
    refine r_aload_n C 1 dX8_marking_40 rfl rfl ?_
    refine gX8_289 C q dX8_marking_41 ?_
    refine r_iload_n C 3 dX8_marking_44 rfl rfl ?_
    refine r_bipush (v := (10 : Int32)) C dX8_marking_45 rfl ?_
    refine r_imul C dX8_marking_47 ?_
    refine r_iload_n C 4 dX8_marking_48 rfl rfl ?_
    refine r_iadd C dX8_marking_49 ?_
    obtain ⟨q_2, h⟩ := h
    refine r_iald C (isX0_A1 q) q_2 dX8_marking_50 ?_
    refine r_goto C 55 dX8_marking_51 (by decide) ?_
    exact r_iret C dX8_marking_55 h
def f_X8_came (v1 : Int32) (v2 : Int32) (M : Mem) (K : Int32 → Mem → Prop) : Prop := f_X8_presentGraph  M (fun (r : Nat) (M_2 : Mem) => isX0 r ∧ ((v1 < 0 → K (-1 : Int32) M_2) ∧ (¬ v1 < 0 → ((v1 < (M_2.1 r 12) → ((v2 = (0 : Int32) → vp_in v1 300 ∧ K (gI M_2 (r + 2) v1) M_2) ∧ (v2 = (1 : Int32) → vp_in v1 300 ∧ K (gI M_2 (r + 3) v1) M_2) ∧ (v2 = (2 : Int32) → vp_in v1 300 ∧ K (gI M_2 (r + 4) v1) M_2) ∧ (v2 = (3 : Int32) → f_X0_findHomes r M_2 (fun (M_3 : Mem) => vp_in v1 300 ∧ K (gI M_3 (r + 11) v1) M_3)) ∧ (¬ v2 = (0 : Int32) → ¬ v2 = (1 : Int32) → ¬ v2 = (2 : Int32) → ¬ v2 = (3 : Int32) → K (-1 : Int32) M_2))) ∧ (¬ v1 < (M_2.1 r 12) → K (-1 : Int32) M_2)))))

set_option maxHeartbeats 1000000 in
set_option maxRecDepth 10000 in
theorem m_X8_came (l : Launch) {v1 : Int32} {v2 : Int32}  {M : Mem} {K : Int32 → Mem → Prop} (h : f_X8_came v1 v2 M K) : CTi l yX8_came cX8_came 4 (some .int) rm_X8_came (fun ad => [.ref (ad 41), .int v1, .int v2]) M K := by
  refine rw_enti (by decide +kernel) (fun ad => Nat.le_of_ble_eq_true rfl) (fun p e s m args below meth c D cy ad C => ?_)
  change rw_W p l e _ s m args below meth c D cy ad 4 0 0 _ 0 [(0, .ref (ad 41)), (1, .int v1), (2, .int v2)] [] M
  unfold f_X8_came at h
  refine r_aload_n C 0 dX8_came_0 rfl rfl ?_
  refine cX8_282 C (m_X8_presentGraph l h) ⟨Nat.le_of_ble_eq_true rfl, Nat.le_of_ble_eq_true rfl⟩ (Nat.le_of_ble_eq_true rfl) ⟨Nat.le_refl 0, Nat.le_refl 0⟩ dX8_came_1 (fun r M_2 h => ?_)
  obtain ⟨q, h⟩ := h
  refine r_astore_n C [(3, .ref _), (0, .ref _), (1, .int _), (2, .int _)] dX8_came_4 rfl (by decide) rfl ?_
  refine r_iload_n C 2 dX8_came_5 rfl rfl ?_
  refine r_if_lt C 17 dX8_came_6 (by decide) (fun hc => ?_) (fun hc => ?_)
  · replace h := h.1 hc
    refine r_iconst (v := (-1 : Int32)) C dX8_came_17 rfl ?_
    exact r_iret C dX8_came_18 h
  · replace h := h.2 hc
    refine r_iload_n C 2 dX8_came_9 rfl rfl ?_
    refine r_aload_n C 0 dX8_came_10 rfl rfl ?_
    refine gX8_286 C q dX8_came_11 ?_
    refine r_icmp_lt C 19 dX8_came_14 (by decide) (fun hc => ?_) (fun hc => ?_)
    · replace h := h.1 hc
      refine r_iload_n C 3 dX8_came_19 rfl rfl ?_
      refine r_cases (0 : Int32) (fun hc0 => ?_) (fun hc0 => ?_)
      · refine r_tabIn C 52 dX8_came_20 (off := 32) (by rw [hc0]; decide) (by rw [hc0]; decide) (by rw [hc0]; rfl) (by decide) ?_
        replace h := h.1 hc0
        refine r_aload_n C 0 dX8_came_52 rfl rfl ?_
        refine gX8_314 C q dX8_came_53 ?_
        refine r_iload_n C 2 dX8_came_56 rfl rfl ?_
        obtain ⟨q_2, h⟩ := h
        refine r_iald C (isX0_A2 q) q_2 dX8_came_57 ?_
        exact r_iret C dX8_came_58 h
      ·
        refine r_cases (1 : Int32) (fun hc1 => ?_) (fun hc1 => ?_)
        · refine r_tabIn C 59 dX8_came_20 (off := 39) (by rw [hc1]; decide) (by rw [hc1]; decide) (by rw [hc1]; rfl) (by decide) ?_
          replace h := h.2.1 hc1
          refine r_aload_n C 0 dX8_came_59 rfl rfl ?_
          refine gX8_317 C q dX8_came_60 ?_
          refine r_iload_n C 2 dX8_came_63 rfl rfl ?_
          obtain ⟨q_3, h⟩ := h
          refine r_iald C (isX0_A3 q) q_3 dX8_came_64 ?_
          exact r_iret C dX8_came_65 h
        ·
          refine r_cases (2 : Int32) (fun hc2 => ?_) (fun hc2 => ?_)
          · refine r_tabIn C 66 dX8_came_20 (off := 46) (by rw [hc2]; decide) (by rw [hc2]; decide) (by rw [hc2]; rfl) (by decide) ?_
            replace h := h.2.2.1 hc2
            refine r_aload_n C 0 dX8_came_66 rfl rfl ?_
            refine gX8_320 C q dX8_came_67 ?_
            refine r_iload_n C 2 dX8_came_70 rfl rfl ?_
            obtain ⟨q_4, h⟩ := h
            refine r_iald C (isX0_A4 q) q_4 dX8_came_71 ?_
            exact r_iret C dX8_came_72 h
          ·
            refine r_cases (3 : Int32) (fun hc3 => ?_) (fun hc3 => ?_)
            · refine r_tabIn C 73 dX8_came_20 (off := 53) (by rw [hc3]; decide) (by rw [hc3]; decide) (by rw [hc3]; rfl) (by decide) ?_
              replace h := h.2.2.2.1 hc3
              refine r_aload_n C 0 dX8_came_73 rfl rfl ?_
              refine cX8_308 C q (m_X0_findHomes l q h) ⟨Nat.le_of_ble_eq_true rfl, Nat.le_of_ble_eq_true rfl⟩ (Nat.le_of_ble_eq_true rfl) ⟨Nat.le_refl 0, Nat.le_refl 0⟩ dX8_came_74 (fun M_3 h => ?_)
              refine r_aload_n C 0 dX8_came_77 rfl rfl ?_
              refine gX8_323 C q dX8_came_78 ?_
              refine r_iload_n C 2 dX8_came_81 rfl rfl ?_
              obtain ⟨q_5, h⟩ := h
              refine r_iald C (isX0_A11 q) q_5 dX8_came_82 ?_
              exact r_iret C dX8_came_83 h
            ·
              refine r_tabOut C 84 dX8_came_20 (tab_dflt 4 (fun j hj => by rcases (show j = 0 ∨ j = 1 ∨ j = 2 ∨ j = 3 by omega) with rfl | rfl | rfl | rfl <;> assumption) (by decide) (by decide)) (by decide) ?_
              replace h := h.2.2.2.2 hc0 hc1 hc2 hc3
              refine r_iconst (v := (-1 : Int32)) C dX8_came_84 rfl ?_
              exact r_iret C dX8_came_85 h
    · replace h := h.2 hc
      refine r_iconst (v := (-1 : Int32)) C dX8_came_17 rfl ?_
      exact r_iret C dX8_came_18 h
def f_X8_live (v1 : Int32) (M : Mem) (K : Int32 → Mem → Prop) : Prop := f_X1_hasStep 50 v1 M (fun (r : Int32) (M_2 : Mem) => ((¬ r = 0 → f_X8_presentGraph  M_2 (fun (r_2 : Nat) (M_3 : Mem) => isX0 r_2 ∧ f_X0_liveOnes r_2 50 M_3 (fun (r_3 : Int32) (M_4 : Mem) => K ((r_3 >>> (v1 &&& 31)) &&& (1 : Int32)) M_4))) ∧ (r = 0 → K (-1 : Int32) M_2)))

set_option maxHeartbeats 1000000 in
set_option maxRecDepth 10000 in
theorem m_X8_live (l : Launch) {v1 : Int32}  {M : Mem} {K : Int32 → Mem → Prop} (h : f_X8_live v1 M K) : CTi l yX8_live cX8_live 2 (some .int) rm_X8_live (fun ad => [.ref (ad 41), .int v1]) M K := by
  refine rw_enti (by decide +kernel) (fun ad => Nat.le_of_ble_eq_true rfl) (fun p e s m args below meth c D cy ad C => ?_)
  change rw_W p l e _ s m args below meth c D cy ad 2 0 0 _ 0 [(0, .ref (ad 41)), (1, .int v1)] [] M
  unfold f_X8_live at h
  refine r_aload_n C 0 dX8_live_0 rfl rfl ?_
  refine gX8_23 C dX8_live_1 ?_
  refine r_iload_n C 1 dX8_live_4 rfl rfl ?_
  refine cX8_136 C isX1_50 (m_X1_hasStep l isX1_50 h) ⟨Nat.le_of_ble_eq_true rfl, Nat.le_of_ble_eq_true rfl⟩ (Nat.le_of_ble_eq_true rfl) ⟨Nat.le_refl 0, Nat.le_refl 0⟩ dX8_live_5 (fun r M_2 h => ?_)
  refine r_if_ne C 13 dX8_live_8 (by decide) (fun hc => ?_) (fun hc => ?_)
  · replace h := h.1 hc
    refine r_aload_n C 0 dX8_live_13 rfl rfl ?_
    refine cX8_282 C (m_X8_presentGraph l h) ⟨Nat.le_of_ble_eq_true rfl, Nat.le_of_ble_eq_true rfl⟩ (Nat.le_of_ble_eq_true rfl) ⟨Nat.le_refl 0, Nat.le_refl 0⟩ dX8_live_14 (fun r_2 M_3 h => ?_)
    obtain ⟨q, h⟩ := h
    refine r_aload_n C 0 dX8_live_17 rfl rfl ?_
    refine gX8_23 C dX8_live_18 ?_
    refine cX8_326 C q (m_X0_liveOnes l q isX1_50 h) ⟨Nat.le_of_ble_eq_true rfl, Nat.le_of_ble_eq_true rfl⟩ (Nat.le_of_ble_eq_true rfl) ⟨Nat.le_refl 0, Nat.le_refl 0⟩ dX8_live_21 (fun r_3 M_4 h => ?_)
    refine r_iload_n C 1 dX8_live_24 rfl rfl ?_
    refine r_ishr C dX8_live_25 ?_
    refine r_iconst (v := (1 : Int32)) C dX8_live_26 rfl ?_
    refine r_iand C dX8_live_27 ?_
    exact r_iret C dX8_live_28 h
  · replace h := h.2 hc
    refine r_iconst (v := (-1 : Int32)) C dX8_live_11 rfl ?_
    exact r_iret C dX8_live_12 h
def f_X8_most (v1 : Int32) (M : Mem) (K : Int32 → Mem → Prop) : Prop := f_X1_hasPlace 50 v1 M (fun (r : Int32) (M_2 : Mem) => ((r = 0 → K (-1 : Int32) M_2) ∧ (¬ r = 0 → f_X8_presentGraph  M_2 (fun (r_2 : Nat) (M_3 : Mem) => isX0 r_2 ∧ f_X0_mostIn r_2 v1 M_3 (fun (r_3 : Int32) (M_4 : Mem) => K r_3 M_4)))))

set_option maxHeartbeats 1000000 in
set_option maxRecDepth 10000 in
theorem m_X8_most (l : Launch) {v1 : Int32}  {M : Mem} {K : Int32 → Mem → Prop} (h : f_X8_most v1 M K) : CTi l yX8_most cX8_most 2 (some .int) rm_X8_most (fun ad => [.ref (ad 41), .int v1]) M K := by
  refine rw_enti (by decide +kernel) (fun ad => Nat.le_of_ble_eq_true rfl) (fun p e s m args below meth c D cy ad C => ?_)
  change rw_W p l e _ s m args below meth c D cy ad 2 0 0 _ 0 [(0, .ref (ad 41)), (1, .int v1)] [] M
  unfold f_X8_most at h
  refine r_aload_n C 0 dX8_most_0 rfl rfl ?_
  refine gX8_23 C dX8_most_1 ?_
  refine r_iload_n C 1 dX8_most_4 rfl rfl ?_
  refine cX8_140 C isX1_50 (m_X1_hasPlace l isX1_50 h) ⟨Nat.le_of_ble_eq_true rfl, Nat.le_of_ble_eq_true rfl⟩ (Nat.le_of_ble_eq_true rfl) ⟨Nat.le_refl 0, Nat.le_refl 0⟩ dX8_most_5 (fun r M_2 h => ?_)
  refine r_if_eq C 22 dX8_most_8 (by decide) (fun hc => ?_) (fun hc => ?_)
  · replace h := h.1 hc
    refine r_iconst (v := (-1 : Int32)) C dX8_most_22 rfl ?_
    exact r_iret C dX8_most_23 h
  · replace h := h.2 hc
    refine r_aload_n C 0 dX8_most_11 rfl rfl ?_
    refine cX8_282 C (m_X8_presentGraph l h) ⟨Nat.le_of_ble_eq_true rfl, Nat.le_of_ble_eq_true rfl⟩ (Nat.le_of_ble_eq_true rfl) ⟨Nat.le_refl 0, Nat.le_refl 0⟩ dX8_most_12 (fun r_2 M_3 h => ?_)
    obtain ⟨q, h⟩ := h
    refine r_iload_n C 1 dX8_most_15 rfl rfl ?_
    refine cX8_329 C q (m_X0_mostIn l q h) ⟨Nat.le_of_ble_eq_true rfl, Nat.le_of_ble_eq_true rfl⟩ (Nat.le_of_ble_eq_true rfl) ⟨Nat.le_refl 0, Nat.le_refl 0⟩ dX8_most_16 (fun r_3 M_4 h => ?_)
    refine r_goto C 23 dX8_most_19 (by decide) ?_
    exact r_iret C dX8_most_23 h
def f_X8_reduce (M : Mem) (K : Int32 → Mem → Prop) : Prop := f_X5_makeSmall 50 M (fun (M_2 : Mem) => K (M_2.1 146 4) M_2)

set_option maxHeartbeats 1000000 in
set_option maxRecDepth 10000 in
theorem m_X8_reduce (l : Launch)   {M : Mem} {K : Int32 → Mem → Prop} (h : f_X8_reduce M K) : CTi l yX8_reduce cX8_reduce 1 (some .int) rm_X8_reduce (fun ad => [.ref (ad 41)]) M K := by
  refine rw_enti (by decide +kernel) (fun ad => Nat.le_of_ble_eq_true rfl) (fun p e s m args below meth c D cy ad C => ?_)
  change rw_W p l e _ s m args below meth c D cy ad 1 0 0 _ 0 [(0, .ref (ad 41))] [] M
  unfold f_X8_reduce at h
  refine r_aload_n C 0 dX8_reduce_0 rfl rfl ?_
  refine gX8_72 C dX8_reduce_1 ?_
  refine r_aload_n C 0 dX8_reduce_4 rfl rfl ?_
  refine gX8_23 C dX8_reduce_5 ?_
  refine cX8_332 C (m_X5_makeSmall l isX1_50 h) ⟨Nat.le_of_ble_eq_true rfl, Nat.le_of_ble_eq_true rfl⟩ (Nat.le_of_ble_eq_true rfl) ⟨Nat.le_refl 0, Nat.le_refl 0⟩ dX8_reduce_8 (fun M_2 h => ?_)
  refine r_aload_n C 0 dX8_reduce_11 rfl rfl ?_
  refine gX8_72 C dX8_reduce_12 ?_
  refine gX8_335 C dX8_reduce_15 ?_
  exact r_iret C dX8_reduce_18 h
def f_X8_rule (v1 : Int32) (v2 : Int32) (M : Mem) (K : Int32 → Mem → Prop) : Prop := f_X5_makeSmall 50 M (fun (M_2 : Mem) => ((v1 < 0 → K (-1 : Int32) M_2) ∧ (¬ v1 < 0 → ((v1 < (M_2.1 146 4) → ((v2 = (0 : Int32) → vp_in v1 18 ∧ K (gI M_2 151 v1) M_2) ∧ (v2 = (1 : Int32) → vp_in v1 18 ∧ K (gI M_2 152 v1) M_2) ∧ (v2 = (2 : Int32) → vp_in v1 18 ∧ K (gI M_2 153 v1) M_2) ∧ (¬ v2 = (0 : Int32) → ¬ v2 = (1 : Int32) → ¬ v2 = (2 : Int32) → K (-1 : Int32) M_2))) ∧ (¬ v1 < (M_2.1 146 4) → K (-1 : Int32) M_2)))))

set_option maxHeartbeats 1000000 in
set_option maxRecDepth 10000 in
theorem m_X8_rule (l : Launch) {v1 : Int32} {v2 : Int32}  {M : Mem} {K : Int32 → Mem → Prop} (h : f_X8_rule v1 v2 M K) : CTi l yX8_rule cX8_rule 3 (some .int) rm_X8_rule (fun ad => [.ref (ad 41), .int v1, .int v2]) M K := by
  refine rw_enti (by decide +kernel) (fun ad => Nat.le_of_ble_eq_true rfl) (fun p e s m args below meth c D cy ad C => ?_)
  change rw_W p l e _ s m args below meth c D cy ad 3 0 0 _ 0 [(0, .ref (ad 41)), (1, .int v1), (2, .int v2)] [] M
  unfold f_X8_rule at h
  refine r_aload_n C 0 dX8_rule_0 rfl rfl ?_
  refine gX8_72 C dX8_rule_1 ?_
  refine r_aload_n C 0 dX8_rule_4 rfl rfl ?_
  refine gX8_23 C dX8_rule_5 ?_
  refine cX8_332 C (m_X5_makeSmall l isX1_50 h) ⟨Nat.le_of_ble_eq_true rfl, Nat.le_of_ble_eq_true rfl⟩ (Nat.le_of_ble_eq_true rfl) ⟨Nat.le_refl 0, Nat.le_refl 0⟩ dX8_rule_8 (fun M_2 h => ?_)
  refine r_iload_n C 1 dX8_rule_11 rfl rfl ?_
  refine r_if_lt C 26 dX8_rule_12 (by decide) (fun hc => ?_) (fun hc => ?_)
  · replace h := h.1 hc
    refine r_iconst (v := (-1 : Int32)) C dX8_rule_26 rfl ?_
    exact r_iret C dX8_rule_27 h
  · replace h := h.2 hc
    refine r_iload_n C 1 dX8_rule_15 rfl rfl ?_
    refine r_aload_n C 0 dX8_rule_16 rfl rfl ?_
    refine gX8_72 C dX8_rule_17 ?_
    refine gX8_335 C dX8_rule_20 ?_
    refine r_icmp_lt C 28 dX8_rule_23 (by decide) (fun hc => ?_) (fun hc => ?_)
    · replace h := h.1 hc
      refine r_iload_n C 2 dX8_rule_28 rfl rfl ?_
      refine r_cases (0 : Int32) (fun hc0 => ?_) (fun hc0 => ?_)
      · refine r_tabIn C 56 dX8_rule_29 (off := 27) (by rw [hc0]; decide) (by rw [hc0]; decide) (by rw [hc0]; rfl) (by decide) ?_
        replace h := h.1 hc0
        refine r_aload_n C 0 dX8_rule_56 rfl rfl ?_
        refine gX8_72 C dX8_rule_57 ?_
        refine gX8_336 C dX8_rule_60 ?_
        refine r_iload_n C 1 dX8_rule_63 rfl rfl ?_
        obtain ⟨q, h⟩ := h
        refine r_iald C sh_151 q dX8_rule_64 ?_
        exact r_iret C dX8_rule_65 h
      ·
        refine r_cases (1 : Int32) (fun hc1 => ?_) (fun hc1 => ?_)
        · refine r_tabIn C 66 dX8_rule_29 (off := 37) (by rw [hc1]; decide) (by rw [hc1]; decide) (by rw [hc1]; rfl) (by decide) ?_
          replace h := h.2.1 hc1
          refine r_aload_n C 0 dX8_rule_66 rfl rfl ?_
          refine gX8_72 C dX8_rule_67 ?_
          refine gX8_337 C dX8_rule_70 ?_
          refine r_iload_n C 1 dX8_rule_73 rfl rfl ?_
          obtain ⟨q_2, h⟩ := h
          refine r_iald C sh_152 q_2 dX8_rule_74 ?_
          exact r_iret C dX8_rule_75 h
        ·
          refine r_cases (2 : Int32) (fun hc2 => ?_) (fun hc2 => ?_)
          · refine r_tabIn C 76 dX8_rule_29 (off := 47) (by rw [hc2]; decide) (by rw [hc2]; decide) (by rw [hc2]; rfl) (by decide) ?_
            replace h := h.2.2.1 hc2
            refine r_aload_n C 0 dX8_rule_76 rfl rfl ?_
            refine gX8_72 C dX8_rule_77 ?_
            refine gX8_340 C dX8_rule_80 ?_
            refine r_iload_n C 1 dX8_rule_83 rfl rfl ?_
            obtain ⟨q_3, h⟩ := h
            refine r_iald C sh_153 q_3 dX8_rule_84 ?_
            exact r_iret C dX8_rule_85 h
          ·
            refine r_tabOut C 86 dX8_rule_29 (tab_dflt 3 (fun j hj => by rcases (show j = 0 ∨ j = 1 ∨ j = 2 by omega) with rfl | rfl | rfl <;> assumption) (by decide) (by decide)) (by decide) ?_
            replace h := h.2.2.2 hc0 hc1 hc2
            refine r_iconst (v := (-1 : Int32)) C dX8_rule_86 rfl ?_
            exact r_iret C dX8_rule_87 h
    · replace h := h.2 hc
      refine r_iconst (v := (-1 : Int32)) C dX8_rule_26 rfl ?_
      exact r_iret C dX8_rule_27 h
def f_X8_smallerGraph (M : Mem) (K : Nat → Mem → Prop) : Prop := f_X0_grow 154 147 (M.1 50 8) M (fun (M_2 : Mem) => K 154 M_2)

set_option maxHeartbeats 1000000 in
set_option maxRecDepth 10000 in
theorem m_X8_smallerGraph (l : Launch)   {M : Mem} {K : Nat → Mem → Prop} (h : f_X8_smallerGraph M K) : CTr l yX8_smallerGraph cX8_smallerGraph 1 (some (.object "TokenSums$Graph")) rm_X8_smallerGraph (fun ad => [.ref (ad 41)]) M K := by
  refine rw_entr (by decide +kernel) (fun ad => Nat.le_of_ble_eq_true rfl) (fun p e s m args below meth c D cy ad C => ?_)
  change rw_W p l e _ s m args below meth c D cy ad 1 0 0 _ 0 [(0, .ref (ad 41))] [] M
  unfold f_X8_smallerGraph at h
  refine r_aload_n C 0 dX8_smallerGraph_0 rfl rfl ?_
  refine gX8_76 C dX8_smallerGraph_1 ?_
  refine r_aload_n C 0 dX8_smallerGraph_4 rfl rfl ?_
  refine gX8_72 C dX8_smallerGraph_5 ?_
  refine gX8_343 C dX8_smallerGraph_8 ?_
  refine r_aload_n C 0 dX8_smallerGraph_11 rfl rfl ?_
  refine gX8_23 C dX8_smallerGraph_12 ?_
  refine gX8_349 C isX1_50 dX8_smallerGraph_15 ?_
  refine cX8_363 C isX0_154 (m_X0_grow l isX0_154 isX1_147 h) ⟨Nat.le_of_ble_eq_true rfl, Nat.le_of_ble_eq_true rfl⟩ (Nat.le_of_ble_eq_true rfl) ⟨Nat.le_refl 0, Nat.le_refl 0⟩ dX8_smallerGraph_18 (fun M_2 h => ?_)
  refine r_aload_n C 0 dX8_smallerGraph_21 rfl rfl ?_
  refine gX8_76 C dX8_smallerGraph_22 ?_
  exact r_aret C dX8_smallerGraph_25 h
def f_X8_reduced (v1 : Int32) (M : Mem) (K : Int32 → Mem → Prop) : Prop := f_X5_makeSmall 50 M (fun (M_2 : Mem) => ((v1 = (0 : Int32) → K (M_2.1 147 5) M_2) ∧ (v1 = (1 : Int32) → K (M_2.1 147 6) M_2) ∧ (v1 = (2 : Int32) → f_X8_smallerGraph  M_2 (fun (r_2 : Nat) (M_3 : Mem) => isX0 r_2 ∧ K (M_3.1 r_2 12) M_3)) ∧ (v1 = (3 : Int32) → f_X8_smallerGraph  M_2 (fun (r_3 : Nat) (M_4 : Mem) => isX0 r_3 ∧ f_X8_oneIf (M_4.1 r_3 13) M_4 (fun (r_4 : Int32) (M_5 : Mem) => K r_4 M_5))) ∧ (v1 = (4 : Int32) → f_X8_smallerGraph  M_2 (fun (r_5 : Nat) (M_6 : Mem) => isX0 r_5 ∧ f_X0_liveOnes r_5 147 M_6 (fun (r_6 : Int32) (M_7 : Mem) => K r_6 M_7))) ∧ (v1 = (5 : Int32) → f_X8_smallerGraph  M_2 (fun (r_7 : Nat) (M_8 : Mem) => isX0 r_7 ∧ f_X0_deadOnes r_7 M_8 (fun (r_8 : Int32) (M_9 : Mem) => K r_8 M_9))) ∧ (¬ v1 = (0 : Int32) → ¬ v1 = (1 : Int32) → ¬ v1 = (2 : Int32) → ¬ v1 = (3 : Int32) → ¬ v1 = (4 : Int32) → ¬ v1 = (5 : Int32) → K (-1 : Int32) M_2)))

set_option maxHeartbeats 1000000 in
set_option maxRecDepth 10000 in
theorem m_X8_reduced (l : Launch) {v1 : Int32}  {M : Mem} {K : Int32 → Mem → Prop} (h : f_X8_reduced v1 M K) : CTi l yX8_reduced cX8_reduced 2 (some .int) rm_X8_reduced (fun ad => [.ref (ad 41), .int v1]) M K := by
  refine rw_enti (by decide +kernel) (fun ad => Nat.le_of_ble_eq_true rfl) (fun p e s m args below meth c D cy ad C => ?_)
  change rw_W p l e _ s m args below meth c D cy ad 2 0 0 _ 0 [(0, .ref (ad 41)), (1, .int v1)] [] M
  unfold f_X8_reduced at h
  refine r_aload_n C 0 dX8_reduced_0 rfl rfl ?_
  refine gX8_72 C dX8_reduced_1 ?_
  refine r_aload_n C 0 dX8_reduced_4 rfl rfl ?_
  refine gX8_23 C dX8_reduced_5 ?_
  refine cX8_332 C (m_X5_makeSmall l isX1_50 h) ⟨Nat.le_of_ble_eq_true rfl, Nat.le_of_ble_eq_true rfl⟩ (Nat.le_of_ble_eq_true rfl) ⟨Nat.le_refl 0, Nat.le_refl 0⟩ dX8_reduced_8 (fun M_2 h => ?_)
  refine r_iload_n C 1 dX8_reduced_11 rfl rfl ?_
  refine r_cases (0 : Int32) (fun hc0 => ?_) (fun hc0 => ?_)
  · refine r_tabIn C 52 dX8_reduced_12 (off := 40) (by rw [hc0]; decide) (by rw [hc0]; decide) (by rw [hc0]; rfl) (by decide) ?_
    replace h := h.1 hc0
    refine r_aload_n C 0 dX8_reduced_52 rfl rfl ?_
    refine gX8_72 C dX8_reduced_53 ?_
    refine gX8_343 C dX8_reduced_56 ?_
    refine gX8_107 C isX1_147 dX8_reduced_59 ?_
    exact r_iret C dX8_reduced_62 h
  ·
    refine r_cases (1 : Int32) (fun hc1 => ?_) (fun hc1 => ?_)
    · refine r_tabIn C 63 dX8_reduced_12 (off := 51) (by rw [hc1]; decide) (by rw [hc1]; decide) (by rw [hc1]; rfl) (by decide) ?_
      replace h := h.2.1 hc1
      refine r_aload_n C 0 dX8_reduced_63 rfl rfl ?_
      refine gX8_72 C dX8_reduced_64 ?_
      refine gX8_343 C dX8_reduced_67 ?_
      refine gX8_122 C isX1_147 dX8_reduced_70 ?_
      exact r_iret C dX8_reduced_73 h
    ·
      refine r_cases (2 : Int32) (fun hc2 => ?_) (fun hc2 => ?_)
      · refine r_tabIn C 74 dX8_reduced_12 (off := 62) (by rw [hc2]; decide) (by rw [hc2]; decide) (by rw [hc2]; rfl) (by decide) ?_
        replace h := h.2.2.1 hc2
        refine r_aload_n C 0 dX8_reduced_74 rfl rfl ?_
        refine cX8_346 C (m_X8_smallerGraph l h) ⟨Nat.le_of_ble_eq_true rfl, Nat.le_of_ble_eq_true rfl⟩ (Nat.le_of_ble_eq_true rfl) ⟨Nat.le_refl 0, Nat.le_refl 0⟩ dX8_reduced_75 (fun r_2 M_3 h => ?_)
        obtain ⟨q, h⟩ := h
        refine gX8_286 C q dX8_reduced_78 ?_
        exact r_iret C dX8_reduced_81 h
      ·
        refine r_cases (3 : Int32) (fun hc3 => ?_) (fun hc3 => ?_)
        · refine r_tabIn C 82 dX8_reduced_12 (off := 70) (by rw [hc3]; decide) (by rw [hc3]; decide) (by rw [hc3]; rfl) (by decide) ?_
          replace h := h.2.2.2.1 hc3
          refine r_aload_n C 0 dX8_reduced_82 rfl rfl ?_
          refine cX8_346 C (m_X8_smallerGraph l h) ⟨Nat.le_of_ble_eq_true rfl, Nat.le_of_ble_eq_true rfl⟩ (Nat.le_of_ble_eq_true rfl) ⟨Nat.le_refl 0, Nat.le_refl 0⟩ dX8_reduced_83 (fun r_3 M_4 h => ?_)
          obtain ⟨q_2, h⟩ := h
          refine gX8_298 C q_2 dX8_reduced_86 ?_
          refine cX8_162 C (m_X8_oneIf l h) ⟨Nat.le_of_ble_eq_true rfl, Nat.le_of_ble_eq_true rfl⟩ (Nat.le_of_ble_eq_true rfl) ⟨Nat.le_refl 0, Nat.le_refl 0⟩ dX8_reduced_89 (fun r_4 M_5 h => ?_)
          exact r_iret C dX8_reduced_92 h
        ·
          refine r_cases (4 : Int32) (fun hc4 => ?_) (fun hc4 => ?_)
          · refine r_tabIn C 93 dX8_reduced_12 (off := 81) (by rw [hc4]; decide) (by rw [hc4]; decide) (by rw [hc4]; rfl) (by decide) ?_
            replace h := h.2.2.2.2.1 hc4
            refine r_aload_n C 0 dX8_reduced_93 rfl rfl ?_
            refine cX8_346 C (m_X8_smallerGraph l h) ⟨Nat.le_of_ble_eq_true rfl, Nat.le_of_ble_eq_true rfl⟩ (Nat.le_of_ble_eq_true rfl) ⟨Nat.le_refl 0, Nat.le_refl 0⟩ dX8_reduced_94 (fun r_5 M_6 h => ?_)
            obtain ⟨q_3, h⟩ := h
            refine r_aload_n C 0 dX8_reduced_97 rfl rfl ?_
            refine gX8_72 C dX8_reduced_98 ?_
            refine gX8_343 C dX8_reduced_101 ?_
            refine cX8_326 C q_3 (m_X0_liveOnes l q_3 isX1_147 h) ⟨Nat.le_of_ble_eq_true rfl, Nat.le_of_ble_eq_true rfl⟩ (Nat.le_of_ble_eq_true rfl) ⟨Nat.le_refl 0, Nat.le_refl 0⟩ dX8_reduced_104 (fun r_6 M_7 h => ?_)
            exact r_iret C dX8_reduced_107 h
          ·
            refine r_cases (5 : Int32) (fun hc5 => ?_) (fun hc5 => ?_)
            · refine r_tabIn C 108 dX8_reduced_12 (off := 96) (by rw [hc5]; decide) (by rw [hc5]; decide) (by rw [hc5]; rfl) (by decide) ?_
              replace h := h.2.2.2.2.2.1 hc5
              refine r_aload_n C 0 dX8_reduced_108 rfl rfl ?_
              refine cX8_346 C (m_X8_smallerGraph l h) ⟨Nat.le_of_ble_eq_true rfl, Nat.le_of_ble_eq_true rfl⟩ (Nat.le_of_ble_eq_true rfl) ⟨Nat.le_refl 0, Nat.le_refl 0⟩ dX8_reduced_109 (fun r_7 M_8 h => ?_)
              obtain ⟨q_4, h⟩ := h
              refine cX8_302 C q_4 (m_X0_deadOnes l q_4 h) ⟨Nat.le_of_ble_eq_true rfl, Nat.le_of_ble_eq_true rfl⟩ (Nat.le_of_ble_eq_true rfl) ⟨Nat.le_refl 0, Nat.le_refl 0⟩ dX8_reduced_112 (fun r_8 M_9 h => ?_)
              exact r_iret C dX8_reduced_115 h
            ·
              refine r_tabOut C 116 dX8_reduced_12 (tab_dflt 6 (fun j hj => by rcases (show j = 0 ∨ j = 1 ∨ j = 2 ∨ j = 3 ∨ j = 4 ∨ j = 5 by omega) with rfl | rfl | rfl | rfl | rfl | rfl <;> assumption) (by decide) (by decide)) (by decide) ?_
              replace h := h.2.2.2.2.2.2 hc0 hc1 hc2 hc3 hc4 hc5
              refine r_iconst (v := (-1 : Int32)) C dX8_reduced_116 rfl ?_
              exact r_iret C dX8_reduced_117 h
def f_X8_become (M : Mem) (K : Int32 → Mem → Prop) : Prop := f_X5_makeSmall 50 M (fun (M_2 : Mem) => ((¬ (M_2.1 146 4) = 0 → f_X2_keep 50 M_2 (fun (M_3 : Mem) => f_X1_copyFrom 50 147 M_3 (fun (M_4 : Mem) => f_X8_newForm  M_4 (fun (M_5 : Mem) => K (M_5.1 146 4) M_5)))) ∧ ((M_2.1 146 4) = 0 → K (-1 : Int32) M_2)))

set_option maxHeartbeats 1000000 in
set_option maxRecDepth 10000 in
theorem m_X8_become (l : Launch)   {M : Mem} {K : Int32 → Mem → Prop} (h : f_X8_become M K) : CTi l yX8_become cX8_become 1 (some .int) rm_X8_become (fun ad => [.ref (ad 41)]) M K := by
  refine rw_enti (by decide +kernel) (fun ad => Nat.le_of_ble_eq_true rfl) (fun p e s m args below meth c D cy ad C => ?_)
  change rw_W p l e _ s m args below meth c D cy ad 1 0 0 _ 0 [(0, .ref (ad 41))] [] M
  unfold f_X8_become at h
  refine r_aload_n C 0 dX8_become_0 rfl rfl ?_
  refine gX8_72 C dX8_become_1 ?_
  refine r_aload_n C 0 dX8_become_4 rfl rfl ?_
  refine gX8_23 C dX8_become_5 ?_
  refine cX8_332 C (m_X5_makeSmall l isX1_50 h) ⟨Nat.le_of_ble_eq_true rfl, Nat.le_of_ble_eq_true rfl⟩ (Nat.le_of_ble_eq_true rfl) ⟨Nat.le_refl 0, Nat.le_refl 0⟩ dX8_become_8 (fun M_2 h => ?_)
  refine r_aload_n C 0 dX8_become_11 rfl rfl ?_
  refine gX8_72 C dX8_become_12 ?_
  refine gX8_335 C dX8_become_15 ?_
  refine r_if_ne C 23 dX8_become_18 (by decide) (fun hc => ?_) (fun hc => ?_)
  · replace h := h.1 hc
    refine r_aload_n C 0 dX8_become_23 rfl rfl ?_
    refine gX8_29 C dX8_become_24 ?_
    refine r_aload_n C 0 dX8_become_27 rfl rfl ?_
    refine gX8_23 C dX8_become_28 ?_
    refine cX8_176 C (m_X2_keep l isX1_50 h) ⟨Nat.le_of_ble_eq_true rfl, Nat.le_of_ble_eq_true rfl⟩ (Nat.le_of_ble_eq_true rfl) ⟨Nat.le_refl 0, Nat.le_refl 0⟩ dX8_become_31 (fun M_3 h => ?_)
    refine r_aload_n C 0 dX8_become_34 rfl rfl ?_
    refine gX8_23 C dX8_become_35 ?_
    refine r_aload_n C 0 dX8_become_38 rfl rfl ?_
    refine gX8_72 C dX8_become_39 ?_
    refine gX8_343 C dX8_become_42 ?_
    refine cX8_94 C isX1_50 (m_X1_copyFrom l isX1_50 isX1_147 h) ⟨Nat.le_of_ble_eq_true rfl, Nat.le_of_ble_eq_true rfl⟩ (Nat.le_of_ble_eq_true rfl) ⟨Nat.le_refl 0, Nat.le_refl 0⟩ dX8_become_45 (fun M_4 h => ?_)
    refine r_aload_n C 0 dX8_become_48 rfl rfl ?_
    refine cX8_98 C (m_X8_newForm l h) ⟨Nat.le_of_ble_eq_true rfl, Nat.le_of_ble_eq_true rfl⟩ (Nat.le_of_ble_eq_true rfl) ⟨Nat.le_refl 0, Nat.le_refl 0⟩ dX8_become_49 (fun M_5 h => ?_)
    refine r_aload_n C 0 dX8_become_52 rfl rfl ?_
    refine gX8_72 C dX8_become_53 ?_
    refine gX8_335 C dX8_become_56 ?_
    exact r_iret C dX8_become_59 h
  · replace h := h.2 hc
    refine r_iconst (v := (-1 : Int32)) C dX8_become_21 rfl ?_
    exact r_iret C dX8_become_22 h
end MG
