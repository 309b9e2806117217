section MG
variable {p : Program} {l : Launch} {e : Env} {R : Room} {s : State} {m : MethodId} {args : Array Value} {below : List Frame} {meth : Method} {c : Code} {D : va_G} {cy : Nat → ClassId} {ad : Nat → Nat}
def L_X8_bitAt_4 (v0 : Int32) (X36 : Mem → Prop) (K : Int32 → Mem → Prop) : Nat → Int32 → Int32 → Mem → Prop
  | 0, _, _, _ => False
  | n + 1, v2, v3, M => (((10 : Int32) ≤ v3 → X36 M) ∧ (¬ (10 : Int32) ≤ v3 → ((¬ ((v0 >>> (v3 &&& 31)) &&& (1 : Int32)) = 0 → ((¬ v2 = 0 → L_X8_bitAt_4 v0 X36 K n (v2 + (-1 : Int32)) (v3 + (1 : Int32)) M) ∧ (v2 = 0 → K v3 M))) ∧ (((v0 >>> (v3 &&& 31)) &&& (1 : Int32)) = 0 → L_X8_bitAt_4 v0 X36 K n v2 (v3 + (1 : Int32)) M))))

set_option maxHeartbeats 1000000 in
set_option maxRecDepth 10000 in
theorem mL_X8_bitAt_4 (C : rw_C p s m meth c cX8_bitAt 4 RX8 (some .int) D cy ad) {v0 : Int32} {X36 : Mem → Prop} {K : Int32 → Mem → Prop} (hX36 : ∀  (M : Mem), X36 M → rw_W p l e rm_X8_bitAt s m args below meth c D cy ad 4 0 0 (rw_Qi below args s D cy ad K) 36 [] [] M) : ∀ (n : Nat) (v2 : Int32) (v3 : Int32) (M : Mem), L_X8_bitAt_4 v0 X36 K n v2 v3 M → rw_W p l e rm_X8_bitAt s m args below meth c D cy ad 4 0 0 (rw_Qi below args s D cy ad K) 4 [(0, .int v0), (2, .int v2), (3, .int v3)] [] M := by
  intro n
  induction n with
  | zero => intro v2 v3 M h; exact h.elim
  | succ n ih =>
    intro v2 v3 M h
    refine r_iload_n C 2 dX8_bitAt_4 rfl rfl ?_
    refine r_bipush (v := (10 : Int32)) C dX8_bitAt_5 rfl ?_
    refine r_icmp_ge C 36 dX8_bitAt_7 (by decide) (fun hc => ?_) (fun hc => ?_)
    · replace h := h.1 hc
      exact r_sub [] rfl (hX36 _ h)
    · replace h := h.2 hc
      refine r_iload_n C 0 dX8_bitAt_10 rfl rfl ?_
      refine r_iload_n C 2 dX8_bitAt_11 rfl rfl ?_
      refine r_ishr C dX8_bitAt_12 ?_
      refine r_iconst (v := (1 : Int32)) C dX8_bitAt_13 rfl ?_
      refine r_iand C dX8_bitAt_14 ?_
      refine r_if_ne C 21 dX8_bitAt_15 (by decide) (fun hc => ?_) (fun hc => ?_)
      · replace h := h.1 hc
        refine r_iload_n C 1 dX8_bitAt_21 rfl rfl ?_
        refine r_if_ne C 27 dX8_bitAt_22 (by decide) (fun hc => ?_) (fun hc => ?_)
        · replace h := h.1 hc
          refine r_iinc C 1 (v := _) [(2, .int _), (0, .int _), (3, .int _)] dX8_bitAt_27 rfl rfl (by decide) rfl ?_
          refine r_iinc C 2 (v := _) [(3, .int _), (2, .int _), (0, .int _)] dX8_bitAt_30 rfl rfl (by decide) rfl ?_
          refine r_goto C 4 dX8_bitAt_33 (by decide) ?_
          exact r_sub [2, 1, 0] rfl (ih _ _ _ h)
        · replace h := h.2 hc
          refine r_iload_n C 2 dX8_bitAt_25 rfl rfl ?_
          exact r_iret C dX8_bitAt_26 h
      · replace h := h.2 hc
        refine r_goto C 30 dX8_bitAt_18 (by decide) ?_
        refine r_iinc C 2 (v := _) [(3, .int _), (0, .int _), (2, .int _)] dX8_bitAt_30 rfl rfl (by decide) rfl ?_
        refine r_goto C 4 dX8_bitAt_33 (by decide) ?_
        exact r_sub [1, 2, 0] rfl (ih _ _ _ h)

def f_X8_bitAt (v0 : Int32) (v1 : Int32) (M : Mem) (K : Int32 → Mem → Prop) : Prop := (∃ k4 : Nat, L_X8_bitAt_4 v0 (fun  (M_2 : Mem) => K (-1 : Int32) M_2) K k4 v1 (0 : Int32) M)

set_option maxHeartbeats 1000000 in
set_option maxRecDepth 10000 in
theorem m_X8_bitAt (l : Launch) {v0 : Int32} {v1 : Int32}  {M : Mem} {K : Int32 → Mem → Prop} (h : f_X8_bitAt v0 v1 M K) : CTi l yX8_bitAt cX8_bitAt 4 (some .int) rm_X8_bitAt (fun ad => [.int v0, .int v1]) M K := by
  refine rw_enti (by decide +kernel) (fun ad => Nat.le_of_ble_eq_true rfl) (fun p e s m args below meth c D cy ad C => ?_)
  change rw_W p l e _ s m args below meth c D cy ad 4 0 0 _ 0 [(0, .int v0), (1, .int v1)] [] M
  unfold f_X8_bitAt at h
  refine r_iload_n C 1 dX8_bitAt_0 rfl rfl ?_
  refine r_istore_n C [(2, .int _), (0, .int _), (1, .int _)] dX8_bitAt_1 rfl (by decide) rfl ?_
  refine r_iconst (v := (0 : Int32)) C dX8_bitAt_2 rfl ?_
  refine r_istore_n C [(3, .int _), (2, .int _), (0, .int _), (1, .int _)] dX8_bitAt_3 rfl (by decide) rfl ?_
  obtain ⟨n4, h⟩ := h
  refine r_sub [2, 1, 0] rfl (mL_X8_bitAt_4 C (fun M_2 h => ?_) n4 _ _ _ h)
  refine r_iconst (v := (-1 : Int32)) C dX8_bitAt_36 rfl ?_
  exact r_iret C dX8_bitAt_37 h
def L_X5_canJoin_29 (v1 : Int32) (v2 : Int32) (X85 : Mem → Prop) (K : Int32 → Mem → Prop) : Nat → Int32 → Mem → Prop
  | 0, _, _ => False
  | n + 1, v3, M => (((M.1 147 4) ≤ v3 → X85 M) ∧ (¬ (M.1 147 4) ≤ v3 → vp_in ((v3 * (10 : Int32)) + v1) 80 ∧ vp_in ((v3 * (10 : Int32)) + v2) 80 ∧ ∀ x4 : Int32, x4 = (gI M 149 ((v3 * (10 : Int32)) + v1)) + (gI M 149 ((v3 * (10 : Int32)) + v2)) → ((x4 ≤ (3 : Int32) → L_X5_canJoin_29 v1 v2 X85 K n (v3 + (1 : Int32)) M) ∧ (¬ x4 ≤ (3 : Int32) → K (0 : Int32) M))))

set_option maxHeartbeats 1000000 in
set_option maxRecDepth 10000 in
theorem mL_X5_canJoin_29 (C : rw_C p s m meth c cX5_canJoin 5 RX5 (some .boolean) D cy ad) {v1 : Int32} {v2 : Int32} {X85 : Mem → Prop} {K : Int32 → Mem → Prop} (hX85 : ∀  (M : Mem), X85 M → rw_W p l e rm_X5_canJoin s m args below meth c D cy ad 5 0 0 (rw_Qi below args s D cy ad K) 85 [] [] M) : ∀ (n : Nat) (v3 : Int32) (M : Mem), L_X5_canJoin_29 v1 v2 X85 K n v3 M → rw_W p l e rm_X5_canJoin s m args below meth c D cy ad 5 0 0 (rw_Qi below args s D cy ad K) 29 [(0, .ref (ad 146)), (1, .int v1), (2, .int v2), (3, .int v3)] [] M := by
  intro n
  induction n with
  | zero => intro v3 M h; exact h.elim
  | succ n ih =>
    intro v3 M h
    refine r_iload_n C 3 dX5_canJoin_29 rfl rfl ?_
    refine r_aload_n C 0 dX5_canJoin_30 rfl rfl ?_
    refine gX5_12 C dX5_canJoin_31 ?_
    refine gX5_93 C isX1_147 dX5_canJoin_34 ?_
    refine r_icmp_ge C 85 dX5_canJoin_37 (by decide) (fun hc => ?_) (fun hc => ?_)
    · replace h := h.1 hc
      exact r_sub [] rfl (hX85 _ h)
    · replace h := h.2 hc
      refine r_aload_n C 0 dX5_canJoin_40 rfl rfl ?_
      refine gX5_12 C dX5_canJoin_41 ?_
      refine gX5_86 C isX1_147 dX5_canJoin_44 ?_
      refine r_iload_n C 3 dX5_canJoin_47 rfl rfl ?_
      refine r_bipush (v := (10 : Int32)) C dX5_canJoin_48 rfl ?_
      refine r_imul C dX5_canJoin_50 ?_
      refine r_iload_n C 1 dX5_canJoin_51 rfl rfl ?_
      refine r_iadd C dX5_canJoin_52 ?_
      obtain ⟨q_3, h⟩ := h
      refine r_iald C (isX1_A2 isX1_147) q_3 dX5_canJoin_53 ?_
      refine r_aload_n C 0 dX5_canJoin_54 rfl rfl ?_
      refine gX5_12 C dX5_canJoin_55 ?_
      refine gX5_86 C isX1_147 dX5_canJoin_58 ?_
      refine r_iload_n C 3 dX5_canJoin_61 rfl rfl ?_
      refine r_bipush (v := (10 : Int32)) C dX5_canJoin_62 rfl ?_
      refine r_imul C dX5_canJoin_64 ?_
      refine r_iload_n C 2 dX5_canJoin_65 rfl rfl ?_
      refine r_iadd C dX5_canJoin_66 ?_
      obtain ⟨q_4, h⟩ := h
      refine r_iald C (isX1_A2 isX1_147) q_4 dX5_canJoin_67 ?_
      refine r_iadd C dX5_canJoin_68 ?_
      refine r_istore C [(4, .int _), (0, .ref _), (1, .int _), (2, .int _), (3, .int _)] dX5_canJoin_69 (by decide) rfl ?_
      replace h := h _ rfl
      refine r_iload C 0 dX5_canJoin_71 rfl ?_
      refine r_iconst (v := (3 : Int32)) C dX5_canJoin_73 rfl ?_
      refine r_icmp_le C 79 dX5_canJoin_74 (by decide) (fun hc => ?_) (fun hc => ?_)
      · replace h := h.1 hc
        refine r_iinc C 4 (v := _) [(3, .int _), (4, .int _), (0, .ref _), (1, .int _), (2, .int _)] dX5_canJoin_79 rfl rfl (by decide) rfl ?_
        refine r_goto C 29 dX5_canJoin_82 (by decide) ?_
        exact r_sub [2, 3, 4, 0] rfl (ih _ _ h)
      · replace h := h.2 hc
        refine r_iconst (v := (0 : Int32)) C dX5_canJoin_77 rfl ?_
        exact r_zret C (by decide) dX5_canJoin_78 h

def f_X5_canJoin (v1 : Int32) (v2 : Int32) (M : Mem) (K : Int32 → Mem → Prop) : Prop := vp_in v1 10 ∧ vp_in v2 10 ∧ ((((gI M 150 v1) + (gI M 150 v2)) ≤ (999 : Int32) → (∃ k29 : Nat, L_X5_canJoin_29 v1 v2 (fun  (M_2 : Mem) => K (1 : Int32) M_2) K k29 (0 : Int32) M)) ∧ (¬ ((gI M 150 v1) + (gI M 150 v2)) ≤ (999 : Int32) → K (0 : Int32) M))

set_option maxHeartbeats 1000000 in
set_option maxRecDepth 10000 in
theorem m_X5_canJoin (l : Launch) {v1 : Int32} {v2 : Int32}  {M : Mem} {K : Int32 → Mem → Prop} (h : f_X5_canJoin v1 v2 M K) : CTi l yX5_canJoin cX5_canJoin 5 (some .boolean) rm_X5_canJoin (fun ad => [.ref (ad 146), .int v1, .int v2]) M K := by
  refine rw_enti (by decide +kernel) (fun ad => Nat.le_of_ble_eq_true rfl) (fun p e s m args below meth c D cy ad C => ?_)
  change rw_W p l e _ s m args below meth c D cy ad 5 0 0 _ 0 [(0, .ref (ad 146)), (1, .int v1), (2, .int v2)] [] M
  unfold f_X5_canJoin at h
  refine r_aload_n C 0 dX5_canJoin_0 rfl rfl ?_
  refine gX5_12 C dX5_canJoin_1 ?_
  refine gX5_76 C isX1_147 dX5_canJoin_4 ?_
  refine r_iload_n C 1 dX5_canJoin_7 rfl rfl ?_
  obtain ⟨q, h⟩ := h
  refine r_iald C (isX1_A3 isX1_147) q dX5_canJoin_8 ?_
  refine r_aload_n C 0 dX5_canJoin_9 rfl rfl ?_
  refine gX5_12 C dX5_canJoin_10 ?_
  refine gX5_76 C isX1_147 dX5_canJoin_13 ?_
  refine r_iload_n C 2 dX5_canJoin_16 rfl rfl ?_
  obtain ⟨q_2, h⟩ := h
  refine r_iald C (isX1_A3 isX1_147) q_2 dX5_canJoin_17 ?_
  refine r_iadd C dX5_canJoin_18 ?_
  refine r_sipush (v := (999 : Int32)) C dX5_canJoin_19 rfl ?_
  refine r_icmp_le C 27 dX5_canJoin_22 (by decide) (fun hc => ?_) (fun hc => ?_)
  · replace h := h.1 hc
    refine r_iconst (v := (0 : Int32)) C dX5_canJoin_27 rfl ?_
    refine r_istore_n C [(3, .int _), (0, .ref _), (1, .int _), (2, .int _)] dX5_canJoin_28 rfl (by decide) rfl ?_
    obtain ⟨n29, h⟩ := h
    refine r_sub [1, 2, 3, 0] rfl (mL_X5_canJoin_29 C (fun M_2 h => ?_) n29 _ _ h)
    refine r_iconst (v := (1 : Int32)) C dX5_canJoin_85 rfl ?_
    exact r_zret C (by decide) dX5_canJoin_86 h
  · replace h := h.2 hc
    refine r_iconst (v := (0 : Int32)) C dX5_canJoin_25 rfl ?_
    exact r_zret C (by decide) dX5_canJoin_26 h
def L_X5_joinPlaces_170 (v1 : Int32) (v2 : Int32) (v3 : Int32) (X221 : Mem → Prop) (K : Int32 → Mem → Prop) : Nat → Int32 → Mem → Prop
  | 0, _, _ => False
  | n + 1, v4, M => (((M.1 147 4) ≤ v4 → X221 M) ∧ (¬ (M.1 147 4) ≤ v4 → vp_in ((v4 * (10 : Int32)) + v3) 80 ∧ vp_in ((v4 * (10 : Int32)) + v2) 80 ∧ ∀ M_14 : Mem, M_14 = wI M 149 ((v4 * (10 : Int32)) + v3).toNatClampNeg ((gI M 149 ((v4 * (10 : Int32)) + v3)) + (gI M 149 ((v4 * (10 : Int32)) + v2))) → L_X5_joinPlaces_170 v1 v2 v3 X221 K n (v4 + (1 : Int32)) M_14))

set_option maxHeartbeats 1000000 in
set_option maxRecDepth 10000 in
theorem mL_X5_joinPlaces_170 (C : rw_C p s m meth c cX5_joinPlaces 5 RX5 (some .boolean) D cy ad) {v1 : Int32} {v2 : Int32} {v3 : Int32} {X221 : Mem → Prop} {K : Int32 → Mem → Prop} (hX221 : ∀  (M : Mem), X221 M → rw_W p l e rm_X5_joinPlaces s m args below meth c D cy ad 5 0 0 (rw_Qi below args s D cy ad K) 221 [(0, .ref (ad 146)), (1, .int v1), (2, .int v2)] [] M) : ∀ (n : Nat) (v4 : Int32) (M : Mem), L_X5_joinPlaces_170 v1 v2 v3 X221 K n v4 M → rw_W p l e rm_X5_joinPlaces s m args below meth c D cy ad 5 0 0 (rw_Qi below args s D cy ad K) 170 [(0, .ref (ad 146)), (1, .int v1), (2, .int v2), (3, .int v3), (4, .int v4)] [] M := by
  intro n
  induction n with
  | zero => intro v4 M h; exact h.elim
  | succ n ih =>
    intro v4 M h
    refine r_iload C 4 dX5_joinPlaces_170 rfl ?_
    refine r_aload_n C 0 dX5_joinPlaces_172 rfl rfl ?_
    refine gX5_12 C dX5_joinPlaces_173 ?_
    refine gX5_93 C isX1_147 dX5_joinPlaces_176 ?_
    refine r_icmp_ge C 221 dX5_joinPlaces_179 (by decide) (fun hc => ?_) (fun hc => ?_)
    · replace h := h.1 hc
      exact r_sub [0, 1, 2] rfl (hX221 _ h)
    · replace h := h.2 hc
      refine r_aload_n C 0 dX5_joinPlaces_182 rfl rfl ?_
      refine gX5_12 C dX5_joinPlaces_183 ?_
      refine gX5_86 C isX1_147 dX5_joinPlaces_186 ?_
      refine r_iload C 4 dX5_joinPlaces_189 rfl ?_
      refine r_bipush (v := (10 : Int32)) C dX5_joinPlaces_191 rfl ?_
      refine r_imul C dX5_joinPlaces_193 ?_
      refine r_iload_n C 3 dX5_joinPlaces_194 rfl rfl ?_
      refine r_iadd C dX5_joinPlaces_195 ?_
      refine r_dup2_11 C dX5_joinPlaces_196 rfl rfl ?_
      obtain ⟨q_3, h⟩ := h
      refine r_iald C (isX1_A2 isX1_147) q_3 dX5_joinPlaces_197 ?_
      refine r_aload_n C 0 dX5_joinPlaces_198 rfl rfl ?_
      refine gX5_12 C dX5_joinPlaces_199 ?_
      refine gX5_86 C isX1_147 dX5_joinPlaces_202 ?_
      refine r_iload C 4 dX5_joinPlaces_205 rfl ?_
      refine r_bipush (v := (10 : Int32)) C dX5_joinPlaces_207 rfl ?_
      refine r_imul C dX5_joinPlaces_209 ?_
      refine r_iload_n C 2 dX5_joinPlaces_210 rfl rfl ?_
      refine r_iadd C dX5_joinPlaces_211 ?_
      obtain ⟨q_4, h⟩ := h
      refine r_iald C (isX1_A2 isX1_147) q_4 dX5_joinPlaces_212 ?_
      refine r_iadd C dX5_joinPlaces_213 ?_
      refine r_iast C (isX1_A2 isX1_147) q_3 dX5_joinPlaces_214 ?_
      replace h := h _ rfl
      refine r_iinc C 4 (v := _) [(4, .int _), (0, .ref _), (1, .int _), (2, .int _), (3, .int _)] dX5_joinPlaces_215 rfl rfl (by decide) rfl ?_
      refine r_goto C 170 dX5_joinPlaces_218 (by decide) ?_
      exact r_sub [1, 2, 3, 4, 0] rfl (ih _ _ h)

def L_X5_joinPlaces_2 (X236 : Mem → Prop) (K : Int32 → Mem → Prop) : Nat → Int32 → Mem → Prop
  | 0, _, _ => False
  | n + 1, v1, M => (((M.1 147 4) ≤ v1 → X236 M) ∧ (¬ (M.1 147 4) ≤ v1 → f_X1_hasStep 147 v1 M (fun (r : Int32) (M_2 : Mem) => ((r = 0 → L_X5_joinPlaces_2 X236 K n (v1 + (1 : Int32)) M_2) ∧ (¬ r = 0 → f_X1_allOfStep 147 148 v1 M_2 (fun (r_2 : Int32) (M_3 : Mem) => ((¬ r_2 = (1 : Int32) → L_X5_joinPlaces_2 X236 K n (v1 + (1 : Int32)) M_3) ∧ (r_2 = (1 : Int32) → f_X1_allOfStep 147 149 v1 M_3 (fun (r_3 : Int32) (M_4 : Mem) => ((r_3 = (1 : Int32) → f_X1_takenFrom 147 v1 M_4 (fun (r_4 : Int32) (M_5 : Mem) => f_X8_bitAt r_4 (0 : Int32) M_5 (fun (r_5 : Int32) (M_6 : Mem) => f_X1_givenTo 147 v1 M_6 (fun (r_6 : Int32) (M_7 : Mem) => f_X8_bitAt r_6 (0 : Int32) M_7 (fun (r_7 : Int32) (M_8 : Mem) => ((r_5 = r_7 → L_X5_joinPlaces_2 X236 K n (v1 + (1 : Int32)) M_8) ∧ (¬ r_5 = r_7 → f_X1_hasPlace 147 r_5 M_8 (fun (r_8 : Int32) (M_9 : Mem) => ((r_8 = 0 → L_X5_joinPlaces_2 X236 K n (v1 + (1 : Int32)) M_9) ∧ (¬ r_8 = 0 → f_X1_hasPlace 147 r_7 M_9 (fun (r_9 : Int32) (M_10 : Mem) => ((r_9 = 0 → L_X5_joinPlaces_2 X236 K n (v1 + (1 : Int32)) M_10) ∧ (¬ r_9 = 0 → f_X1_onlyStepWith 147 148 r_5 M_10 (fun (r_10 : Int32) (M_11 : Mem) => ((¬ r_10 = v1 → L_X5_joinPlaces_2 X236 K n (v1 + (1 : Int32)) M_11) ∧ (r_10 = v1 → f_X5_canJoin r_5 r_7 M_11 (fun (r_11 : Int32) (M_12 : Mem) => ((r_11 = 0 → L_X5_joinPlaces_2 X236 K n (v1 + (1 : Int32)) M_12) ∧ (¬ r_11 = 0 → vp_in r_7 10 ∧ vp_in r_5 10 ∧ ∀ M_13 : Mem, M_13 = wI M_12 150 r_7.toNatClampNeg ((gI M_12 150 r_7) + (gI M_12 150 r_5)) → (∃ k170 : Nat, L_X5_joinPlaces_170 v1 r_5 r_7 (fun  (M_15 : Mem) => f_X5_note (6 : Int32) r_5 v1 M_15 (fun (r_12 : Int32) (M_16 : Mem) => (r_12 &&& 1 = r_12) ∧ K r_12 M_16)) K k170 (0 : Int32) M_13)))))))))))))))))))) ∧ (¬ r_3 = (1 : Int32) → L_X5_joinPlaces_2 X236 K n (v1 + (1 : Int32)) M_4)))))))))))

set_option maxHeartbeats 1000000 in
set_option maxRecDepth 10000 in
theorem mL_X5_joinPlaces_2 (C : rw_C p s m meth c cX5_joinPlaces 5 RX5 (some .boolean) D cy ad) {X236 : Mem → Prop} {K : Int32 → Mem → Prop} (hX236 : ∀  (M : Mem), X236 M → rw_W p l e rm_X5_joinPlaces s m args below meth c D cy ad 5 0 0 (rw_Qi below args s D cy ad K) 236 [] [] M) : ∀ (n : Nat) (v1 : Int32) (M : Mem), L_X5_joinPlaces_2 X236 K n v1 M → rw_W p l e rm_X5_joinPlaces s m args below meth c D cy ad 5 0 0 (rw_Qi below args s D cy ad K) 2 [(0, .ref (ad 146)), (1, .int v1)] [] M := by
  intro n
  induction n with
  | zero => intro v1 M h; exact h.elim
  | succ n ih =>
    intro v1 M h
    refine r_iload_n C 1 dX5_joinPlaces_2 rfl rfl ?_
    refine r_aload_n C 0 dX5_joinPlaces_3 rfl rfl ?_
    refine gX5_12 C dX5_joinPlaces_4 ?_
    refine gX5_93 C isX1_147 dX5_joinPlaces_7 ?_
    refine r_icmp_ge C 236 dX5_joinPlaces_10 (by decide) (fun hc => ?_) (fun hc => ?_)
    · replace h := h.1 hc
      exact r_sub [] rfl (hX236 _ h)
    · replace h := h.2 hc
      refine r_aload_n C 0 dX5_joinPlaces_13 rfl rfl ?_
      refine gX5_12 C dX5_joinPlaces_14 ?_
      refine r_iload_n C 1 dX5_joinPlaces_17 rfl rfl ?_
      refine cX5_96 C isX1_147 (m_X1_hasStep l isX1_147 h) ⟨Nat.le_of_ble_eq_true rfl, Nat.le_of_ble_eq_true rfl⟩ (Nat.le_of_ble_eq_true rfl) ⟨Nat.le_refl 0, Nat.le_refl 0⟩ dX5_joinPlaces_18 (fun r M_2 h => ?_)
      refine r_if_eq C 230 dX5_joinPlaces_21 (by decide) (fun hc => ?_) (fun hc => ?_)
      · replace h := h.1 hc
        refine r_iinc C 1 (v := _) [(1, .int _), (0, .ref _)] dX5_joinPlaces_230 rfl rfl (by decide) rfl ?_
        refine r_goto C 2 dX5_joinPlaces_233 (by decide) ?_
        exact r_sub [1, 0] rfl (ih _ _ h)
      · replace h := h.2 hc
        refine r_aload_n C 0 dX5_joinPlaces_24 rfl rfl ?_
        refine gX5_12 C dX5_joinPlaces_25 ?_
        refine r_aload_n C 0 dX5_joinPlaces_28 rfl rfl ?_
        refine gX5_12 C dX5_joinPlaces_29 ?_
        refine gX5_79 C isX1_147 dX5_joinPlaces_32 ?_
        refine r_iload_n C 1 dX5_joinPlaces_35 rfl rfl ?_
        refine cX5_139 C isX1_147 (m_X1_allOfStep l isX1_147 (isI_of (isX1_A1 isX1_147)) h) ⟨Nat.le_of_ble_eq_true rfl, Nat.le_of_ble_eq_true rfl⟩ (Nat.le_of_ble_eq_true rfl) ⟨Nat.le_refl 0, Nat.le_refl 0⟩ dX5_joinPlaces_36 (fun r_2 M_3 h => ?_)
        refine r_iconst (v := (1 : Int32)) C dX5_joinPlaces_39 rfl ?_
        refine r_icmp_ne C 230 dX5_joinPlaces_40 (by decide) (fun hc => ?_) (fun hc => ?_)
        · replace h := h.1 hc
          refine r_iinc C 1 (v := _) [(1, .int _), (0, .ref _)] dX5_joinPlaces_230 rfl rfl (by decide) rfl ?_
          refine r_goto C 2 dX5_joinPlaces_233 (by decide) ?_
          exact r_sub [1, 0] rfl (ih _ _ h)
        · replace h := h.2 hc
          refine r_aload_n C 0 dX5_joinPlaces_43 rfl rfl ?_
          refine gX5_12 C dX5_joinPlaces_44 ?_
          refine r_aload_n C 0 dX5_joinPlaces_47 rfl rfl ?_
          refine gX5_12 C dX5_joinPlaces_48 ?_
          refine gX5_86 C isX1_147 dX5_joinPlaces_51 ?_
          refine r_iload_n C 1 dX5_joinPlaces_54 rfl rfl ?_
          refine cX5_139 C isX1_147 (m_X1_allOfStep l isX1_147 (isI_of (isX1_A2 isX1_147)) h) ⟨Nat.le_of_ble_eq_true rfl, Nat.le_of_ble_eq_true rfl⟩ (Nat.le_of_ble_eq_true rfl) ⟨Nat.le_refl 0, Nat.le_refl 0⟩ dX5_joinPlaces_55 (fun r_3 M_4 h => ?_)
          refine r_iconst (v := (1 : Int32)) C dX5_joinPlaces_58 rfl ?_
          refine r_icmp_eq C 65 dX5_joinPlaces_59 (by decide) (fun hc => ?_) (fun hc => ?_)
          · replace h := h.1 hc
            refine r_aload_n C 0 dX5_joinPlaces_65 rfl rfl ?_
            refine gX5_12 C dX5_joinPlaces_66 ?_
            refine r_iload_n C 1 dX5_joinPlaces_69 rfl rfl ?_
            refine cX5_136 C isX1_147 (m_X1_takenFrom l isX1_147 h) ⟨Nat.le_of_ble_eq_true rfl, Nat.le_of_ble_eq_true rfl⟩ (Nat.le_of_ble_eq_true rfl) ⟨Nat.le_refl 0, Nat.le_refl 0⟩ dX5_joinPlaces_70 (fun r_4 M_5 h => ?_)
            refine r_iconst (v := (0 : Int32)) C dX5_joinPlaces_73 rfl ?_
            refine cX5_142 C (m_X8_bitAt l h) ⟨Nat.le_of_ble_eq_true rfl, Nat.le_of_ble_eq_true rfl⟩ (Nat.le_of_ble_eq_true rfl) ⟨Nat.le_refl 0, Nat.le_refl 0⟩ dX5_joinPlaces_74 (fun r_5 M_6 h => ?_)
            refine r_istore_n C [(2, .int _), (0, .ref _), (1, .int _)] dX5_joinPlaces_77 rfl (by decide) rfl ?_
            refine r_aload_n C 1 dX5_joinPlaces_78 rfl rfl ?_
            refine gX5_12 C dX5_joinPlaces_79 ?_
            refine r_iload_n C 2 dX5_joinPlaces_82 rfl rfl ?_
            refine cX5_145 C isX1_147 (m_X1_givenTo l isX1_147 h) ⟨Nat.le_of_ble_eq_true rfl, Nat.le_of_ble_eq_true rfl⟩ (Nat.le_of_ble_eq_true rfl) ⟨Nat.le_refl 0, Nat.le_refl 0⟩ dX5_joinPlaces_83 (fun r_6 M_7 h => ?_)
            refine r_iconst (v := (0 : Int32)) C dX5_joinPlaces_86 rfl ?_
            refine cX5_142 C (m_X8_bitAt l h) ⟨Nat.le_of_ble_eq_true rfl, Nat.le_of_ble_eq_true rfl⟩ (Nat.le_of_ble_eq_true rfl) ⟨Nat.le_refl 0, Nat.le_refl 0⟩ dX5_joinPlaces_87 (fun r_7 M_8 h => ?_)
            refine r_istore_n C [(3, .int _), (2, .int _), (0, .ref _), (1, .int _)] dX5_joinPlaces_90 rfl (by decide) rfl ?_
            refine r_iload_n C 1 dX5_joinPlaces_91 rfl rfl ?_
            refine r_iload_n C 0 dX5_joinPlaces_92 rfl rfl ?_
            refine r_icmp_eq C 230 dX5_joinPlaces_93 (by decide) (fun hc => ?_) (fun hc => ?_)
            · replace h := h.1 hc
              refine r_iinc C 3 (v := _) [(1, .int _), (3, .int _), (2, .int _), (0, .ref _)] dX5_joinPlaces_230 rfl rfl (by decide) rfl ?_
              refine r_goto C 2 dX5_joinPlaces_233 (by decide) ?_
              exact r_sub [3, 0] rfl (ih _ _ h)
            · replace h := h.2 hc
              refine r_aload_n C 2 dX5_joinPlaces_96 rfl rfl ?_
              refine gX5_12 C dX5_joinPlaces_97 ?_
              refine r_iload_n C 1 dX5_joinPlaces_100 rfl rfl ?_
              refine cX5_72 C isX1_147 (m_X1_hasPlace l isX1_147 h) ⟨Nat.le_of_ble_eq_true rfl, Nat.le_of_ble_eq_true rfl⟩ (Nat.le_of_ble_eq_true rfl) ⟨Nat.le_refl 0, Nat.le_refl 0⟩ dX5_joinPlaces_101 (fun r_8 M_9 h => ?_)
              refine r_if_eq C 230 dX5_joinPlaces_104 (by decide) (fun hc => ?_) (fun hc => ?_)
              · replace h := h.1 hc
                refine r_iinc C 3 (v := _) [(1, .int _), (3, .int _), (2, .int _), (0, .ref _)] dX5_joinPlaces_230 rfl rfl (by decide) rfl ?_
                refine r_goto C 2 dX5_joinPlaces_233 (by decide) ?_
                exact r_sub [3, 0] rfl (ih _ _ h)
              · replace h := h.2 hc
                refine r_aload_n C 2 dX5_joinPlaces_107 rfl rfl ?_
                refine gX5_12 C dX5_joinPlaces_108 ?_
                refine r_iload_n C 0 dX5_joinPlaces_111 rfl rfl ?_
                refine cX5_72 C isX1_147 (m_X1_hasPlace l isX1_147 h) ⟨Nat.le_of_ble_eq_true rfl, Nat.le_of_ble_eq_true rfl⟩ (Nat.le_of_ble_eq_true rfl) ⟨Nat.le_refl 0, Nat.le_refl 0⟩ dX5_joinPlaces_112 (fun r_9 M_10 h => ?_)
                refine r_if_eq C 230 dX5_joinPlaces_115 (by decide) (fun hc => ?_) (fun hc => ?_)
                · replace h := h.1 hc
                  refine r_iinc C 3 (v := _) [(1, .int _), (3, .int _), (2, .int _), (0, .ref _)] dX5_joinPlaces_230 rfl rfl (by decide) rfl ?_
                  refine r_goto C 2 dX5_joinPlaces_233 (by decide) ?_
                  exact r_sub [3, 0] rfl (ih _ _ h)
                · replace h := h.2 hc
                  refine r_aload_n C 2 dX5_joinPlaces_118 rfl rfl ?_
                  refine gX5_12 C dX5_joinPlaces_119 ?_
                  refine r_aload_n C 2 dX5_joinPlaces_122 rfl rfl ?_
                  refine gX5_12 C dX5_joinPlaces_123 ?_
                  refine gX5_79 C isX1_147 dX5_joinPlaces_126 ?_
                  refine r_iload_n C 1 dX5_joinPlaces_129 rfl rfl ?_
                  refine cX5_129 C isX1_147 (m_X1_onlyStepWith l isX1_147 (isI_of (isX1_A1 isX1_147)) h) ⟨Nat.le_of_ble_eq_true rfl, Nat.le_of_ble_eq_true rfl⟩ (Nat.le_of_ble_eq_true rfl) ⟨Nat.le_refl 0, Nat.le_refl 0⟩ dX5_joinPlaces_130 (fun r_10 M_11 h => ?_)
                  refine r_iload_n C 3 dX5_joinPlaces_133 rfl rfl ?_
                  refine r_icmp_ne C 230 dX5_joinPlaces_134 (by decide) (fun hc => ?_) (fun hc => ?_)
                  · replace h := h.1 hc
                    refine r_iinc C 3 (v := _) [(1, .int _), (3, .int _), (2, .int _), (0, .ref _)] dX5_joinPlaces_230 rfl rfl (by decide) rfl ?_
                    refine r_goto C 2 dX5_joinPlaces_233 (by decide) ?_
                    exact r_sub [3, 0] rfl (ih _ _ h)
                  · replace h := h.2 hc
                    refine r_aload_n C 2 dX5_joinPlaces_137 rfl rfl ?_
                    refine r_iload_n C 1 dX5_joinPlaces_138 rfl rfl ?_
                    refine r_iload_n C 0 dX5_joinPlaces_139 rfl rfl ?_
                    refine cX5_148 C (m_X5_canJoin l h) ⟨Nat.le_of_ble_eq_true rfl, Nat.le_of_ble_eq_true rfl⟩ (Nat.le_of_ble_eq_true rfl) ⟨Nat.le_refl 0, Nat.le_refl 0⟩ dX5_joinPlaces_140 (fun r_11 M_12 h => ?_)
                    refine r_if_eq C 230 dX5_joinPlaces_143 (by decide) (fun hc => ?_) (fun hc => ?_)
                    · replace h := h.1 hc
                      refine r_iinc C 3 (v := _) [(1, .int _), (3, .int _), (2, .int _), (0, .ref _)] dX5_joinPlaces_230 rfl rfl (by decide) rfl ?_
                      refine r_goto C 2 dX5_joinPlaces_233 (by decide) ?_
                      exact r_sub [3, 0] rfl (ih _ _ h)
                    · replace h := h.2 hc
                      refine r_aload_n C 2 dX5_joinPlaces_146 rfl rfl ?_
                      refine gX5_12 C dX5_joinPlaces_147 ?_
                      refine gX5_76 C isX1_147 dX5_joinPlaces_150 ?_
                      refine r_iload_n C 0 dX5_joinPlaces_153 rfl rfl ?_
                      refine r_dup2_11 C dX5_joinPlaces_154 rfl rfl ?_
                      obtain ⟨q, h⟩ := h
                      refine r_iald C (isX1_A3 isX1_147) q dX5_joinPlaces_155 ?_
                      refine r_aload_n C 2 dX5_joinPlaces_156 rfl rfl ?_
                      refine gX5_12 C dX5_joinPlaces_157 ?_
                      refine gX5_76 C isX1_147 dX5_joinPlaces_160 ?_
                      refine r_iload_n C 1 dX5_joinPlaces_163 rfl rfl ?_
                      obtain ⟨q_2, h⟩ := h
                      refine r_iald C (isX1_A3 isX1_147) q_2 dX5_joinPlaces_164 ?_
                      refine r_iadd C dX5_joinPlaces_165 ?_
                      refine r_iast C (isX1_A3 isX1_147) q dX5_joinPlaces_166 ?_
                      replace h := h _ rfl
                      refine r_iconst (v := (0 : Int32)) C dX5_joinPlaces_167 rfl ?_
                      refine r_istore C [(4, .int _), (3, .int _), (2, .int _), (0, .ref _), (1, .int _)] dX5_joinPlaces_168 (by decide) rfl ?_
                      obtain ⟨n170, h⟩ := h
                      refine r_sub [3, 4, 2, 1, 0] rfl (mL_X5_joinPlaces_170 C (fun M_15 h => ?_) n170 _ _ h)
                      refine r_aload_n C 0 dX5_joinPlaces_221 rfl rfl ?_
                      refine r_bipush (v := (6 : Int32)) C dX5_joinPlaces_222 rfl ?_
                      refine r_iload_n C 2 dX5_joinPlaces_224 rfl rfl ?_
                      refine r_iload_n C 1 dX5_joinPlaces_225 rfl rfl ?_
                      refine cX5_89 C (m_X5_note l h) ⟨Nat.le_of_ble_eq_true rfl, Nat.le_of_ble_eq_true rfl⟩ (Nat.le_of_ble_eq_true rfl) ⟨Nat.le_refl 0, Nat.le_refl 0⟩ dX5_joinPlaces_226 (fun r_12 M_16 h => ?_)
                      exact r_zret C h.1 dX5_joinPlaces_229 h.2
          · replace h := h.2 hc
            refine r_goto C 230 dX5_joinPlaces_62 (by decide) ?_
            refine r_iinc C 1 (v := _) [(1, .int _), (0, .ref _)] dX5_joinPlaces_230 rfl rfl (by decide) rfl ?_
            refine r_goto C 2 dX5_joinPlaces_233 (by decide) ?_
            exact r_sub [1, 0] rfl (ih _ _ h)

def f_X5_joinPlaces (M : Mem) (K : Int32 → Mem → Prop) : Prop := (∃ k2 : Nat, L_X5_joinPlaces_2 (fun  (M_17 : Mem) => K (0 : Int32) M_17) K k2 (0 : Int32) M)

set_option maxHeartbeats 1000000 in
set_option maxRecDepth 10000 in
theorem m_X5_joinPlaces (l : Launch)   {M : Mem} {K : Int32 → Mem → Prop} (h : f_X5_joinPlaces M K) : CTi l yX5_joinPlaces cX5_joinPlaces 5 (some .boolean) rm_X5_joinPlaces (fun ad => [.ref (ad 146)]) M K := by
  refine rw_enti (by decide +kernel) (fun ad => Nat.le_of_ble_eq_true rfl) (fun p e s m args below meth c D cy ad C => ?_)
  change rw_W p l e _ s m args below meth c D cy ad 5 0 0 _ 0 [(0, .ref (ad 146))] [] M
  unfold f_X5_joinPlaces at h
  refine r_iconst (v := (0 : Int32)) C dX5_joinPlaces_0 rfl ?_
  refine r_istore_n C [(1, .int _), (0, .ref _)] dX5_joinPlaces_1 rfl (by decide) rfl ?_
  obtain ⟨n2, h⟩ := h
  refine r_sub [1, 0] rfl (mL_X5_joinPlaces_2 C (fun M_17 h => ?_) n2 _ _ h)
  refine r_iconst (v := (0 : Int32)) C dX5_joinPlaces_236 rfl ?_
  exact r_zret C (by decide) dX5_joinPlaces_237 h
def f_X5_doFirstThatFits (M : Mem) (K : Int32 → Mem → Prop) : Prop := f_X5_dropLikePlace  M (fun (r : Int32) (M_2 : Mem) => ((¬ r = 0 → K (1 : Int32) M_2) ∧ (r = 0 → f_X5_dropLikeStep  M_2 (fun (r_2 : Int32) (M_3 : Mem) => ((¬ r_2 = 0 → K (1 : Int32) M_3) ∧ (r_2 = 0 → f_X5_dropIdlePlace  M_3 (fun (r_3 : Int32) (M_4 : Mem) => ((¬ r_3 = 0 → K (1 : Int32) M_4) ∧ (r_3 = 0 → f_X5_dropIdleStep  M_4 (fun (r_4 : Int32) (M_5 : Mem) => ((¬ r_4 = 0 → K (1 : Int32) M_5) ∧ (r_4 = 0 → f_X5_joinSteps  M_5 (fun (r_5 : Int32) (M_6 : Mem) => ((¬ r_5 = 0 → K (1 : Int32) M_6) ∧ (r_5 = 0 → f_X5_joinPlaces  M_6 (fun (r_6 : Int32) (M_7 : Mem) => ((r_6 = 0 → K (0 : Int32) M_7) ∧ (¬ r_6 = 0 → K (1 : Int32) M_7))))))))))))))))))

set_option maxHeartbeats 1000000 in
set_option maxRecDepth 10000 in
theorem m_X5_doFirstThatFits (l : Launch)   {M : Mem} {K : Int32 → Mem → Prop} (h : f_X5_doFirstThatFits M K) : CTi l yX5_doFirstThatFits cX5_doFirstThatFits 1 (some .boolean) rm_X5_doFirstThatFits (fun ad => [.ref (ad 146)]) M K := by
  refine rw_enti (by decide +kernel) (fun ad => Nat.le_of_ble_eq_true rfl) (fun p e s m args below meth c D cy ad C => ?_)
  change rw_W p l e _ s m args below meth c D cy ad 1 0 0 _ 0 [(0, .ref (ad 146))] [] M
  unfold f_X5_doFirstThatFits at h
  refine r_aload_n C 0 dX5_doFirstThatFits_0 rfl rfl ?_
  refine cX5_44 C (m_X5_dropLikePlace l h) ⟨Nat.le_of_ble_eq_true rfl, Nat.le_of_ble_eq_true rfl⟩ (Nat.le_of_ble_eq_true rfl) ⟨Nat.le_refl 0, Nat.le_refl 0⟩ dX5_doFirstThatFits_1 (fun r M_2 h => ?_)
  refine r_if_ne C 42 dX5_doFirstThatFits_4 (by decide) (fun hc => ?_) (fun hc => ?_)
  · replace h := h.1 hc
    refine r_iconst (v := (1 : Int32)) C dX5_doFirstThatFits_42 rfl ?_
    refine r_goto C 47 dX5_doFirstThatFits_43 (by decide) ?_
    exact r_zret C (by decide) dX5_doFirstThatFits_47 h
  · replace h := h.2 hc
    refine r_aload_n C 0 dX5_doFirstThatFits_7 rfl rfl ?_
    refine cX5_47 C (m_X5_dropLikeStep l h) ⟨Nat.le_of_ble_eq_true rfl, Nat.le_of_ble_eq_true rfl⟩ (Nat.le_of_ble_eq_true rfl) ⟨Nat.le_refl 0, Nat.le_refl 0⟩ dX5_doFirstThatFits_8 (fun r_2 M_3 h => ?_)
    refine r_if_ne C 42 dX5_doFirstThatFits_11 (by decide) (fun hc => ?_) (fun hc => ?_)
    · replace h := h.1 hc
      refine r_iconst (v := (1 : Int32)) C dX5_doFirstThatFits_42 rfl ?_
      refine r_goto C 47 dX5_doFirstThatFits_43 (by decide) ?_
      exact r_zret C (by decide) dX5_doFirstThatFits_47 h
    · replace h := h.2 hc
      refine r_aload_n C 0 dX5_doFirstThatFits_14 rfl rfl ?_
      refine cX5_50 C (m_X5_dropIdlePlace l h) ⟨Nat.le_of_ble_eq_true rfl, Nat.le_of_ble_eq_true rfl⟩ (Nat.le_of_ble_eq_true rfl) ⟨Nat.le_refl 0, Nat.le_refl 0⟩ dX5_doFirstThatFits_15 (fun r_3 M_4 h => ?_)
      refine r_if_ne C 42 dX5_doFirstThatFits_18 (by decide) (fun hc => ?_) (fun hc => ?_)
      · replace h := h.1 hc
        refine r_iconst (v := (1 : Int32)) C dX5_doFirstThatFits_42 rfl ?_
        refine r_goto C 47 dX5_doFirstThatFits_43 (by decide) ?_
        exact r_zret C (by decide) dX5_doFirstThatFits_47 h
      · replace h := h.2 hc
        refine r_aload_n C 0 dX5_doFirstThatFits_21 rfl rfl ?_
        refine cX5_53 C (m_X5_dropIdleStep l h) ⟨Nat.le_of_ble_eq_true rfl, Nat.le_of_ble_eq_true rfl⟩ (Nat.le_of_ble_eq_true rfl) ⟨Nat.le_refl 0, Nat.le_refl 0⟩ dX5_doFirstThatFits_22 (fun r_4 M_5 h => ?_)
        refine r_if_ne C 42 dX5_doFirstThatFits_25 (by decide) (fun hc => ?_) (fun hc => ?_)
        · replace h := h.1 hc
          refine r_iconst (v := (1 : Int32)) C dX5_doFirstThatFits_42 rfl ?_
          refine r_goto C 47 dX5_doFirstThatFits_43 (by decide) ?_
          exact r_zret C (by decide) dX5_doFirstThatFits_47 h
        · replace h := h.2 hc
          refine r_aload_n C 0 dX5_doFirstThatFits_28 rfl rfl ?_
          refine cX5_56 C (m_X5_joinSteps l h) ⟨Nat.le_of_ble_eq_true rfl, Nat.le_of_ble_eq_true rfl⟩ (Nat.le_of_ble_eq_true rfl) ⟨Nat.le_refl 0, Nat.le_refl 0⟩ dX5_doFirstThatFits_29 (fun r_5 M_6 h => ?_)
          refine r_if_ne C 42 dX5_doFirstThatFits_32 (by decide) (fun hc => ?_) (fun hc => ?_)
          · replace h := h.1 hc
            refine r_iconst (v := (1 : Int32)) C dX5_doFirstThatFits_42 rfl ?_
            refine r_goto C 47 dX5_doFirstThatFits_43 (by decide) ?_
            exact r_zret C (by decide) dX5_doFirstThatFits_47 h
          · replace h := h.2 hc
            refine r_aload_n C 0 dX5_doFirstThatFits_35 rfl rfl ?_
            refine cX5_59 C (m_X5_joinPlaces l h) ⟨Nat.le_of_ble_eq_true rfl, Nat.le_of_ble_eq_true rfl⟩ (Nat.le_of_ble_eq_true rfl) ⟨Nat.le_refl 0, Nat.le_refl 0⟩ dX5_doFirstThatFits_36 (fun r_6 M_7 h => ?_)
            refine r_if_eq C 46 dX5_doFirstThatFits_39 (by decide) (fun hc => ?_) (fun hc => ?_)
            · replace h := h.1 hc
              refine r_iconst (v := (0 : Int32)) C dX5_doFirstThatFits_46 rfl ?_
              exact r_zret C (by decide) dX5_doFirstThatFits_47 h
            · replace h := h.2 hc
              refine r_iconst (v := (1 : Int32)) C dX5_doFirstThatFits_42 rfl ?_
              refine r_goto C 47 dX5_doFirstThatFits_43 (by decide) ?_
              exact r_zret C (by decide) dX5_doFirstThatFits_47 h
def L_X5_makeSmall_35 (X57 : Mem → Prop) (K : Mem → Prop) : Nat → Int32 → Mem → Prop
  | 0, _, _ => False
  | n + 1, v2, M => (((18 : Int32) ≤ v2 → X57 M) ∧ (¬ (18 : Int32) ≤ v2 → f_X5_doFirstThatFits  M (fun (r_2 : Int32) (M_5 : Mem) => ((¬ r_2 = 0 → L_X5_makeSmall_35 X57 K n (v2 + (1 : Int32)) M_5) ∧ (r_2 = 0 → X57 M_5)))))

set_option maxHeartbeats 1000000 in
set_option maxRecDepth 10000 in
theorem mL_X5_makeSmall_35 (C : rw_C p s m meth c cX5_makeSmall 3 RX5 none D cy ad) {X57 : Mem → Prop} {K : Mem → Prop} (hX57 : ∀  (M : Mem), X57 M → rw_W p l e rm_X5_makeSmall s m args below meth c D cy ad 3 0 0 (rw_Qv below args s D cy ad K) 57 [] [] M) : ∀ (n : Nat) (v2 : Int32) (M : Mem), L_X5_makeSmall_35 X57 K n v2 M → rw_W p l e rm_X5_makeSmall s m args below meth c D cy ad 3 0 0 (rw_Qv below args s D cy ad K) 35 [(0, .ref (ad 146)), (2, .int v2)] [] M := by
  intro n
  induction n with
  | zero => intro v2 M h; exact h.elim
  | succ n ih =>
    intro v2 M h
    refine r_iload_n C 1 dX5_makeSmall_35 rfl rfl ?_
    refine r_bipush (v := (18 : Int32)) C dX5_makeSmall_36 rfl ?_
    refine r_icmp_ge C 57 dX5_makeSmall_38 (by decide) (fun hc => ?_) (fun hc => ?_)
    · replace h := h.1 hc
      exact r_sub [] rfl (hX57 _ h)
    · replace h := h.2 hc
      refine r_aload_n C 0 dX5_makeSmall_41 rfl rfl ?_
      refine cX5_40 C (m_X5_doFirstThatFits l h) ⟨Nat.le_of_ble_eq_true rfl, Nat.le_of_ble_eq_true rfl⟩ (Nat.le_of_ble_eq_true rfl) ⟨Nat.le_refl 0, Nat.le_refl 0⟩ dX5_makeSmall_42 (fun r_2 M_5 h => ?_)
      refine r_if_ne C 51 dX5_makeSmall_45 (by decide) (fun hc => ?_) (fun hc => ?_)
      · replace h := h.1 hc
        refine r_iinc C 1 (v := _) [(2, .int _), (0, .ref _)] dX5_makeSmall_51 rfl rfl (by decide) rfl ?_
        refine r_goto C 35 dX5_makeSmall_54 (by decide) ?_
        exact r_sub [1, 0] rfl (ih _ _ h)
      · replace h := h.2 hc
        refine r_goto C 57 dX5_makeSmall_48 (by decide) ?_
        exact r_sub [] rfl (hX57 _ h)

def f_X5_makeSmall (v1 : Nat) (M : Mem) (K : Mem → Prop) : Prop := ((¬ (M.1 146 5) = (M.1 v1 8) → ∀ M_2 : Mem, M_2 = wI M 146 5 (M.1 v1 8) → f_X1_copyFrom 147 v1 M_2 (fun (M_3 : Mem) => ∀ M_4 : Mem, M_4 = wI M_3 146 4 (0 : Int32) → (∃ k35 : Nat, L_X5_makeSmall_35 (fun  (M_6 : Mem) => K M_6) K k35 (0 : Int32) M_4))) ∧ ((M.1 146 5) = (M.1 v1 8) → K M))

set_option maxHeartbeats 1000000 in
set_option maxRecDepth 10000 in
theorem m_X5_makeSmall (l : Launch) {v1 : Nat} (h_v1 : isX1 v1) {M : Mem} {K : Mem → Prop} (h : f_X5_makeSmall v1 M K) : CTv l yX5_makeSmall cX5_makeSmall 3 none rm_X5_makeSmall (fun ad => [.ref (ad 146), .ref (ad v1)]) M K := by
  refine rw_entv (by decide +kernel) (fun ad => Nat.le_of_ble_eq_true rfl) (fun p e s m args below meth c D cy ad C => ?_)
  change rw_W p l e _ s m args below meth c D cy ad 3 0 0 _ 0 [(0, .ref (ad 146)), (1, .ref (ad v1))] [] M
  unfold f_X5_makeSmall at h
  refine r_aload_n C 0 dX5_makeSmall_0 rfl rfl ?_
  refine gX5_32 C dX5_makeSmall_1 ?_
  refine r_aload_n C 1 dX5_makeSmall_4 rfl rfl ?_
  refine gX5_35 C h_v1 dX5_makeSmall_5 ?_
  refine r_icmp_ne C 12 dX5_makeSmall_8 (by decide) (fun hc => ?_) (fun hc => ?_)
  · replace h := h.1 hc
    refine r_aload_n C 0 dX5_makeSmall_12 rfl rfl ?_
    refine r_aload_n C 1 dX5_makeSmall_13 rfl rfl ?_
    refine gX5_35 C h_v1 dX5_makeSmall_14 ?_
    refine pX5_32 C dX5_makeSmall_17 ?_
    replace h := h _ rfl
    refine r_aload_n C 0 dX5_makeSmall_20 rfl rfl ?_
    refine gX5_12 C dX5_makeSmall_21 ?_
    refine r_aload_n C 1 dX5_makeSmall_24 rfl rfl ?_
    refine cX5_36 C isX1_147 (m_X1_copyFrom l isX1_147 h_v1 h) ⟨Nat.le_of_ble_eq_true rfl, Nat.le_of_ble_eq_true rfl⟩ (Nat.le_of_ble_eq_true rfl) ⟨Nat.le_refl 0, Nat.le_refl 0⟩ dX5_makeSmall_25 (fun M_3 h => ?_)
    refine r_aload_n C 0 dX5_makeSmall_28 rfl rfl ?_
    refine r_iconst (v := (0 : Int32)) C dX5_makeSmall_29 rfl ?_
    refine pX5_28 C dX5_makeSmall_30 ?_
    replace h := h _ rfl
    refine r_iconst (v := (0 : Int32)) C dX5_makeSmall_33 rfl ?_
    refine r_istore_n C [(2, .int _), (0, .ref _), (1, .ref _)] dX5_makeSmall_34 rfl (by decide) rfl ?_
    obtain ⟨n35, h⟩ := h
    refine r_sub [1, 0] rfl (mL_X5_makeSmall_35 C (fun M_6 h => ?_) n35 _ _ h)
    exact r_vret C dX5_makeSmall_57 h
  · replace h := h.2 hc
    exact r_vret C dX5_makeSmall_11 h
def f_X6_forgetAims (M : Mem) (K : Mem → Prop) : Prop := f_J7_fill_53178 125 (0 : Int32) M (fun (M_2 : Mem) => ∀ M_3 : Mem, M_3 = wI M_2 124 12 (-1 : Int32) → K M_3)

set_option maxHeartbeats 1000000 in
set_option maxRecDepth 10000 in
theorem m_X6_forgetAims (l : Launch)   {M : Mem} {K : Mem → Prop} (h : f_X6_forgetAims M K) : CTv l yX6_forgetAims cX6_forgetAims 1 none rm_X6_forgetAims (fun ad => [.ref (ad 124)]) M K := by
  refine rw_entv (by decide +kernel) (fun ad => Nat.le_of_ble_eq_true rfl) (fun p e s m args below meth c D cy ad C => ?_)
  change rw_W p l e _ s m args below meth c D cy ad 1 0 0 _ 0 [(0, .ref (ad 124))] [] M
  unfold f_X6_forgetAims at h
  refine r_aload_n C 0 dX6_forgetAims_0 rfl rfl ?_
  refine gX6_9 C dX6_forgetAims_1 ?_
  refine r_iconst (v := (0 : Int32)) C dX6_forgetAims_4 rfl ?_
  refine cX6_61 C (m_J7_fill_53178 l (isI_of sh_125) h) ⟨Nat.le_of_ble_eq_true rfl, Nat.le_of_ble_eq_true rfl⟩ (Nat.le_of_ble_eq_true rfl) ⟨Nat.le_refl 0, Nat.le_refl 0⟩ dX6_forgetAims_5 (fun M_2 h => ?_)
  refine r_aload_n C 0 dX6_forgetAims_8 rfl rfl ?_
  refine r_iconst (v := (-1 : Int32)) C dX6_forgetAims_9 rfl ?_
  refine pX6_51 C dX6_forgetAims_10 ?_
  replace h := h _ rfl
  exact r_vret C dX6_forgetAims_13 h
def f_X6_putAim (v1 : Int32) (v2 : Int32) (M : Mem) (K : Int32 → Mem → Prop) : Prop := vp_in v1 10 ∧ ∀ x3 : Int32, x3 = gI M 125 v1 → ∀ M_2 : Mem, M_2 = wI M 125 v1.toNatClampNeg v2 → ∀ M_3 : Mem, M_3 = wI M_2 124 12 (-1 : Int32) → K x3 M_3

set_option maxHeartbeats 1000000 in
set_option maxRecDepth 10000 in
theorem m_X6_putAim (l : Launch) {v1 : Int32} {v2 : Int32}  {M : Mem} {K : Int32 → Mem → Prop} (h : f_X6_putAim v1 v2 M K) : CTi l yX6_putAim cX6_putAim 4 (some .int) rm_X6_putAim (fun ad => [.ref (ad 124), .int v1, .int v2]) M K := by
  refine rw_enti (by decide +kernel) (fun ad => Nat.le_of_ble_eq_true rfl) (fun p e s m args below meth c D cy ad C => ?_)
  change rw_W p l e _ s m args below meth c D cy ad 4 0 0 _ 0 [(0, .ref (ad 124)), (1, .int v1), (2, .int v2)] [] M
  unfold f_X6_putAim at h
  refine r_aload_n C 0 dX6_putAim_0 rfl rfl ?_
  refine gX6_9 C dX6_putAim_1 ?_
  refine r_iload_n C 1 dX6_putAim_4 rfl rfl ?_
  obtain ⟨q, h⟩ := h
  refine r_iald C sh_125 q dX6_putAim_5 ?_
  refine r_istore_n C [(3, .int _), (0, .ref _), (1, .int _), (2, .int _)] dX6_putAim_6 rfl (by decide) rfl ?_
  replace h := h _ rfl
  refine r_aload_n C 1 dX6_putAim_7 rfl rfl ?_
  refine gX6_9 C dX6_putAim_8 ?_
  refine r_iload_n C 2 dX6_putAim_11 rfl rfl ?_
  refine r_iload_n C 3 dX6_putAim_12 rfl rfl ?_
  refine r_iast C sh_125 q dX6_putAim_13 ?_
  replace h := h _ rfl
  refine r_aload_n C 1 dX6_putAim_14 rfl rfl ?_
  refine r_iconst (v := (-1 : Int32)) C dX6_putAim_15 rfl ?_
  refine pX6_51 C dX6_putAim_16 ?_
  replace h := h _ rfl
  refine r_iload_n C 0 dX6_putAim_19 rfl rfl ?_
  exact r_iret C dX6_putAim_20 h
def L_X6_isAimed_3 (v1 : Int32) (v2 : Nat) (v3 : Int32) (X44 : Mem → Prop) (K : Int32 → Mem → Prop) : Nat → Int32 → Mem → Prop
  | 0, _, _ => False
  | n + 1, v4, M => (((10 : Int32) ≤ v4 → X44 M) ∧ (¬ (10 : Int32) ≤ v4 → ((¬ ((v1 >>> (v4 &&& 31)) &&& (1 : Int32)) = (1 : Int32) → L_X6_isAimed_3 v1 v2 v3 X44 K n (v4 + (1 : Int32)) M) ∧ (((v1 >>> (v4 &&& 31)) &&& (1 : Int32)) = (1 : Int32) → vp_in (v3 + v4) (alen v2) ∧ vp_in v4 10 ∧ (((gI M v2 (v3 + v4)) = (gI M 125 v4) → L_X6_isAimed_3 v1 v2 v3 X44 K n (v4 + (1 : Int32)) M) ∧ (¬ (gI M v2 (v3 + v4)) = (gI M 125 v4) → K (0 : Int32) M))))))

set_option maxHeartbeats 1000000 in
set_option maxRecDepth 10000 in
theorem mL_X6_isAimed_3 (C : rw_C p s m meth c cX6_isAimed 5 RX6 (some .boolean) D cy ad) {v1 : Int32} {v2 : Nat} {v3 : Int32} (h_v2 : isA v2 0 (alen v2)) {X44 : Mem → Prop} {K : Int32 → Mem → Prop} (hX44 : ∀  (M : Mem), X44 M → rw_W p l e rm_X6_isAimed s m args below meth c D cy ad 5 0 0 (rw_Qi below args s D cy ad K) 44 [] [] M) : ∀ (n : Nat) (v4 : Int32) (M : Mem), L_X6_isAimed_3 v1 v2 v3 X44 K n v4 M → rw_W p l e rm_X6_isAimed s m args below meth c D cy ad 5 0 0 (rw_Qi below args s D cy ad K) 3 [(0, .ref (ad 124)), (1, .int v1), (2, .ref (ad v2)), (3, .int v3), (4, .int v4)] [] M := by
  intro n
  induction n with
  | zero => intro v4 M h; exact h.elim
  | succ n ih =>
    intro v4 M h
    refine r_iload C 4 dX6_isAimed_3 rfl ?_
    refine r_bipush (v := (10 : Int32)) C dX6_isAimed_5 rfl ?_
    refine r_icmp_ge C 44 dX6_isAimed_7 (by decide) (fun hc => ?_) (fun hc => ?_)
    · replace h := h.1 hc
      exact r_sub [] rfl (hX44 _ h)
    · replace h := h.2 hc
      refine r_iload_n C 1 dX6_isAimed_10 rfl rfl ?_
      refine r_iload C 4 dX6_isAimed_11 rfl ?_
      refine r_ishr C dX6_isAimed_13 ?_
      refine r_iconst (v := (1 : Int32)) C dX6_isAimed_14 rfl ?_
      refine r_iand C dX6_isAimed_15 ?_
      refine r_iconst (v := (1 : Int32)) C dX6_isAimed_16 rfl ?_
      refine r_icmp_ne C 38 dX6_isAimed_17 (by decide) (fun hc => ?_) (fun hc => ?_)
      · replace h := h.1 hc
        refine r_iinc C 4 (v := _) [(4, .int _), (0, .ref _), (1, .int _), (2, .ref _), (3, .int _)] dX6_isAimed_38 rfl rfl (by decide) rfl ?_
        refine r_goto C 3 dX6_isAimed_41 (by decide) ?_
        exact r_sub [1, 2, 3, 4, 0] rfl (ih _ _ h)
      · replace h := h.2 hc
        refine r_aload_n C 2 dX6_isAimed_20 rfl rfl ?_
        refine r_iload_n C 3 dX6_isAimed_21 rfl rfl ?_
        refine r_iload C 4 dX6_isAimed_22 rfl ?_
        refine r_iadd C dX6_isAimed_24 ?_
        obtain ⟨q, h⟩ := h
        refine r_iald C h_v2 q dX6_isAimed_25 ?_
        refine r_aload_n C 0 dX6_isAimed_26 rfl rfl ?_
        refine gX6_9 C dX6_isAimed_27 ?_
        refine r_iload C 4 dX6_isAimed_30 rfl ?_
        obtain ⟨q_2, h⟩ := h
        refine r_iald C sh_125 q_2 dX6_isAimed_32 ?_
        refine r_icmp_eq C 38 dX6_isAimed_33 (by decide) (fun hc => ?_) (fun hc => ?_)
        · replace h := h.1 hc
          refine r_iinc C 4 (v := _) [(4, .int _), (0, .ref _), (1, .int _), (2, .ref _), (3, .int _)] dX6_isAimed_38 rfl rfl (by decide) rfl ?_
          refine r_goto C 3 dX6_isAimed_41 (by decide) ?_
          exact r_sub [1, 2, 3, 4, 0] rfl (ih _ _ h)
        · replace h := h.2 hc
          refine r_iconst (v := (0 : Int32)) C dX6_isAimed_36 rfl ?_
          exact r_zret C (by decide) dX6_isAimed_37 h

def f_X6_isAimed (v1 : Int32) (v2 : Nat) (v3 : Int32) (M : Mem) (K : Int32 → Mem → Prop) : Prop := (∃ k3 : Nat, L_X6_isAimed_3 v1 v2 v3 (fun  (M_2 : Mem) => K (1 : Int32) M_2) K k3 (0 : Int32) M)

set_option maxHeartbeats 1000000 in
set_option maxRecDepth 10000 in
theorem m_X6_isAimed (l : Launch) {v1 : Int32} {v2 : Nat} {v3 : Int32} (h_v2 : isI v2) {M : Mem} {K : Int32 → Mem → Prop} (h : f_X6_isAimed v1 v2 v3 M K) : CTi l yX6_isAimed cX6_isAimed 5 (some .boolean) rm_X6_isAimed (fun ad => [.ref (ad 124), .int v1, .ref (ad v2), .int v3]) M K := by
  refine rw_enti (by decide +kernel) (fun ad => Nat.le_of_ble_eq_true rfl) (fun p e s m args below meth c D cy ad C => ?_)
  change rw_W p l e _ s m args below meth c D cy ad 5 0 0 _ 0 [(0, .ref (ad 124)), (1, .int v1), (2, .ref (ad v2)), (3, .int v3)] [] M
  unfold f_X6_isAimed at h
  refine r_iconst (v := (0 : Int32)) C dX6_isAimed_0 rfl ?_
  refine r_istore C [(4, .int _), (0, .ref _), (1, .int _), (2, .ref _), (3, .int _)] dX6_isAimed_1 (by decide) rfl ?_
  obtain ⟨n3, h⟩ := h
  refine r_sub [1, 2, 3, 4, 0] rfl (mL_X6_isAimed_3 C h_v2 (fun M_2 h => ?_) n3 _ _ h)
  refine r_iconst (v := (1 : Int32)) C dX6_isAimed_44 rfl ?_
  exact r_zret C (by decide) dX6_isAimed_45 h
def L_X6_isUseful_4 (v0 : Nat) (v1 : Int32) (X27 : Mem → Prop) (K : Int32 → Mem → Prop) : Nat → Int32 → Mem → Prop
  | 0, _, _ => False
  | n + 1, v2, M => (((8 : Int32) ≤ v2 → X27 M) ∧ (¬ (8 : Int32) ≤ v2 → f_X1_changeAlike v0 v1 v2 M (fun (r : Int32) (M_2 : Mem) => ((r = 0 → L_X6_isUseful_4 v0 v1 X27 K n (v2 + (1 : Int32)) M_2) ∧ (¬ r = 0 → K (0 : Int32) M_2)))))

set_option maxHeartbeats 1000000 in
set_option maxRecDepth 10000 in
theorem mL_X6_isUseful_4 (C : rw_C p s m meth c cX6_isUseful 3 RX6 (some .boolean) D cy ad) {v0 : Nat} {v1 : Int32} (h_v0 : isX1 v0) {X27 : Mem → Prop} {K : Int32 → Mem → Prop} (hX27 : ∀  (M : Mem), X27 M → rw_W p l e rm_X6_isUseful s m args below meth c D cy ad 3 0 0 (rw_Qi below args s D cy ad K) 27 [(0, .ref (ad v0)), (1, .int v1)] [] M) : ∀ (n : Nat) (v2 : Int32) (M : Mem), L_X6_isUseful_4 v0 v1 X27 K n v2 M → rw_W p l e rm_X6_isUseful s m args below meth c D cy ad 3 0 0 (rw_Qi below args s D cy ad K) 4 [(0, .ref (ad v0)), (1, .int v1), (2, .int v2)] [] M := by
  intro n
  induction n with
  | zero => intro v2 M h; exact h.elim
  | succ n ih =>
    intro v2 M h
    refine r_iload_n C 2 dX6_isUseful_4 rfl rfl ?_
    refine r_bipush (v := (8 : Int32)) C dX6_isUseful_5 rfl ?_
    refine r_icmp_ge C 27 dX6_isUseful_7 (by decide) (fun hc => ?_) (fun hc => ?_)
    · replace h := h.1 hc
      exact r_sub [0, 1] rfl (hX27 _ h)
    · replace h := h.2 hc
      refine r_aload_n C 0 dX6_isUseful_10 rfl rfl ?_
      refine r_iload_n C 1 dX6_isUseful_11 rfl rfl ?_
      refine r_iload_n C 2 dX6_isUseful_12 rfl rfl ?_
      refine cX6_91 C h_v0 (m_X1_changeAlike l h_v0 h) ⟨Nat.le_of_ble_eq_true rfl, Nat.le_of_ble_eq_true rfl⟩ (Nat.le_of_ble_eq_true rfl) ⟨Nat.le_refl 0, Nat.le_refl 0⟩ dX6_isUseful_13 (fun r M_2 h => ?_)
      refine r_if_eq C 21 dX6_isUseful_16 (by decide) (fun hc => ?_) (fun hc => ?_)
      · replace h := h.1 hc
        refine r_iinc C 2 (v := _) [(2, .int _), (0, .ref _), (1, .int _)] dX6_isUseful_21 rfl rfl (by decide) rfl ?_
        refine r_goto C 4 dX6_isUseful_24 (by decide) ?_
        exact r_sub [1, 2, 0] rfl (ih _ _ h)
      · replace h := h.2 hc
        refine r_iconst (v := (0 : Int32)) C dX6_isUseful_19 rfl ?_
        exact r_zret C (by decide) dX6_isUseful_20 h

def f_X6_isUseful (v0 : Nat) (v1 : Int32) (M : Mem) (K : Int32 → Mem → Prop) : Prop := ∀ x2 : Int32, x2 = v1 + (1 : Int32) → (∃ k4 : Nat, L_X6_isUseful_4 v0 v1 (fun  (M_3 : Mem) => f_X1_changesNothing v0 v1 M_3 (fun (r_2 : Int32) (M_4 : Mem) => ((¬ r_2 = 0 → K (0 : Int32) M_4) ∧ (r_2 = 0 → K (1 : Int32) M_4)))) K k4 x2 M)

set_option maxHeartbeats 1000000 in
set_option maxRecDepth 10000 in
theorem m_X6_isUseful (l : Launch) {v0 : Nat} {v1 : Int32} (h_v0 : isX1 v0) {M : Mem} {K : Int32 → Mem → Prop} (h : f_X6_isUseful v0 v1 M K) : CTi l yX6_isUseful cX6_isUseful 3 (some .boolean) rm_X6_isUseful (fun ad => [.ref (ad v0), .int v1]) M K := by
  refine rw_enti (by decide +kernel) (fun ad => Nat.le_of_ble_eq_true rfl) (fun p e s m args below meth c D cy ad C => ?_)
  change rw_W p l e _ s m args below meth c D cy ad 3 0 0 _ 0 [(0, .ref (ad v0)), (1, .int v1)] [] M
  unfold f_X6_isUseful at h
  refine r_iload_n C 1 dX6_isUseful_0 rfl rfl ?_
  refine r_iconst (v := (1 : Int32)) C dX6_isUseful_1 rfl ?_
  refine r_iadd C dX6_isUseful_2 ?_
  refine r_istore_n C [(2, .int _), (0, .ref _), (1, .int _)] dX6_isUseful_3 rfl (by decide) rfl ?_
  replace h := h _ rfl
  obtain ⟨n4, h⟩ := h
  refine r_sub [1, 2, 0] rfl (mL_X6_isUseful_4 C h_v0 (fun M_3 h => ?_) n4 _ _ h)
  refine r_aload_n C 0 dX6_isUseful_27 rfl rfl ?_
  refine r_iload_n C 1 dX6_isUseful_28 rfl rfl ?_
  refine cX6_95 C h_v0 (m_X1_changesNothing l h_v0 h) ⟨Nat.le_of_ble_eq_true rfl, Nat.le_of_ble_eq_true rfl⟩ (Nat.le_of_ble_eq_true rfl) ⟨Nat.le_refl 0, Nat.le_refl 0⟩ dX6_isUseful_29 (fun r_2 M_4 h => ?_)
  refine r_if_ne C 39 dX6_isUseful_32 (by decide) (fun hc => ?_) (fun hc => ?_)
  · replace h := h.1 hc
    refine r_iconst (v := (0 : Int32)) C dX6_isUseful_39 rfl ?_
    exact r_zret C (by decide) dX6_isUseful_40 h
  · replace h := h.2 hc
    refine r_iconst (v := (1 : Int32)) C dX6_isUseful_35 rfl ?_
    refine r_goto C 40 dX6_isUseful_36 (by decide) ?_
    exact r_zret C (by decide) dX6_isUseful_40 h
def L_X6_findUseful_7 (v1 : Nat) (X39 : Mem → Prop) (K : Mem → Prop) : Nat → Int32 → Mem → Prop
  | 0, _, _ => False
  | n + 1, v2, M => (((8 : Int32) ≤ v2 → X39 M) ∧ (¬ (8 : Int32) ≤ v2 → f_X6_isUseful v1 v2 M (fun (r : Int32) (M_3 : Mem) => ((r = 0 → L_X6_findUseful_7 v1 X39 K n (v2 + (1 : Int32)) M_3) ∧ (¬ r = 0 → ∀ M_4 : Mem, M_4 = wI M_3 124 11 ((M_3.1 124 11) ||| ((1 : Int32) <<< (v2 &&& 31))) → L_X6_findUseful_7 v1 X39 K n (v2 + (1 : Int32)) M_4)))))

set_option maxHeartbeats 1000000 in
set_option maxRecDepth 10000 in
theorem mL_X6_findUseful_7 (C : rw_C p s m meth c cX6_findUseful 3 RX6 none D cy ad) {v1 : Nat} (h_v1 : isX1 v1) {X39 : Mem → Prop} {K : Mem → Prop} (hX39 : ∀  (M : Mem), X39 M → rw_W p l e rm_X6_findUseful s m args below meth c D cy ad 3 0 0 (rw_Qv below args s D cy ad K) 39 [] [] M) : ∀ (n : Nat) (v2 : Int32) (M : Mem), L_X6_findUseful_7 v1 X39 K n v2 M → rw_W p l e rm_X6_findUseful s m args below meth c D cy ad 3 0 0 (rw_Qv below args s D cy ad K) 7 [(0, .ref (ad 124)), (1, .ref (ad v1)), (2, .int v2)] [] M := by
  intro n
  induction n with
  | zero => intro v2 M h; exact h.elim
  | succ n ih =>
    intro v2 M h
    refine r_iload_n C 2 dX6_findUseful_7 rfl rfl ?_
    refine r_bipush (v := (8 : Int32)) C dX6_findUseful_8 rfl ?_
    refine r_icmp_ge C 39 dX6_findUseful_10 (by decide) (fun hc => ?_) (fun hc => ?_)
    · replace h := h.1 hc
      exact r_sub [] rfl (hX39 _ h)
    · replace h := h.2 hc
      refine r_aload_n C 1 dX6_findUseful_13 rfl rfl ?_
      refine r_iload_n C 2 dX6_findUseful_14 rfl rfl ?_
      refine cX6_87 C (m_X6_isUseful l h_v1 h) ⟨Nat.le_of_ble_eq_true rfl, Nat.le_of_ble_eq_true rfl⟩ (Nat.le_of_ble_eq_true rfl) ⟨Nat.le_refl 0, Nat.le_refl 0⟩ dX6_findUseful_15 (fun r M_3 h => ?_)
      refine r_if_eq C 33 dX6_findUseful_18 (by decide) (fun hc => ?_) (fun hc => ?_)
      · replace h := h.1 hc
        refine r_iinc C 2 (v := _) [(2, .int _), (0, .ref _), (1, .ref _)] dX6_findUseful_33 rfl rfl (by decide) rfl ?_
        refine r_goto C 7 dX6_findUseful_36 (by decide) ?_
        exact r_sub [1, 2, 0] rfl (ih _ _ h)
      · replace h := h.2 hc
        refine r_aload_n C 0 dX6_findUseful_21 rfl rfl ?_
        refine r_dup C dX6_findUseful_22 rfl ?_
        refine gX6_48 C dX6_findUseful_23 ?_
        refine r_iconst (v := (1 : Int32)) C dX6_findUseful_26 rfl ?_
        refine r_iload_n C 2 dX6_findUseful_27 rfl rfl ?_
        refine r_ishl C dX6_findUseful_28 ?_
        refine r_ior C dX6_findUseful_29 ?_
        refine pX6_48 C dX6_findUseful_30 ?_
        replace h := h _ rfl
        refine r_iinc C 2 (v := _) [(2, .int _), (0, .ref _), (1, .ref _)] dX6_findUseful_33 rfl rfl (by decide) rfl ?_
        refine r_goto C 7 dX6_findUseful_36 (by decide) ?_
        exact r_sub [1, 2, 0] rfl (ih _ _ h)

def f_X6_findUseful (v1 : Nat) (M : Mem) (K : Mem → Prop) : Prop := ∀ M_2 : Mem, M_2 = wI M 124 11 (0 : Int32) → (∃ k7 : Nat, L_X6_findUseful_7 v1 (fun  (M_5 : Mem) => K M_5) K k7 (0 : Int32) M_2)

set_option maxHeartbeats 1000000 in
set_option maxRecDepth 10000 in
theorem m_X6_findUseful (l : Launch) {v1 : Nat} (h_v1 : isX1 v1) {M : Mem} {K : Mem → Prop} (h : f_X6_findUseful v1 M K) : CTv l yX6_findUseful cX6_findUseful 3 none rm_X6_findUseful (fun ad => [.ref (ad 124), .ref (ad v1)]) M K := by
  refine rw_entv (by decide +kernel) (fun ad => Nat.le_of_ble_eq_true rfl) (fun p e s m args below meth c D cy ad C => ?_)
  change rw_W p l e _ s m args below meth c D cy ad 3 0 0 _ 0 [(0, .ref (ad 124)), (1, .ref (ad v1))] [] M
  unfold f_X6_findUseful at h
  refine r_aload_n C 0 dX6_findUseful_0 rfl rfl ?_
  refine r_iconst (v := (0 : Int32)) C dX6_findUseful_1 rfl ?_
  refine pX6_48 C dX6_findUseful_2 ?_
  replace h := h _ rfl
  refine r_iconst (v := (0 : Int32)) C dX6_findUseful_5 rfl ?_
  refine r_istore_n C [(2, .int _), (0, .ref _), (1, .ref _)] dX6_findUseful_6 rfl (by decide) rfl ?_
  obtain ⟨n7, h⟩ := h
  refine r_sub [1, 2, 0] rfl (mL_X6_findUseful_7 C h_v1 (fun M_5 h => ?_) n7 _ _ h)
  exact r_vret C dX6_findUseful_39 h
def L_X6_layRows_10 (v1 : Nat) (v2 : Int32) (X40 : Mem → Prop) (K : Mem → Prop) : Nat → Int32 → Mem → Prop
  | 0, _, _ => False
  | n + 1, v3, M => (((8 : Int32) ≤ v3 → X40 M) ∧ (¬ (8 : Int32) ≤ v3 → f_X1_change v1 v3 v2 M (fun (r : Int32) (M_2 : Mem) => vp_in ((v2 * (9 : Int32)) + v3) 90 ∧ ∀ M_3 : Mem, M_3 = wL M_2 126 ((v2 * (9 : Int32)) + v3).toNatClampNeg r.toInt64 → L_X6_layRows_10 v1 v2 X40 K n (v3 + (1 : Int32)) M_3)))

set_option maxHeartbeats 1000000 in
set_option maxRecDepth 10000 in
theorem mL_X6_layRows_10 (C : rw_C p s m meth c cX6_layRows 4 RX6 none D cy ad) {v1 : Nat} {v2 : Int32} (h_v1 : isX1 v1) {X40 : Mem → Prop} {K : Mem → Prop} (hX40 : ∀  (M : Mem), X40 M → rw_W p l e rm_X6_layRows s m args below meth c D cy ad 4 0 0 (rw_Qv below args s D cy ad K) 40 [(0, .ref (ad 124)), (1, .ref (ad v1)), (2, .int v2)] [] M) : ∀ (n : Nat) (v3 : Int32) (M : Mem), L_X6_layRows_10 v1 v2 X40 K n v3 M → rw_W p l e rm_X6_layRows s m args below meth c D cy ad 4 0 0 (rw_Qv below args s D cy ad K) 10 [(0, .ref (ad 124)), (1, .ref (ad v1)), (2, .int v2), (3, .int v3)] [] M := by
  intro n
  induction n with
  | zero => intro v3 M h; exact h.elim
  | succ n ih =>
    intro v3 M h
    refine r_iload_n C 3 dX6_layRows_10 rfl rfl ?_
    refine r_bipush (v := (8 : Int32)) C dX6_layRows_11 rfl ?_
    refine r_icmp_ge C 40 dX6_layRows_13 (by decide) (fun hc => ?_) (fun hc => ?_)
    · replace h := h.1 hc
      exact r_sub [0, 1, 2] rfl (hX40 _ h)
    · replace h := h.2 hc
      refine r_aload_n C 0 dX6_layRows_16 rfl rfl ?_
      refine gX6_15 C dX6_layRows_17 ?_
      refine r_iload_n C 2 dX6_layRows_20 rfl rfl ?_
      refine r_bipush (v := (9 : Int32)) C dX6_layRows_21 rfl ?_
      refine r_imul C dX6_layRows_23 ?_
      refine r_iload_n C 3 dX6_layRows_24 rfl rfl ?_
      refine r_iadd C dX6_layRows_25 ?_
      refine r_aload_n C 1 dX6_layRows_26 rfl rfl ?_
      refine r_iload_n C 3 dX6_layRows_27 rfl rfl ?_
      refine r_iload_n C 2 dX6_layRows_28 rfl rfl ?_
      refine cX6_99 C h_v1 (m_X1_change l h_v1 h) ⟨Nat.le_of_ble_eq_true rfl, Nat.le_of_ble_eq_true rfl⟩ (Nat.le_of_ble_eq_true rfl) ⟨Nat.le_refl 0, Nat.le_refl 0⟩ dX6_layRows_29 (fun r M_2 h => ?_)
      refine r_i2l C dX6_layRows_32 ?_
      obtain ⟨q, h⟩ := h
      refine r_last C sh_126 q dX6_layRows_33 ?_
      replace h := h _ rfl
      refine r_iinc C 3 (v := _) [(3, .int _), (0, .ref _), (1, .ref _), (2, .int _)] dX6_layRows_34 rfl rfl (by decide) rfl ?_
      refine r_goto C 10 dX6_layRows_37 (by decide) ?_
      exact r_sub [1, 2, 3, 0] rfl (ih _ _ h)

def S_X6_layRows_56 (v1 : Nat) (v2 : Int32) (o0 : Int32) (b0 : Int32) (X77 : Int64 → Mem → Prop) (K : Mem → Prop) (M : Mem) : Prop := (o0 = 0 → X77 (0 : Int64) M) ∧ (¬ o0 = 0 → vp_in v2 10 ∧ X77 (((gI M 125 v2) - (gI M (v1 + 3) v2)).toInt64) M)

set_option maxHeartbeats 1000000 in
set_option maxRecDepth 10000 in
theorem mS_X6_layRows_56 (C : rw_C p s m meth c cX6_layRows 4 RX6 none D cy ad) {v1 : Nat} {v2 : Int32} {o0 : Int32} {b0 : Int32} (h_v1 : isX1 v1) {X77 : Int64 → Mem → Prop} {K : Mem → Prop} {M : Mem} (hX77 : ∀  (w0 : Int64) (M : Mem), X77 w0 M → rw_W p l e rm_X6_layRows s m args below meth c D cy ad 4 0 0 (rw_Qv below args s D cy ad K) 77 [(0, .ref (ad 124)), (1, .ref (ad v1)), (2, .int v2)] [.long w0, .int b0, .ref (ad 126)] M) (h : S_X6_layRows_56 v1 v2 o0 b0 X77 K M) : rw_W p l e rm_X6_layRows s m args below meth c D cy ad 4 0 0 (rw_Qv below args s D cy ad K) 56 [(0, .ref (ad 124)), (1, .ref (ad v1)), (2, .int v2)] [.int o0, .int b0, .ref (ad 126)] M := by
  refine r_if_eq C 76 dX6_layRows_56 (by decide) (fun hc => ?_) (fun hc => ?_)
  · replace h := h.1 hc
    refine r_lconst (v := (0 : Int64)) C dX6_layRows_76 rfl ?_
    exact hX77 _ _ h
  · replace h := h.2 hc
    refine r_aload_n C 0 dX6_layRows_59 rfl rfl ?_
    refine gX6_9 C dX6_layRows_60 ?_
    refine r_iload_n C 2 dX6_layRows_63 rfl rfl ?_
    obtain ⟨q_2, h⟩ := h
    refine r_iald C sh_125 q_2 dX6_layRows_64 ?_
    refine r_aload_n C 1 dX6_layRows_65 rfl rfl ?_
    refine gX6_106 C h_v1 dX6_layRows_66 ?_
    refine r_iload_n C 2 dX6_layRows_69 rfl rfl ?_
    refine r_iald C (isX1_A3 h_v1) q_2 dX6_layRows_70 ?_
    refine r_isub C dX6_layRows_71 ?_
    refine r_i2l C dX6_layRows_72 ?_
    refine r_goto C 77 dX6_layRows_73 (by decide) ?_
    exact hX77 _ _ h

def L_X6_layRows_2 (v1 : Nat) (X84 : Mem → Prop) (K : Mem → Prop) : Nat → Int32 → Mem → Prop
  | 0, _, _ => False
  | n + 1, v2, M => (((10 : Int32) ≤ v2 → X84 M) ∧ (¬ (10 : Int32) ≤ v2 → (∃ k10 : Nat, L_X6_layRows_10 v1 v2 (fun  (M_4 : Mem) => f_X1_hasPlace v1 v2 M_4 (fun (r_2 : Int32) (M_5 : Mem) => (S_X6_layRows_56 v1 v2 r_2 ((v2 * (9 : Int32)) + (8 : Int32)) (fun (w : Int64) (M_6 : Mem) => vp_in ((v2 * (9 : Int32)) + (8 : Int32)) 90 ∧ ∀ M_7 : Mem, M_7 = wL M_6 126 ((v2 * (9 : Int32)) + (8 : Int32)).toNatClampNeg w → L_X6_layRows_2 v1 X84 K n (v2 + (1 : Int32)) M_7) K M_5))) K k10 (0 : Int32) M)))

set_option maxHeartbeats 1000000 in
set_option maxRecDepth 10000 in
theorem mL_X6_layRows_2 (C : rw_C p s m meth c cX6_layRows 4 RX6 none D cy ad) {v1 : Nat} (h_v1 : isX1 v1) {X84 : Mem → Prop} {K : Mem → Prop} (hX84 : ∀  (M : Mem), X84 M → rw_W p l e rm_X6_layRows s m args below meth c D cy ad 4 0 0 (rw_Qv below args s D cy ad K) 84 [] [] M) : ∀ (n : Nat) (v2 : Int32) (M : Mem), L_X6_layRows_2 v1 X84 K n v2 M → rw_W p l e rm_X6_layRows s m args below meth c D cy ad 4 0 0 (rw_Qv below args s D cy ad K) 2 [(0, .ref (ad 124)), (1, .ref (ad v1)), (2, .int v2)] [] M := by
  intro n
  induction n with
  | zero => intro v2 M h; exact h.elim
  | succ n ih =>
    intro v2 M h
    refine r_iload_n C 2 dX6_layRows_2 rfl rfl ?_
    refine r_bipush (v := (10 : Int32)) C dX6_layRows_3 rfl ?_
    refine r_icmp_ge C 84 dX6_layRows_5 (by decide) (fun hc => ?_) (fun hc => ?_)
    · replace h := h.1 hc
      exact r_sub [] rfl (hX84 _ h)
    · replace h := h.2 hc
      refine r_iconst (v := (0 : Int32)) C dX6_layRows_8 rfl ?_
      refine r_istore_n C [(3, .int _), (0, .ref _), (1, .ref _), (2, .int _)] dX6_layRows_9 rfl (by decide) rfl ?_
      obtain ⟨n10, h⟩ := h
      refine r_sub [1, 2, 3, 0] rfl (mL_X6_layRows_10 C h_v1 (fun M_4 h => ?_) n10 _ _ h)
      refine r_aload_n C 0 dX6_layRows_40 rfl rfl ?_
      refine gX6_15 C dX6_layRows_41 ?_
      refine r_iload_n C 2 dX6_layRows_44 rfl rfl ?_
      refine r_bipush (v := (9 : Int32)) C dX6_layRows_45 rfl ?_
      refine r_imul C dX6_layRows_47 ?_
      refine r_bipush (v := (8 : Int32)) C dX6_layRows_48 rfl ?_
      refine r_iadd C dX6_layRows_50 ?_
      refine r_aload_n C 1 dX6_layRows_51 rfl rfl ?_
      refine r_iload_n C 2 dX6_layRows_52 rfl rfl ?_
      refine cX6_103 C h_v1 (m_X1_hasPlace l h_v1 h) ⟨Nat.le_of_ble_eq_true rfl, Nat.le_of_ble_eq_true rfl⟩ (Nat.le_of_ble_eq_true rfl) ⟨Nat.le_refl 0, Nat.le_refl 0⟩ dX6_layRows_53 (fun r_2 M_5 h => ?_)
      refine mS_X6_layRows_56 C h_v1 (fun w M_6 h => ?_) h
      obtain ⟨q_3, h⟩ := h
      refine r_last C sh_126 q_3 dX6_layRows_77 ?_
      replace h := h _ rfl
      refine r_iinc C 2 (v := _) [(2, .int _), (0, .ref _), (1, .ref _)] dX6_layRows_78 rfl rfl (by decide) rfl ?_
      refine r_goto C 2 dX6_layRows_81 (by decide) ?_
      exact r_sub [1, 2, 0] rfl (ih _ _ h)

def f_X6_layRows (v1 : Nat) (M : Mem) (K : Mem → Prop) : Prop := (∃ k2 : Nat, L_X6_layRows_2 v1 (fun  (M_8 : Mem) => K M_8) K k2 (0 : Int32) M)

set_option maxHeartbeats 1000000 in
set_option maxRecDepth 10000 in
theorem m_X6_layRows (l : Launch) {v1 : Nat} (h_v1 : isX1 v1) {M : Mem} {K : Mem → Prop} (h : f_X6_layRows v1 M K) : CTv l yX6_layRows cX6_layRows 4 none rm_X6_layRows (fun ad => [.ref (ad 124), .ref (ad v1)]) M K := by
  refine rw_entv (by decide +kernel) (fun ad => Nat.le_of_ble_eq_true rfl) (fun p e s m args below meth c D cy ad C => ?_)
  change rw_W p l e _ s m args below meth c D cy ad 4 0 0 _ 0 [(0, .ref (ad 124)), (1, .ref (ad v1))] [] M
  unfold f_X6_layRows at h
  refine r_iconst (v := (0 : Int32)) C dX6_layRows_0 rfl ?_
  refine r_istore_n C [(2, .int _), (0, .ref _), (1, .ref _)] dX6_layRows_1 rfl (by decide) rfl ?_
  obtain ⟨n2, h⟩ := h
  refine r_sub [1, 2, 0] rfl (mL_X6_layRows_2 C h_v1 (fun M_8 h => ?_) n2 _ _ h)
  exact r_vret C dX6_layRows_84 h
def L_X6_freeRowWith_2 (v1 : Int32) (v2 : Int32) (X40 : Mem → Prop) (K : Int32 → Mem → Prop) : Nat → Int32 → Mem → Prop
  | 0, _, _ => False
  | n + 1, v3, M => (((10 : Int32) ≤ v3 → X40 M) ∧ (¬ (10 : Int32) ≤ v3 → ((¬ ((v2 >>> (v3 &&& 31)) &&& (1 : Int32)) = 0 → L_X6_freeRowWith_2 v1 v2 X40 K n (v3 + (1 : Int32)) M) ∧ (((v2 >>> (v3 &&& 31)) &&& (1 : Int32)) = 0 → vp_in ((v3 * (9 : Int32)) + v1) 90 ∧ (((gL M 126 ((v3 * (9 : Int32)) + v1)) = (0 : Int64) → L_X6_freeRowWith_2 v1 v2 X40 K n (v3 + (1 : Int32)) M) ∧ (¬ (gL M 126 ((v3 * (9 : Int32)) + v1)) = (0 : Int64) → K v3 M))))))

set_option maxHeartbeats 1000000 in
set_option maxRecDepth 10000 in
theorem mL_X6_freeRowWith_2 (C : rw_C p s m meth c cX6_freeRowWith 4 RX6 (some .int) D cy ad) {v1 : Int32} {v2 : Int32} {X40 : Mem → Prop} {K : Int32 → Mem → Prop} (hX40 : ∀  (M : Mem), X40 M → rw_W p l e rm_X6_freeRowWith s m args below meth c D cy ad 4 0 0 (rw_Qi below args s D cy ad K) 40 [] [] M) : ∀ (n : Nat) (v3 : Int32) (M : Mem), L_X6_freeRowWith_2 v1 v2 X40 K n v3 M → rw_W p l e rm_X6_freeRowWith s m args below meth c D cy ad 4 0 0 (rw_Qi below args s D cy ad K) 2 [(0, .ref (ad 124)), (1, .int v1), (2, .int v2), (3, .int v3)] [] M := by
  intro n
  induction n with
  | zero => intro v3 M h; exact h.elim
  | succ n ih =>
    intro v3 M h
    refine r_iload_n C 3 dX6_freeRowWith_2 rfl rfl ?_
    refine r_bipush (v := (10 : Int32)) C dX6_freeRowWith_3 rfl ?_
    refine r_icmp_ge C 40 dX6_freeRowWith_5 (by decide) (fun hc => ?_) (fun hc => ?_)
    · replace h := h.1 hc
      exact r_sub [] rfl (hX40 _ h)
    · replace h := h.2 hc
      refine r_iload_n C 2 dX6_freeRowWith_8 rfl rfl ?_
      refine r_iload_n C 3 dX6_freeRowWith_9 rfl rfl ?_
      refine r_ishr C dX6_freeRowWith_10 ?_
      refine r_iconst (v := (1 : Int32)) C dX6_freeRowWith_11 rfl ?_
      refine r_iand C dX6_freeRowWith_12 ?_
      refine r_if_ne C 34 dX6_freeRowWith_13 (by decide) (fun hc => ?_) (fun hc => ?_)
      · replace h := h.1 hc
        refine r_iinc C 3 (v := _) [(3, .int _), (0, .ref _), (1, .int _), (2, .int _)] dX6_freeRowWith_34 rfl rfl (by decide) rfl ?_
        refine r_goto C 2 dX6_freeRowWith_37 (by decide) ?_
        exact r_sub [1, 2, 3, 0] rfl (ih _ _ h)
      · replace h := h.2 hc
        refine r_aload_n C 0 dX6_freeRowWith_16 rfl rfl ?_
        refine gX6_15 C dX6_freeRowWith_17 ?_
        refine r_iload_n C 3 dX6_freeRowWith_20 rfl rfl ?_
        refine r_bipush (v := (9 : Int32)) C dX6_freeRowWith_21 rfl ?_
        refine r_imul C dX6_freeRowWith_23 ?_
        refine r_iload_n C 1 dX6_freeRowWith_24 rfl rfl ?_
        refine r_iadd C dX6_freeRowWith_25 ?_
        obtain ⟨q, h⟩ := h
        refine r_lald C sh_126 q dX6_freeRowWith_26 ?_
        refine r_lconst (v := (0 : Int64)) C dX6_freeRowWith_27 rfl ?_
        refine r_lcmp C dX6_freeRowWith_28 ?_
        refine r_if_eq C 34 dX6_freeRowWith_29 (by decide) (fun hc => ?_) (fun hc => ?_)
        · replace h := h.1 ((lg_cmp_eq _ _).mp hc)
          refine r_iinc C 3 (v := _) [(3, .int _), (0, .ref _), (1, .int _), (2, .int _)] dX6_freeRowWith_34 rfl rfl (by decide) rfl ?_
          refine r_goto C 2 dX6_freeRowWith_37 (by decide) ?_
          exact r_sub [1, 2, 3, 0] rfl (ih _ _ h)
        · replace h := h.2 (fun q9 => hc ((lg_cmp_eq _ _).mpr q9))
          refine r_iload_n C 3 dX6_freeRowWith_32 rfl rfl ?_
          exact r_iret C dX6_freeRowWith_33 h

def f_X6_freeRowWith (v1 : Int32) (v2 : Int32) (M : Mem) (K : Int32 → Mem → Prop) : Prop := (∃ k2 : Nat, L_X6_freeRowWith_2 v1 v2 (fun  (M_2 : Mem) => K (-1 : Int32) M_2) K k2 (0 : Int32) M)

set_option maxHeartbeats 1000000 in
set_option maxRecDepth 10000 in
theorem m_X6_freeRowWith (l : Launch) {v1 : Int32} {v2 : Int32}  {M : Mem} {K : Int32 → Mem → Prop} (h : f_X6_freeRowWith v1 v2 M K) : CTi l yX6_freeRowWith cX6_freeRowWith 4 (some .int) rm_X6_freeRowWith (fun ad => [.ref (ad 124), .int v1, .int v2]) M K := by
  refine rw_enti (by decide +kernel) (fun ad => Nat.le_of_ble_eq_true rfl) (fun p e s m args below meth c D cy ad C => ?_)
  change rw_W p l e _ s m args below meth c D cy ad 4 0 0 _ 0 [(0, .ref (ad 124)), (1, .int v1), (2, .int v2)] [] M
  unfold f_X6_freeRowWith at h
  refine r_iconst (v := (0 : Int32)) C dX6_freeRowWith_0 rfl ?_
  refine r_istore_n C [(3, .int _), (0, .ref _), (1, .int _), (2, .int _)] dX6_freeRowWith_1 rfl (by decide) rfl ?_
  obtain ⟨n2, h⟩ := h
  refine r_sub [1, 2, 3, 0] rfl (mL_X6_freeRowWith_2 C (fun M_2 h => ?_) n2 _ _ h)
  refine r_iconst (v := (-1 : Int32)) C dX6_freeRowWith_40 rfl ?_
  exact r_iret C dX6_freeRowWith_41 h
def L_X8_commonDivisor_15 (X51 : Int64 → Mem → Prop) (K : Int64 → Mem → Prop) : Nat → Int64 → Int64 → Int32 → Mem → Prop
  | 0, _, _, _, _ => False
  | n + 1, v4, v6, v8, M => (((128 : Int32) ≤ v8 → X51 v4 M) ∧ (¬ (128 : Int32) ≤ v8 → ((v6 = (0 : Int64) → X51 v4 M) ∧ (¬ v6 = (0 : Int64) → (¬ v6 = 0) ∧ ∀ x9 : Int64, x9 = lrem v4 v6 → L_X8_commonDivisor_15 X51 K n v6 x9 (v8 + (1 : Int32)) M))))

set_option maxHeartbeats 1000000 in
set_option maxRecDepth 10000 in
theorem mL_X8_commonDivisor_15 (C : rw_C p s m meth c cX8_commonDivisor 11 RX8 (some .long) D cy ad) {X51 : Int64 → Mem → Prop} {K : Int64 → Mem → Prop} (hX51 : ∀ (u4 : Int64) (M : Mem), X51 u4 M → rw_W p l e rm_X8_commonDivisor s m args below meth c D cy ad 11 0 0 (rw_Ql below args s D cy ad K) 51 [(4, .long u4)] [] M) : ∀ (n : Nat) (v4 : Int64) (v6 : Int64) (v8 : Int32) (M : Mem), L_X8_commonDivisor_15 X51 K n v4 v6 v8 M → rw_W p l e rm_X8_commonDivisor s m args below meth c D cy ad 11 0 0 (rw_Ql below args s D cy ad K) 15 [(4, .long v4), (6, .long v6), (8, .int v8)] [] M := by
  intro n
  induction n with
  | zero => intro v4 v6 v8 M h; exact h.elim
  | succ n ih =>
    intro v4 v6 v8 M h
    refine r_iload C 2 dX8_commonDivisor_15 rfl ?_
    refine r_sipush (v := (128 : Int32)) C dX8_commonDivisor_17 rfl ?_
    refine r_icmp_ge C 51 dX8_commonDivisor_20 (by decide) (fun hc => ?_) (fun hc => ?_)
    · replace h := h.1 hc
      exact r_sub [0] rfl (hX51 _ _ h)
    · replace h := h.2 hc
      refine r_lload C 1 dX8_commonDivisor_23 rfl ?_
      refine r_lconst (v := (0 : Int64)) C dX8_commonDivisor_25 rfl ?_
      refine r_lcmp C dX8_commonDivisor_26 ?_
      refine r_if_eq C 51 dX8_commonDivisor_27 (by decide) (fun hc => ?_) (fun hc => ?_)
      · replace h := h.1 ((lg_cmp_eq _ _).mp hc)
        exact r_sub [0] rfl (hX51 _ _ h)
      · replace h := h.2 (fun q9 => hc ((lg_cmp_eq _ _).mpr q9))
        refine r_lload C 0 dX8_commonDivisor_30 rfl ?_
        refine r_lload C 1 dX8_commonDivisor_32 rfl ?_
        obtain ⟨q, h⟩ := h
        refine r_lrem C dX8_commonDivisor_34 q ?_
        refine r_lstore C [(9, .long _), (4, .long _), (6, .long _), (8, .int _)] dX8_commonDivisor_35 (by decide) rfl ?_
        replace h := h _ rfl
        refine r_lload C 2 dX8_commonDivisor_37 rfl ?_
        refine r_lstore C [(4, .long _), (9, .long _), (6, .long _), (8, .int _)] dX8_commonDivisor_39 (by decide) rfl ?_
        refine r_lload C 1 dX8_commonDivisor_41 rfl ?_
        refine r_lstore C [(6, .long _), (4, .long _), (9, .long _), (8, .int _)] dX8_commonDivisor_43 (by decide) rfl ?_
        refine r_iinc C 3 (v := _) [(8, .int _), (6, .long _), (4, .long _), (9, .long _)] dX8_commonDivisor_45 rfl rfl (by decide) rfl ?_
        refine r_goto C 15 dX8_commonDivisor_48 (by decide) ?_
        exact r_sub [2, 1, 0] rfl (ih _ _ _ _ h)

def f_X8_commonDivisor (v0 : Int64) (v2 : Int64) (M : Mem) (K : Int64 → Mem → Prop) : Prop := ∀ x4 : Int64, x4 = (if 0 < v0 then v0 else -v0) → ∀ x6 : Int64, x6 = (if 0 < v2 then v2 else -v2) → (∃ k15 : Nat, L_X8_commonDivisor_15 (fun (v4_2 : Int64) (M_2 : Mem) => K v4_2 M_2) K k15 x4 x6 (0 : Int32) M)

set_option maxHeartbeats 1000000 in
set_option maxRecDepth 10000 in
theorem m_X8_commonDivisor (l : Launch) {v0 : Int64} {v2 : Int64}  {M : Mem} {K : Int64 → Mem → Prop} (h : f_X8_commonDivisor v0 v2 M K) : CTl l yX8_commonDivisor cX8_commonDivisor 11 (some .long) rm_X8_commonDivisor (fun ad => [.long v0, .long v2]) M K := by
  refine rw_entl (by decide +kernel) (fun ad => Nat.le_of_ble_eq_true rfl) (fun p e s m args below meth c D cy ad C => ?_)
  change rw_W p l e _ s m args below meth c D cy ad 11 0 0 _ 0 [(0, .long v0), (2, .long v2)] [] M
  unfold f_X8_commonDivisor at h
  refine r_lload_n C 0 dX8_commonDivisor_0 rfl rfl ?_
  refine cX8_367 C ⟨Nat.le_of_ble_eq_true rfl, Nat.le_of_ble_eq_true rfl⟩ (Nat.le_refl 0) (Nat.le_refl 0) dX8_commonDivisor_1 ?_
  refine r_lstore C [(4, .long _), (0, .long _), (2, .long _)] dX8_commonDivisor_4 (by decide) rfl ?_
  replace h := h _ rfl
  refine r_lload_n C 2 dX8_commonDivisor_6 rfl rfl ?_
  refine cX8_367 C ⟨Nat.le_of_ble_eq_true rfl, Nat.le_of_ble_eq_true rfl⟩ (Nat.le_refl 0) (Nat.le_refl 0) dX8_commonDivisor_7 ?_
  refine r_lstore C [(6, .long _), (4, .long _), (0, .long _), (2, .long _)] dX8_commonDivisor_10 (by decide) rfl ?_
  replace h := h _ rfl
  refine r_iconst (v := (0 : Int32)) C dX8_commonDivisor_12 rfl ?_
  refine r_istore C [(8, .int _), (6, .long _), (4, .long _), (0, .long _), (2, .long _)] dX8_commonDivisor_13 (by decide) rfl ?_
  obtain ⟨n15, h⟩ := h
  refine r_sub [2, 1, 0] rfl (mL_X8_commonDivisor_15 C (fun v4_2 M_2 h => ?_) n15 _ _ _ _ h)
  refine r_lload C 0 dX8_commonDivisor_51 rfl ?_
  exact r_lret C dX8_commonDivisor_53 h
def L_X8_clearColumn_41 (v0 : Nat) (v1 : Int32) (v2 : Int32) (v4 : Int32) (v5 : Int64) (v7 : Int64) (X112 : Int64 → Mem → Prop) (K : Mem → Prop) : Nat → Int64 → Int32 → Mem → Prop
  | 0, _, _, _ => False
  | n + 1, v9, v11, M => ((v4 ≤ v11 → X112 v9 M) ∧ (¬ v4 ≤ v11 → vp_in ((v1 * v4) + v11) (alen v0) ∧ vp_in ((v2 * v4) + v11) (alen v0) ∧ ∀ x12 : Int64, x12 = ((gL M v0 ((v1 * v4) + v11)) * v5) - ((gL M v0 ((v2 * v4) + v11)) * v7) → ∀ M_2 : Mem, M_2 = wL M v0 ((v1 * v4) + v11).toNatClampNeg x12 → ((¬ v9 = (1 : Int64) → f_X8_commonDivisor v9 x12 M_2 (fun (r : Int64) (M_3 : Mem) => L_X8_clearColumn_41 v0 v1 v2 v4 v5 v7 X112 K n r (v11 + (1 : Int32)) M_3)) ∧ (v9 = (1 : Int64) → ∀ x9_2 : Int64, x9_2 = (1 : Int64) → L_X8_clearColumn_41 v0 v1 v2 v4 v5 v7 X112 K n x9_2 (v11 + (1 : Int32)) M_2))))

set_option maxHeartbeats 1000000 in
set_option maxRecDepth 10000 in
theorem mL_X8_clearColumn_41 (C : rw_C p s m meth c cX8_clearColumn 14 RX8 none D cy ad) {v0 : Nat} {v1 : Int32} {v2 : Int32} {v4 : Int32} {v5 : Int64} {v7 : Int64} (h_v0 : isA v0 1 (alen v0)) {X112 : Int64 → Mem → Prop} {K : Mem → Prop} (hX112 : ∀ (u9 : Int64) (M : Mem), X112 u9 M → rw_W p l e rm_X8_clearColumn s m args below meth c D cy ad 14 0 0 (rw_Qv below args s D cy ad K) 112 [(0, .ref (ad v0)), (1, .int v1), (4, .int v4), (9, .long u9)] [] M) : ∀ (n : Nat) (v9 : Int64) (v11 : Int32) (M : Mem), L_X8_clearColumn_41 v0 v1 v2 v4 v5 v7 X112 K n v9 v11 M → rw_W p l e rm_X8_clearColumn s m args below meth c D cy ad 14 0 0 (rw_Qv below args s D cy ad K) 41 [(0, .ref (ad v0)), (1, .int v1), (2, .int v2), (4, .int v4), (5, .long v5), (7, .long v7), (9, .long v9), (11, .int v11)] [] M := by
  intro n
  induction n with
  | zero => intro v9 v11 M h; exact h.elim
  | succ n ih =>
    intro v9 v11 M h
    refine r_iload C 7 dX8_clearColumn_41 rfl ?_
    refine r_iload C 3 dX8_clearColumn_43 rfl ?_
    refine r_icmp_ge C 112 dX8_clearColumn_45 (by decide) (fun hc => ?_) (fun hc => ?_)
    · replace h := h.1 hc
      exact r_sub [0, 1, 3, 6] rfl (hX112 _ _ h)
    · replace h := h.2 hc
      refine r_aload_n C 0 dX8_clearColumn_48 rfl rfl ?_
      refine r_iload_n C 1 dX8_clearColumn_49 rfl rfl ?_
      refine r_iload C 3 dX8_clearColumn_50 rfl ?_
      refine r_imul C dX8_clearColumn_52 ?_
      refine r_iload C 7 dX8_clearColumn_53 rfl ?_
      refine r_iadd C dX8_clearColumn_55 ?_
      obtain ⟨q_3, h⟩ := h
      refine r_lald C h_v0 q_3 dX8_clearColumn_56 ?_
      refine r_lload C 4 dX8_clearColumn_57 rfl ?_
      refine r_lmul C dX8_clearColumn_59 ?_
      refine r_aload_n C 0 dX8_clearColumn_60 rfl rfl ?_
      refine r_iload_n C 2 dX8_clearColumn_61 rfl rfl ?_
      refine r_iload C 3 dX8_clearColumn_62 rfl ?_
      refine r_imul C dX8_clearColumn_64 ?_
      refine r_iload C 7 dX8_clearColumn_65 rfl ?_
      refine r_iadd C dX8_clearColumn_67 ?_
      obtain ⟨q_4, h⟩ := h
      refine r_lald C h_v0 q_4 dX8_clearColumn_68 ?_
      refine r_lload C 5 dX8_clearColumn_69 rfl ?_
      refine r_lmul C dX8_clearColumn_71 ?_
      refine r_lsub C dX8_clearColumn_72 ?_
      refine r_lstore C [(12, .long _), (0, .ref _), (1, .int _), (2, .int _), (4, .int _), (5, .long _), (7, .long _), (9, .long _), (11, .int _)] dX8_clearColumn_73 (by decide) rfl ?_
      replace h := h _ rfl
      refine r_aload_n C 1 dX8_clearColumn_75 rfl rfl ?_
      refine r_iload_n C 2 dX8_clearColumn_76 rfl rfl ?_
      refine r_iload C 4 dX8_clearColumn_77 rfl ?_
      refine r_imul C dX8_clearColumn_79 ?_
      refine r_iload C 8 dX8_clearColumn_80 rfl ?_
      refine r_iadd C dX8_clearColumn_82 ?_
      refine r_lload C 0 dX8_clearColumn_83 rfl ?_
      refine r_last C h_v0 q_3 dX8_clearColumn_85 ?_
      replace h := h _ rfl
      refine r_lload C 7 dX8_clearColumn_86 rfl ?_
      refine r_lconst (v := (1 : Int64)) C dX8_clearColumn_88 rfl ?_
      refine r_lcmp C dX8_clearColumn_89 ?_
      refine r_if_ne C 97 dX8_clearColumn_90 (by decide) (fun hc => ?_) (fun hc => ?_)
      · replace h := h.1 (fun q9 => hc ((lg_cmp_eq _ _).mpr q9))
        refine r_lload C 7 dX8_clearColumn_97 rfl ?_
        refine r_lload C 0 dX8_clearColumn_99 rfl ?_
        refine cX8_373 C (m_X8_commonDivisor l h) ⟨Nat.le_of_ble_eq_true rfl, Nat.le_of_ble_eq_true rfl⟩ (Nat.le_of_ble_eq_true rfl) ⟨Nat.le_refl 0, Nat.le_refl 0⟩ dX8_clearColumn_101 (fun r M_3 h => ?_)
        refine r_lstore C [(9, .long _), (12, .long _), (0, .ref _), (1, .int _), (2, .int _), (4, .int _), (5, .long _), (7, .long _), (11, .int _)] dX8_clearColumn_104 (by decide) rfl ?_
        refine r_iinc C 8 (v := _) [(11, .int _), (9, .long _), (12, .long _), (0, .ref _), (1, .int _), (2, .int _), (4, .int _), (5, .long _), (7, .long _)] dX8_clearColumn_106 rfl rfl (by decide) rfl ?_
        refine r_goto C 41 dX8_clearColumn_109 (by decide) ?_
        exact r_sub [3, 4, 5, 6, 7, 8, 1, 0] rfl (ih _ _ _ h)
      · replace h := h.2 ((lg_cmp_eq _ _).mp hc)
        refine r_lconst (v := (1 : Int64)) C dX8_clearColumn_93 rfl ?_
        refine r_goto C 104 dX8_clearColumn_94 (by decide) ?_
        refine r_lstore C [(9, .long _), (12, .long _), (0, .ref _), (1, .int _), (2, .int _), (4, .int _), (5, .long _), (7, .long _), (11, .int _)] dX8_clearColumn_104 (by decide) rfl ?_
        replace h := h _ rfl
        refine r_iinc C 8 (v := _) [(11, .int _), (9, .long _), (12, .long _), (0, .ref _), (1, .int _), (2, .int _), (4, .int _), (5, .long _), (7, .long _)] dX8_clearColumn_106 rfl rfl (by decide) rfl ?_
        refine r_goto C 41 dX8_clearColumn_109 (by decide) ?_
        exact r_sub [3, 4, 5, 6, 7, 8, 1, 0] rfl (ih _ _ _ h)

def L_X8_clearColumn_122 (v0 : Nat) (v1 : Int32) (v4 : Int32) (v9 : Int64) (X149 : Mem → Prop) (K : Mem → Prop) : Nat → Int32 → Mem → Prop
  | 0, _, _ => False
  | n + 1, v11, M => ((v4 ≤ v11 → X149 M) ∧ (¬ v4 ≤ v11 → vp_in ((v1 * v4) + v11) (alen v0) ∧ (¬ v9 = 0) ∧ ∀ M_5 : Mem, M_5 = wL M v0 ((v1 * v4) + v11).toNatClampNeg ((gL M v0 ((v1 * v4) + v11)) / v9) → L_X8_clearColumn_122 v0 v1 v4 v9 X149 K n (v11 + (1 : Int32)) M_5))

set_option maxHeartbeats 1000000 in
set_option maxRecDepth 10000 in
theorem mL_X8_clearColumn_122 (C : rw_C p s m meth c cX8_clearColumn 14 RX8 none D cy ad) {v0 : Nat} {v1 : Int32} {v4 : Int32} {v9 : Int64} (h_v0 : isA v0 1 (alen v0)) {X149 : Mem → Prop} {K : Mem → Prop} (hX149 : ∀  (M : Mem), X149 M → rw_W p l e rm_X8_clearColumn s m args below meth c D cy ad 14 0 0 (rw_Qv below args s D cy ad K) 149 [] [] M) : ∀ (n : Nat) (v11 : Int32) (M : Mem), L_X8_clearColumn_122 v0 v1 v4 v9 X149 K n v11 M → rw_W p l e rm_X8_clearColumn s m args below meth c D cy ad 14 0 0 (rw_Qv below args s D cy ad K) 122 [(0, .ref (ad v0)), (1, .int v1), (4, .int v4), (9, .long v9), (11, .int v11)] [] M := by
  intro n
  induction n with
  | zero => intro v11 M h; exact h.elim
  | succ n ih =>
    intro v11 M h
    refine r_iload C 4 dX8_clearColumn_122 rfl ?_
    refine r_iload C 2 dX8_clearColumn_124 rfl ?_
    refine r_icmp_ge C 149 dX8_clearColumn_126 (by decide) (fun hc => ?_) (fun hc => ?_)
    · replace h := h.1 hc
      exact r_sub [] rfl (hX149 _ h)
    · replace h := h.2 hc
      refine r_aload_n C 0 dX8_clearColumn_129 rfl rfl ?_
      refine r_iload_n C 1 dX8_clearColumn_130 rfl rfl ?_
      refine r_iload C 2 dX8_clearColumn_131 rfl ?_
      refine r_imul C dX8_clearColumn_133 ?_
      refine r_iload C 4 dX8_clearColumn_134 rfl ?_
      refine r_iadd C dX8_clearColumn_136 ?_
      refine r_dup2_11 C dX8_clearColumn_137 rfl rfl ?_
      obtain ⟨q_5, h⟩ := h
      refine r_lald C h_v0 q_5 dX8_clearColumn_138 ?_
      refine r_lload C 3 dX8_clearColumn_139 rfl ?_
      obtain ⟨q_6, h⟩ := h
      refine r_ldiv C dX8_clearColumn_141 q_6 ?_
      refine r_last C h_v0 q_5 dX8_clearColumn_142 ?_
      replace h := h _ rfl
      refine r_iinc C 4 (v := _) [(11, .int _), (0, .ref _), (1, .int _), (4, .int _), (9, .long _)] dX8_clearColumn_143 rfl rfl (by decide) rfl ?_
      refine r_goto C 122 dX8_clearColumn_146 (by decide) ?_
      exact r_sub [1, 2, 3, 4, 0] rfl (ih _ _ h)

def f_X8_clearColumn (v0 : Nat) (v1 : Int32) (v2 : Int32) (v3 : Int32) (v4 : Int32) (M : Mem) (K : Mem → Prop) : Prop := vp_in ((v2 * v4) + v3) (alen v0) ∧ ∀ x5 : Int64, x5 = gL M v0 ((v2 * v4) + v3) → vp_in ((v1 * v4) + v3) (alen v0) ∧ ∀ x7 : Int64, x7 = gL M v0 ((v1 * v4) + v3) → ((x5 = (0 : Int64) → K M) ∧ (¬ x5 = (0 : Int64) → ((¬ x7 = (0 : Int64) → ∀ x9 : Int64, x9 = (0 : Int64) → (∃ k41 : Nat, L_X8_clearColumn_41 v0 v1 v2 v4 x5 x7 (fun (v9_2 : Int64) (M_4 : Mem) => ((v9_2 ≤ (1 : Int64) → K M_4) ∧ (¬ v9_2 ≤ (1 : Int64) → (∃ k122 : Nat, L_X8_clearColumn_122 v0 v1 v4 v9_2 (fun  (M_6 : Mem) => K M_6) K k122 (0 : Int32) M_4)))) K k41 x9 (0 : Int32) M)) ∧ (x7 = (0 : Int64) → K M))))

set_option maxHeartbeats 1000000 in
set_option maxRecDepth 10000 in
theorem m_X8_clearColumn (l : Launch) {v0 : Nat} {v1 : Int32} {v2 : Int32} {v3 : Int32} {v4 : Int32} (h_v0 : isLg v0) {M : Mem} {K : Mem → Prop} (h : f_X8_clearColumn v0 v1 v2 v3 v4 M K) : CTv l yX8_clearColumn cX8_clearColumn 14 none rm_X8_clearColumn (fun ad => [.ref (ad v0), .int v1, .int v2, .int v3, .int v4]) M K := by
  refine rw_entv (by decide +kernel) (fun ad => Nat.le_of_ble_eq_true rfl) (fun p e s m args below meth c D cy ad C => ?_)
  change rw_W p l e _ s m args below meth c D cy ad 14 0 0 _ 0 [(0, .ref (ad v0)), (1, .int v1), (2, .int v2), (3, .int v3), (4, .int v4)] [] M
  unfold f_X8_clearColumn at h
  refine r_aload_n C 0 dX8_clearColumn_0 rfl rfl ?_
  refine r_iload_n C 2 dX8_clearColumn_1 rfl rfl ?_
  refine r_iload C 4 dX8_clearColumn_2 rfl ?_
  refine r_imul C dX8_clearColumn_4 ?_
  refine r_iload_n C 3 dX8_clearColumn_5 rfl rfl ?_
  refine r_iadd C dX8_clearColumn_6 ?_
  obtain ⟨q, h⟩ := h
  refine r_lald C h_v0 q dX8_clearColumn_7 ?_
  refine r_lstore C [(5, .long _), (0, .ref _), (1, .int _), (2, .int _), (3, .int _), (4, .int _)] dX8_clearColumn_8 (by decide) rfl ?_
  replace h := h _ rfl
  refine r_aload_n C 1 dX8_clearColumn_10 rfl rfl ?_
  refine r_iload_n C 2 dX8_clearColumn_11 rfl rfl ?_
  refine r_iload C 5 dX8_clearColumn_12 rfl ?_
  refine r_imul C dX8_clearColumn_14 ?_
  refine r_iload_n C 4 dX8_clearColumn_15 rfl rfl ?_
  refine r_iadd C dX8_clearColumn_16 ?_
  obtain ⟨q_2, h⟩ := h
  refine r_lald C h_v0 q_2 dX8_clearColumn_17 ?_
  refine r_lstore C [(7, .long _), (5, .long _), (0, .ref _), (1, .int _), (2, .int _), (3, .int _), (4, .int _)] dX8_clearColumn_18 (by decide) rfl ?_
  replace h := h _ rfl
  refine r_lload C 1 dX8_clearColumn_20 rfl ?_
  refine r_lconst (v := (0 : Int64)) C dX8_clearColumn_22 rfl ?_
  refine r_lcmp C dX8_clearColumn_23 ?_
  refine r_if_eq C 34 dX8_clearColumn_24 (by decide) (fun hc => ?_) (fun hc => ?_)
  · replace h := h.1 ((lg_cmp_eq _ _).mp hc)
    exact r_vret C dX8_clearColumn_34 h
  · replace h := h.2 (fun q9 => hc ((lg_cmp_eq _ _).mpr q9))
    refine r_lload C 0 dX8_clearColumn_27 rfl ?_
    refine r_lconst (v := (0 : Int64)) C dX8_clearColumn_29 rfl ?_
    refine r_lcmp C dX8_clearColumn_30 ?_
    refine r_if_ne C 35 dX8_clearColumn_31 (by decide) (fun hc => ?_) (fun hc => ?_)
    · replace h := h.1 (fun q9 => hc ((lg_cmp_eq _ _).mpr q9))
      refine r_lconst (v := (0 : Int64)) C dX8_clearColumn_35 rfl ?_
      refine r_lstore C [(9, .long _), (7, .long _), (5, .long _), (0, .ref _), (1, .int _), (2, .int _), (3, .int _), (4, .int _)] dX8_clearColumn_36 (by decide) rfl ?_
      replace h := h _ rfl
      refine r_iconst (v := (0 : Int32)) C dX8_clearColumn_38 rfl ?_
      refine r_istore C [(11, .int _), (9, .long _), (7, .long _), (5, .long _), (0, .ref _), (1, .int _), (2, .int _), (3, .int _), (4, .int _)] dX8_clearColumn_39 (by decide) rfl ?_
      obtain ⟨n41, h⟩ := h
      refine r_sub [4, 5, 6, 8, 3, 2, 1, 0] rfl (mL_X8_clearColumn_41 C h_v0 (fun v9_2 M_4 h => ?_) n41 _ _ _ h)
      refine r_lload C 3 dX8_clearColumn_112 rfl ?_
      refine r_lconst (v := (1 : Int64)) C dX8_clearColumn_114 rfl ?_
      refine r_lcmp C dX8_clearColumn_115 ?_
      refine r_if_le C 149 dX8_clearColumn_116 (by decide) (fun hc => ?_) (fun hc => ?_)
      · replace h := h.1 ((lg_cmp_le _ _).mp hc)
        exact r_vret C dX8_clearColumn_149 h
      · replace h := h.2 (fun q9 => hc ((lg_cmp_le _ _).mpr q9))
        refine r_iconst (v := (0 : Int32)) C dX8_clearColumn_119 rfl ?_
        refine r_istore C [(11, .int _), (0, .ref _), (1, .int _), (4, .int _), (9, .long _)] dX8_clearColumn_120 (by decide) rfl ?_
        obtain ⟨n122, h⟩ := h
        refine r_sub [1, 2, 3, 4, 0] rfl (mL_X8_clearColumn_122 C h_v0 (fun M_6 h => ?_) n122 _ _ h)
        exact r_vret C dX8_clearColumn_149 h
    · replace h := h.2 ((lg_cmp_eq _ _).mp hc)
      exact r_vret C dX8_clearColumn_34 h
def L_X6_canBeWhole_13 (v1 : Int32) (X43 : Int64 → Mem → Prop) (K : Int32 → Mem → Prop) : Nat → Int64 → Int32 → Mem → Prop
  | 0, _, _, _ => False
  | n + 1, v2, v4, M => (((8 : Int32) ≤ v4 → X43 v2 M) ∧ (¬ (8 : Int32) ≤ v4 → vp_in ((v1 * (9 : Int32)) + v4) 90 ∧ f_X8_commonDivisor v2 (gL M 126 ((v1 * (9 : Int32)) + v4)) M (fun (r : Int64) (M_2 : Mem) => L_X6_canBeWhole_13 v1 X43 K n r (v4 + (1 : Int32)) M_2)))

set_option maxHeartbeats 1000000 in
set_option maxRecDepth 10000 in
theorem mL_X6_canBeWhole_13 (C : rw_C p s m meth c cX6_canBeWhole 6 RX6 (some .boolean) D cy ad) {v1 : Int32} {X43 : Int64 → Mem → Prop} {K : Int32 → Mem → Prop} (hX43 : ∀ (u2 : Int64) (M : Mem), X43 u2 M → rw_W p l e rm_X6_canBeWhole s m args below meth c D cy ad 6 0 0 (rw_Qi below args s D cy ad K) 43 [(0, .ref (ad 124)), (1, .int v1), (2, .long u2)] [] M) : ∀ (n : Nat) (v2 : Int64) (v4 : Int32) (M : Mem), L_X6_canBeWhole_13 v1 X43 K n v2 v4 M → rw_W p l e rm_X6_canBeWhole s m args below meth c D cy ad 6 0 0 (rw_Qi below args s D cy ad K) 13 [(0, .ref (ad 124)), (1, .int v1), (2, .long v2), (4, .int v4)] [] M := by
  intro n
  induction n with
  | zero => intro v2 v4 M h; exact h.elim
  | succ n ih =>
    intro v2 v4 M h
    refine r_iload C 3 dX6_canBeWhole_13 rfl ?_
    refine r_bipush (v := (8 : Int32)) C dX6_canBeWhole_15 rfl ?_
    refine r_icmp_ge C 43 dX6_canBeWhole_17 (by decide) (fun hc => ?_) (fun hc => ?_)
    · replace h := h.1 hc
      exact r_sub [0, 1, 2] rfl (hX43 _ _ h)
    · replace h := h.2 hc
      refine r_lload_n C 2 dX6_canBeWhole_20 rfl rfl ?_
      refine r_aload_n C 0 dX6_canBeWhole_21 rfl rfl ?_
      refine gX6_15 C dX6_canBeWhole_22 ?_
      refine r_iload_n C 1 dX6_canBeWhole_25 rfl rfl ?_
      refine r_bipush (v := (9 : Int32)) C dX6_canBeWhole_26 rfl ?_
      refine r_imul C dX6_canBeWhole_28 ?_
      refine r_iload C 3 dX6_canBeWhole_29 rfl ?_
      refine r_iadd C dX6_canBeWhole_31 ?_
      obtain ⟨q, h⟩ := h
      refine r_lald C sh_126 q dX6_canBeWhole_32 ?_
      refine cX6_119 C (m_X8_commonDivisor l h) ⟨Nat.le_of_ble_eq_true rfl, Nat.le_of_ble_eq_true rfl⟩ (Nat.le_of_ble_eq_true rfl) ⟨Nat.le_refl 0, Nat.le_refl 0⟩ dX6_canBeWhole_33 (fun r M_2 h => ?_)
      refine r_lstore_n C [(2, .long _), (0, .ref _), (1, .int _), (4, .int _)] dX6_canBeWhole_36 rfl (by decide) rfl ?_
      refine r_iinc C 3 (v := _) [(4, .int _), (2, .long _), (0, .ref _), (1, .int _)] dX6_canBeWhole_37 rfl rfl (by decide) rfl ?_
      refine r_goto C 13 dX6_canBeWhole_40 (by decide) ?_
      exact r_sub [2, 3, 1, 0] rfl (ih _ _ _ h)

def L_X6_canBeWhole_2 (X90 : Mem → Prop) (K : Int32 → Mem → Prop) : Nat → Int32 → Mem → Prop
  | 0, _, _ => False
  | n + 1, v1, M => (((10 : Int32) ≤ v1 → X90 M) ∧ (¬ (10 : Int32) ≤ v1 → ∀ x2 : Int64, x2 = (0 : Int64) → (∃ k13 : Nat, L_X6_canBeWhole_13 v1 (fun (v2_2 : Int64) (M_3 : Mem) => vp_in ((v1 * (9 : Int32)) + (8 : Int32)) 90 ∧ ∀ x4 : Int64, x4 = gL M_3 126 ((v1 * (9 : Int32)) + (8 : Int32)) → ((¬ v2_2 = (0 : Int64) → (¬ v2_2 = 0) ∧ (((lrem x4 v2_2) = (0 : Int64) → L_X6_canBeWhole_2 X90 K n (v1 + (1 : Int32)) M_3) ∧ (¬ (lrem x4 v2_2) = (0 : Int64) → K (0 : Int32) M_3))) ∧ (v2_2 = (0 : Int64) → ((x4 = (0 : Int64) → L_X6_canBeWhole_2 X90 K n (v1 + (1 : Int32)) M_3) ∧ (¬ x4 = (0 : Int64) → K (0 : Int32) M_3))))) K k13 x2 (0 : Int32) M)))

set_option maxHeartbeats 1000000 in
set_option maxRecDepth 10000 in
theorem mL_X6_canBeWhole_2 (C : rw_C p s m meth c cX6_canBeWhole 6 RX6 (some .boolean) D cy ad) {X90 : Mem → Prop} {K : Int32 → Mem → Prop} (hX90 : ∀  (M : Mem), X90 M → rw_W p l e rm_X6_canBeWhole s m args below meth c D cy ad 6 0 0 (rw_Qi below args s D cy ad K) 90 [] [] M) : ∀ (n : Nat) (v1 : Int32) (M : Mem), L_X6_canBeWhole_2 X90 K n v1 M → rw_W p l e rm_X6_canBeWhole s m args below meth c D cy ad 6 0 0 (rw_Qi below args s D cy ad K) 2 [(0, .ref (ad 124)), (1, .int v1)] [] M := by
  intro n
  induction n with
  | zero => intro v1 M h; exact h.elim
  | succ n ih =>
    intro v1 M h
    refine r_iload_n C 1 dX6_canBeWhole_2 rfl rfl ?_
    refine r_bipush (v := (10 : Int32)) C dX6_canBeWhole_3 rfl ?_
    refine r_icmp_ge C 90 dX6_canBeWhole_5 (by decide) (fun hc => ?_) (fun hc => ?_)
    · replace h := h.1 hc
      exact r_sub [] rfl (hX90 _ h)
    · replace h := h.2 hc
      refine r_lconst (v := (0 : Int64)) C dX6_canBeWhole_8 rfl ?_
      refine r_lstore_n C [(2, .long _), (0, .ref _), (1, .int _)] dX6_canBeWhole_9 rfl (by decide) rfl ?_
      replace h := h _ rfl
      refine r_iconst (v := (0 : Int32)) C dX6_canBeWhole_10 rfl ?_
      refine r_istore C [(4, .int _), (2, .long _), (0, .ref _), (1, .int _)] dX6_canBeWhole_11 (by decide) rfl ?_
      obtain ⟨n13, h⟩ := h
      refine r_sub [2, 3, 1, 0] rfl (mL_X6_canBeWhole_13 C (fun v2_2 M_3 h => ?_) n13 _ _ _ h)
      refine r_aload_n C 0 dX6_canBeWhole_43 rfl rfl ?_
      refine gX6_15 C dX6_canBeWhole_44 ?_
      refine r_iload_n C 1 dX6_canBeWhole_47 rfl rfl ?_
      refine r_bipush (v := (9 : Int32)) C dX6_canBeWhole_48 rfl ?_
      refine r_imul C dX6_canBeWhole_50 ?_
      refine r_bipush (v := (8 : Int32)) C dX6_canBeWhole_51 rfl ?_
      refine r_iadd C dX6_canBeWhole_53 ?_
      obtain ⟨q_2, h⟩ := h
      refine r_lald C sh_126 q_2 dX6_canBeWhole_54 ?_
      refine r_lstore C [(4, .long _), (0, .ref _), (1, .int _), (2, .long _)] dX6_canBeWhole_55 (by decide) rfl ?_
      replace h := h _ rfl
      refine r_lload_n C 3 dX6_canBeWhole_57 rfl rfl ?_
      refine r_lconst (v := (0 : Int64)) C dX6_canBeWhole_58 rfl ?_
      refine r_lcmp C dX6_canBeWhole_59 ?_
      refine r_if_ne C 73 dX6_canBeWhole_60 (by decide) (fun hc => ?_) (fun hc => ?_)
      · replace h := h.1 (fun q9 => hc ((lg_cmp_eq _ _).mpr q9))
        refine r_lload C 0 dX6_canBeWhole_73 rfl ?_
        refine r_lload_n C 3 dX6_canBeWhole_75 rfl rfl ?_
        obtain ⟨q_3, h⟩ := h
        refine r_lrem C dX6_canBeWhole_76 q_3 ?_
        refine r_lconst (v := (0 : Int64)) C dX6_canBeWhole_77 rfl ?_
        refine r_lcmp C dX6_canBeWhole_78 ?_
        refine r_if_eq C 84 dX6_canBeWhole_79 (by decide) (fun hc => ?_) (fun hc => ?_)
        · replace h := h.1 ((lg_cmp_eq _ _).mp hc)
          refine r_iinc C 2 (v := _) [(1, .int _), (4, .long _), (0, .ref _), (2, .long _)] dX6_canBeWhole_84 rfl rfl (by decide) rfl ?_
          refine r_goto C 2 dX6_canBeWhole_87 (by decide) ?_
          exact r_sub [2, 0] rfl (ih _ _ h)
        · replace h := h.2 (fun q9 => hc ((lg_cmp_eq _ _).mpr q9))
          refine r_iconst (v := (0 : Int32)) C dX6_canBeWhole_82 rfl ?_
          exact r_zret C (by decide) dX6_canBeWhole_83 h
      · replace h := h.2 ((lg_cmp_eq _ _).mp hc)
        refine r_lload C 0 dX6_canBeWhole_63 rfl ?_
        refine r_lconst (v := (0 : Int64)) C dX6_canBeWhole_65 rfl ?_
        refine r_lcmp C dX6_canBeWhole_66 ?_
        refine r_if_eq C 84 dX6_canBeWhole_67 (by decide) (fun hc => ?_) (fun hc => ?_)
        · replace h := h.1 ((lg_cmp_eq _ _).mp hc)
          refine r_iinc C 2 (v := _) [(1, .int _), (4, .long _), (0, .ref _), (2, .long _)] dX6_canBeWhole_84 rfl rfl (by decide) rfl ?_
          refine r_goto C 2 dX6_canBeWhole_87 (by decide) ?_
          exact r_sub [2, 0] rfl (ih _ _ h)
        · replace h := h.2 (fun q9 => hc ((lg_cmp_eq _ _).mpr q9))
          refine r_goto C 82 dX6_canBeWhole_70 (by decide) ?_
          refine r_iconst (v := (0 : Int32)) C dX6_canBeWhole_82 rfl ?_
          exact r_zret C (by decide) dX6_canBeWhole_83 h

def f_X6_canBeWhole (M : Mem) (K : Int32 → Mem → Prop) : Prop := (∃ k2 : Nat, L_X6_canBeWhole_2 (fun  (M_4 : Mem) => K (1 : Int32) M_4) K k2 (0 : Int32) M)

set_option maxHeartbeats 1000000 in
set_option maxRecDepth 10000 in
theorem m_X6_canBeWhole (l : Launch)   {M : Mem} {K : Int32 → Mem → Prop} (h : f_X6_canBeWhole M K) : CTi l yX6_canBeWhole cX6_canBeWhole 6 (some .boolean) rm_X6_canBeWhole (fun ad => [.ref (ad 124)]) M K := by
  refine rw_enti (by decide +kernel) (fun ad => Nat.le_of_ble_eq_true rfl) (fun p e s m args below meth c D cy ad C => ?_)
  change rw_W p l e _ s m args below meth c D cy ad 6 0 0 _ 0 [(0, .ref (ad 124))] [] M
  unfold f_X6_canBeWhole at h
  refine r_iconst (v := (0 : Int32)) C dX6_canBeWhole_0 rfl ?_
  refine r_istore_n C [(1, .int _), (0, .ref _)] dX6_canBeWhole_1 rfl (by decide) rfl ?_
  obtain ⟨n2, h⟩ := h
  refine r_sub [1, 0] rfl (mL_X6_canBeWhole_2 C (fun M_4 h => ?_) n2 _ _ h)
  refine r_iconst (v := (1 : Int32)) C dX6_canBeWhole_90 rfl ?_
  exact r_zret C (by decide) dX6_canBeWhole_91 h
def L_X6_solveRows_40 (v1 : Int32) (v2 : Int32) (v3 : Int32) (X75 : Mem → Prop) (K : Int32 → Mem → Prop) : Nat → Int32 → Mem → Prop
  | 0, _, _ => False
  | n + 1, v4, M => (((10 : Int32) ≤ v4 → X75 M) ∧ (¬ (10 : Int32) ≤ v4 → ((¬ ((v1 >>> (v4 &&& 31)) &&& (1 : Int32)) = 0 → L_X6_solveRows_40 v1 v2 v3 X75 K n (v4 + (1 : Int32)) M) ∧ (((v1 >>> (v4 &&& 31)) &&& (1 : Int32)) = 0 → f_X8_clearColumn 126 v4 v3 v2 (9 : Int32) M (fun (M_4 : Mem) => L_X6_solveRows_40 v1 v2 v3 X75 K n (v4 + (1 : Int32)) M_4)))))

set_option maxHeartbeats 1000000 in
set_option maxRecDepth 10000 in
theorem mL_X6_solveRows_40 (C : rw_C p s m meth c cX6_solveRows 5 RX6 (some .boolean) D cy ad) {v1 : Int32} {v2 : Int32} {v3 : Int32} {X75 : Mem → Prop} {K : Int32 → Mem → Prop} (hX75 : ∀  (M : Mem), X75 M → rw_W p l e rm_X6_solveRows s m args below meth c D cy ad 5 0 0 (rw_Qi below args s D cy ad K) 75 [(0, .ref (ad 124)), (1, .int v1), (2, .int v2)] [] M) : ∀ (n : Nat) (v4 : Int32) (M : Mem), L_X6_solveRows_40 v1 v2 v3 X75 K n v4 M → rw_W p l e rm_X6_solveRows s m args below meth c D cy ad 5 0 0 (rw_Qi below args s D cy ad K) 40 [(0, .ref (ad 124)), (1, .int v1), (2, .int v2), (3, .int v3), (4, .int v4)] [] M := by
  intro n
  induction n with
  | zero => intro v4 M h; exact h.elim
  | succ n ih =>
    intro v4 M h
    refine r_iload C 4 dX6_solveRows_40 rfl ?_
    refine r_bipush (v := (10 : Int32)) C dX6_solveRows_42 rfl ?_
    refine r_icmp_ge C 75 dX6_solveRows_44 (by decide) (fun hc => ?_) (fun hc => ?_)
    · replace h := h.1 hc
      exact r_sub [0, 1, 2] rfl (hX75 _ h)
    · replace h := h.2 hc
      refine r_iload_n C 1 dX6_solveRows_47 rfl rfl ?_
      refine r_iload C 4 dX6_solveRows_48 rfl ?_
      refine r_ishr C dX6_solveRows_50 ?_
      refine r_iconst (v := (1 : Int32)) C dX6_solveRows_51 rfl ?_
      refine r_iand C dX6_solveRows_52 ?_
      refine r_if_ne C 69 dX6_solveRows_53 (by decide) (fun hc => ?_) (fun hc => ?_)
      · replace h := h.1 hc
        refine r_iinc C 4 (v := _) [(4, .int _), (0, .ref _), (1, .int _), (2, .int _), (3, .int _)] dX6_solveRows_69 rfl rfl (by decide) rfl ?_
        refine r_goto C 40 dX6_solveRows_72 (by decide) ?_
        exact r_sub [1, 2, 3, 4, 0] rfl (ih _ _ h)
      · replace h := h.2 hc
        refine r_aload_n C 0 dX6_solveRows_56 rfl rfl ?_
        refine gX6_15 C dX6_solveRows_57 ?_
        refine r_iload C 4 dX6_solveRows_60 rfl ?_
        refine r_iload_n C 3 dX6_solveRows_62 rfl rfl ?_
        refine r_iload_n C 2 dX6_solveRows_63 rfl rfl ?_
        refine r_bipush (v := (9 : Int32)) C dX6_solveRows_64 rfl ?_
        refine cX6_112 C (m_X8_clearColumn l (isLg_of sh_126) h) ⟨Nat.le_of_ble_eq_true rfl, Nat.le_of_ble_eq_true rfl⟩ (Nat.le_of_ble_eq_true rfl) ⟨Nat.le_refl 0, Nat.le_refl 0⟩ dX6_solveRows_66 (fun M_4 h => ?_)
        refine r_iinc C 4 (v := _) [(4, .int _), (0, .ref _), (1, .int _), (2, .int _), (3, .int _)] dX6_solveRows_69 rfl rfl (by decide) rfl ?_
        refine r_goto C 40 dX6_solveRows_72 (by decide) ?_
        exact r_sub [1, 2, 3, 4, 0] rfl (ih _ _ h)

def L_X6_solveRows_5 (X81 : Mem → Prop) (K : Int32 → Mem → Prop) : Nat → Int32 → Int32 → Mem → Prop
  | 0, _, _, _ => False
  | n + 1, v1, v2, M => ((v2 < 0 → X81 M) ∧ (¬ v2 < 0 → f_X6_freeRowWith v2 v1 M (fun (r : Int32) (M_2 : Mem) => vp_in v2 8 ∧ ∀ M_3 : Mem, M_3 = wI M_2 127 v2.toNatClampNeg r → ((¬ r = (-1 : Int32) → ∀ x1 : Int32, x1 = v1 ||| ((1 : Int32) <<< (r &&& 31)) → (∃ k40 : Nat, L_X6_solveRows_40 x1 v2 r (fun  (M_5 : Mem) => L_X6_solveRows_5 X81 K n x1 (v2 + (-1 : Int32)) M_5) K k40 (0 : Int32) M_3)) ∧ (r = (-1 : Int32) → L_X6_solveRows_5 X81 K n v1 (v2 + (-1 : Int32)) M_3)))))

set_option maxHeartbeats 1000000 in
set_option maxRecDepth 10000 in
theorem mL_X6_solveRows_5 (C : rw_C p s m meth c cX6_solveRows 5 RX6 (some .boolean) D cy ad) {X81 : Mem → Prop} {K : Int32 → Mem → Prop} (hX81 : ∀  (M : Mem), X81 M → rw_W p l e rm_X6_solveRows s m args below meth c D cy ad 5 0 0 (rw_Qi below args s D cy ad K) 81 [(0, .ref (ad 124))] [] M) : ∀ (n : Nat) (v1 : Int32) (v2 : Int32) (M : Mem), L_X6_solveRows_5 X81 K n v1 v2 M → rw_W p l e rm_X6_solveRows s m args below meth c D cy ad 5 0 0 (rw_Qi below args s D cy ad K) 5 [(0, .ref (ad 124)), (1, .int v1), (2, .int v2)] [] M := by
  intro n
  induction n with
  | zero => intro v1 v2 M h; exact h.elim
  | succ n ih =>
    intro v1 v2 M h
    refine r_iload_n C 2 dX6_solveRows_5 rfl rfl ?_
    refine r_if_lt C 81 dX6_solveRows_6 (by decide) (fun hc => ?_) (fun hc => ?_)
    · replace h := h.1 hc
      exact r_sub [0] rfl (hX81 _ h)
    · replace h := h.2 hc
      refine r_aload_n C 0 dX6_solveRows_9 rfl rfl ?_
      refine r_iload_n C 2 dX6_solveRows_10 rfl rfl ?_
      refine r_iload_n C 1 dX6_solveRows_11 rfl rfl ?_
      refine cX6_109 C (m_X6_freeRowWith l h) ⟨Nat.le_of_ble_eq_true rfl, Nat.le_of_ble_eq_true rfl⟩ (Nat.le_of_ble_eq_true rfl) ⟨Nat.le_refl 0, Nat.le_refl 0⟩ dX6_solveRows_12 (fun r M_2 h => ?_)
      refine r_istore_n C [(3, .int _), (0, .ref _), (1, .int _), (2, .int _)] dX6_solveRows_15 rfl (by decide) rfl ?_
      refine r_aload_n C 1 dX6_solveRows_16 rfl rfl ?_
      refine gX6_19 C dX6_solveRows_17 ?_
      refine r_iload_n C 3 dX6_solveRows_20 rfl rfl ?_
      refine r_iload_n C 0 dX6_solveRows_21 rfl rfl ?_
      obtain ⟨q, h⟩ := h
      refine r_iast C sh_127 q dX6_solveRows_22 ?_
      replace h := h _ rfl
      refine r_iload_n C 0 dX6_solveRows_23 rfl rfl ?_
      refine r_iconst (v := (-1 : Int32)) C dX6_solveRows_24 rfl ?_
      refine r_icmp_ne C 31 dX6_solveRows_25 (by decide) (fun hc => ?_) (fun hc => ?_)
      · replace h := h.1 hc
        refine r_iload_n C 2 dX6_solveRows_31 rfl rfl ?_
        refine r_iconst (v := (1 : Int32)) C dX6_solveRows_32 rfl ?_
        refine r_iload_n C 0 dX6_solveRows_33 rfl rfl ?_
        refine r_ishl C dX6_solveRows_34 ?_
        refine r_ior C dX6_solveRows_35 ?_
        refine r_istore_n C [(1, .int _), (3, .int _), (0, .ref _), (2, .int _)] dX6_solveRows_36 rfl (by decide) rfl ?_
        replace h := h _ rfl
        refine r_iconst (v := (0 : Int32)) C dX6_solveRows_37 rfl ?_
        refine r_istore C [(4, .int _), (1, .int _), (3, .int _), (0, .ref _), (2, .int _)] dX6_solveRows_38 (by decide) rfl ?_
        obtain ⟨n40, h⟩ := h
        refine r_sub [3, 1, 4, 2, 0] rfl (mL_X6_solveRows_40 C (fun M_5 h => ?_) n40 _ _ h)
        refine r_iinc C 2 (v := _) [(2, .int _), (0, .ref _), (1, .int _)] dX6_solveRows_75 rfl rfl (by decide) rfl ?_
        refine r_goto C 5 dX6_solveRows_78 (by decide) ?_
        exact r_sub [1, 2, 0] rfl (ih _ _ _ h)
      · replace h := h.2 hc
        refine r_goto C 75 dX6_solveRows_28 (by decide) ?_
        refine r_iinc C 3 (v := _) [(2, .int _), (3, .int _), (0, .ref _), (1, .int _)] dX6_solveRows_75 rfl rfl (by decide) rfl ?_
        refine r_goto C 5 dX6_solveRows_78 (by decide) ?_
        exact r_sub [2, 3, 0] rfl (ih _ _ _ h)

def f_X6_solveRows (M : Mem) (K : Int32 → Mem → Prop) : Prop := (∃ k5 : Nat, L_X6_solveRows_5 (fun  (M_6 : Mem) => f_X6_canBeWhole  M_6 (fun (r_3 : Int32) (M_7 : Mem) => (r_3 &&& 1 = r_3) ∧ K r_3 M_7)) K k5 (0 : Int32) (7 : Int32) M)

set_option maxHeartbeats 1000000 in
set_option maxRecDepth 10000 in
theorem m_X6_solveRows (l : Launch)   {M : Mem} {K : Int32 → Mem → Prop} (h : f_X6_solveRows M K) : CTi l yX6_solveRows cX6_solveRows 5 (some .boolean) rm_X6_solveRows (fun ad => [.ref (ad 124)]) M K := by
  refine rw_enti (by decide +kernel) (fun ad => Nat.le_of_ble_eq_true rfl) (fun p e s m args below meth c D cy ad C => ?_)
  change rw_W p l e _ s m args below meth c D cy ad 5 0 0 _ 0 [(0, .ref (ad 124))] [] M
  unfold f_X6_solveRows at h
  refine r_iconst (v := (0 : Int32)) C dX6_solveRows_0 rfl ?_
  refine r_istore_n C [(1, .int _), (0, .ref _)] dX6_solveRows_1 rfl (by decide) rfl ?_
  refine r_bipush (v := (7 : Int32)) C dX6_solveRows_2 rfl ?_
  refine r_istore_n C [(2, .int _), (1, .int _), (0, .ref _)] dX6_solveRows_4 rfl (by decide) rfl ?_
  obtain ⟨n5, h⟩ := h
  refine r_sub [2, 1, 0] rfl (mL_X6_solveRows_5 C (fun M_6 h => ?_) n5 _ _ _ h)
  refine r_aload_n C 0 dX6_solveRows_81 rfl rfl ?_
  refine cX6_116 C (m_X6_canBeWhole l h) ⟨Nat.le_of_ble_eq_true rfl, Nat.le_of_ble_eq_true rfl⟩ (Nat.le_of_ble_eq_true rfl) ⟨Nat.le_refl 0, Nat.le_refl 0⟩ dX6_solveRows_82 (fun r_3 M_7 h => ?_)
  exact r_zret C h.1 dX6_solveRows_85 h.2
def L_X6_missingIn_13 (v1 : Int32) (v2 : Int32) (X46 : Int64 → Mem → Prop) (K : Int64 → Mem → Prop) : Nat → Int64 → Int32 → Mem → Prop
  | 0, _, _, _ => False
  | n + 1, v3, v5, M => ((v2 ≤ v5 → X46 v3 M) ∧ (¬ v2 ≤ v5 → vp_in (v1 + v5) 90 ∧ vp_in v5 8 ∧ ∀ x3_2 : Int64, x3_2 = v3 - ((gL M 126 (v1 + v5)) * ((gI M 128 v5).toInt64)) → L_X6_missingIn_13 v1 v2 X46 K n x3_2 (v5 + (1 : Int32)) M))

set_option maxHeartbeats 1000000 in
set_option maxRecDepth 10000 in
theorem mL_X6_missingIn_13 (C : rw_C p s m meth c cX6_missingIn 6 RX6 (some .long) D cy ad) {v1 : Int32} {v2 : Int32} {X46 : Int64 → Mem → Prop} {K : Int64 → Mem → Prop} (hX46 : ∀ (u3 : Int64) (M : Mem), X46 u3 M → rw_W p l e rm_X6_missingIn s m args below meth c D cy ad 6 0 0 (rw_Ql below args s D cy ad K) 46 [(3, .long u3)] [] M) : ∀ (n : Nat) (v3 : Int64) (v5 : Int32) (M : Mem), L_X6_missingIn_13 v1 v2 X46 K n v3 v5 M → rw_W p l e rm_X6_missingIn s m args below meth c D cy ad 6 0 0 (rw_Ql below args s D cy ad K) 13 [(0, .ref (ad 124)), (1, .int v1), (2, .int v2), (3, .long v3), (5, .int v5)] [] M := by
  intro n
  induction n with
  | zero => intro v3 v5 M h; exact h.elim
  | succ n ih =>
    intro v3 v5 M h
    refine r_iload C 4 dX6_missingIn_13 rfl ?_
    refine r_iload_n C 2 dX6_missingIn_15 rfl rfl ?_
    refine r_icmp_ge C 46 dX6_missingIn_16 (by decide) (fun hc => ?_) (fun hc => ?_)
    · replace h := h.1 hc
      exact r_sub [3] rfl (hX46 _ _ h)
    · replace h := h.2 hc
      refine r_lload_n C 3 dX6_missingIn_19 rfl rfl ?_
      refine r_aload_n C 0 dX6_missingIn_20 rfl rfl ?_
      refine gX6_15 C dX6_missingIn_21 ?_
      refine r_iload_n C 1 dX6_missingIn_24 rfl rfl ?_
      refine r_iload C 4 dX6_missingIn_25 rfl ?_
      refine r_iadd C dX6_missingIn_27 ?_
      obtain ⟨q_2, h⟩ := h
      refine r_lald C sh_126 q_2 dX6_missingIn_28 ?_
      refine r_aload_n C 0 dX6_missingIn_29 rfl rfl ?_
      refine gX6_22 C dX6_missingIn_30 ?_
      refine r_iload C 4 dX6_missingIn_33 rfl ?_
      obtain ⟨q_3, h⟩ := h
      refine r_iald C sh_128 q_3 dX6_missingIn_35 ?_
      refine r_i2l C dX6_missingIn_36 ?_
      refine r_lmul C dX6_missingIn_37 ?_
      refine r_lsub C dX6_missingIn_38 ?_
      refine r_lstore_n C [(3, .long _), (0, .ref _), (1, .int _), (2, .int _), (5, .int _)] dX6_missingIn_39 rfl (by decide) rfl ?_
      replace h := h _ rfl
      refine r_iinc C 4 (v := _) [(5, .int _), (3, .long _), (0, .ref _), (1, .int _), (2, .int _)] dX6_missingIn_40 rfl rfl (by decide) rfl ?_
      refine r_goto C 13 dX6_missingIn_43 (by decide) ?_
      exact r_sub [2, 3, 4, 1, 0] rfl (ih _ _ _ h)

def f_X6_missingIn (v1 : Int32) (v2 : Int32) (M : Mem) (K : Int64 → Mem → Prop) : Prop := vp_in (v1 + (8 : Int32)) 90 ∧ ∀ x3 : Int64, x3 = gL M 126 (v1 + (8 : Int32)) → (∃ k13 : Nat, L_X6_missingIn_13 v1 v2 (fun (v3_2 : Int64) (M_2 : Mem) => K v3_2 M_2) K k13 x3 (0 : Int32) M)

set_option maxHeartbeats 1000000 in
set_option maxRecDepth 10000 in
theorem m_X6_missingIn (l : Launch) {v1 : Int32} {v2 : Int32}  {M : Mem} {K : Int64 → Mem → Prop} (h : f_X6_missingIn v1 v2 M K) : CTl l yX6_missingIn cX6_missingIn 6 (some .long) rm_X6_missingIn (fun ad => [.ref (ad 124), .int v1, .int v2]) M K := by
  refine rw_entl (by decide +kernel) (fun ad => Nat.le_of_ble_eq_true rfl) (fun p e s m args below meth c D cy ad C => ?_)
  change rw_W p l e _ s m args below meth c D cy ad 6 0 0 _ 0 [(0, .ref (ad 124)), (1, .int v1), (2, .int v2)] [] M
  unfold f_X6_missingIn at h
  refine r_aload_n C 0 dX6_missingIn_0 rfl rfl ?_
  refine gX6_15 C dX6_missingIn_1 ?_
  refine r_iload_n C 1 dX6_missingIn_4 rfl rfl ?_
  refine r_bipush (v := (8 : Int32)) C dX6_missingIn_5 rfl ?_
  refine r_iadd C dX6_missingIn_7 ?_
  obtain ⟨q, h⟩ := h
  refine r_lald C sh_126 q dX6_missingIn_8 ?_
  refine r_lstore_n C [(3, .long _), (0, .ref _), (1, .int _), (2, .int _)] dX6_missingIn_9 rfl (by decide) rfl ?_
  replace h := h _ rfl
  refine r_iconst (v := (0 : Int32)) C dX6_missingIn_10 rfl ?_
  refine r_istore C [(5, .int _), (3, .long _), (0, .ref _), (1, .int _), (2, .int _)] dX6_missingIn_11 (by decide) rfl ?_
  obtain ⟨n13, h⟩ := h
  refine r_sub [2, 3, 4, 1, 0] rfl (mL_X6_missingIn_13 C (fun v3_2 M_2 h => ?_) n13 _ _ _ h)
  refine r_lload_n C 0 dX6_missingIn_46 rfl rfl ?_
  exact r_lret C dX6_missingIn_47 h
end MG
