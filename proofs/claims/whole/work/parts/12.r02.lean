section MG
variable {p : Program} {l : Launch} {e : Env} {R : Room} {s : State} {m : MethodId} {args : Array Value} {below : List Frame} {meth : Method} {c : Code} {D : va_G} {cy : Nat → ClassId} {ad : Nat → Nat}
def S_X9_readArc_30 (v1 : Int32) (v2 : Int32) (v3 : Int32) (o0 : Int32) (X38 : Mem → Prop) (K : Mem → Prop) (M : Mem) : Prop := (¬ o0 = 0 → X38 M) ∧ (o0 = 0 → f_X9_fails (4 : Int32) M (fun (M_4 : Mem) => X38 M_4))

set_option maxHeartbeats 1000000 in
set_option maxRecDepth 10000 in
theorem mS_X9_readArc_30 (C : rw_C p s m meth c cX9_readArc 7 RX9 none D cy ad) {v1 : Int32} {v2 : Int32} {v3 : Int32} {o0 : Int32} {X38 : Mem → Prop} {K : Mem → Prop} {M : Mem} (hX38 : ∀  (M : Mem), X38 M → rw_W p l e rm_X9_readArc s m args below meth c D cy ad 7 0 0 (rw_Qv below args s D cy ad K) 38 [(0, .ref (ad 0)), (1, .int v1), (2, .int v2), (3, .int v3)] [] M) (h : S_X9_readArc_30 v1 v2 v3 o0 X38 K M) : rw_W p l e rm_X9_readArc s m args below meth c D cy ad 7 0 0 (rw_Qv below args s D cy ad K) 30 [(0, .ref (ad 0)), (1, .int v1), (2, .int v2), (3, .int v3)] [.int o0] M := by
  refine r_if_ne C 38 dX9_readArc_30 (by decide) (fun hc => ?_) (fun hc => ?_)
  · replace h := h.1 hc
    exact hX38 _ h
  · replace h := h.2 hc
    refine r_aload_n C 0 dX9_readArc_33 rfl rfl ?_
    refine r_iconst (v := (4 : Int32)) C dX9_readArc_34 rfl ?_
    refine cX9_209 C (m_X9_fails l h) ⟨Nat.le_of_ble_eq_true rfl, Nat.le_of_ble_eq_true rfl⟩ (Nat.le_of_ble_eq_true rfl) ⟨Nat.le_refl 0, Nat.le_refl 0⟩ dX9_readArc_35 (fun M_4 h => ?_)
    exact hX38 _ h

def S_X9_readArc_16 (v1 : Int32) (v2 : Int32) (v3 : Int32) (o0 : Int32) (o1 : Int32) (X42 : Int32 → Mem → Prop) (K : Mem → Prop) (M : Mem) : Prop := (¬ o1 = o0 → X42 v3 M) ∧ (o1 = o0 → ∀ x3 : Int32, x3 = M.1 0 15 → f_X9_in x3 (1 : Int32) (3 : Int32) M (fun (r_2 : Int32) (M_3 : Mem) => (S_X9_readArc_30 v1 v2 x3 r_2 (fun  (M_5 : Mem) => f_X9_goesOn  M_5 (fun (M_6 : Mem) => X42 x3 M_6)) K M_3)))

set_option maxHeartbeats 1000000 in
set_option maxRecDepth 10000 in
theorem mS_X9_readArc_16 (C : rw_C p s m meth c cX9_readArc 7 RX9 none D cy ad) {v1 : Int32} {v2 : Int32} {v3 : Int32} {o0 : Int32} {o1 : Int32} {X42 : Int32 → Mem → Prop} {K : Mem → Prop} {M : Mem} (hX42 : ∀ (u3 : Int32) (M : Mem), X42 u3 M → rw_W p l e rm_X9_readArc s m args below meth c D cy ad 7 0 0 (rw_Qv below args s D cy ad K) 42 [(0, .ref (ad 0)), (1, .int v1), (2, .int v2), (3, .int u3)] [] M) (h : S_X9_readArc_16 v1 v2 v3 o0 o1 X42 K M) : rw_W p l e rm_X9_readArc s m args below meth c D cy ad 7 0 0 (rw_Qv below args s D cy ad K) 16 [(0, .ref (ad 0)), (1, .int v1), (2, .int v2), (3, .int v3)] [.int o0, .int o1] M := by
  refine r_icmp_ne C 42 dX9_readArc_16 (by decide) (fun hc => ?_) (fun hc => ?_)
  · replace h := h.1 hc
    exact hX42 _ _ h
  · replace h := h.2 hc
    refine r_aload_n C 0 dX9_readArc_19 rfl rfl ?_
    refine gX9_168 C dX9_readArc_20 ?_
    refine r_istore_n C [(3, .int _), (0, .ref _), (1, .int _), (2, .int _)] dX9_readArc_23 rfl (by decide) rfl ?_
    replace h := h _ rfl
    refine r_iload_n C 0 dX9_readArc_24 rfl rfl ?_
    refine r_iconst (v := (1 : Int32)) C dX9_readArc_25 rfl ?_
    refine r_iconst (v := (3 : Int32)) C dX9_readArc_26 rfl ?_
    refine cX9_136 C (m_X9_in l h) ⟨Nat.le_of_ble_eq_true rfl, Nat.le_of_ble_eq_true rfl⟩ (Nat.le_of_ble_eq_true rfl) ⟨Nat.le_refl 0, Nat.le_refl 0⟩ dX9_readArc_27 (fun r_2 M_3 h => ?_)
    refine r_sub [1, 2, 3, 0] rfl (mS_X9_readArc_30 C (fun M_5 h => ?_) h)
    refine r_aload_n C 0 dX9_readArc_38 rfl rfl ?_
    refine cX9_225 C (m_X9_goesOn l h) ⟨Nat.le_of_ble_eq_true rfl, Nat.le_of_ble_eq_true rfl⟩ (Nat.le_of_ble_eq_true rfl) ⟨Nat.le_refl 0, Nat.le_refl 0⟩ dX9_readArc_39 (fun M_6 h => ?_)
    exact hX42 _ _ h

def S_X9_readArc_58 (v1 : Int32) (v2 : Int32) (v3 : Int32) (o0 : Int32) (X69 : Int32 → Mem → Prop) (K : Mem → Prop) (M : Mem) : Prop := (o0 = 0 → X69 (0 : Int32) M) ∧ (¬ o0 = 0 → f_X9_placeCalled  M (fun (r_8 : Int32) (M_11 : Mem) => X69 r_8 M_11))

set_option maxHeartbeats 1000000 in
set_option maxRecDepth 10000 in
theorem mS_X9_readArc_58 (C : rw_C p s m meth c cX9_readArc 7 RX9 none D cy ad) {v1 : Int32} {v2 : Int32} {v3 : Int32} {o0 : Int32} {X69 : Int32 → Mem → Prop} {K : Mem → Prop} {M : Mem} (hX69 : ∀  (w0 : Int32) (M : Mem), X69 w0 M → rw_W p l e rm_X9_readArc s m args below meth c D cy ad 7 0 0 (rw_Qv below args s D cy ad K) 69 [(0, .ref (ad 0)), (1, .int v1), (2, .int v2), (3, .int v3)] [.int w0] M) (h : S_X9_readArc_58 v1 v2 v3 o0 X69 K M) : rw_W p l e rm_X9_readArc s m args below meth c D cy ad 7 0 0 (rw_Qv below args s D cy ad K) 58 [(0, .ref (ad 0)), (1, .int v1), (2, .int v2), (3, .int v3)] [.int o0] M := by
  refine r_if_eq C 68 dX9_readArc_58 (by decide) (fun hc => ?_) (fun hc => ?_)
  · replace h := h.1 hc
    refine r_iconst (v := (0 : Int32)) C dX9_readArc_68 rfl ?_
    exact hX69 _ _ h
  · replace h := h.2 hc
    refine r_aload_n C 0 dX9_readArc_61 rfl rfl ?_
    refine cX9_218 C (m_X9_placeCalled l h) ⟨Nat.le_of_ble_eq_true rfl, Nat.le_of_ble_eq_true rfl⟩ (Nat.le_of_ble_eq_true rfl) ⟨Nat.le_refl 0, Nat.le_refl 0⟩ dX9_readArc_62 (fun r_8 M_11 h => ?_)
    refine r_goto C 69 dX9_readArc_65 (by decide) ?_
    exact hX69 _ _ h

def S_X9_readArc_73 (v1 : Int32) (v2 : Int32) (v3 : Int32) (v4 : Int32) (o0 : Int32) (X81 : Mem → Prop) (K : Mem → Prop) (M : Mem) : Prop := (0 ≤ o0 → X81 M) ∧ (¬ 0 ≤ o0 → f_X9_fails (3 : Int32) M (fun (M_13 : Mem) => X81 M_13))

set_option maxHeartbeats 1000000 in
set_option maxRecDepth 10000 in
theorem mS_X9_readArc_73 (C : rw_C p s m meth c cX9_readArc 7 RX9 none D cy ad) {v1 : Int32} {v2 : Int32} {v3 : Int32} {v4 : Int32} {o0 : Int32} {X81 : Mem → Prop} {K : Mem → Prop} {M : Mem} (hX81 : ∀  (M : Mem), X81 M → rw_W p l e rm_X9_readArc s m args below meth c D cy ad 7 0 0 (rw_Qv below args s D cy ad K) 81 [(0, .ref (ad 0)), (1, .int v1), (2, .int v2), (3, .int v3), (4, .int v4)] [] M) (h : S_X9_readArc_73 v1 v2 v3 v4 o0 X81 K M) : rw_W p l e rm_X9_readArc s m args below meth c D cy ad 7 0 0 (rw_Qv below args s D cy ad K) 73 [(0, .ref (ad 0)), (1, .int v1), (2, .int v2), (3, .int v3), (4, .int v4)] [.int o0] M := by
  refine r_if_ge C 81 dX9_readArc_73 (by decide) (fun hc => ?_) (fun hc => ?_)
  · replace h := h.1 hc
    exact hX81 _ h
  · replace h := h.2 hc
    refine r_aload_n C 0 dX9_readArc_76 rfl rfl ?_
    refine r_iconst (v := (3 : Int32)) C dX9_readArc_77 rfl ?_
    refine cX9_209 C (m_X9_fails l h) ⟨Nat.le_of_ble_eq_true rfl, Nat.le_of_ble_eq_true rfl⟩ (Nat.le_of_ble_eq_true rfl) ⟨Nat.le_refl 0, Nat.le_refl 0⟩ dX9_readArc_78 (fun M_13 h => ?_)
    exact hX81 _ h

def S_X9_readArc_104 (v1 : Int32) (v2 : Int32) (v5 : Int32) (o0 : Int32) (b0 : Int32) (X124 : Int32 → Mem → Prop) (K : Mem → Prop) (M : Mem) : Prop := (o0 = 0 → vp_in v5 240 ∧ X124 (gI M 2 v5) M) ∧ (¬ o0 = 0 → vp_in v5 240 ∧ X124 (gI M 1 v5) M)

set_option maxHeartbeats 1000000 in
set_option maxRecDepth 10000 in
theorem mS_X9_readArc_104 (C : rw_C p s m meth c cX9_readArc 7 RX9 none D cy ad) {v1 : Int32} {v2 : Int32} {v5 : Int32} {o0 : Int32} {b0 : Int32} {X124 : Int32 → Mem → Prop} {K : Mem → Prop} {M : Mem} (hX124 : ∀  (w0 : Int32) (M : Mem), X124 w0 M → rw_W p l e rm_X9_readArc s m args below meth c D cy ad 7 0 0 (rw_Qv below args s D cy ad K) 124 [(0, .ref (ad 0)), (1, .int v1), (2, .int v2), (5, .int v5)] [.int w0, .int b0] M) (h : S_X9_readArc_104 v1 v2 v5 o0 b0 X124 K M) : rw_W p l e rm_X9_readArc s m args below meth c D cy ad 7 0 0 (rw_Qv below args s D cy ad K) 104 [(0, .ref (ad 0)), (1, .int v1), (2, .int v2), (5, .int v5)] [.int o0, .int b0] M := by
  refine r_if_eq C 117 dX9_readArc_104 (by decide) (fun hc => ?_) (fun hc => ?_)
  · replace h := h.1 hc
    refine r_aload_n C 0 dX9_readArc_117 rfl rfl ?_
    refine gX9_13 C dX9_readArc_118 ?_
    refine r_iload C 3 dX9_readArc_121 rfl ?_
    obtain ⟨q, h⟩ := h
    refine r_iald C sh_2 q dX9_readArc_123 ?_
    exact hX124 _ _ h
  · replace h := h.2 hc
    refine r_aload_n C 0 dX9_readArc_107 rfl rfl ?_
    refine gX9_7 C dX9_readArc_108 ?_
    refine r_iload C 3 dX9_readArc_111 rfl ?_
    obtain ⟨q_2, h⟩ := h
    refine r_iald C sh_1 q_2 dX9_readArc_113 ?_
    refine r_goto C 124 dX9_readArc_114 (by decide) ?_
    exact hX124 _ _ h

def S_X9_readArc_130 (v1 : Int32) (v2 : Int32) (v5 : Int32) (v6 : Int32) (o0 : Int32) (o1 : Int32) (X139 : Mem → Prop) (K : Mem → Prop) (M : Mem) : Prop := (o1 ≤ o0 → X139 M) ∧ (¬ o1 ≤ o0 → f_X9_failsAt (4 : Int32) v2 M (fun (M_18 : Mem) => X139 M_18))

set_option maxHeartbeats 1000000 in
set_option maxRecDepth 10000 in
theorem mS_X9_readArc_130 (C : rw_C p s m meth c cX9_readArc 7 RX9 none D cy ad) {v1 : Int32} {v2 : Int32} {v5 : Int32} {v6 : Int32} {o0 : Int32} {o1 : Int32} {X139 : Mem → Prop} {K : Mem → Prop} {M : Mem} (hX139 : ∀  (M : Mem), X139 M → rw_W p l e rm_X9_readArc s m args below meth c D cy ad 7 0 0 (rw_Qv below args s D cy ad K) 139 [(0, .ref (ad 0)), (1, .int v1), (5, .int v5), (6, .int v6)] [] M) (h : S_X9_readArc_130 v1 v2 v5 v6 o0 o1 X139 K M) : rw_W p l e rm_X9_readArc s m args below meth c D cy ad 7 0 0 (rw_Qv below args s D cy ad K) 130 [(0, .ref (ad 0)), (1, .int v1), (2, .int v2), (5, .int v5), (6, .int v6)] [.int o0, .int o1] M := by
  refine r_icmp_le C 139 dX9_readArc_130 (by decide) (fun hc => ?_) (fun hc => ?_)
  · replace h := h.1 hc
    exact r_sub [0, 1, 3, 4] rfl (hX139 _ h)
  · replace h := h.2 hc
    refine r_aload_n C 0 dX9_readArc_133 rfl rfl ?_
    refine r_iconst (v := (4 : Int32)) C dX9_readArc_134 rfl ?_
    refine r_iload_n C 2 dX9_readArc_135 rfl rfl ?_
    refine cX9_191 C (m_X9_failsAt l h) ⟨Nat.le_of_ble_eq_true rfl, Nat.le_of_ble_eq_true rfl⟩ (Nat.le_of_ble_eq_true rfl) ⟨Nat.le_refl 0, Nat.le_refl 0⟩ dX9_readArc_136 (fun M_18 h => ?_)
    exact r_sub [0, 1, 3, 4] rfl (hX139 _ h)

def S_X9_readArc_140 (v5 : Int32) (v6 : Int32) (o0 : Int32) (X164 : Mem → Prop) (K : Mem → Prop) (M : Mem) : Prop := (o0 = 0 → vp_in v5 240 ∧ ∀ M_20 : Mem, M_20 = wI M 2 v5.toNatClampNeg v6 → X164 M_20) ∧ (¬ o0 = 0 → vp_in v5 240 ∧ ∀ M_21 : Mem, M_21 = wI M 1 v5.toNatClampNeg v6 → X164 M_21)

set_option maxHeartbeats 1000000 in
set_option maxRecDepth 10000 in
theorem mS_X9_readArc_140 (C : rw_C p s m meth c cX9_readArc 7 RX9 none D cy ad) {v5 : Int32} {v6 : Int32} {o0 : Int32} {X164 : Mem → Prop} {K : Mem → Prop} {M : Mem} (hX164 : ∀  (M : Mem), X164 M → rw_W p l e rm_X9_readArc s m args below meth c D cy ad 7 0 0 (rw_Qv below args s D cy ad K) 164 [(0, .ref (ad 0))] [] M) (h : S_X9_readArc_140 v5 v6 o0 X164 K M) : rw_W p l e rm_X9_readArc s m args below meth c D cy ad 7 0 0 (rw_Qv below args s D cy ad K) 140 [(0, .ref (ad 0)), (5, .int v5), (6, .int v6)] [.int o0] M := by
  refine r_if_eq C 155 dX9_readArc_140 (by decide) (fun hc => ?_) (fun hc => ?_)
  · replace h := h.1 hc
    refine r_aload_n C 0 dX9_readArc_155 rfl rfl ?_
    refine gX9_13 C dX9_readArc_156 ?_
    refine r_iload C 1 dX9_readArc_159 rfl ?_
    refine r_iload C 2 dX9_readArc_161 rfl ?_
    obtain ⟨q_3, h⟩ := h
    refine r_iast C sh_2 q_3 dX9_readArc_163 ?_
    replace h := h _ rfl
    exact r_sub [0] rfl (hX164 _ h)
  · replace h := h.2 hc
    refine r_aload_n C 0 dX9_readArc_143 rfl rfl ?_
    refine gX9_7 C dX9_readArc_144 ?_
    refine r_iload C 1 dX9_readArc_147 rfl ?_
    refine r_iload C 2 dX9_readArc_149 rfl ?_
    obtain ⟨q_4, h⟩ := h
    refine r_iast C sh_1 q_4 dX9_readArc_151 ?_
    replace h := h _ rfl
    refine r_goto C 164 dX9_readArc_152 (by decide) ?_
    exact r_sub [0] rfl (hX164 _ h)

def f_X9_readArc (v1 : Int32) (M : Mem) (K : Mem → Prop) : Prop := ∀ x2 : Int32, x2 = M.1 0 12 → f_X9_next  M (fun (M_2 : Mem) => (S_X9_readArc_16 v1 x2 (1 : Int32) (2 : Int32) (M_2.1 0 14) (fun (v3_2 : Int32) (M_7 : Mem) => f_X9_isGood  M_7 (fun (r_5 : Int32) (M_8 : Mem) => ((¬ r_5 = 0 → f_X9_mustBeName  M_8 (fun (M_9 : Mem) => f_X9_isGood  M_9 (fun (r_7 : Int32) (M_10 : Mem) => (S_X9_readArc_58 v1 x2 v3_2 r_7 (fun (w : Int32) (M_12 : Mem) => (S_X9_readArc_73 v1 x2 v3_2 w w (fun  (M_14 : Mem) => f_X9_isGood  M_14 (fun (r_10 : Int32) (M_15 : Mem) => ((¬ r_10 = 0 → f_X9_arcAt (2 : Int32) (M_15.1 0 21) w M_15 (fun (r_11 : Int32) (M_16 : Mem) => (S_X9_readArc_104 v1 x2 r_11 v1 v3_2 (fun (w_2 : Int32) (M_17 : Mem) => ∀ x6 : Int32, x6 = v3_2 + w_2 → (S_X9_readArc_130 v1 x2 r_11 x6 (3 : Int32) x6 (fun  (M_19 : Mem) => (S_X9_readArc_140 r_11 x6 v1 (fun  (M_22 : Mem) => f_X9_goesOn  M_22 (fun (M_23 : Mem) => K M_23)) K M_19)) K M_17)) K M_16))) ∧ (r_10 = 0 → K M_15)))) K M_12)) K M_10)))) ∧ (r_5 = 0 → K M_8)))) K M_2))

set_option maxHeartbeats 1000000 in
set_option maxRecDepth 10000 in
theorem m_X9_readArc (l : Launch) {v1 : Int32}  {M : Mem} {K : Mem → Prop} (h : f_X9_readArc v1 M K) : CTv l yX9_readArc cX9_readArc 7 none rm_X9_readArc (fun ad => [.ref (ad 0), .int v1]) M K := by
  refine rw_entv (by decide +kernel) (fun ad => Nat.le_of_ble_eq_true rfl) (fun p e s m args below meth c D cy ad C => ?_)
  change rw_W p l e _ s m args below meth c D cy ad 7 0 0 _ 0 [(0, .ref (ad 0)), (1, .int v1)] [] M
  unfold f_X9_readArc at h
  refine r_aload_n C 0 dX9_readArc_0 rfl rfl ?_
  refine gX9_165 C dX9_readArc_1 ?_
  refine r_istore_n C [(2, .int _), (0, .ref _), (1, .int _)] dX9_readArc_4 rfl (by decide) rfl ?_
  replace h := h _ rfl
  refine r_aload_n C 1 dX9_readArc_5 rfl rfl ?_
  refine cX9_199 C (m_X9_next l h) ⟨Nat.le_of_ble_eq_true rfl, Nat.le_of_ble_eq_true rfl⟩ (Nat.le_of_ble_eq_true rfl) ⟨Nat.le_refl 0, Nat.le_refl 0⟩ dX9_readArc_6 (fun M_2 h => ?_)
  refine r_iconst (v := (1 : Int32)) C dX9_readArc_9 rfl ?_
  refine r_istore_n C [(3, .int _), (2, .int _), (0, .ref _), (1, .int _)] dX9_readArc_10 rfl (by decide) rfl ?_
  refine r_aload_n C 2 dX9_readArc_11 rfl rfl ?_
  refine gX9_171 C dX9_readArc_12 ?_
  refine r_iconst (v := (2 : Int32)) C dX9_readArc_15 rfl ?_
  refine r_sub [2, 3, 1, 0] rfl (mS_X9_readArc_16 C (fun v3_2 M_7 h => ?_) h)
  refine r_aload_n C 0 dX9_readArc_42 rfl rfl ?_
  refine cX9_195 C (m_X9_isGood l h) ⟨Nat.le_of_ble_eq_true rfl, Nat.le_of_ble_eq_true rfl⟩ (Nat.le_of_ble_eq_true rfl) ⟨Nat.le_refl 0, Nat.le_refl 0⟩ dX9_readArc_43 (fun r_5 M_8 h => ?_)
  refine r_if_ne C 50 dX9_readArc_46 (by decide) (fun hc => ?_) (fun hc => ?_)
  · replace h := h.1 hc
    refine r_aload_n C 0 dX9_readArc_50 rfl rfl ?_
    refine cX9_215 C (m_X9_mustBeName l h) ⟨Nat.le_of_ble_eq_true rfl, Nat.le_of_ble_eq_true rfl⟩ (Nat.le_of_ble_eq_true rfl) ⟨Nat.le_refl 0, Nat.le_refl 0⟩ dX9_readArc_51 (fun M_9 h => ?_)
    refine r_aload_n C 0 dX9_readArc_54 rfl rfl ?_
    refine cX9_195 C (m_X9_isGood l h) ⟨Nat.le_of_ble_eq_true rfl, Nat.le_of_ble_eq_true rfl⟩ (Nat.le_of_ble_eq_true rfl) ⟨Nat.le_refl 0, Nat.le_refl 0⟩ dX9_readArc_55 (fun r_7 M_10 h => ?_)
    refine mS_X9_readArc_58 C (fun w M_12 h => ?_) h
    refine r_istore C [(4, .int _), (0, .ref _), (1, .int _), (2, .int _), (3, .int _)] dX9_readArc_69 (by decide) rfl ?_
    refine r_iload C 0 dX9_readArc_71 rfl ?_
    refine r_sub [1, 2, 3, 4, 0] rfl (mS_X9_readArc_73 C (fun M_14 h => ?_) h)
    refine r_aload_n C 0 dX9_readArc_81 rfl rfl ?_
    refine cX9_195 C (m_X9_isGood l h) ⟨Nat.le_of_ble_eq_true rfl, Nat.le_of_ble_eq_true rfl⟩ (Nat.le_of_ble_eq_true rfl) ⟨Nat.le_refl 0, Nat.le_refl 0⟩ dX9_readArc_82 (fun r_10 M_15 h => ?_)
    refine r_if_ne C 89 dX9_readArc_85 (by decide) (fun hc => ?_) (fun hc => ?_)
    · replace h := h.1 hc
      refine r_aload_n C 0 dX9_readArc_89 rfl rfl ?_
      refine r_iconst (v := (2 : Int32)) C dX9_readArc_90 rfl ?_
      refine r_aload_n C 0 dX9_readArc_91 rfl rfl ?_
      refine gX9_222 C dX9_readArc_92 ?_
      refine r_iload C 4 dX9_readArc_95 rfl ?_
      refine cX9_144 C (m_X9_arcAt l h) ⟨Nat.le_of_ble_eq_true rfl, Nat.le_of_ble_eq_true rfl⟩ (Nat.le_of_ble_eq_true rfl) ⟨Nat.le_refl 0, Nat.le_refl 0⟩ dX9_readArc_97 (fun r_11 M_16 h => ?_)
      refine r_istore C [(5, .int _), (0, .ref _), (1, .int _), (2, .int _), (3, .int _), (4, .int _)] dX9_readArc_100 (by decide) rfl ?_
      refine r_iload_n C 4 dX9_readArc_102 rfl rfl ?_
      refine r_iload_n C 2 dX9_readArc_103 rfl rfl ?_
      refine r_sub [1, 2, 3, 0] rfl (mS_X9_readArc_104 C (fun w_2 M_17 h => ?_) h)
      refine r_iadd C dX9_readArc_124 ?_
      refine r_istore C [(6, .int _), (0, .ref _), (1, .int _), (2, .int _), (5, .int _)] dX9_readArc_125 (by decide) rfl ?_
      replace h := h _ rfl
      refine r_iload C 0 dX9_readArc_127 rfl ?_
      refine r_iconst (v := (3 : Int32)) C dX9_readArc_129 rfl ?_
      refine r_sub [1, 2, 3, 4, 0] rfl (mS_X9_readArc_130 C (fun M_19 h => ?_) h)
      refine r_iload_n C 1 dX9_readArc_139 rfl rfl ?_
      refine r_sub [0, 2, 3] rfl (mS_X9_readArc_140 C (fun M_22 h => ?_) h)
      refine r_aload_n C 0 dX9_readArc_164 rfl rfl ?_
      refine cX9_225 C (m_X9_goesOn l h) ⟨Nat.le_of_ble_eq_true rfl, Nat.le_of_ble_eq_true rfl⟩ (Nat.le_of_ble_eq_true rfl) ⟨Nat.le_refl 0, Nat.le_refl 0⟩ dX9_readArc_165 (fun M_23 h => ?_)
      exact r_vret C dX9_readArc_168 h
    · replace h := h.2 hc
      exact r_vret C dX9_readArc_88 h
  · replace h := h.2 hc
    exact r_vret C dX9_readArc_49 h
def S_X9_readLine_8 (v1 : Int32) (o0 : Int32) (X58 : Mem → Prop) (K : Mem → Prop) (M : Mem) : Prop := (¬ o0 = 0 → ((v1 = 0 → ((¬ (M.1 0 21) = (8 : Int32) → X58 M) ∧ ((M.1 0 21) = (8 : Int32) → f_X9_fails (5 : Int32) M (fun (M_3 : Mem) => X58 M_3)))) ∧ (¬ v1 = 0 → ((¬ (M.1 0 20) = (10 : Int32) → X58 M) ∧ ((M.1 0 20) = (10 : Int32) → f_X9_fails (5 : Int32) M (fun (M_4 : Mem) => X58 M_4)))))) ∧ (o0 = 0 → f_X9_isWord (643248 : Int32) M (fun (r_4 : Int32) (M_5 : Mem) => ((¬ r_4 = 0 → ((v1 = 0 → ((¬ (M_5.1 0 21) = (8 : Int32) → X58 M_5) ∧ ((M_5.1 0 21) = (8 : Int32) → f_X9_fails (5 : Int32) M_5 (fun (M_6 : Mem) => X58 M_6)))) ∧ (¬ v1 = 0 → ((¬ (M_5.1 0 20) = (10 : Int32) → X58 M_5) ∧ ((M_5.1 0 20) = (10 : Int32) → f_X9_fails (5 : Int32) M_5 (fun (M_7 : Mem) => X58 M_7)))))) ∧ (r_4 = 0 → f_X9_fails (2 : Int32) M_5 (fun (M_8 : Mem) => X58 M_8)))))

set_option maxHeartbeats 1000000 in
set_option maxRecDepth 10000 in
theorem mS_X9_readLine_8 (C : rw_C p s m meth c cX9_readLine 3 RX9 none D cy ad) {v1 : Int32} {o0 : Int32} {X58 : Mem → Prop} {K : Mem → Prop} {M : Mem} (hX58 : ∀  (M : Mem), X58 M → rw_W p l e rm_X9_readLine s m args below meth c D cy ad 3 0 0 (rw_Qv below args s D cy ad K) 58 [(0, .ref (ad 0)), (1, .int v1)] [] M) (h : S_X9_readLine_8 v1 o0 X58 K M) : rw_W p l e rm_X9_readLine s m args below meth c D cy ad 3 0 0 (rw_Qv below args s D cy ad K) 8 [(0, .ref (ad 0)), (1, .int v1)] [.int o0] M := by
  refine r_if_ne C 28 dX9_readLine_8 (by decide) (fun hc => ?_) (fun hc => ?_)
  · replace h := h.1 hc
    refine r_iload_n C 1 dX9_readLine_28 rfl rfl ?_
    refine r_if_eq C 44 dX9_readLine_29 (by decide) (fun hc => ?_) (fun hc => ?_)
    · replace h := h.1 hc
      refine r_aload_n C 0 dX9_readLine_44 rfl rfl ?_
      refine gX9_222 C dX9_readLine_45 ?_
      refine r_bipush (v := (8 : Int32)) C dX9_readLine_48 rfl ?_
      refine r_icmp_ne C 58 dX9_readLine_50 (by decide) (fun hc => ?_) (fun hc => ?_)
      · replace h := h.1 hc
        exact hX58 _ h
      · replace h := h.2 hc
        refine r_aload_n C 0 dX9_readLine_53 rfl rfl ?_
        refine r_iconst (v := (5 : Int32)) C dX9_readLine_54 rfl ?_
        refine cX9_209 C (m_X9_fails l h) ⟨Nat.le_of_ble_eq_true rfl, Nat.le_of_ble_eq_true rfl⟩ (Nat.le_of_ble_eq_true rfl) ⟨Nat.le_refl 0, Nat.le_refl 0⟩ dX9_readLine_55 (fun M_3 h => ?_)
        exact hX58 _ h
    · replace h := h.2 hc
      refine r_aload_n C 0 dX9_readLine_32 rfl rfl ?_
      refine gX9_212 C dX9_readLine_33 ?_
      refine r_bipush (v := (10 : Int32)) C dX9_readLine_36 rfl ?_
      refine r_icmp_ne C 58 dX9_readLine_38 (by decide) (fun hc => ?_) (fun hc => ?_)
      · replace h := h.1 hc
        exact hX58 _ h
      · replace h := h.2 hc
        refine r_goto C 53 dX9_readLine_41 (by decide) ?_
        refine r_aload_n C 0 dX9_readLine_53 rfl rfl ?_
        refine r_iconst (v := (5 : Int32)) C dX9_readLine_54 rfl ?_
        refine cX9_209 C (m_X9_fails l h) ⟨Nat.le_of_ble_eq_true rfl, Nat.le_of_ble_eq_true rfl⟩ (Nat.le_of_ble_eq_true rfl) ⟨Nat.le_refl 0, Nat.le_refl 0⟩ dX9_readLine_55 (fun M_4 h => ?_)
        exact hX58 _ h
  · replace h := h.2 hc
    refine r_aload_n C 0 dX9_readLine_11 rfl rfl ?_
    refine kX9_206 C dX9_readLine_12 ?_
    refine cX9_203 C (m_X9_isWord l h) ⟨Nat.le_of_ble_eq_true rfl, Nat.le_of_ble_eq_true rfl⟩ (Nat.le_of_ble_eq_true rfl) ⟨Nat.le_refl 0, Nat.le_refl 0⟩ dX9_readLine_14 (fun r_4 M_5 h => ?_)
    refine r_if_ne C 28 dX9_readLine_17 (by decide) (fun hc => ?_) (fun hc => ?_)
    · replace h := h.1 hc
      refine r_iload_n C 1 dX9_readLine_28 rfl rfl ?_
      refine r_if_eq C 44 dX9_readLine_29 (by decide) (fun hc => ?_) (fun hc => ?_)
      · replace h := h.1 hc
        refine r_aload_n C 0 dX9_readLine_44 rfl rfl ?_
        refine gX9_222 C dX9_readLine_45 ?_
        refine r_bipush (v := (8 : Int32)) C dX9_readLine_48 rfl ?_
        refine r_icmp_ne C 58 dX9_readLine_50 (by decide) (fun hc => ?_) (fun hc => ?_)
        · replace h := h.1 hc
          exact hX58 _ h
        · replace h := h.2 hc
          refine r_aload_n C 0 dX9_readLine_53 rfl rfl ?_
          refine r_iconst (v := (5 : Int32)) C dX9_readLine_54 rfl ?_
          refine cX9_209 C (m_X9_fails l h) ⟨Nat.le_of_ble_eq_true rfl, Nat.le_of_ble_eq_true rfl⟩ (Nat.le_of_ble_eq_true rfl) ⟨Nat.le_refl 0, Nat.le_refl 0⟩ dX9_readLine_55 (fun M_6 h => ?_)
          exact hX58 _ h
      · replace h := h.2 hc
        refine r_aload_n C 0 dX9_readLine_32 rfl rfl ?_
        refine gX9_212 C dX9_readLine_33 ?_
        refine r_bipush (v := (10 : Int32)) C dX9_readLine_36 rfl ?_
        refine r_icmp_ne C 58 dX9_readLine_38 (by decide) (fun hc => ?_) (fun hc => ?_)
        · replace h := h.1 hc
          exact hX58 _ h
        · replace h := h.2 hc
          refine r_goto C 53 dX9_readLine_41 (by decide) ?_
          refine r_aload_n C 0 dX9_readLine_53 rfl rfl ?_
          refine r_iconst (v := (5 : Int32)) C dX9_readLine_54 rfl ?_
          refine cX9_209 C (m_X9_fails l h) ⟨Nat.le_of_ble_eq_true rfl, Nat.le_of_ble_eq_true rfl⟩ (Nat.le_of_ble_eq_true rfl) ⟨Nat.le_refl 0, Nat.le_refl 0⟩ dX9_readLine_55 (fun M_7 h => ?_)
          exact hX58 _ h
    · replace h := h.2 hc
      refine r_aload_n C 0 dX9_readLine_20 rfl rfl ?_
      refine r_iconst (v := (2 : Int32)) C dX9_readLine_21 rfl ?_
      refine cX9_209 C (m_X9_fails l h) ⟨Nat.le_of_ble_eq_true rfl, Nat.le_of_ble_eq_true rfl⟩ (Nat.le_of_ble_eq_true rfl) ⟨Nat.le_refl 0, Nat.le_refl 0⟩ dX9_readLine_22 (fun M_8 h => ?_)
      refine r_goto C 58 dX9_readLine_25 (by decide) ?_
      exact hX58 _ h

def L_X9_readLine_86 (v2 : Int32) (X124 : Mem → Prop) (K : Mem → Prop) : Nat → Mem → Prop
  | 0, _ => False
  | n + 1, M => f_X9_isGood  M (fun (r_11 : Int32) (M_13 : Mem) => ((r_11 = 0 → X124 M_13) ∧ (¬ r_11 = 0 → f_X9_isWord (21015731 : Int32) M_13 (fun (r_12 : Int32) (M_14 : Mem) => ((¬ r_12 = 0 → f_X9_isWord (21015731 : Int32) M_14 (fun (r_13 : Int32) (M_15 : Mem) => f_X9_readArc r_13 M_15 (fun (M_16 : Mem) => L_X9_readLine_86 v2 X124 K n M_16))) ∧ (r_12 = 0 → f_X9_isWord (7657651 : Int32) M_14 (fun (r_15 : Int32) (M_17 : Mem) => ((r_15 = 0 → X124 M_17) ∧ (¬ r_15 = 0 → f_X9_isWord (21015731 : Int32) M_17 (fun (r_16 : Int32) (M_18 : Mem) => f_X9_readArc r_16 M_18 (fun (M_19 : Mem) => L_X9_readLine_86 v2 X124 K n M_19)))))))))))

set_option maxHeartbeats 1000000 in
set_option maxRecDepth 10000 in
theorem mL_X9_readLine_86 (C : rw_C p s m meth c cX9_readLine 3 RX9 none D cy ad) {v2 : Int32} {X124 : Mem → Prop} {K : Mem → Prop} (hX124 : ∀  (M : Mem), X124 M → rw_W p l e rm_X9_readLine s m args below meth c D cy ad 3 0 0 (rw_Qv below args s D cy ad K) 124 [(0, .ref (ad 0)), (2, .int v2)] [] M) : ∀ (n : Nat) (M : Mem), L_X9_readLine_86 v2 X124 K n M → rw_W p l e rm_X9_readLine s m args below meth c D cy ad 3 0 0 (rw_Qv below args s D cy ad K) 86 [(0, .ref (ad 0)), (2, .int v2)] [] M := by
  intro n
  induction n with
  | zero => intro M h; exact h.elim
  | succ n ih =>
    intro M h
    refine r_aload_n C 0 dX9_readLine_86 rfl rfl ?_
    refine cX9_195 C (m_X9_isGood l h) ⟨Nat.le_of_ble_eq_true rfl, Nat.le_of_ble_eq_true rfl⟩ (Nat.le_of_ble_eq_true rfl) ⟨Nat.le_refl 0, Nat.le_refl 0⟩ dX9_readLine_87 (fun r_11 M_13 h => ?_)
    refine r_if_eq C 124 dX9_readLine_90 (by decide) (fun hc => ?_) (fun hc => ?_)
    · replace h := h.1 hc
      exact hX124 _ h
    · replace h := h.2 hc
      refine r_aload_n C 0 dX9_readLine_93 rfl rfl ?_
      refine kX9_207 C dX9_readLine_94 ?_
      refine cX9_203 C (m_X9_isWord l h) ⟨Nat.le_of_ble_eq_true rfl, Nat.le_of_ble_eq_true rfl⟩ (Nat.le_of_ble_eq_true rfl) ⟨Nat.le_refl 0, Nat.le_refl 0⟩ dX9_readLine_96 (fun r_12 M_14 h => ?_)
      refine r_if_ne C 111 dX9_readLine_99 (by decide) (fun hc => ?_) (fun hc => ?_)
      · replace h := h.1 hc
        refine r_aload_n C 0 dX9_readLine_111 rfl rfl ?_
        refine r_aload_n C 0 dX9_readLine_112 rfl rfl ?_
        refine kX9_207 C dX9_readLine_113 ?_
        refine cX9_203 C (m_X9_isWord l h) ⟨Nat.le_of_ble_eq_true rfl, Nat.le_of_ble_eq_true rfl⟩ (Nat.le_of_ble_eq_true rfl) ⟨Nat.le_refl 0, Nat.le_refl 0⟩ dX9_readLine_115 (fun r_13 M_15 h => ?_)
        refine cX9_234 C (m_X9_readArc l h) ⟨Nat.le_of_ble_eq_true rfl, Nat.le_of_ble_eq_true rfl⟩ (Nat.le_of_ble_eq_true rfl) ⟨Nat.le_refl 0, Nat.le_refl 0⟩ dX9_readLine_118 (fun M_16 h => ?_)
        refine r_goto C 86 dX9_readLine_121 (by decide) ?_
        exact ih _ h
      · replace h := h.2 hc
        refine r_aload_n C 0 dX9_readLine_102 rfl rfl ?_
        refine kX9_208 C dX9_readLine_103 ?_
        refine cX9_203 C (m_X9_isWord l h) ⟨Nat.le_of_ble_eq_true rfl, Nat.le_of_ble_eq_true rfl⟩ (Nat.le_of_ble_eq_true rfl) ⟨Nat.le_refl 0, Nat.le_refl 0⟩ dX9_readLine_105 (fun r_15 M_17 h => ?_)
        refine r_if_eq C 124 dX9_readLine_108 (by decide) (fun hc => ?_) (fun hc => ?_)
        · replace h := h.1 hc
          exact hX124 _ h
        · replace h := h.2 hc
          refine r_aload_n C 0 dX9_readLine_111 rfl rfl ?_
          refine r_aload_n C 0 dX9_readLine_112 rfl rfl ?_
          refine kX9_207 C dX9_readLine_113 ?_
          refine cX9_203 C (m_X9_isWord l h) ⟨Nat.le_of_ble_eq_true rfl, Nat.le_of_ble_eq_true rfl⟩ (Nat.le_of_ble_eq_true rfl) ⟨Nat.le_refl 0, Nat.le_refl 0⟩ dX9_readLine_115 (fun r_16 M_18 h => ?_)
          refine cX9_234 C (m_X9_readArc l h) ⟨Nat.le_of_ble_eq_true rfl, Nat.le_of_ble_eq_true rfl⟩ (Nat.le_of_ble_eq_true rfl) ⟨Nat.le_refl 0, Nat.le_refl 0⟩ dX9_readLine_118 (fun M_19 h => ?_)
          refine r_goto C 86 dX9_readLine_121 (by decide) ?_
          exact ih _ h

def S_X9_readLine_67 (o0 : Int32) (X144 : Mem → Prop) (K : Mem → Prop) (M : Mem) : Prop := (o0 = 0 → f_X9_next  M (fun (M_11 : Mem) => f_X9_freshName  M_11 (fun (r_10 : Int32) (M_12 : Mem) => (∃ k86 : Nat, L_X9_readLine_86 r_10 (fun  (M_20 : Mem) => vp_in (M_20.1 0 21) 8 ∧ ∀ M_21 : Mem, M_21 = wI M_20 7 (M_20.1 0 21).toNatClampNeg r_10 → ∀ M_22 : Mem, M_22 = wI M_21 0 21 ((M_21.1 0 21) + (1 : Int32)) → X144 M_22) K k86 M_12)))) ∧ (¬ o0 = 0 → f_X9_readPlace  M (fun (M_23 : Mem) => X144 M_23))

set_option maxHeartbeats 1000000 in
set_option maxRecDepth 10000 in
theorem mS_X9_readLine_67 (C : rw_C p s m meth c cX9_readLine 3 RX9 none D cy ad) {o0 : Int32} {X144 : Mem → Prop} {K : Mem → Prop} {M : Mem} (hX144 : ∀  (M : Mem), X144 M → rw_W p l e rm_X9_readLine s m args below meth c D cy ad 3 0 0 (rw_Qv below args s D cy ad K) 144 [(0, .ref (ad 0))] [] M) (h : S_X9_readLine_67 o0 X144 K M) : rw_W p l e rm_X9_readLine s m args below meth c D cy ad 3 0 0 (rw_Qv below args s D cy ad K) 67 [(0, .ref (ad 0))] [.int o0] M := by
  refine r_if_eq C 77 dX9_readLine_67 (by decide) (fun hc => ?_) (fun hc => ?_)
  · replace h := h.1 hc
    refine r_aload_n C 0 dX9_readLine_77 rfl rfl ?_
    refine cX9_199 C (m_X9_next l h) ⟨Nat.le_of_ble_eq_true rfl, Nat.le_of_ble_eq_true rfl⟩ (Nat.le_of_ble_eq_true rfl) ⟨Nat.le_refl 0, Nat.le_refl 0⟩ dX9_readLine_78 (fun M_11 h => ?_)
    refine r_aload_n C 0 dX9_readLine_81 rfl rfl ?_
    refine cX9_228 C (m_X9_freshName l h) ⟨Nat.le_of_ble_eq_true rfl, Nat.le_of_ble_eq_true rfl⟩ (Nat.le_of_ble_eq_true rfl) ⟨Nat.le_refl 0, Nat.le_refl 0⟩ dX9_readLine_82 (fun r_10 M_12 h => ?_)
    refine r_istore_n C [(2, .int _), (0, .ref _)] dX9_readLine_85 rfl (by decide) rfl ?_
    obtain ⟨n86, h⟩ := h
    refine r_sub [1, 0] rfl (mL_X9_readLine_86 C (fun M_20 h => ?_) n86 _ h)
    refine r_aload_n C 0 dX9_readLine_124 rfl rfl ?_
    refine gX9_28 C dX9_readLine_125 ?_
    refine r_aload_n C 0 dX9_readLine_128 rfl rfl ?_
    refine gX9_222 C dX9_readLine_129 ?_
    refine r_iload_n C 1 dX9_readLine_132 rfl rfl ?_
    obtain ⟨q, h⟩ := h
    refine r_iast C sh_7 q dX9_readLine_133 ?_
    replace h := h _ rfl
    refine r_aload_n C 0 dX9_readLine_134 rfl rfl ?_
    refine r_dup C dX9_readLine_135 rfl ?_
    refine gX9_222 C dX9_readLine_136 ?_
    refine r_iconst (v := (1 : Int32)) C dX9_readLine_139 rfl ?_
    refine r_iadd C dX9_readLine_140 ?_
    refine pX9_222 C dX9_readLine_141 ?_
    replace h := h _ rfl
    exact r_sub [0] rfl (hX144 _ h)
  · replace h := h.2 hc
    refine r_aload_n C 0 dX9_readLine_70 rfl rfl ?_
    refine cX9_231 C (m_X9_readPlace l h) ⟨Nat.le_of_ble_eq_true rfl, Nat.le_of_ble_eq_true rfl⟩ (Nat.le_of_ble_eq_true rfl) ⟨Nat.le_refl 0, Nat.le_refl 0⟩ dX9_readLine_71 (fun M_23 h => ?_)
    refine r_goto C 144 dX9_readLine_74 (by decide) ?_
    exact hX144 _ h

def S_X9_readLine_148 (o0 : Int32) (X164 : Mem → Prop) (K : Mem → Prop) (M : Mem) : Prop := (o0 = 0 → X164 M) ∧ (¬ o0 = 0 → (((M.1 0 14) = (3 : Int32) → X164 M) ∧ (¬ (M.1 0 14) = (3 : Int32) → f_X9_fails (2 : Int32) M (fun (M_26 : Mem) => X164 M_26))))

set_option maxHeartbeats 1000000 in
set_option maxRecDepth 10000 in
theorem mS_X9_readLine_148 (C : rw_C p s m meth c cX9_readLine 3 RX9 none D cy ad) {o0 : Int32} {X164 : Mem → Prop} {K : Mem → Prop} {M : Mem} (hX164 : ∀  (M : Mem), X164 M → rw_W p l e rm_X9_readLine s m args below meth c D cy ad 3 0 0 (rw_Qv below args s D cy ad K) 164 [(0, .ref (ad 0))] [] M) (h : S_X9_readLine_148 o0 X164 K M) : rw_W p l e rm_X9_readLine s m args below meth c D cy ad 3 0 0 (rw_Qv below args s D cy ad K) 148 [(0, .ref (ad 0))] [.int o0] M := by
  refine r_if_eq C 164 dX9_readLine_148 (by decide) (fun hc => ?_) (fun hc => ?_)
  · replace h := h.1 hc
    exact hX164 _ h
  · replace h := h.2 hc
    refine r_aload_n C 0 dX9_readLine_151 rfl rfl ?_
    refine gX9_171 C dX9_readLine_152 ?_
    refine r_iconst (v := (3 : Int32)) C dX9_readLine_155 rfl ?_
    refine r_icmp_eq C 164 dX9_readLine_156 (by decide) (fun hc => ?_) (fun hc => ?_)
    · replace h := h.1 hc
      exact hX164 _ h
    · replace h := h.2 hc
      refine r_aload_n C 0 dX9_readLine_159 rfl rfl ?_
      refine r_iconst (v := (2 : Int32)) C dX9_readLine_160 rfl ?_
      refine cX9_209 C (m_X9_fails l h) ⟨Nat.le_of_ble_eq_true rfl, Nat.le_of_ble_eq_true rfl⟩ (Nat.le_of_ble_eq_true rfl) ⟨Nat.le_refl 0, Nat.le_refl 0⟩ dX9_readLine_161 (fun M_26 h => ?_)
      exact hX164 _ h

def f_X9_readLine (M : Mem) (K : Mem → Prop) : Prop := f_X9_isWord (17171557 : Int32) M (fun (r : Int32) (M_2 : Mem) => (S_X9_readLine_8 r r (fun  (M_9 : Mem) => f_X9_isGood  M_9 (fun (r_8 : Int32) (M_10 : Mem) => ((¬ r_8 = 0 → (S_X9_readLine_67 r (fun  (M_24 : Mem) => f_X9_isGood  M_24 (fun (r_19 : Int32) (M_25 : Mem) => (S_X9_readLine_148 r_19 (fun  (M_27 : Mem) => f_X9_goesOn  M_27 (fun (M_28 : Mem) => K M_28)) K M_25))) K M_10)) ∧ (r_8 = 0 → K M_10)))) K M_2))

set_option maxHeartbeats 1000000 in
set_option maxRecDepth 10000 in
theorem m_X9_readLine (l : Launch)   {M : Mem} {K : Mem → Prop} (h : f_X9_readLine M K) : CTv l yX9_readLine cX9_readLine 3 none rm_X9_readLine (fun ad => [.ref (ad 0)]) M K := by
  refine rw_entv (by decide +kernel) (fun ad => Nat.le_of_ble_eq_true rfl) (fun p e s m args below meth c D cy ad C => ?_)
  change rw_W p l e _ s m args below meth c D cy ad 3 0 0 _ 0 [(0, .ref (ad 0))] [] M
  unfold f_X9_readLine at h
  refine r_aload_n C 0 dX9_readLine_0 rfl rfl ?_
  refine kX9_202 C dX9_readLine_1 ?_
  refine cX9_203 C (m_X9_isWord l h) ⟨Nat.le_of_ble_eq_true rfl, Nat.le_of_ble_eq_true rfl⟩ (Nat.le_of_ble_eq_true rfl) ⟨Nat.le_refl 0, Nat.le_refl 0⟩ dX9_readLine_3 (fun r M_2 h => ?_)
  refine r_istore_n C [(1, .int _), (0, .ref _)] dX9_readLine_6 rfl (by decide) rfl ?_
  refine r_iload_n C 0 dX9_readLine_7 rfl rfl ?_
  refine r_sub [1, 0] rfl (mS_X9_readLine_8 C (fun M_9 h => ?_) h)
  refine r_aload_n C 0 dX9_readLine_58 rfl rfl ?_
  refine cX9_195 C (m_X9_isGood l h) ⟨Nat.le_of_ble_eq_true rfl, Nat.le_of_ble_eq_true rfl⟩ (Nat.le_of_ble_eq_true rfl) ⟨Nat.le_refl 0, Nat.le_refl 0⟩ dX9_readLine_59 (fun r_8 M_10 h => ?_)
  refine r_if_ne C 66 dX9_readLine_62 (by decide) (fun hc => ?_) (fun hc => ?_)
  · replace h := h.1 hc
    refine r_iload_n C 1 dX9_readLine_66 rfl rfl ?_
    refine r_sub [0] rfl (mS_X9_readLine_67 C (fun M_24 h => ?_) h)
    refine r_aload_n C 0 dX9_readLine_144 rfl rfl ?_
    refine cX9_195 C (m_X9_isGood l h) ⟨Nat.le_of_ble_eq_true rfl, Nat.le_of_ble_eq_true rfl⟩ (Nat.le_of_ble_eq_true rfl) ⟨Nat.le_refl 0, Nat.le_refl 0⟩ dX9_readLine_145 (fun r_19 M_25 h => ?_)
    refine mS_X9_readLine_148 C (fun M_27 h => ?_) h
    refine r_aload_n C 0 dX9_readLine_164 rfl rfl ?_
    refine cX9_225 C (m_X9_goesOn l h) ⟨Nat.le_of_ble_eq_true rfl, Nat.le_of_ble_eq_true rfl⟩ (Nat.le_of_ble_eq_true rfl) ⟨Nat.le_refl 0, Nat.le_refl 0⟩ dX9_readLine_165 (fun M_28 h => ?_)
    exact r_vret C dX9_readLine_168 h
  · replace h := h.2 hc
    exact r_vret C dX9_readLine_65 h
def f_X9_moved (M : Mem) (K : Mem → Prop) : Prop := ∀ M_2 : Mem, M_2 = wI M 0 23 (0 : Int32) → ∀ M_3 : Mem, M_3 = wI M_2 0 24 (0 : Int32) → K M_3

set_option maxHeartbeats 1000000 in
set_option maxRecDepth 10000 in
theorem m_X9_moved (l : Launch)   {M : Mem} {K : Mem → Prop} (h : f_X9_moved M K) : CTv l yX9_moved cX9_moved 1 none rm_X9_moved (fun ad => [.ref (ad 0)]) M K := by
  refine rw_entv (by decide +kernel) (fun ad => Nat.le_of_ble_eq_true rfl) (fun p e s m args below meth c D cy ad C => ?_)
  change rw_W p l e _ s m args below meth c D cy ad 1 0 0 _ 0 [(0, .ref (ad 0))] [] M
  unfold f_X9_moved at h
  refine r_aload_n C 0 dX9_moved_0 rfl rfl ?_
  refine r_iconst (v := (0 : Int32)) C dX9_moved_1 rfl ?_
  refine pX9_253 C (by decide) dX9_moved_2 ?_
  replace h := h _ rfl
  refine r_aload_n C 0 dX9_moved_5 rfl rfl ?_
  refine r_iconst (v := (0 : Int32)) C dX9_moved_6 rfl ?_
  refine pX9_257 C (by decide) dX9_moved_7 ?_
  replace h := h _ rfl
  exact r_vret C dX9_moved_10 h
def f_X9_another (M : Mem) (K : Mem → Prop) : Prop := ∀ M_2 : Mem, M_2 = wI M 0 22 (0 : Int32) → f_X9_moved  M_2 (fun (M_3 : Mem) => K M_3)

set_option maxHeartbeats 1000000 in
set_option maxRecDepth 10000 in
theorem m_X9_another (l : Launch)   {M : Mem} {K : Mem → Prop} (h : f_X9_another M K) : CTv l yX9_another cX9_another 1 none rm_X9_another (fun ad => [.ref (ad 0)]) M K := by
  refine rw_entv (by decide +kernel) (fun ad => Nat.le_of_ble_eq_true rfl) (fun p e s m args below meth c D cy ad C => ?_)
  change rw_W p l e _ s m args below meth c D cy ad 1 0 0 _ 0 [(0, .ref (ad 0))] [] M
  unfold f_X9_another at h
  refine r_aload_n C 0 dX9_another_0 rfl rfl ?_
  refine r_iconst (v := (0 : Int32)) C dX9_another_1 rfl ?_
  refine pX9_260 C (by decide) dX9_another_2 ?_
  replace h := h _ rfl
  refine r_aload_n C 0 dX9_another_5 rfl rfl ?_
  refine cX9_263 C (m_X9_moved l h) ⟨Nat.le_of_ble_eq_true rfl, Nat.le_of_ble_eq_true rfl⟩ (Nat.le_of_ble_eq_true rfl) ⟨Nat.le_refl 0, Nat.le_refl 0⟩ dX9_another_6 (fun M_3 h => ?_)
  exact r_vret C dX9_another_9 h
def L_X9_net_40 (X74 : Mem → Prop) (K : Int32 → Mem → Prop) : Nat → Int32 → Mem → Prop
  | 0, _, _ => False
  | n + 1, v1, M => (((80 : Int32) ≤ v1 → X74 M) ∧ (¬ (80 : Int32) ≤ v1 → vp_in ((160 : Int32) + v1) 240 ∧ ∀ M_9 : Mem, M_9 = wI M 1 ((160 : Int32) + v1).toNatClampNeg (0 : Int32) → ∀ M_10 : Mem, M_10 = wI M_9 2 ((160 : Int32) + v1).toNatClampNeg (0 : Int32) → L_X9_net_40 X74 K n (v1 + (1 : Int32)) M_10))

set_option maxHeartbeats 1000000 in
set_option maxRecDepth 10000 in
theorem mL_X9_net_40 (C : rw_C p s m meth c cX9_net 2 RX9 (some .int) D cy ad) {X74 : Mem → Prop} {K : Int32 → Mem → Prop} (hX74 : ∀  (M : Mem), X74 M → rw_W p l e rm_X9_net s m args below meth c D cy ad 2 0 0 (rw_Qi below args s D cy ad K) 74 [(0, .ref (ad 0))] [] M) : ∀ (n : Nat) (v1 : Int32) (M : Mem), L_X9_net_40 X74 K n v1 M → rw_W p l e rm_X9_net s m args below meth c D cy ad 2 0 0 (rw_Qi below args s D cy ad K) 40 [(0, .ref (ad 0)), (1, .int v1)] [] M := by
  intro n
  induction n with
  | zero => intro v1 M h; exact h.elim
  | succ n ih =>
    intro v1 M h
    refine r_iload_n C 1 dX9_net_40 rfl rfl ?_
    refine r_bipush (v := (80 : Int32)) C dX9_net_41 rfl ?_
    refine r_icmp_ge C 74 dX9_net_43 (by decide) (fun hc => ?_) (fun hc => ?_)
    · replace h := h.1 hc
      exact r_sub [0] rfl (hX74 _ h)
    · replace h := h.2 hc
      refine r_aload_n C 0 dX9_net_46 rfl rfl ?_
      refine gX9_7 C dX9_net_47 ?_
      refine r_sipush (v := (160 : Int32)) C dX9_net_50 rfl ?_
      refine r_iload_n C 1 dX9_net_53 rfl rfl ?_
      refine r_iadd C dX9_net_54 ?_
      refine r_iconst (v := (0 : Int32)) C dX9_net_55 rfl ?_
      obtain ⟨q, h⟩ := h
      refine r_iast C sh_1 q dX9_net_56 ?_
      replace h := h _ rfl
      refine r_aload_n C 0 dX9_net_57 rfl rfl ?_
      refine gX9_13 C dX9_net_58 ?_
      refine r_sipush (v := (160 : Int32)) C dX9_net_61 rfl ?_
      refine r_iload_n C 1 dX9_net_64 rfl rfl ?_
      refine r_iadd C dX9_net_65 ?_
      refine r_iconst (v := (0 : Int32)) C dX9_net_66 rfl ?_
      refine r_iast C sh_2 q dX9_net_67 ?_
      replace h := h _ rfl
      refine r_iinc C 1 (v := _) [(1, .int _), (0, .ref _)] dX9_net_68 rfl rfl (by decide) rfl ?_
      refine r_goto C 40 dX9_net_71 (by decide) ?_
      exact r_sub [1, 0] rfl (ih _ _ h)

def L_X9_net_76 (X98 : Mem → Prop) (K : Int32 → Mem → Prop) : Nat → Int32 → Mem → Prop
  | 0, _, _ => False
  | n + 1, v1, M => (((10 : Int32) ≤ v1 → X98 M) ∧ (¬ (10 : Int32) ≤ v1 → vp_in ((20 : Int32) + v1) 30 ∧ ∀ M_12 : Mem, M_12 = wI M 3 ((20 : Int32) + v1).toNatClampNeg (0 : Int32) → L_X9_net_76 X98 K n (v1 + (1 : Int32)) M_12))

set_option maxHeartbeats 1000000 in
set_option maxRecDepth 10000 in
theorem mL_X9_net_76 (C : rw_C p s m meth c cX9_net 2 RX9 (some .int) D cy ad) {X98 : Mem → Prop} {K : Int32 → Mem → Prop} (hX98 : ∀  (M : Mem), X98 M → rw_W p l e rm_X9_net s m args below meth c D cy ad 2 0 0 (rw_Qi below args s D cy ad K) 98 [(0, .ref (ad 0))] [] M) : ∀ (n : Nat) (v1 : Int32) (M : Mem), L_X9_net_76 X98 K n v1 M → rw_W p l e rm_X9_net s m args below meth c D cy ad 2 0 0 (rw_Qi below args s D cy ad K) 76 [(0, .ref (ad 0)), (1, .int v1)] [] M := by
  intro n
  induction n with
  | zero => intro v1 M h; exact h.elim
  | succ n ih =>
    intro v1 M h
    refine r_iload_n C 1 dX9_net_76 rfl rfl ?_
    refine r_bipush (v := (10 : Int32)) C dX9_net_77 rfl ?_
    refine r_icmp_ge C 98 dX9_net_79 (by decide) (fun hc => ?_) (fun hc => ?_)
    · replace h := h.1 hc
      exact r_sub [0] rfl (hX98 _ h)
    · replace h := h.2 hc
      refine r_aload_n C 0 dX9_net_82 rfl rfl ?_
      refine gX9_16 C dX9_net_83 ?_
      refine r_bipush (v := (20 : Int32)) C dX9_net_86 rfl ?_
      refine r_iload_n C 1 dX9_net_88 rfl rfl ?_
      refine r_iadd C dX9_net_89 ?_
      refine r_iconst (v := (0 : Int32)) C dX9_net_90 rfl ?_
      obtain ⟨q_2, h⟩ := h
      refine r_iast C sh_3 q_2 dX9_net_91 ?_
      replace h := h _ rfl
      refine r_iinc C 1 (v := _) [(1, .int _), (0, .ref _)] dX9_net_92 rfl rfl (by decide) rfl ?_
      refine r_goto C 76 dX9_net_95 (by decide) ?_
      exact r_sub [1, 0] rfl (ih _ _ h)

def L_X9_net_102 (X123 : Mem → Prop) (K : Int32 → Mem → Prop) : Nat → Mem → Prop
  | 0, _ => False
  | n + 1, M => f_X9_isGood  M (fun (r_2 : Int32) (M_15 : Mem) => ((r_2 = 0 → X123 M_15) ∧ (¬ r_2 = 0 → (((M_15.1 0 14) = 0 → X123 M_15) ∧ (¬ (M_15.1 0 14) = 0 → f_X9_readLine  M_15 (fun (M_16 : Mem) => L_X9_net_102 X123 K n M_16))))))

set_option maxHeartbeats 1000000 in
set_option maxRecDepth 10000 in
theorem mL_X9_net_102 (C : rw_C p s m meth c cX9_net 2 RX9 (some .int) D cy ad) {X123 : Mem → Prop} {K : Int32 → Mem → Prop} (hX123 : ∀  (M : Mem), X123 M → rw_W p l e rm_X9_net s m args below meth c D cy ad 2 0 0 (rw_Qi below args s D cy ad K) 123 [(0, .ref (ad 0))] [] M) : ∀ (n : Nat) (M : Mem), L_X9_net_102 X123 K n M → rw_W p l e rm_X9_net s m args below meth c D cy ad 2 0 0 (rw_Qi below args s D cy ad K) 102 [(0, .ref (ad 0))] [] M := by
  intro n
  induction n with
  | zero => intro M h; exact h.elim
  | succ n ih =>
    intro M h
    refine r_aload_n C 0 dX9_net_102 rfl rfl ?_
    refine cX9_195 C (m_X9_isGood l h) ⟨Nat.le_of_ble_eq_true rfl, Nat.le_of_ble_eq_true rfl⟩ (Nat.le_of_ble_eq_true rfl) ⟨Nat.le_refl 0, Nat.le_refl 0⟩ dX9_net_103 (fun r_2 M_15 h => ?_)
    refine r_if_eq C 123 dX9_net_106 (by decide) (fun hc => ?_) (fun hc => ?_)
    · replace h := h.1 hc
      exact hX123 _ h
    · replace h := h.2 hc
      refine r_aload_n C 0 dX9_net_109 rfl rfl ?_
      refine gX9_171 C dX9_net_110 ?_
      refine r_if_eq C 123 dX9_net_113 (by decide) (fun hc => ?_) (fun hc => ?_)
      · replace h := h.1 hc
        exact hX123 _ h
      · replace h := h.2 hc
        refine r_aload_n C 0 dX9_net_116 rfl rfl ?_
        refine cX9_238 C (m_X9_readLine l h) ⟨Nat.le_of_ble_eq_true rfl, Nat.le_of_ble_eq_true rfl⟩ (Nat.le_of_ble_eq_true rfl) ⟨Nat.le_refl 0, Nat.le_refl 0⟩ dX9_net_117 (fun M_16 h => ?_)
        refine r_goto C 102 dX9_net_120 (by decide) ?_
        exact ih _ h

set_option maxHeartbeats 1000000 in
set_option maxRecDepth 10000 in
theorem mD_X9_net_136 (C : rw_C p s m meth c cX9_net 2 RX9 (some .int) D cy ad) {Q : State → Prop} {st : List Value} {M : Mem} {o0 : Int32} (kk : rw_W p l e R s m args below meth c D cy ad 2 0 0 Q 147 [(0, .ref (ad 0))] (.int (if o0 = 0 then (M.1 0 19) else (-1 : Int32)) :: st) M) : rw_W p l e R s m args below meth c D cy ad 2 0 0 Q 136 [(0, .ref (ad 0))] (.int o0 :: st) M := by
  refine r_if_eq C 143 dX9_net_136 (by decide) (fun z0 => ?_) (fun z0 => ?_)
  · skip
    refine r_aload_n C 0 dX9_net_143 rfl rfl ?_
    refine gX9_188 C dX9_net_144 ?_
    first | rw [if_pos z0] at kk | rw [if_neg (fun q9 => q9 z0)] at kk
    exact kk
  · skip
    refine r_iconst (v := (-1 : Int32)) C dX9_net_139 rfl ?_
    refine r_goto C 147 dX9_net_140 (by decide) ?_
    first | rw [if_neg z0] at kk | rw [if_neg (fun q9 => q9 z0)] at kk
    exact kk

def L_X9_net_195 (X214 : Mem → Prop) (K : Int32 → Mem → Prop) : Nat → Int32 → Mem → Prop
  | 0, _, _ => False
  | n + 1, v1, M => (((10 : Int32) ≤ v1 → X214 M) ∧ (¬ (10 : Int32) ≤ v1 → vp_in v1 10 ∧ ∀ M_25 : Mem, M_25 = wI M 8 v1.toNatClampNeg (0 : Int32) → L_X9_net_195 X214 K n (v1 + (1 : Int32)) M_25))

set_option maxHeartbeats 1000000 in
set_option maxRecDepth 10000 in
theorem mL_X9_net_195 (C : rw_C p s m meth c cX9_net 2 RX9 (some .int) D cy ad) {X214 : Mem → Prop} {K : Int32 → Mem → Prop} (hX214 : ∀  (M : Mem), X214 M → rw_W p l e rm_X9_net s m args below meth c D cy ad 2 0 0 (rw_Qi below args s D cy ad K) 214 [(0, .ref (ad 0))] [] M) : ∀ (n : Nat) (v1 : Int32) (M : Mem), L_X9_net_195 X214 K n v1 M → rw_W p l e rm_X9_net s m args below meth c D cy ad 2 0 0 (rw_Qi below args s D cy ad K) 195 [(0, .ref (ad 0)), (1, .int v1)] [] M := by
  intro n
  induction n with
  | zero => intro v1 M h; exact h.elim
  | succ n ih =>
    intro v1 M h
    refine r_iload_n C 1 dX9_net_195 rfl rfl ?_
    refine r_bipush (v := (10 : Int32)) C dX9_net_196 rfl ?_
    refine r_icmp_ge C 214 dX9_net_198 (by decide) (fun hc => ?_) (fun hc => ?_)
    · replace h := h.1 hc
      exact r_sub [0] rfl (hX214 _ h)
    · replace h := h.2 hc
      refine r_aload_n C 0 dX9_net_201 rfl rfl ?_
      refine gX9_31 C dX9_net_202 ?_
      refine r_iload_n C 1 dX9_net_205 rfl rfl ?_
      refine r_iconst (v := (0 : Int32)) C dX9_net_206 rfl ?_
      obtain ⟨q_3, h⟩ := h
      refine r_iast C sh_8 q_3 dX9_net_207 ?_
      replace h := h _ rfl
      refine r_iinc C 1 (v := _) [(1, .int _), (0, .ref _)] dX9_net_208 rfl rfl (by decide) rfl ?_
      refine r_goto C 195 dX9_net_211 (by decide) ?_
      exact r_sub [1, 0] rfl (ih _ _ h)

def f_X9_net (M : Mem) (K : Int32 → Mem → Prop) : Prop := ∀ M_2 : Mem, M_2 = wI M 0 0 (0 : Int32) → ∀ M_3 : Mem, M_3 = wI M_2 0 11 (M_2.1 0 10) → ∀ M_4 : Mem, M_4 = wI M_3 0 10 (0 : Int32) → ∀ M_5 : Mem, M_5 = wI M_4 0 13 (0 : Int32) → ∀ M_6 : Mem, M_6 = wI M_5 0 18 (0 : Int32) → ∀ M_7 : Mem, M_7 = wI M_6 0 20 (0 : Int32) → ∀ M_8 : Mem, M_8 = wI M_7 0 21 (0 : Int32) → (∃ k40 : Nat, L_X9_net_40 (fun  (M_11 : Mem) => (∃ k76 : Nat, L_X9_net_76 (fun  (M_13 : Mem) => f_X9_next  M_13 (fun (M_14 : Mem) => (∃ k102 : Nat, L_X9_net_102 (fun  (M_17 : Mem) => ∀ M_18 : Mem, M_18 = wI M_17 0 16 (M_17.1 0 18) → f_X9_isGood  M_18 (fun (r_4 : Int32) (M_19 : Mem) => ∀ M_20 : Mem, M_20 = wI M_19 0 17 (if r_4 = 0 then (M_19.1 0 19) else (-1 : Int32)) → f_X9_isGood  M_20 (fun (r_5 : Int32) (M_21 : Mem) => ((¬ r_5 = 0 → ∀ M_22 : Mem, M_22 = wI M_21 4 (2 : Int32).toNatClampNeg (((1 : Int32) <<< ((M_21.1 0 20) &&& 31)) - (1 : Int32)) → ∀ M_23 : Mem, M_23 = wI M_22 5 (2 : Int32).toNatClampNeg (((1 : Int32) <<< ((M_22.1 0 21) &&& 31)) - (1 : Int32)) → f_X9_copies (2 : Int32) (0 : Int32) M_23 (fun (M_24 : Mem) => (∃ k195 : Nat, L_X9_net_195 (fun  (M_26 : Mem) => ∀ M_27 : Mem, M_27 = wI M_26 0 26 (0 : Int32) → f_X9_another  M_27 (fun (M_28 : Mem) => K (M_28.1 0 20) M_28)) K k195 (0 : Int32) M_24))) ∧ (r_5 = 0 → K (-1 : Int32) M_21))))) K k102 M_14))) K k76 (0 : Int32) M_11)) K k40 (0 : Int32) M_8)

set_option maxHeartbeats 1000000 in
set_option maxRecDepth 10000 in
theorem m_X9_net (l : Launch)   {M : Mem} {K : Int32 → Mem → Prop} (h : f_X9_net M K) : CTi l yX9_net cX9_net 2 (some .int) rm_X9_net (fun ad => [.ref (ad 0)]) M K := by
  refine rw_enti (by decide +kernel) (fun ad => Nat.le_of_ble_eq_true rfl) (fun p e s m args below meth c D cy ad C => ?_)
  change rw_W p l e _ s m args below meth c D cy ad 2 0 0 _ 0 [(0, .ref (ad 0))] [] M
  unfold f_X9_net at h
  refine r_aload_n C 0 dX9_net_0 rfl rfl ?_
  refine r_iconst (v := (0 : Int32)) C dX9_net_1 rfl ?_
  refine pX9_133 C dX9_net_2 ?_
  replace h := h _ rfl
  refine r_aload_n C 0 dX9_net_5 rfl rfl ?_
  refine r_aload_n C 0 dX9_net_6 rfl rfl ?_
  refine gX9_148 C dX9_net_7 ?_
  refine pX9_155 C dX9_net_10 ?_
  replace h := h _ rfl
  refine r_aload_n C 0 dX9_net_13 rfl rfl ?_
  refine r_iconst (v := (0 : Int32)) C dX9_net_14 rfl ?_
  refine pX9_148 C dX9_net_15 ?_
  replace h := h _ rfl
  refine r_aload_n C 0 dX9_net_18 rfl rfl ?_
  refine r_iconst (v := (0 : Int32)) C dX9_net_19 rfl ?_
  refine pX9_158 C dX9_net_20 ?_
  replace h := h _ rfl
  refine r_aload_n C 0 dX9_net_23 rfl rfl ?_
  refine r_iconst (v := (0 : Int32)) C dX9_net_24 rfl ?_
  refine pX9_185 C dX9_net_25 ?_
  replace h := h _ rfl
  refine r_aload_n C 0 dX9_net_28 rfl rfl ?_
  refine r_iconst (v := (0 : Int32)) C dX9_net_29 rfl ?_
  refine pX9_212 C dX9_net_30 ?_
  replace h := h _ rfl
  refine r_aload_n C 0 dX9_net_33 rfl rfl ?_
  refine r_iconst (v := (0 : Int32)) C dX9_net_34 rfl ?_
  refine pX9_222 C dX9_net_35 ?_
  replace h := h _ rfl
  refine r_iconst (v := (0 : Int32)) C dX9_net_38 rfl ?_
  refine r_istore_n C [(1, .int _), (0, .ref _)] dX9_net_39 rfl (by decide) rfl ?_
  obtain ⟨n40, h⟩ := h
  refine r_sub [1, 0] rfl (mL_X9_net_40 C (fun M_11 h => ?_) n40 _ _ h)
  refine r_iconst (v := (0 : Int32)) C dX9_net_74 rfl ?_
  refine r_istore_n C [(1, .int _), (0, .ref _)] dX9_net_75 rfl (by decide) rfl ?_
  obtain ⟨n76, h⟩ := h
  refine r_sub [1, 0] rfl (mL_X9_net_76 C (fun M_13 h => ?_) n76 _ _ h)
  refine r_aload_n C 0 dX9_net_98 rfl rfl ?_
  refine cX9_199 C (m_X9_next l h) ⟨Nat.le_of_ble_eq_true rfl, Nat.le_of_ble_eq_true rfl⟩ (Nat.le_of_ble_eq_true rfl) ⟨Nat.le_refl 0, Nat.le_refl 0⟩ dX9_net_99 (fun M_14 h => ?_)
  obtain ⟨n102, h⟩ := h
  refine mL_X9_net_102 C (fun M_17 h => ?_) n102 _ h
  refine r_aload_n C 0 dX9_net_123 rfl rfl ?_
  refine r_aload_n C 0 dX9_net_124 rfl rfl ?_
  refine gX9_185 C dX9_net_125 ?_
  refine pX9_241 C dX9_net_128 ?_
  replace h := h _ rfl
  refine r_aload_n C 0 dX9_net_131 rfl rfl ?_
  refine r_aload_n C 0 dX9_net_132 rfl rfl ?_
  refine cX9_195 C (m_X9_isGood l h) ⟨Nat.le_of_ble_eq_true rfl, Nat.le_of_ble_eq_true rfl⟩ (Nat.le_of_ble_eq_true rfl) ⟨Nat.le_refl 0, Nat.le_refl 0⟩ dX9_net_133 (fun r_4 M_19 h => ?_)
  refine mD_X9_net_136 C ?_
  refine pX9_37 C dX9_net_147 ?_
  replace h := h _ rfl
  refine r_aload_n C 0 dX9_net_150 rfl rfl ?_
  refine cX9_195 C (m_X9_isGood l h) ⟨Nat.le_of_ble_eq_true rfl, Nat.le_of_ble_eq_true rfl⟩ (Nat.le_of_ble_eq_true rfl) ⟨Nat.le_refl 0, Nat.le_refl 0⟩ dX9_net_151 (fun r_5 M_21 h => ?_)
  refine r_if_ne C 159 dX9_net_154 (by decide) (fun hc => ?_) (fun hc => ?_)
  · replace h := h.1 hc
    refine r_aload_n C 0 dX9_net_159 rfl rfl ?_
    refine gX9_19 C dX9_net_160 ?_
    refine r_iconst (v := (2 : Int32)) C dX9_net_163 rfl ?_
    refine r_iconst (v := (1 : Int32)) C dX9_net_164 rfl ?_
    refine r_aload_n C 0 dX9_net_165 rfl rfl ?_
    refine gX9_212 C dX9_net_166 ?_
    refine r_ishl C dX9_net_169 ?_
    refine r_iconst (v := (1 : Int32)) C dX9_net_170 rfl ?_
    refine r_isub C dX9_net_171 ?_
    refine r_iast C sh_4 (vpd (i := (2 : Int32)) (n := 3) (by decide +kernel)) dX9_net_172 ?_
    replace h := h _ rfl
    refine r_aload_n C 0 dX9_net_173 rfl rfl ?_
    refine gX9_22 C dX9_net_174 ?_
    refine r_iconst (v := (2 : Int32)) C dX9_net_177 rfl ?_
    refine r_iconst (v := (1 : Int32)) C dX9_net_178 rfl ?_
    refine r_aload_n C 0 dX9_net_179 rfl rfl ?_
    refine gX9_222 C dX9_net_180 ?_
    refine r_ishl C dX9_net_183 ?_
    refine r_iconst (v := (1 : Int32)) C dX9_net_184 rfl ?_
    refine r_isub C dX9_net_185 ?_
    refine r_iast C sh_5 (vpd (i := (2 : Int32)) (n := 3) (by decide +kernel)) dX9_net_186 ?_
    replace h := h _ rfl
    refine r_aload_n C 0 dX9_net_187 rfl rfl ?_
    refine r_iconst (v := (2 : Int32)) C dX9_net_188 rfl ?_
    refine r_iconst (v := (0 : Int32)) C dX9_net_189 rfl ?_
    refine cX9_244 C (m_X9_copies l h) ⟨Nat.le_of_ble_eq_true rfl, Nat.le_of_ble_eq_true rfl⟩ (Nat.le_of_ble_eq_true rfl) ⟨Nat.le_refl 0, Nat.le_refl 0⟩ dX9_net_190 (fun M_24 h => ?_)
    refine r_iconst (v := (0 : Int32)) C dX9_net_193 rfl ?_
    refine r_istore_n C [(1, .int _), (0, .ref _)] dX9_net_194 rfl (by decide) rfl ?_
    obtain ⟨n195, h⟩ := h
    refine r_sub [1, 0] rfl (mL_X9_net_195 C (fun M_26 h => ?_) n195 _ _ h)
    refine r_aload_n C 0 dX9_net_214 rfl rfl ?_
    refine r_iconst (v := (0 : Int32)) C dX9_net_215 rfl ?_
    refine pX9_247 C dX9_net_216 ?_
    replace h := h _ rfl
    refine r_aload_n C 0 dX9_net_219 rfl rfl ?_
    refine cX9_250 C (m_X9_another l h) ⟨Nat.le_of_ble_eq_true rfl, Nat.le_of_ble_eq_true rfl⟩ (Nat.le_of_ble_eq_true rfl) ⟨Nat.le_refl 0, Nat.le_refl 0⟩ dX9_net_220 (fun M_28 h => ?_)
    refine r_aload_n C 0 dX9_net_223 rfl rfl ?_
    refine gX9_212 C dX9_net_224 ?_
    exact r_iret C dX9_net_227 h
  · replace h := h.2 hc
    refine r_iconst (v := (-1 : Int32)) C dX9_net_157 rfl ?_
    exact r_iret C dX9_net_158 h
def f_X9_fault (v1 : Int32) (M : Mem) (K : Int32 → Mem → Prop) : Prop := ∀ M_2 : Mem, M_2 = wI M 0 0 (0 : Int32) → ((¬ v1 = 0 → ((¬ v1 = (1 : Int32) → K (-1 : Int32) M_2) ∧ (v1 = (1 : Int32) → K (M_2.1 0 17) M_2))) ∧ (v1 = 0 → K (M_2.1 0 16) M_2))

set_option maxHeartbeats 1000000 in
set_option maxRecDepth 10000 in
theorem m_X9_fault (l : Launch) {v1 : Int32}  {M : Mem} {K : Int32 → Mem → Prop} (h : f_X9_fault v1 M K) : CTi l yX9_fault cX9_fault 2 (some .int) rm_X9_fault (fun ad => [.ref (ad 0), .int v1]) M K := by
  refine rw_enti (by decide +kernel) (fun ad => Nat.le_of_ble_eq_true rfl) (fun p e s m args below meth c D cy ad C => ?_)
  change rw_W p l e _ s m args below meth c D cy ad 2 0 0 _ 0 [(0, .ref (ad 0)), (1, .int v1)] [] M
  unfold f_X9_fault at h
  refine r_aload_n C 0 dX9_fault_0 rfl rfl ?_
  refine r_iconst (v := (0 : Int32)) C dX9_fault_1 rfl ?_
  refine pX9_133 C dX9_fault_2 ?_
  replace h := h _ rfl
  refine r_iload_n C 1 dX9_fault_5 rfl rfl ?_
  refine r_if_ne C 16 dX9_fault_6 (by decide) (fun hc => ?_) (fun hc => ?_)
  · replace h := h.1 hc
    refine r_iload_n C 1 dX9_fault_16 rfl rfl ?_
    refine r_iconst (v := (1 : Int32)) C dX9_fault_17 rfl ?_
    refine r_icmp_ne C 28 dX9_fault_18 (by decide) (fun hc => ?_) (fun hc => ?_)
    · replace h := h.1 hc
      refine r_iconst (v := (-1 : Int32)) C dX9_fault_28 rfl ?_
      exact r_iret C dX9_fault_29 h
    · replace h := h.2 hc
      refine r_aload_n C 0 dX9_fault_21 rfl rfl ?_
      refine gX9_37 C dX9_fault_22 ?_
      refine r_goto C 29 dX9_fault_25 (by decide) ?_
      exact r_iret C dX9_fault_29 h
  · replace h := h.2 hc
    refine r_aload_n C 0 dX9_fault_9 rfl rfl ?_
    refine gX9_241 C dX9_fault_10 ?_
    refine r_goto C 29 dX9_fault_13 (by decide) ?_
    exact r_iret C dX9_fault_29 h
set_option maxHeartbeats 1000000 in
set_option maxRecDepth 10000 in
theorem mD_X9_layRows_19 (C : rw_C p s m meth c cX9_layRows 7 RX9 none D cy ad) {Q : State → Prop} {st : List Value} {M : Mem} {v1 : Int32} {v2 : Int32} {v3 : Int32} {v4 : Int32} {o0 : Int32} (kk : rw_W p l e R s m args below meth c D cy ad 7 0 0 Q 28 [(0, .ref (ad 0)), (1, .int v1), (2, .int v2), (3, .int v3), (4, .int v4)] (.int (if ¬ o0 = 0 then v4 else v3) :: st) M) : rw_W p l e R s m args below meth c D cy ad 7 0 0 Q 19 [(0, .ref (ad 0)), (1, .int v1), (2, .int v2), (3, .int v3), (4, .int v4)] (.int o0 :: st) M := by
  refine r_if_ne C 26 dX9_layRows_19 (by decide) (fun z0 => ?_) (fun z0 => ?_)
  · skip
    refine r_iload C 4 dX9_layRows_26 rfl ?_
    first | rw [if_pos z0] at kk | rw [if_neg (fun q9 => q9 z0)] at kk
    exact kk
  · skip
    refine r_iload_n C 3 dX9_layRows_22 rfl rfl ?_
    refine r_goto C 28 dX9_layRows_23 (by decide) ?_
    first | rw [if_neg z0] at kk | rw [if_neg (fun q9 => q9 z0)] at kk
    exact kk

set_option maxHeartbeats 1000000 in
set_option maxRecDepth 10000 in
theorem mD_X9_layRows_31 (C : rw_C p s m meth c cX9_layRows 7 RX9 none D cy ad) {Q : State → Prop} {st : List Value} {M : Mem} {v5 : Int32} {v1 : Int32} {v2 : Int32} {v3 : Int32} {v4 : Int32} {o0 : Int32} (kk : rw_W p l e R s m args below meth c D cy ad 7 0 0 Q 40 [(5, .int v5), (0, .ref (ad 0)), (1, .int v1), (2, .int v2), (3, .int v3), (4, .int v4)] (.int (if ¬ o0 = 0 then v3 else v4) :: st) M) : rw_W p l e R s m args below meth c D cy ad 7 0 0 Q 31 [(5, .int v5), (0, .ref (ad 0)), (1, .int v1), (2, .int v2), (3, .int v3), (4, .int v4)] (.int o0 :: st) M := by
  refine r_if_ne C 39 dX9_layRows_31 (by decide) (fun z0 => ?_) (fun z0 => ?_)
  · skip
    refine r_iload_n C 4 dX9_layRows_39 rfl rfl ?_
    first | rw [if_pos z0] at kk | rw [if_neg (fun q9 => q9 z0)] at kk
    exact kk
  · skip
    refine r_iload C 5 dX9_layRows_34 rfl ?_
    refine r_goto C 40 dX9_layRows_36 (by decide) ?_
    first | rw [if_neg z0] at kk | rw [if_neg (fun q9 => q9 z0)] at kk
    exact kk

def S_X9_layRows_57 (v1 : Int32) (v2 : Int32) (v3 : Int32) (v4 : Int32) (v5 : Int32) (v6 : Int32) (o0 : Int32) (o1 : Int32) (b0 : Int32) (X83 : Int64 → Mem → Prop) (K : Mem → Prop) (M : Mem) : Prop := (o0 ≤ o1 → X83 (0 : Int64) M) ∧ (¬ o0 ≤ o1 → f_X9_isOf v2 v4 M (fun (r : Int32) (M_2 : Mem) => ((r = 0 → X83 (0 : Int64) M_2) ∧ (¬ r = 0 → f_X9_change (0 : Int32) v5 v6 M_2 (fun (r_2 : Int32) (M_3 : Mem) => X83 r_2.toInt64 M_3)))))

set_option maxHeartbeats 1000000 in
set_option maxRecDepth 10000 in
theorem mS_X9_layRows_57 (C : rw_C p s m meth c cX9_layRows 7 RX9 none D cy ad) {v1 : Int32} {v2 : Int32} {v3 : Int32} {v4 : Int32} {v5 : Int32} {v6 : Int32} {o0 : Int32} {o1 : Int32} {b0 : Int32} {X83 : Int64 → Mem → Prop} {K : Mem → Prop} {M : Mem} (hX83 : ∀  (w0 : Int64) (M : Mem), X83 w0 M → rw_W p l e rm_X9_layRows s m args below meth c D cy ad 7 0 0 (rw_Qv below args s D cy ad K) 83 [(0, .ref (ad 0)), (1, .int v1), (2, .int v2), (3, .int v3), (4, .int v4)] [.long w0, .int b0, .ref (ad 11)] M) (h : S_X9_layRows_57 v1 v2 v3 v4 v5 v6 o0 o1 b0 X83 K M) : rw_W p l e rm_X9_layRows s m args below meth c D cy ad 7 0 0 (rw_Qv below args s D cy ad K) 57 [(0, .ref (ad 0)), (1, .int v1), (2, .int v2), (3, .int v3), (4, .int v4), (5, .int v5), (6, .int v6)] [.int o0, .int o1, .int b0, .ref (ad 11)] M := by
  refine r_icmp_ge C 82 dX9_layRows_57 (by decide) (fun hc => ?_) (fun hc => ?_)
  · replace h := h.1 hc
    refine r_lconst (v := (0 : Int64)) C dX9_layRows_82 rfl ?_
    exact r_sub [0, 1, 2, 3, 4] rfl (hX83 _ _ h)
  · replace h := h.2 hc
    refine r_iload_n C 2 dX9_layRows_60 rfl rfl ?_
    refine r_iload C 4 dX9_layRows_61 rfl ?_
    refine cX9_140 C (m_X9_isOf l h) ⟨Nat.le_of_ble_eq_true rfl, Nat.le_of_ble_eq_true rfl⟩ (Nat.le_of_ble_eq_true rfl) ⟨Nat.le_refl 0, Nat.le_refl 0⟩ dX9_layRows_63 (fun r M_2 h => ?_)
    refine r_if_eq C 82 dX9_layRows_66 (by decide) (fun hc => ?_) (fun hc => ?_)
    · replace h := h.1 hc
      refine r_lconst (v := (0 : Int64)) C dX9_layRows_82 rfl ?_
      exact r_sub [0, 1, 2, 3, 4] rfl (hX83 _ _ h)
    · replace h := h.2 hc
      refine r_aload_n C 0 dX9_layRows_69 rfl rfl ?_
      refine r_iconst (v := (0 : Int32)) C dX9_layRows_70 rfl ?_
      refine r_iload C 5 dX9_layRows_71 rfl ?_
      refine r_iload C 6 dX9_layRows_73 rfl ?_
      refine cX9_279 C (m_X9_change l h) ⟨Nat.le_of_ble_eq_true rfl, Nat.le_of_ble_eq_true rfl⟩ (Nat.le_of_ble_eq_true rfl) ⟨Nat.le_refl 0, Nat.le_refl 0⟩ dX9_layRows_75 (fun r_2 M_3 h => ?_)
      refine r_i2l C dX9_layRows_78 ?_
      refine r_goto C 83 dX9_layRows_79 (by decide) ?_
      exact r_sub [0, 1, 2, 3, 4] rfl (hX83 _ _ h)

def L_X9_layRows_11 (v1 : Int32) (v2 : Int32) (v3 : Int32) (X90 : Mem → Prop) (K : Mem → Prop) : Nat → Int32 → Mem → Prop
  | 0, _, _ => False
  | n + 1, v4, M => (((10 : Int32) ≤ v4 → X90 M) ∧ (¬ (10 : Int32) ≤ v4 → ∀ x5 : Int32, x5 = (if ¬ v1 = 0 then v4 else v3) → ∀ x6 : Int32, x6 = (if ¬ v1 = 0 then v3 else v4) → (S_X9_layRows_57 v1 v2 v3 v4 x5 x6 (8 : Int32) x5 (((10 : Int32) * v3) + v4) (fun (w : Int64) (M_4 : Mem) => vp_in (((10 : Int32) * v3) + v4) 100 ∧ ∀ M_5 : Mem, M_5 = wL M_4 11 (((10 : Int32) * v3) + v4).toNatClampNeg w → L_X9_layRows_11 v1 v2 v3 X90 K n (v4 + (1 : Int32)) M_5) K M)))

set_option maxHeartbeats 1000000 in
set_option maxRecDepth 10000 in
theorem mL_X9_layRows_11 (C : rw_C p s m meth c cX9_layRows 7 RX9 none D cy ad) {v1 : Int32} {v2 : Int32} {v3 : Int32} {X90 : Mem → Prop} {K : Mem → Prop} (hX90 : ∀  (M : Mem), X90 M → rw_W p l e rm_X9_layRows s m args below meth c D cy ad 7 0 0 (rw_Qv below args s D cy ad K) 90 [(0, .ref (ad 0)), (1, .int v1), (2, .int v2), (3, .int v3)] [] M) : ∀ (n : Nat) (v4 : Int32) (M : Mem), L_X9_layRows_11 v1 v2 v3 X90 K n v4 M → rw_W p l e rm_X9_layRows s m args below meth c D cy ad 7 0 0 (rw_Qv below args s D cy ad K) 11 [(0, .ref (ad 0)), (1, .int v1), (2, .int v2), (3, .int v3), (4, .int v4)] [] M := by
  intro n
  induction n with
  | zero => intro v4 M h; exact h.elim
  | succ n ih =>
    intro v4 M h
    refine r_iload C 4 dX9_layRows_11 rfl ?_
    refine r_bipush (v := (10 : Int32)) C dX9_layRows_13 rfl ?_
    refine r_icmp_ge C 90 dX9_layRows_15 (by decide) (fun hc => ?_) (fun hc => ?_)
    · replace h := h.1 hc
      exact r_sub [0, 1, 2, 3] rfl (hX90 _ h)
    · replace h := h.2 hc
      refine r_iload_n C 1 dX9_layRows_18 rfl rfl ?_
      refine mD_X9_layRows_19 C ?_
      refine r_istore C [(5, .int _), (0, .ref _), (1, .int _), (2, .int _), (3, .int _), (4, .int _)] dX9_layRows_28 (by decide) rfl ?_
      replace h := h _ rfl
      refine r_iload_n C 2 dX9_layRows_30 rfl rfl ?_
      refine mD_X9_layRows_31 C ?_
      refine r_istore C [(6, .int _), (5, .int _), (0, .ref _), (1, .int _), (2, .int _), (3, .int _), (4, .int _)] dX9_layRows_40 (by decide) rfl ?_
      replace h := h _ rfl
      refine r_aload_n C 2 dX9_layRows_42 rfl rfl ?_
      refine gX9_44 C dX9_layRows_43 ?_
      refine r_bipush (v := (10 : Int32)) C dX9_layRows_46 rfl ?_
      refine r_iload_n C 5 dX9_layRows_48 rfl rfl ?_
      refine r_imul C dX9_layRows_49 ?_
      refine r_iload C 6 dX9_layRows_50 rfl ?_
      refine r_iadd C dX9_layRows_52 ?_
      refine r_iload C 1 dX9_layRows_53 rfl ?_
      refine r_bipush (v := (8 : Int32)) C dX9_layRows_55 rfl ?_
      refine r_sub [2, 3, 4, 5, 6, 1, 0] rfl (mS_X9_layRows_57 C (fun w M_4 h => ?_) h)
      obtain ⟨q, h⟩ := h
      refine r_last C sh_11 q dX9_layRows_83 ?_
      replace h := h _ rfl
      refine r_iinc C 4 (v := _) [(4, .int _), (0, .ref _), (1, .int _), (2, .int _), (3, .int _)] dX9_layRows_84 rfl rfl (by decide) rfl ?_
      refine r_goto C 11 dX9_layRows_87 (by decide) ?_
      exact r_sub [1, 2, 3, 4, 0] rfl (ih _ _ h)

def L_X9_layRows_2 (v1 : Int32) (v2 : Int32) (X96 : Mem → Prop) (K : Mem → Prop) : Nat → Int32 → Mem → Prop
  | 0, _, _ => False
  | n + 1, v3, M => (((10 : Int32) ≤ v3 → X96 M) ∧ (¬ (10 : Int32) ≤ v3 → (∃ k11 : Nat, L_X9_layRows_11 v1 v2 v3 (fun  (M_6 : Mem) => L_X9_layRows_2 v1 v2 X96 K n (v3 + (1 : Int32)) M_6) K k11 (0 : Int32) M)))

set_option maxHeartbeats 1000000 in
set_option maxRecDepth 10000 in
theorem mL_X9_layRows_2 (C : rw_C p s m meth c cX9_layRows 7 RX9 none D cy ad) {v1 : Int32} {v2 : Int32} {X96 : Mem → Prop} {K : Mem → Prop} (hX96 : ∀  (M : Mem), X96 M → rw_W p l e rm_X9_layRows s m args below meth c D cy ad 7 0 0 (rw_Qv below args s D cy ad K) 96 [] [] M) : ∀ (n : Nat) (v3 : Int32) (M : Mem), L_X9_layRows_2 v1 v2 X96 K n v3 M → rw_W p l e rm_X9_layRows s m args below meth c D cy ad 7 0 0 (rw_Qv below args s D cy ad K) 2 [(0, .ref (ad 0)), (1, .int v1), (2, .int v2), (3, .int v3)] [] M := by
  intro n
  induction n with
  | zero => intro v3 M h; exact h.elim
  | succ n ih =>
    intro v3 M h
    refine r_iload_n C 3 dX9_layRows_2 rfl rfl ?_
    refine r_bipush (v := (10 : Int32)) C dX9_layRows_3 rfl ?_
    refine r_icmp_ge C 96 dX9_layRows_5 (by decide) (fun hc => ?_) (fun hc => ?_)
    · replace h := h.1 hc
      exact r_sub [] rfl (hX96 _ h)
    · replace h := h.2 hc
      refine r_iconst (v := (0 : Int32)) C dX9_layRows_8 rfl ?_
      refine r_istore C [(4, .int _), (0, .ref _), (1, .int _), (2, .int _), (3, .int _)] dX9_layRows_9 (by decide) rfl ?_
      obtain ⟨n11, h⟩ := h
      refine r_sub [1, 2, 3, 4, 0] rfl (mL_X9_layRows_11 C (fun M_6 h => ?_) n11 _ _ h)
      refine r_iinc C 3 (v := _) [(3, .int _), (0, .ref _), (1, .int _), (2, .int _)] dX9_layRows_90 rfl rfl (by decide) rfl ?_
      refine r_goto C 2 dX9_layRows_93 (by decide) ?_
      exact r_sub [1, 2, 3, 0] rfl (ih _ _ h)

def f_X9_layRows (v1 : Int32) (v2 : Int32) (M : Mem) (K : Mem → Prop) : Prop := (∃ k2 : Nat, L_X9_layRows_2 v1 v2 (fun  (M_7 : Mem) => K M_7) K k2 (0 : Int32) M)

set_option maxHeartbeats 1000000 in
set_option maxRecDepth 10000 in
theorem m_X9_layRows (l : Launch) {v1 : Int32} {v2 : Int32}  {M : Mem} {K : Mem → Prop} (h : f_X9_layRows v1 v2 M K) : CTv l yX9_layRows cX9_layRows 7 none rm_X9_layRows (fun ad => [.ref (ad 0), .int v1, .int v2]) M K := by
  refine rw_entv (by decide +kernel) (fun ad => Nat.le_of_ble_eq_true rfl) (fun p e s m args below meth c D cy ad C => ?_)
  change rw_W p l e _ s m args below meth c D cy ad 7 0 0 _ 0 [(0, .ref (ad 0)), (1, .int v1), (2, .int v2)] [] M
  unfold f_X9_layRows at h
  refine r_iconst (v := (0 : Int32)) C dX9_layRows_0 rfl ?_
  refine r_istore_n C [(3, .int _), (0, .ref _), (1, .int _), (2, .int _)] dX9_layRows_1 rfl (by decide) rfl ?_
  obtain ⟨n2, h⟩ := h
  refine r_sub [1, 2, 3, 0] rfl (mL_X9_layRows_2 C (fun M_7 h => ?_) n2 _ _ h)
  exact r_vret C dX9_layRows_96 h
def L_X9_swaps_2 (v1 : Int32) (v2 : Int32) (X62 : Mem → Prop) (K : Mem → Prop) : Nat → Int32 → Mem → Prop
  | 0, _, _ => False
  | n + 1, v3, M => (((10 : Int32) ≤ v3 → X62 M) ∧ (¬ (10 : Int32) ≤ v3 → vp_in (((10 : Int32) * v1) + v3) 100 ∧ ∀ x4 : Int64, x4 = gL M 11 (((10 : Int32) * v1) + v3) → vp_in (((10 : Int32) * v2) + v3) 100 ∧ ∀ M_2 : Mem, M_2 = wL M 11 (((10 : Int32) * v1) + v3).toNatClampNeg (gL M 11 (((10 : Int32) * v2) + v3)) → ∀ M_3 : Mem, M_3 = wL M_2 11 (((10 : Int32) * v2) + v3).toNatClampNeg x4 → L_X9_swaps_2 v1 v2 X62 K n (v3 + (1 : Int32)) M_3))

set_option maxHeartbeats 1000000 in
set_option maxRecDepth 10000 in
theorem mL_X9_swaps_2 (C : rw_C p s m meth c cX9_swaps 6 RX9 none D cy ad) {v1 : Int32} {v2 : Int32} {X62 : Mem → Prop} {K : Mem → Prop} (hX62 : ∀  (M : Mem), X62 M → rw_W p l e rm_X9_swaps s m args below meth c D cy ad 6 0 0 (rw_Qv below args s D cy ad K) 62 [] [] M) : ∀ (n : Nat) (v3 : Int32) (M : Mem), L_X9_swaps_2 v1 v2 X62 K n v3 M → rw_W p l e rm_X9_swaps s m args below meth c D cy ad 6 0 0 (rw_Qv below args s D cy ad K) 2 [(0, .ref (ad 0)), (1, .int v1), (2, .int v2), (3, .int v3)] [] M := by
  intro n
  induction n with
  | zero => intro v3 M h; exact h.elim
  | succ n ih =>
    intro v3 M h
    refine r_iload_n C 3 dX9_swaps_2 rfl rfl ?_
    refine r_bipush (v := (10 : Int32)) C dX9_swaps_3 rfl ?_
    refine r_icmp_ge C 62 dX9_swaps_5 (by decide) (fun hc => ?_) (fun hc => ?_)
    · replace h := h.1 hc
      exact r_sub [] rfl (hX62 _ h)
    · replace h := h.2 hc
      refine r_aload_n C 0 dX9_swaps_8 rfl rfl ?_
      refine gX9_44 C dX9_swaps_9 ?_
      refine r_bipush (v := (10 : Int32)) C dX9_swaps_12 rfl ?_
      refine r_iload_n C 1 dX9_swaps_14 rfl rfl ?_
      refine r_imul C dX9_swaps_15 ?_
      refine r_iload_n C 3 dX9_swaps_16 rfl rfl ?_
      refine r_iadd C dX9_swaps_17 ?_
      obtain ⟨q, h⟩ := h
      refine r_lald C sh_11 q dX9_swaps_18 ?_
      refine r_lstore C [(4, .long _), (0, .ref _), (1, .int _), (2, .int _), (3, .int _)] dX9_swaps_19 (by decide) rfl ?_
      replace h := h _ rfl
      refine r_aload_n C 1 dX9_swaps_21 rfl rfl ?_
      refine gX9_44 C dX9_swaps_22 ?_
      refine r_bipush (v := (10 : Int32)) C dX9_swaps_25 rfl ?_
      refine r_iload_n C 2 dX9_swaps_27 rfl rfl ?_
      refine r_imul C dX9_swaps_28 ?_
      refine r_iload_n C 4 dX9_swaps_29 rfl rfl ?_
      refine r_iadd C dX9_swaps_30 ?_
      refine r_aload_n C 1 dX9_swaps_31 rfl rfl ?_
      refine gX9_44 C dX9_swaps_32 ?_
      refine r_bipush (v := (10 : Int32)) C dX9_swaps_35 rfl ?_
      refine r_iload_n C 3 dX9_swaps_37 rfl rfl ?_
      refine r_imul C dX9_swaps_38 ?_
      refine r_iload_n C 4 dX9_swaps_39 rfl rfl ?_
      refine r_iadd C dX9_swaps_40 ?_
      obtain ⟨q_2, h⟩ := h
      refine r_lald C sh_11 q_2 dX9_swaps_41 ?_
      refine r_last C sh_11 q dX9_swaps_42 ?_
      replace h := h _ rfl
      refine r_aload_n C 1 dX9_swaps_43 rfl rfl ?_
      refine gX9_44 C dX9_swaps_44 ?_
      refine r_bipush (v := (10 : Int32)) C dX9_swaps_47 rfl ?_
      refine r_iload_n C 3 dX9_swaps_49 rfl rfl ?_
      refine r_imul C dX9_swaps_50 ?_
      refine r_iload_n C 4 dX9_swaps_51 rfl rfl ?_
      refine r_iadd C dX9_swaps_52 ?_
      refine r_lload C 0 dX9_swaps_53 rfl ?_
      refine r_last C sh_11 q_2 dX9_swaps_55 ?_
      replace h := h _ rfl
      refine r_iinc C 4 (v := _) [(3, .int _), (4, .long _), (0, .ref _), (1, .int _), (2, .int _)] dX9_swaps_56 rfl rfl (by decide) rfl ?_
      refine r_goto C 2 dX9_swaps_59 (by decide) ?_
      exact r_sub [2, 3, 4, 0] rfl (ih _ _ h)

def f_X9_swaps (v1 : Int32) (v2 : Int32) (M : Mem) (K : Mem → Prop) : Prop := (∃ k2 : Nat, L_X9_swaps_2 v1 v2 (fun  (M_4 : Mem) => K M_4) K k2 (0 : Int32) M)

set_option maxHeartbeats 1000000 in
set_option maxRecDepth 10000 in
theorem m_X9_swaps (l : Launch) {v1 : Int32} {v2 : Int32}  {M : Mem} {K : Mem → Prop} (h : f_X9_swaps v1 v2 M K) : CTv l yX9_swaps cX9_swaps 6 none rm_X9_swaps (fun ad => [.ref (ad 0), .int v1, .int v2]) M K := by
  refine rw_entv (by decide +kernel) (fun ad => Nat.le_of_ble_eq_true rfl) (fun p e s m args below meth c D cy ad C => ?_)
  change rw_W p l e _ s m args below meth c D cy ad 6 0 0 _ 0 [(0, .ref (ad 0)), (1, .int v1), (2, .int v2)] [] M
  unfold f_X9_swaps at h
  refine r_iconst (v := (0 : Int32)) C dX9_swaps_0 rfl ?_
  refine r_istore_n C [(3, .int _), (0, .ref _), (1, .int _), (2, .int _)] dX9_swaps_1 rfl (by decide) rfl ?_
  obtain ⟨n2, h⟩ := h
  refine r_sub [1, 2, 3, 0] rfl (mL_X9_swaps_2 C (fun M_4 h => ?_) n2 _ _ h)
  exact r_vret C dX9_swaps_62 h
set_option maxHeartbeats 1000000 in
set_option maxRecDepth 10000 in
theorem mD_X9_common_3 (C : rw_C p s m meth c cX9_common 10 RX9 (some .long) D cy ad) {Q : State → Prop} {st : List Value} {M : Mem} {v0 : Int64} {v2 : Int64} {y0 y1 : Int64} (kk : rw_W p l e R s m args below meth c D cy ad 10 0 0 Q 12 [(0, .long v0), (2, .long v2)] (.long (if y1 ≤ y0 then v0 else (-v0)) :: st) M) : rw_W p l e R s m args below meth c D cy ad 10 0 0 Q 3 [(0, .long v0), (2, .long v2)] (.int (lg_cmp y0 y1) :: st) M := by
  refine r_if_ge C 11 dX9_common_3 (by decide) (fun z0 => ?_) (fun z0 => ?_)
  · have z0 : y1 ≤ y0 := ((lg_cmp_ge _ _).mp z0)
    refine r_lload_n C 0 dX9_common_11 rfl rfl ?_
    first | rw [if_pos z0] at kk | rw [if_neg (fun q9 => q9 z0)] at kk
    exact kk
  · have z0 : ¬ y1 ≤ y0 := (fun q9 => z0 ((lg_cmp_ge _ _).mpr q9))
    refine r_lload_n C 0 dX9_common_6 rfl rfl ?_
    refine r_lneg C dX9_common_7 ?_
    refine r_goto C 12 dX9_common_8 (by decide) ?_
    first | rw [if_neg z0] at kk | rw [if_neg (fun q9 => q9 z0)] at kk
    exact kk

set_option maxHeartbeats 1000000 in
set_option maxRecDepth 10000 in
theorem mD_X9_common_17 (C : rw_C p s m meth c cX9_common 10 RX9 (some .long) D cy ad) {Q : State → Prop} {st : List Value} {M : Mem} {v4 : Int64} {v0 : Int64} {v2 : Int64} {y0 y1 : Int64} (kk : rw_W p l e R s m args below meth c D cy ad 10 0 0 Q 26 [(4, .long v4), (0, .long v0), (2, .long v2)] (.long (if y1 ≤ y0 then v2 else (-v2)) :: st) M) : rw_W p l e R s m args below meth c D cy ad 10 0 0 Q 17 [(4, .long v4), (0, .long v0), (2, .long v2)] (.int (lg_cmp y0 y1) :: st) M := by
  refine r_if_ge C 25 dX9_common_17 (by decide) (fun z0 => ?_) (fun z0 => ?_)
  · have z0 : y1 ≤ y0 := ((lg_cmp_ge _ _).mp z0)
    refine r_lload_n C 2 dX9_common_25 rfl rfl ?_
    first | rw [if_pos z0] at kk | rw [if_neg (fun q9 => q9 z0)] at kk
    exact kk
  · have z0 : ¬ y1 ≤ y0 := (fun q9 => z0 ((lg_cmp_ge _ _).mpr q9))
    refine r_lload_n C 2 dX9_common_20 rfl rfl ?_
    refine r_lneg C dX9_common_21 ?_
    refine r_goto C 26 dX9_common_22 (by decide) ?_
    first | rw [if_neg z0] at kk | rw [if_neg (fun q9 => q9 z0)] at kk
    exact kk

def L_X9_common_28 (X53 : Int64 → Mem → Prop) (K : Int64 → Mem → Prop) : Nat → Int64 → Int64 → Mem → Prop
  | 0, _, _, _ => False
  | n + 1, v4, v6, M => ((v6 = (0 : Int64) → X53 v4 M) ∧ (¬ v6 = (0 : Int64) → (¬ v6 = 0) ∧ ∀ x8 : Int64, x8 = lrem v4 v6 → L_X9_common_28 X53 K n v6 x8 M))

set_option maxHeartbeats 1000000 in
set_option maxRecDepth 10000 in
theorem mL_X9_common_28 (C : rw_C p s m meth c cX9_common 10 RX9 (some .long) D cy ad) {X53 : Int64 → Mem → Prop} {K : Int64 → Mem → Prop} (hX53 : ∀ (u4 : Int64) (M : Mem), X53 u4 M → rw_W p l e rm_X9_common s m args below meth c D cy ad 10 0 0 (rw_Ql below args s D cy ad K) 53 [(4, .long u4)] [] M) : ∀ (n : Nat) (v4 : Int64) (v6 : Int64) (M : Mem), L_X9_common_28 X53 K n v4 v6 M → rw_W p l e rm_X9_common s m args below meth c D cy ad 10 0 0 (rw_Ql below args s D cy ad K) 28 [(4, .long v4), (6, .long v6)] [] M := by
  intro n
  induction n with
  | zero => intro v4 v6 M h; exact h.elim
  | succ n ih =>
    intro v4 v6 M h
    refine r_lload C 1 dX9_common_28 rfl ?_
    refine r_lconst (v := (0 : Int64)) C dX9_common_30 rfl ?_
    refine r_lcmp C dX9_common_31 ?_
    refine r_if_eq C 53 dX9_common_32 (by decide) (fun hc => ?_) (fun hc => ?_)
    · replace h := h.1 ((lg_cmp_eq _ _).mp hc)
      exact r_sub [0] rfl (hX53 _ _ h)
    · replace h := h.2 (fun q9 => hc ((lg_cmp_eq _ _).mpr q9))
      refine r_lload C 0 dX9_common_35 rfl ?_
      refine r_lload C 1 dX9_common_37 rfl ?_
      obtain ⟨q, h⟩ := h
      refine r_lrem C dX9_common_39 q ?_
      refine r_lstore C [(8, .long _), (4, .long _), (6, .long _)] dX9_common_40 (by decide) rfl ?_
      replace h := h _ rfl
      refine r_lload C 2 dX9_common_42 rfl ?_
      refine r_lstore C [(4, .long _), (8, .long _), (6, .long _)] dX9_common_44 (by decide) rfl ?_
      refine r_lload C 1 dX9_common_46 rfl ?_
      refine r_lstore C [(6, .long _), (4, .long _), (8, .long _)] dX9_common_48 (by decide) rfl ?_
      refine r_goto C 28 dX9_common_50 (by decide) ?_
      exact r_sub [1, 0] rfl (ih _ _ _ h)

def f_X9_common (v0 : Int64) (v2 : Int64) (M : Mem) (K : Int64 → Mem → Prop) : Prop := ∀ x4 : Int64, x4 = (if (0 : Int64) ≤ v0 then v0 else (-v0)) → ∀ x6 : Int64, x6 = (if (0 : Int64) ≤ v2 then v2 else (-v2)) → (∃ k28 : Nat, L_X9_common_28 (fun (v4_2 : Int64) (M_2 : Mem) => K v4_2 M_2) K k28 x4 x6 M)

set_option maxHeartbeats 1000000 in
set_option maxRecDepth 10000 in
theorem m_X9_common (l : Launch) {v0 : Int64} {v2 : Int64}  {M : Mem} {K : Int64 → Mem → Prop} (h : f_X9_common v0 v2 M K) : CTl l yX9_common cX9_common 10 (some .long) rm_X9_common (fun ad => [.long v0, .long v2]) M K := by
  refine rw_entl (by decide +kernel) (fun ad => Nat.le_of_ble_eq_true rfl) (fun p e s m args below meth c D cy ad C => ?_)
  change rw_W p l e _ s m args below meth c D cy ad 10 0 0 _ 0 [(0, .long v0), (2, .long v2)] [] M
  unfold f_X9_common at h
  refine r_lload_n C 0 dX9_common_0 rfl rfl ?_
  refine r_lconst (v := (0 : Int64)) C dX9_common_1 rfl ?_
  refine r_lcmp C dX9_common_2 ?_
  refine mD_X9_common_3 C ?_
  refine r_lstore C [(4, .long _), (0, .long _), (2, .long _)] dX9_common_12 (by decide) rfl ?_
  replace h := h _ rfl
  refine r_lload_n C 2 dX9_common_14 rfl rfl ?_
  refine r_lconst (v := (0 : Int64)) C dX9_common_15 rfl ?_
  refine r_lcmp C dX9_common_16 ?_
  refine mD_X9_common_17 C ?_
  refine r_lstore C [(6, .long _), (4, .long _), (0, .long _), (2, .long _)] dX9_common_26 (by decide) rfl ?_
  replace h := h _ rfl
  obtain ⟨n28, h⟩ := h
  refine r_sub [1, 0] rfl (mL_X9_common_28 C (fun v4_2 M_2 h => ?_) n28 _ _ _ h)
  refine r_lload C 0 dX9_common_53 rfl ?_
  exact r_lret C dX9_common_55 h
def L_X9_lessens_32 (v1 : Int32) (v2 : Int32) (v4 : Int64) (v6 : Int64) (X107 : Int64 → Mem → Prop) (K : Mem → Prop) : Nat → Int64 → Int32 → Mem → Prop
  | 0, _, _, _ => False
  | n + 1, v8, v10, M => (((10 : Int32) ≤ v10 → X107 v8 M) ∧ (¬ (10 : Int32) ≤ v10 → vp_in (((10 : Int32) * v1) + v10) 100 ∧ vp_in (((10 : Int32) * v2) + v10) 100 ∧ ∀ M_2 : Mem, M_2 = wL M 11 (((10 : Int32) * v1) + v10).toNatClampNeg (((gL M 11 (((10 : Int32) * v1) + v10)) * v4) - ((gL M 11 (((10 : Int32) * v2) + v10)) * v6)) → f_X9_common v8 (gL M_2 11 (((10 : Int32) * v1) + v10)) M_2 (fun (r : Int64) (M_3 : Mem) => L_X9_lessens_32 v1 v2 v4 v6 X107 K n r (v10 + (1 : Int32)) M_3)))

set_option maxHeartbeats 1000000 in
set_option maxRecDepth 10000 in
theorem mL_X9_lessens_32 (C : rw_C p s m meth c cX9_lessens 11 RX9 none D cy ad) {v1 : Int32} {v2 : Int32} {v4 : Int64} {v6 : Int64} {X107 : Int64 → Mem → Prop} {K : Mem → Prop} (hX107 : ∀ (u8 : Int64) (M : Mem), X107 u8 M → rw_W p l e rm_X9_lessens s m args below meth c D cy ad 11 0 0 (rw_Qv below args s D cy ad K) 107 [(0, .ref (ad 0)), (1, .int v1), (8, .long u8)] [] M) : ∀ (n : Nat) (v8 : Int64) (v10 : Int32) (M : Mem), L_X9_lessens_32 v1 v2 v4 v6 X107 K n v8 v10 M → rw_W p l e rm_X9_lessens s m args below meth c D cy ad 11 0 0 (rw_Qv below args s D cy ad K) 32 [(0, .ref (ad 0)), (1, .int v1), (2, .int v2), (4, .long v4), (6, .long v6), (8, .long v8), (10, .int v10)] [] M := by
  intro n
  induction n with
  | zero => intro v8 v10 M h; exact h.elim
  | succ n ih =>
    intro v8 v10 M h
    refine r_iload C 6 dX9_lessens_32 rfl ?_
    refine r_bipush (v := (10 : Int32)) C dX9_lessens_34 rfl ?_
    refine r_icmp_ge C 107 dX9_lessens_36 (by decide) (fun hc => ?_) (fun hc => ?_)
    · replace h := h.1 hc
      exact r_sub [0, 1, 5] rfl (hX107 _ _ h)
    · replace h := h.2 hc
      refine r_aload_n C 0 dX9_lessens_39 rfl rfl ?_
      refine gX9_44 C dX9_lessens_40 ?_
      refine r_bipush (v := (10 : Int32)) C dX9_lessens_43 rfl ?_
      refine r_iload_n C 1 dX9_lessens_45 rfl rfl ?_
      refine r_imul C dX9_lessens_46 ?_
      refine r_iload C 6 dX9_lessens_47 rfl ?_
      refine r_iadd C dX9_lessens_49 ?_
      refine r_aload_n C 0 dX9_lessens_50 rfl rfl ?_
      refine gX9_44 C dX9_lessens_51 ?_
      refine r_bipush (v := (10 : Int32)) C dX9_lessens_54 rfl ?_
      refine r_iload_n C 1 dX9_lessens_56 rfl rfl ?_
      refine r_imul C dX9_lessens_57 ?_
      refine r_iload C 6 dX9_lessens_58 rfl ?_
      refine r_iadd C dX9_lessens_60 ?_
      obtain ⟨q_3, h⟩ := h
      refine r_lald C sh_11 q_3 dX9_lessens_61 ?_
      refine r_lload C 3 dX9_lessens_62 rfl ?_
      refine r_lmul C dX9_lessens_64 ?_
      refine r_aload_n C 0 dX9_lessens_65 rfl rfl ?_
      refine gX9_44 C dX9_lessens_66 ?_
      refine r_bipush (v := (10 : Int32)) C dX9_lessens_69 rfl ?_
      refine r_iload_n C 2 dX9_lessens_71 rfl rfl ?_
      refine r_imul C dX9_lessens_72 ?_
      refine r_iload C 6 dX9_lessens_73 rfl ?_
      refine r_iadd C dX9_lessens_75 ?_
      obtain ⟨q_4, h⟩ := h
      refine r_lald C sh_11 q_4 dX9_lessens_76 ?_
      refine r_lload C 4 dX9_lessens_77 rfl ?_
      refine r_lmul C dX9_lessens_79 ?_
      refine r_lsub C dX9_lessens_80 ?_
      refine r_last C sh_11 q_3 dX9_lessens_81 ?_
      replace h := h _ rfl
      refine r_lload C 5 dX9_lessens_82 rfl ?_
      refine r_aload_n C 0 dX9_lessens_84 rfl rfl ?_
      refine gX9_44 C dX9_lessens_85 ?_
      refine r_bipush (v := (10 : Int32)) C dX9_lessens_88 rfl ?_
      refine r_iload_n C 1 dX9_lessens_90 rfl rfl ?_
      refine r_imul C dX9_lessens_91 ?_
      refine r_iload C 6 dX9_lessens_92 rfl ?_
      refine r_iadd C dX9_lessens_94 ?_
      refine r_lald C sh_11 q_3 dX9_lessens_95 ?_
      refine cX9_306 C (m_X9_common l h) ⟨Nat.le_of_ble_eq_true rfl, Nat.le_of_ble_eq_true rfl⟩ (Nat.le_of_ble_eq_true rfl) ⟨Nat.le_refl 0, Nat.le_refl 0⟩ dX9_lessens_96 (fun r M_3 h => ?_)
      refine r_lstore C [(8, .long _), (0, .ref _), (1, .int _), (2, .int _), (4, .long _), (6, .long _), (10, .int _)] dX9_lessens_99 (by decide) rfl ?_
      refine r_iinc C 6 (v := _) [(10, .int _), (8, .long _), (0, .ref _), (1, .int _), (2, .int _), (4, .long _), (6, .long _)] dX9_lessens_101 rfl rfl (by decide) rfl ?_
      refine r_goto C 32 dX9_lessens_104 (by decide) ?_
      exact r_sub [2, 3, 4, 5, 6, 1, 0] rfl (ih _ _ _ h)

def L_X9_lessens_110 (v1 : Int32) (v8 : Int64) (X147 : Mem → Prop) (K : Mem → Prop) : Nat → Int32 → Mem → Prop
  | 0, _, _ => False
  | n + 1, v10, M => (((10 : Int32) ≤ v10 → X147 M) ∧ (¬ (10 : Int32) ≤ v10 → ((v8 ≤ (1 : Int64) → X147 M) ∧ (¬ v8 ≤ (1 : Int64) → vp_in (((10 : Int32) * v1) + v10) 100 ∧ (¬ v8 = 0) ∧ ∀ M_5 : Mem, M_5 = wL M 11 (((10 : Int32) * v1) + v10).toNatClampNeg ((gL M 11 (((10 : Int32) * v1) + v10)) / v8) → L_X9_lessens_110 v1 v8 X147 K n (v10 + (1 : Int32)) M_5))))

set_option maxHeartbeats 1000000 in
set_option maxRecDepth 10000 in
theorem mL_X9_lessens_110 (C : rw_C p s m meth c cX9_lessens 11 RX9 none D cy ad) {v1 : Int32} {v8 : Int64} {X147 : Mem → Prop} {K : Mem → Prop} (hX147 : ∀  (M : Mem), X147 M → rw_W p l e rm_X9_lessens s m args below meth c D cy ad 11 0 0 (rw_Qv below args s D cy ad K) 147 [] [] M) : ∀ (n : Nat) (v10 : Int32) (M : Mem), L_X9_lessens_110 v1 v8 X147 K n v10 M → rw_W p l e rm_X9_lessens s m args below meth c D cy ad 11 0 0 (rw_Qv below args s D cy ad K) 110 [(0, .ref (ad 0)), (1, .int v1), (8, .long v8), (10, .int v10)] [] M := by
  intro n
  induction n with
  | zero => intro v10 M h; exact h.elim
  | succ n ih =>
    intro v10 M h
    refine r_iload C 3 dX9_lessens_110 rfl ?_
    refine r_bipush (v := (10 : Int32)) C dX9_lessens_112 rfl ?_
    refine r_icmp_ge C 147 dX9_lessens_114 (by decide) (fun hc => ?_) (fun hc => ?_)
    · replace h := h.1 hc
      exact r_sub [] rfl (hX147 _ h)
    · replace h := h.2 hc
      refine r_lload C 2 dX9_lessens_117 rfl ?_
      refine r_lconst (v := (1 : Int64)) C dX9_lessens_119 rfl ?_
      refine r_lcmp C dX9_lessens_120 ?_
      refine r_if_le C 147 dX9_lessens_121 (by decide) (fun hc => ?_) (fun hc => ?_)
      · replace h := h.1 ((lg_cmp_le _ _).mp hc)
        exact r_sub [] rfl (hX147 _ h)
      · replace h := h.2 (fun q9 => hc ((lg_cmp_le _ _).mpr q9))
        refine r_aload_n C 0 dX9_lessens_124 rfl rfl ?_
        refine gX9_44 C dX9_lessens_125 ?_
        refine r_bipush (v := (10 : Int32)) C dX9_lessens_128 rfl ?_
        refine r_iload_n C 1 dX9_lessens_130 rfl rfl ?_
        refine r_imul C dX9_lessens_131 ?_
        refine r_iload C 3 dX9_lessens_132 rfl ?_
        refine r_iadd C dX9_lessens_134 ?_
        refine r_dup2_11 C dX9_lessens_135 rfl rfl ?_
        obtain ⟨q_5, h⟩ := h
        refine r_lald C sh_11 q_5 dX9_lessens_136 ?_
        refine r_lload C 2 dX9_lessens_137 rfl ?_
        obtain ⟨q_6, h⟩ := h
        refine r_ldiv C dX9_lessens_139 q_6 ?_
        refine r_last C sh_11 q_5 dX9_lessens_140 ?_
        replace h := h _ rfl
        refine r_iinc C 3 (v := _) [(10, .int _), (0, .ref _), (1, .int _), (8, .long _)] dX9_lessens_141 rfl rfl (by decide) rfl ?_
        refine r_goto C 110 dX9_lessens_144 (by decide) ?_
        exact r_sub [1, 2, 3, 0] rfl (ih _ _ h)

def f_X9_lessens (v1 : Int32) (v2 : Int32) (v3 : Int32) (M : Mem) (K : Mem → Prop) : Prop := vp_in (((10 : Int32) * v2) + v3) 100 ∧ ∀ x4 : Int64, x4 = gL M 11 (((10 : Int32) * v2) + v3) → vp_in (((10 : Int32) * v1) + v3) 100 ∧ ∀ x6 : Int64, x6 = gL M 11 (((10 : Int32) * v1) + v3) → ∀ x8 : Int64, x8 = (0 : Int64) → (∃ k32 : Nat, L_X9_lessens_32 v1 v2 x4 x6 (fun (v8_2 : Int64) (M_4 : Mem) => (∃ k110 : Nat, L_X9_lessens_110 v1 v8_2 (fun  (M_6 : Mem) => K M_6) K k110 (0 : Int32) M_4)) K k32 x8 (0 : Int32) M)

set_option maxHeartbeats 1000000 in
set_option maxRecDepth 10000 in
theorem m_X9_lessens (l : Launch) {v1 : Int32} {v2 : Int32} {v3 : Int32}  {M : Mem} {K : Mem → Prop} (h : f_X9_lessens v1 v2 v3 M K) : CTv l yX9_lessens cX9_lessens 11 none rm_X9_lessens (fun ad => [.ref (ad 0), .int v1, .int v2, .int v3]) M K := by
  refine rw_entv (by decide +kernel) (fun ad => Nat.le_of_ble_eq_true rfl) (fun p e s m args below meth c D cy ad C => ?_)
  change rw_W p l e _ s m args below meth c D cy ad 11 0 0 _ 0 [(0, .ref (ad 0)), (1, .int v1), (2, .int v2), (3, .int v3)] [] M
  unfold f_X9_lessens at h
  refine r_aload_n C 0 dX9_lessens_0 rfl rfl ?_
  refine gX9_44 C dX9_lessens_1 ?_
  refine r_bipush (v := (10 : Int32)) C dX9_lessens_4 rfl ?_
  refine r_iload_n C 2 dX9_lessens_6 rfl rfl ?_
  refine r_imul C dX9_lessens_7 ?_
  refine r_iload_n C 3 dX9_lessens_8 rfl rfl ?_
  refine r_iadd C dX9_lessens_9 ?_
  obtain ⟨q, h⟩ := h
  refine r_lald C sh_11 q dX9_lessens_10 ?_
  refine r_lstore C [(4, .long _), (0, .ref _), (1, .int _), (2, .int _), (3, .int _)] dX9_lessens_11 (by decide) rfl ?_
  replace h := h _ rfl
  refine r_aload_n C 1 dX9_lessens_13 rfl rfl ?_
  refine gX9_44 C dX9_lessens_14 ?_
  refine r_bipush (v := (10 : Int32)) C dX9_lessens_17 rfl ?_
  refine r_iload_n C 2 dX9_lessens_19 rfl rfl ?_
  refine r_imul C dX9_lessens_20 ?_
  refine r_iload_n C 4 dX9_lessens_21 rfl rfl ?_
  refine r_iadd C dX9_lessens_22 ?_
  obtain ⟨q_2, h⟩ := h
  refine r_lald C sh_11 q_2 dX9_lessens_23 ?_
  refine r_lstore C [(6, .long _), (4, .long _), (0, .ref _), (1, .int _), (2, .int _), (3, .int _)] dX9_lessens_24 (by decide) rfl ?_
  replace h := h _ rfl
  refine r_lconst (v := (0 : Int64)) C dX9_lessens_26 rfl ?_
  refine r_lstore C [(8, .long _), (6, .long _), (4, .long _), (0, .ref _), (1, .int _), (2, .int _), (3, .int _)] dX9_lessens_27 (by decide) rfl ?_
  replace h := h _ rfl
  refine r_iconst (v := (0 : Int32)) C dX9_lessens_29 rfl ?_
  refine r_istore C [(10, .int _), (8, .long _), (6, .long _), (4, .long _), (0, .ref _), (1, .int _), (2, .int _), (3, .int _)] dX9_lessens_30 (by decide) rfl ?_
  obtain ⟨n32, h⟩ := h
  refine r_sub [4, 5, 6, 3, 2, 1, 0] rfl (mL_X9_lessens_32 C (fun v8_2 M_4 h => ?_) n32 _ _ _ h)
  refine r_iconst (v := (0 : Int32)) C dX9_lessens_107 rfl ?_
  refine r_istore C [(10, .int _), (0, .ref _), (1, .int _), (8, .long _)] dX9_lessens_108 (by decide) rfl ?_
  obtain ⟨n110, h⟩ := h
  refine r_sub [1, 2, 3, 0] rfl (mL_X9_lessens_110 C (fun M_6 h => ?_) n110 _ _ h)
  exact r_vret C dX9_lessens_147 h
def L_X9_eliminates_19 (v1 : Int32) (v2 : Int32) (X47 : Int32 → Mem → Prop) (K : Int32 → Mem → Prop) : Nat → Int32 → Mem → Prop
  | 0, _, _ => False
  | n + 1, v3, M => (((10 : Int32) ≤ v3 → X47 v3 M) ∧ (¬ (10 : Int32) ≤ v3 → vp_in (((10 : Int32) * v3) + v2) 100 ∧ ((¬ (gL M 11 (((10 : Int32) * v3) + v2)) = (0 : Int64) → X47 v3 M) ∧ ((gL M 11 (((10 : Int32) * v3) + v2)) = (0 : Int64) → L_X9_eliminates_19 v1 v2 X47 K n (v3 + (1 : Int32)) M))))

set_option maxHeartbeats 1000000 in
set_option maxRecDepth 10000 in
theorem mL_X9_eliminates_19 (C : rw_C p s m meth c cX9_eliminates 5 RX9 (some .int) D cy ad) {v1 : Int32} {v2 : Int32} {X47 : Int32 → Mem → Prop} {K : Int32 → Mem → Prop} (hX47 : ∀ (u3 : Int32) (M : Mem), X47 u3 M → rw_W p l e rm_X9_eliminates s m args below meth c D cy ad 5 0 0 (rw_Qi below args s D cy ad K) 47 [(0, .ref (ad 0)), (1, .int v1), (2, .int v2), (3, .int u3)] [] M) : ∀ (n : Nat) (v3 : Int32) (M : Mem), L_X9_eliminates_19 v1 v2 X47 K n v3 M → rw_W p l e rm_X9_eliminates s m args below meth c D cy ad 5 0 0 (rw_Qi below args s D cy ad K) 19 [(0, .ref (ad 0)), (1, .int v1), (2, .int v2), (3, .int v3)] [] M := by
  intro n
  induction n with
  | zero => intro v3 M h; exact h.elim
  | succ n ih =>
    intro v3 M h
    refine r_iload_n C 3 dX9_eliminates_19 rfl rfl ?_
    refine r_bipush (v := (10 : Int32)) C dX9_eliminates_20 rfl ?_
    refine r_icmp_ge C 47 dX9_eliminates_22 (by decide) (fun hc => ?_) (fun hc => ?_)
    · replace h := h.1 hc
      exact hX47 _ _ h
    · replace h := h.2 hc
      refine r_aload_n C 0 dX9_eliminates_25 rfl rfl ?_
      refine gX9_44 C dX9_eliminates_26 ?_
      refine r_bipush (v := (10 : Int32)) C dX9_eliminates_29 rfl ?_
      refine r_iload_n C 3 dX9_eliminates_31 rfl rfl ?_
      refine r_imul C dX9_eliminates_32 ?_
      refine r_iload_n C 2 dX9_eliminates_33 rfl rfl ?_
      refine r_iadd C dX9_eliminates_34 ?_
      obtain ⟨q_2, h⟩ := h
      refine r_lald C sh_11 q_2 dX9_eliminates_35 ?_
      refine r_lconst (v := (0 : Int64)) C dX9_eliminates_36 rfl ?_
      refine r_lcmp C dX9_eliminates_37 ?_
      refine r_if_ne C 47 dX9_eliminates_38 (by decide) (fun hc => ?_) (fun hc => ?_)
      · replace h := h.1 (fun q9 => hc ((lg_cmp_eq _ _).mpr q9))
        exact hX47 _ _ h
      · replace h := h.2 ((lg_cmp_eq _ _).mp hc)
        refine r_iinc C 3 (v := _) [(3, .int _), (0, .ref _), (1, .int _), (2, .int _)] dX9_eliminates_41 rfl rfl (by decide) rfl ?_
        refine r_goto C 19 dX9_eliminates_44 (by decide) ?_
        exact r_sub [1, 2, 3, 0] rfl (ih _ _ h)

def L_X9_eliminates_65 (v1 : Int32) (v2 : Int32) (X109 : Mem → Prop) (K : Int32 → Mem → Prop) : Nat → Int32 → Mem → Prop
  | 0, _, _ => False
  | n + 1, v4, M => (((10 : Int32) ≤ v4 → X109 M) ∧ (¬ (10 : Int32) ≤ v4 → ((v4 = v1 → L_X9_eliminates_65 v1 v2 X109 K n (v4 + (1 : Int32)) M) ∧ (¬ v4 = v1 → vp_in (((10 : Int32) * v4) + v2) 100 ∧ (((gL M 11 (((10 : Int32) * v4) + v2)) = (0 : Int64) → L_X9_eliminates_65 v1 v2 X109 K n (v4 + (1 : Int32)) M) ∧ (¬ (gL M 11 (((10 : Int32) * v4) + v2)) = (0 : Int64) → f_X9_lessens v4 v1 v2 M (fun (M_5 : Mem) => L_X9_eliminates_65 v1 v2 X109 K n (v4 + (1 : Int32)) M_5)))))))

set_option maxHeartbeats 1000000 in
set_option maxRecDepth 10000 in
theorem mL_X9_eliminates_65 (C : rw_C p s m meth c cX9_eliminates 5 RX9 (some .int) D cy ad) {v1 : Int32} {v2 : Int32} {X109 : Mem → Prop} {K : Int32 → Mem → Prop} (hX109 : ∀  (M : Mem), X109 M → rw_W p l e rm_X9_eliminates s m args below meth c D cy ad 5 0 0 (rw_Qi below args s D cy ad K) 109 [(0, .ref (ad 0)), (1, .int v1), (2, .int v2)] [] M) : ∀ (n : Nat) (v4 : Int32) (M : Mem), L_X9_eliminates_65 v1 v2 X109 K n v4 M → rw_W p l e rm_X9_eliminates s m args below meth c D cy ad 5 0 0 (rw_Qi below args s D cy ad K) 65 [(0, .ref (ad 0)), (1, .int v1), (2, .int v2), (4, .int v4)] [] M := by
  intro n
  induction n with
  | zero => intro v4 M h; exact h.elim
  | succ n ih =>
    intro v4 M h
    refine r_iload C 3 dX9_eliminates_65 rfl ?_
    refine r_bipush (v := (10 : Int32)) C dX9_eliminates_67 rfl ?_
    refine r_icmp_ge C 109 dX9_eliminates_69 (by decide) (fun hc => ?_) (fun hc => ?_)
    · replace h := h.1 hc
      exact r_sub [0, 1, 2] rfl (hX109 _ h)
    · replace h := h.2 hc
      refine r_iload C 3 dX9_eliminates_72 rfl ?_
      refine r_iload_n C 1 dX9_eliminates_74 rfl rfl ?_
      refine r_icmp_eq C 103 dX9_eliminates_75 (by decide) (fun hc => ?_) (fun hc => ?_)
      · replace h := h.1 hc
        refine r_iinc C 3 (v := _) [(4, .int _), (0, .ref _), (1, .int _), (2, .int _)] dX9_eliminates_103 rfl rfl (by decide) rfl ?_
        refine r_goto C 65 dX9_eliminates_106 (by decide) ?_
        exact r_sub [1, 2, 3, 0] rfl (ih _ _ h)
      · replace h := h.2 hc
        refine r_aload_n C 0 dX9_eliminates_78 rfl rfl ?_
        refine gX9_44 C dX9_eliminates_79 ?_
        refine r_bipush (v := (10 : Int32)) C dX9_eliminates_82 rfl ?_
        refine r_iload C 3 dX9_eliminates_84 rfl ?_
        refine r_imul C dX9_eliminates_86 ?_
        refine r_iload_n C 2 dX9_eliminates_87 rfl rfl ?_
        refine r_iadd C dX9_eliminates_88 ?_
        obtain ⟨q_3, h⟩ := h
        refine r_lald C sh_11 q_3 dX9_eliminates_89 ?_
        refine r_lconst (v := (0 : Int64)) C dX9_eliminates_90 rfl ?_
        refine r_lcmp C dX9_eliminates_91 ?_
        refine r_if_eq C 103 dX9_eliminates_92 (by decide) (fun hc => ?_) (fun hc => ?_)
        · replace h := h.1 ((lg_cmp_eq _ _).mp hc)
          refine r_iinc C 3 (v := _) [(4, .int _), (0, .ref _), (1, .int _), (2, .int _)] dX9_eliminates_103 rfl rfl (by decide) rfl ?_
          refine r_goto C 65 dX9_eliminates_106 (by decide) ?_
          exact r_sub [1, 2, 3, 0] rfl (ih _ _ h)
        · replace h := h.2 (fun q9 => hc ((lg_cmp_eq _ _).mpr q9))
          refine r_aload_n C 0 dX9_eliminates_95 rfl rfl ?_
          refine r_iload C 3 dX9_eliminates_96 rfl ?_
          refine r_iload_n C 1 dX9_eliminates_98 rfl rfl ?_
          refine r_iload_n C 2 dX9_eliminates_99 rfl rfl ?_
          refine cX9_313 C (m_X9_lessens l h) ⟨Nat.le_of_ble_eq_true rfl, Nat.le_of_ble_eq_true rfl⟩ (Nat.le_of_ble_eq_true rfl) ⟨Nat.le_refl 0, Nat.le_refl 0⟩ dX9_eliminates_100 (fun M_5 h => ?_)
          refine r_iinc C 3 (v := _) [(4, .int _), (0, .ref _), (1, .int _), (2, .int _)] dX9_eliminates_103 rfl rfl (by decide) rfl ?_
          refine r_goto C 65 dX9_eliminates_106 (by decide) ?_
          exact r_sub [1, 2, 3, 0] rfl (ih _ _ h)

def L_X9_eliminates_4 (X125 : Int32 → Mem → Prop) (K : Int32 → Mem → Prop) : Nat → Int32 → Int32 → Mem → Prop
  | 0, _, _, _ => False
  | n + 1, v1, v2, M => (((10 : Int32) ≤ v2 → X125 v1 M) ∧ (¬ (10 : Int32) ≤ v2 → vp_in v2 10 ∧ ∀ M_2 : Mem, M_2 = wI M 13 v2.toNatClampNeg (-1 : Int32) → (∃ k19 : Nat, L_X9_eliminates_19 v1 v2 (fun (v3_2 : Int32) (M_3 : Mem) => ((¬ v3_2 = (10 : Int32) → f_X9_swaps v3_2 v1 M_3 (fun (M_4 : Mem) => (∃ k65 : Nat, L_X9_eliminates_65 v1 v2 (fun  (M_6 : Mem) => vp_in v2 10 ∧ ∀ M_7 : Mem, M_7 = wI M_6 13 v2.toNatClampNeg v1 → L_X9_eliminates_4 X125 K n (v1 + (1 : Int32)) (v2 + (1 : Int32)) M_7) K k65 (0 : Int32) M_4))) ∧ (v3_2 = (10 : Int32) → L_X9_eliminates_4 X125 K n v1 (v2 + (1 : Int32)) M_3))) K k19 v1 M_2)))

set_option maxHeartbeats 1000000 in
set_option maxRecDepth 10000 in
theorem mL_X9_eliminates_4 (C : rw_C p s m meth c cX9_eliminates 5 RX9 (some .int) D cy ad) {X125 : Int32 → Mem → Prop} {K : Int32 → Mem → Prop} (hX125 : ∀ (u1 : Int32) (M : Mem), X125 u1 M → rw_W p l e rm_X9_eliminates s m args below meth c D cy ad 5 0 0 (rw_Qi below args s D cy ad K) 125 [(1, .int u1)] [] M) : ∀ (n : Nat) (v1 : Int32) (v2 : Int32) (M : Mem), L_X9_eliminates_4 X125 K n v1 v2 M → rw_W p l e rm_X9_eliminates s m args below meth c D cy ad 5 0 0 (rw_Qi below args s D cy ad K) 4 [(0, .ref (ad 0)), (1, .int v1), (2, .int v2)] [] M := by
  intro n
  induction n with
  | zero => intro v1 v2 M h; exact h.elim
  | succ n ih =>
    intro v1 v2 M h
    refine r_iload_n C 2 dX9_eliminates_4 rfl rfl ?_
    refine r_bipush (v := (10 : Int32)) C dX9_eliminates_5 rfl ?_
    refine r_icmp_ge C 125 dX9_eliminates_7 (by decide) (fun hc => ?_) (fun hc => ?_)
    · replace h := h.1 hc
      exact r_sub [1] rfl (hX125 _ _ h)
    · replace h := h.2 hc
      refine r_aload_n C 0 dX9_eliminates_10 rfl rfl ?_
      refine gX9_51 C dX9_eliminates_11 ?_
      refine r_iload_n C 2 dX9_eliminates_14 rfl rfl ?_
      refine r_iconst (v := (-1 : Int32)) C dX9_eliminates_15 rfl ?_
      obtain ⟨q, h⟩ := h
      refine r_iast C sh_13 q dX9_eliminates_16 ?_
      replace h := h _ rfl
      refine r_iload_n C 1 dX9_eliminates_17 rfl rfl ?_
      refine r_istore_n C [(3, .int _), (0, .ref _), (1, .int _), (2, .int _)] dX9_eliminates_18 rfl (by decide) rfl ?_
      obtain ⟨n19, h⟩ := h
      refine r_sub [1, 2, 3, 0] rfl (mL_X9_eliminates_19 C (fun v3_2 M_3 h => ?_) n19 _ _ h)
      refine r_iload_n C 3 dX9_eliminates_47 rfl rfl ?_
      refine r_bipush (v := (10 : Int32)) C dX9_eliminates_48 rfl ?_
      refine r_icmp_ne C 56 dX9_eliminates_50 (by decide) (fun hc => ?_) (fun hc => ?_)
      · replace h := h.1 hc
        refine r_aload_n C 0 dX9_eliminates_56 rfl rfl ?_
        refine r_iload_n C 3 dX9_eliminates_57 rfl rfl ?_
        refine r_iload_n C 1 dX9_eliminates_58 rfl rfl ?_
        refine cX9_310 C (m_X9_swaps l h) ⟨Nat.le_of_ble_eq_true rfl, Nat.le_of_ble_eq_true rfl⟩ (Nat.le_of_ble_eq_true rfl) ⟨Nat.le_refl 0, Nat.le_refl 0⟩ dX9_eliminates_59 (fun M_4 h => ?_)
        refine r_iconst (v := (0 : Int32)) C dX9_eliminates_62 rfl ?_
        refine r_istore C [(4, .int _), (0, .ref _), (1, .int _), (2, .int _), (3, .int _)] dX9_eliminates_63 (by decide) rfl ?_
        obtain ⟨n65, h⟩ := h
        refine r_sub [1, 2, 3, 0] rfl (mL_X9_eliminates_65 C (fun M_6 h => ?_) n65 _ _ h)
        refine r_aload_n C 0 dX9_eliminates_109 rfl rfl ?_
        refine gX9_51 C dX9_eliminates_110 ?_
        refine r_iload_n C 2 dX9_eliminates_113 rfl rfl ?_
        refine r_iload_n C 1 dX9_eliminates_114 rfl rfl ?_
        obtain ⟨q_4, h⟩ := h
        refine r_iast C sh_13 q_4 dX9_eliminates_115 ?_
        replace h := h _ rfl
        refine r_iinc C 1 (v := _) [(1, .int _), (0, .ref _), (2, .int _)] dX9_eliminates_116 rfl rfl (by decide) rfl ?_
        refine r_iinc C 2 (v := _) [(2, .int _), (1, .int _), (0, .ref _)] dX9_eliminates_119 rfl rfl (by decide) rfl ?_
        refine r_goto C 4 dX9_eliminates_122 (by decide) ?_
        exact r_sub [2, 1, 0] rfl (ih _ _ _ h)
      · replace h := h.2 hc
        refine r_goto C 119 dX9_eliminates_53 (by decide) ?_
        refine r_iinc C 2 (v := _) [(2, .int _), (0, .ref _), (1, .int _), (3, .int _)] dX9_eliminates_119 rfl rfl (by decide) rfl ?_
        refine r_goto C 4 dX9_eliminates_122 (by decide) ?_
        exact r_sub [1, 2, 0] rfl (ih _ _ _ h)

def f_X9_eliminates (M : Mem) (K : Int32 → Mem → Prop) : Prop := (∃ k4 : Nat, L_X9_eliminates_4 (fun (v1_2 : Int32) (M_8 : Mem) => K v1_2 M_8) K k4 (0 : Int32) (0 : Int32) M)

set_option maxHeartbeats 1000000 in
set_option maxRecDepth 10000 in
theorem m_X9_eliminates (l : Launch)   {M : Mem} {K : Int32 → Mem → Prop} (h : f_X9_eliminates M K) : CTi l yX9_eliminates cX9_eliminates 5 (some .int) rm_X9_eliminates (fun ad => [.ref (ad 0)]) M K := by
  refine rw_enti (by decide +kernel) (fun ad => Nat.le_of_ble_eq_true rfl) (fun p e s m args below meth c D cy ad C => ?_)
  change rw_W p l e _ s m args below meth c D cy ad 5 0 0 _ 0 [(0, .ref (ad 0))] [] M
  unfold f_X9_eliminates at h
  refine r_iconst (v := (0 : Int32)) C dX9_eliminates_0 rfl ?_
  refine r_istore_n C [(1, .int _), (0, .ref _)] dX9_eliminates_1 rfl (by decide) rfl ?_
  refine r_iconst (v := (0 : Int32)) C dX9_eliminates_2 rfl ?_
  refine r_istore_n C [(2, .int _), (1, .int _), (0, .ref _)] dX9_eliminates_3 rfl (by decide) rfl ?_
  obtain ⟨n4, h⟩ := h
  refine r_sub [2, 1, 0] rfl (mL_X9_eliminates_4 C (fun v1_2 M_8 h => ?_) n4 _ _ _ h)
  refine r_iload_n C 0 dX9_eliminates_125 rfl rfl ?_
  exact r_iret C dX9_eliminates_126 h
def f_X9_rank (M : Mem) (K : Int32 → Mem → Prop) : Prop := f_X9_layRows (0 : Int32) (gI M 4 (0 : Int32)) M (fun (M_2 : Mem) => f_X9_eliminates  M_2 (fun (r_2 : Int32) (M_3 : Mem) => K r_2 M_3))

set_option maxHeartbeats 1000000 in
set_option maxRecDepth 10000 in
theorem m_X9_rank (l : Launch)   {M : Mem} {K : Int32 → Mem → Prop} (h : f_X9_rank M K) : CTi l yX9_rank cX9_rank 1 (some .int) rm_X9_rank (fun ad => [.ref (ad 0)]) M K := by
  refine rw_enti (by decide +kernel) (fun ad => Nat.le_of_ble_eq_true rfl) (fun p e s m args below meth c D cy ad C => ?_)
  change rw_W p l e _ s m args below meth c D cy ad 1 0 0 _ 0 [(0, .ref (ad 0))] [] M
  unfold f_X9_rank at h
  refine r_aload_n C 0 dX9_rank_0 rfl rfl ?_
  refine r_iconst (v := (0 : Int32)) C dX9_rank_1 rfl ?_
  refine r_aload_n C 0 dX9_rank_2 rfl rfl ?_
  refine gX9_19 C dX9_rank_3 ?_
  refine r_iconst (v := (0 : Int32)) C dX9_rank_6 rfl ?_
  refine r_iald C sh_4 (vpd (i := (0 : Int32)) (n := 3) (by decide +kernel)) dX9_rank_7 ?_
  refine cX9_317 C (m_X9_layRows l h) ⟨Nat.le_of_ble_eq_true rfl, Nat.le_of_ble_eq_true rfl⟩ (Nat.le_of_ble_eq_true rfl) ⟨Nat.le_refl 0, Nat.le_refl 0⟩ dX9_rank_8 (fun M_2 h => ?_)
  refine r_aload_n C 0 dX9_rank_11 rfl rfl ?_
  refine cX9_320 C (m_X9_eliminates l h) ⟨Nat.le_of_ble_eq_true rfl, Nat.le_of_ble_eq_true rfl⟩ (Nat.le_of_ble_eq_true rfl) ⟨Nat.le_refl 0, Nat.le_refl 0⟩ dX9_rank_12 (fun r_2 M_3 h => ?_)
  exact r_iret C dX9_rank_15 h
def L_X9_about_92 (X113 : Int32 → Mem → Prop) (K : Int32 → Mem → Prop) : Nat → Int32 → Int32 → Mem → Prop
  | 0, _, _, _ => False
  | n + 1, v2, v3, M => (((10 : Int32) ≤ v3 → X113 v2 M) ∧ (¬ (10 : Int32) ≤ v3 → vp_in v3 30 ∧ ∀ x2 : Int32, x2 = v2 + (gI M 3 v3) → L_X9_about_92 X113 K n x2 (v3 + (1 : Int32)) M))

set_option maxHeartbeats 1000000 in
set_option maxRecDepth 10000 in
theorem mL_X9_about_92 (C : rw_C p s m meth c cX9_about 4 RX9 (some .int) D cy ad) {X113 : Int32 → Mem → Prop} {K : Int32 → Mem → Prop} (hX113 : ∀ (u2 : Int32) (M : Mem), X113 u2 M → rw_W p l e rm_X9_about s m args below meth c D cy ad 4 0 0 (rw_Qi below args s D cy ad K) 113 [(2, .int u2)] [] M) : ∀ (n : Nat) (v2 : Int32) (v3 : Int32) (M : Mem), L_X9_about_92 X113 K n v2 v3 M → rw_W p l e rm_X9_about s m args below meth c D cy ad 4 0 0 (rw_Qi below args s D cy ad K) 92 [(0, .ref (ad 0)), (2, .int v2), (3, .int v3)] [] M := by
  intro n
  induction n with
  | zero => intro v2 v3 M h; exact h.elim
  | succ n ih =>
    intro v2 v3 M h
    refine r_iload_n C 2 dX9_about_92 rfl rfl ?_
    refine r_bipush (v := (10 : Int32)) C dX9_about_93 rfl ?_
    refine r_icmp_ge C 113 dX9_about_95 (by decide) (fun hc => ?_) (fun hc => ?_)
    · replace h := h.1 hc
      exact r_sub [1] rfl (hX113 _ _ h)
    · replace h := h.2 hc
      refine r_iload_n C 1 dX9_about_98 rfl rfl ?_
      refine r_aload_n C 0 dX9_about_99 rfl rfl ?_
      refine gX9_16 C dX9_about_100 ?_
      refine r_iload_n C 2 dX9_about_103 rfl rfl ?_
      obtain ⟨q, h⟩ := h
      refine r_iald C sh_3 q dX9_about_104 ?_
      refine r_iadd C dX9_about_105 ?_
      refine r_istore_n C [(2, .int _), (0, .ref _), (3, .int _)] dX9_about_106 rfl (by decide) rfl ?_
      replace h := h _ rfl
      refine r_iinc C 2 (v := _) [(3, .int _), (2, .int _), (0, .ref _)] dX9_about_107 rfl rfl (by decide) rfl ?_
      refine r_goto C 92 dX9_about_110 (by decide) ?_
      exact r_sub [2, 1, 0] rfl (ih _ _ _ h)

def f_X9_about (v1 : Int32) (M : Mem) (K : Int32 → Mem → Prop) : Prop := ∀ M_2 : Mem, M_2 = wI M 0 0 (0 : Int32) → ((v1 = (0 : Int32) → f_X9_many (gI M_2 4 (0 : Int32)) M_2 (fun (r : Int32) (M_3 : Mem) => K r M_3)) ∧ (v1 = (1 : Int32) → f_X9_many (gI M_2 5 (0 : Int32)) M_2 (fun (r_2 : Int32) (M_4 : Mem) => K r_2 M_4)) ∧ (v1 = (2 : Int32) → K (gI M_2 4 (0 : Int32)) M_2) ∧ (v1 = (3 : Int32) → K (gI M_2 5 (0 : Int32)) M_2) ∧ (v1 = (4 : Int32) → (∃ k92 : Nat, L_X9_about_92 (fun (v2_2 : Int32) (M_5 : Mem) => K v2_2 M_5) K k92 (0 : Int32) (0 : Int32) M_2)) ∧ (v1 = (5 : Int32) → K (M_2.1 0 26) M_2) ∧ (v1 = (6 : Int32) → K (M_2.1 0 10) M_2) ∧ (v1 = (7 : Int32) → f_X9_rank  M_2 (fun (r_3 : Int32) (M_6 : Mem) => K r_3 M_6)) ∧ (¬ v1 = (0 : Int32) → ¬ v1 = (1 : Int32) → ¬ v1 = (2 : Int32) → ¬ v1 = (3 : Int32) → ¬ v1 = (4 : Int32) → ¬ v1 = (5 : Int32) → ¬ v1 = (6 : Int32) → ¬ v1 = (7 : Int32) → K (-1 : Int32) M_2))

set_option maxHeartbeats 1000000 in
set_option maxRecDepth 10000 in
theorem m_X9_about (l : Launch) {v1 : Int32}  {M : Mem} {K : Int32 → Mem → Prop} (h : f_X9_about v1 M K) : CTi l yX9_about cX9_about 4 (some .int) rm_X9_about (fun ad => [.ref (ad 0), .int v1]) M K := by
  refine rw_enti (by decide +kernel) (fun ad => Nat.le_of_ble_eq_true rfl) (fun p e s m args below meth c D cy ad C => ?_)
  change rw_W p l e _ s m args below meth c D cy ad 4 0 0 _ 0 [(0, .ref (ad 0)), (1, .int v1)] [] M
  unfold f_X9_about at h
  refine r_aload_n C 0 dX9_about_0 rfl rfl ?_
  refine r_iconst (v := (0 : Int32)) C dX9_about_1 rfl ?_
  refine pX9_133 C dX9_about_2 ?_
  replace h := h _ rfl
  refine r_iconst (v := (0 : Int32)) C dX9_about_5 rfl ?_
  refine r_istore_n C [(2, .int _), (0, .ref _), (1, .int _)] dX9_about_6 rfl (by decide) rfl ?_
  refine r_iload_n C 2 dX9_about_7 rfl rfl ?_
  refine r_cases (0 : Int32) (fun hc0 => ?_) (fun hc0 => ?_)
  · refine r_tabIn C 56 dX9_about_8 (off := 48) (by rw [hc0]; decide) (by rw [hc0]; decide) (by rw [hc0]; rfl) (by decide) ?_
    replace h := h.1 hc0
    refine r_aload_n C 1 dX9_about_56 rfl rfl ?_
    refine gX9_19 C dX9_about_57 ?_
    refine r_iconst (v := (0 : Int32)) C dX9_about_60 rfl ?_
    refine r_iald C sh_4 (vpd (i := (0 : Int32)) (n := 3) (by decide +kernel)) dX9_about_61 ?_
    refine cX9_266 C (m_X9_many l h) ⟨Nat.le_of_ble_eq_true rfl, Nat.le_of_ble_eq_true rfl⟩ (Nat.le_of_ble_eq_true rfl) ⟨Nat.le_refl 0, Nat.le_refl 0⟩ dX9_about_62 (fun r M_3 h => ?_)
    exact r_iret C dX9_about_65 h
  ·
    refine r_cases (1 : Int32) (fun hc1 => ?_) (fun hc1 => ?_)
    · refine r_tabIn C 66 dX9_about_8 (off := 58) (by rw [hc1]; decide) (by rw [hc1]; decide) (by rw [hc1]; rfl) (by decide) ?_
      replace h := h.2.1 hc1
      refine r_aload_n C 1 dX9_about_66 rfl rfl ?_
      refine gX9_22 C dX9_about_67 ?_
      refine r_iconst (v := (0 : Int32)) C dX9_about_70 rfl ?_
      refine r_iald C sh_5 (vpd (i := (0 : Int32)) (n := 3) (by decide +kernel)) dX9_about_71 ?_
      refine cX9_266 C (m_X9_many l h) ⟨Nat.le_of_ble_eq_true rfl, Nat.le_of_ble_eq_true rfl⟩ (Nat.le_of_ble_eq_true rfl) ⟨Nat.le_refl 0, Nat.le_refl 0⟩ dX9_about_72 (fun r_2 M_4 h => ?_)
      exact r_iret C dX9_about_75 h
    ·
      refine r_cases (2 : Int32) (fun hc2 => ?_) (fun hc2 => ?_)
      · refine r_tabIn C 76 dX9_about_8 (off := 68) (by rw [hc2]; decide) (by rw [hc2]; decide) (by rw [hc2]; rfl) (by decide) ?_
        replace h := h.2.2.1 hc2
        refine r_aload_n C 1 dX9_about_76 rfl rfl ?_
        refine gX9_19 C dX9_about_77 ?_
        refine r_iconst (v := (0 : Int32)) C dX9_about_80 rfl ?_
        refine r_iald C sh_4 (vpd (i := (0 : Int32)) (n := 3) (by decide +kernel)) dX9_about_81 ?_
        exact r_iret C dX9_about_82 h
      ·
        refine r_cases (3 : Int32) (fun hc3 => ?_) (fun hc3 => ?_)
        · refine r_tabIn C 83 dX9_about_8 (off := 75) (by rw [hc3]; decide) (by rw [hc3]; decide) (by rw [hc3]; rfl) (by decide) ?_
          replace h := h.2.2.2.1 hc3
          refine r_aload_n C 1 dX9_about_83 rfl rfl ?_
          refine gX9_22 C dX9_about_84 ?_
          refine r_iconst (v := (0 : Int32)) C dX9_about_87 rfl ?_
          refine r_iald C sh_5 (vpd (i := (0 : Int32)) (n := 3) (by decide +kernel)) dX9_about_88 ?_
          exact r_iret C dX9_about_89 h
        ·
          refine r_cases (4 : Int32) (fun hc4 => ?_) (fun hc4 => ?_)
          · refine r_tabIn C 90 dX9_about_8 (off := 82) (by rw [hc4]; decide) (by rw [hc4]; decide) (by rw [hc4]; rfl) (by decide) ?_
            replace h := h.2.2.2.2.1 hc4
            refine r_iconst (v := (0 : Int32)) C dX9_about_90 rfl ?_
            refine r_istore_n C [(3, .int _), (2, .int _), (0, .ref _), (1, .int _)] dX9_about_91 rfl (by decide) rfl ?_
            obtain ⟨n92, h⟩ := h
            refine r_sub [2, 1, 0] rfl (mL_X9_about_92 C (fun v2_2 M_5 h => ?_) n92 _ _ _ h)
            refine r_iload_n C 0 dX9_about_113 rfl rfl ?_
            exact r_iret C dX9_about_114 h
          ·
            refine r_cases (5 : Int32) (fun hc5 => ?_) (fun hc5 => ?_)
            · refine r_tabIn C 115 dX9_about_8 (off := 107) (by rw [hc5]; decide) (by rw [hc5]; decide) (by rw [hc5]; rfl) (by decide) ?_
              replace h := h.2.2.2.2.2.1 hc5
              refine r_aload_n C 1 dX9_about_115 rfl rfl ?_
              refine gX9_247 C dX9_about_116 ?_
              exact r_iret C dX9_about_119 h
            ·
              refine r_cases (6 : Int32) (fun hc6 => ?_) (fun hc6 => ?_)
              · refine r_tabIn C 120 dX9_about_8 (off := 112) (by rw [hc6]; decide) (by rw [hc6]; decide) (by rw [hc6]; rfl) (by decide) ?_
                replace h := h.2.2.2.2.2.2.1 hc6
                refine r_aload_n C 1 dX9_about_120 rfl rfl ?_
                refine gX9_148 C dX9_about_121 ?_
                exact r_iret C dX9_about_124 h
              ·
                refine r_cases (7 : Int32) (fun hc7 => ?_) (fun hc7 => ?_)
                · refine r_tabIn C 125 dX9_about_8 (off := 117) (by rw [hc7]; decide) (by rw [hc7]; decide) (by rw [hc7]; rfl) (by decide) ?_
                  replace h := h.2.2.2.2.2.2.2.1 hc7
                  refine r_aload_n C 1 dX9_about_125 rfl rfl ?_
                  refine cX9_269 C (m_X9_rank l h) ⟨Nat.le_of_ble_eq_true rfl, Nat.le_of_ble_eq_true rfl⟩ (Nat.le_of_ble_eq_true rfl) ⟨Nat.le_refl 0, Nat.le_refl 0⟩ dX9_about_126 (fun r_3 M_6 h => ?_)
                  exact r_iret C dX9_about_129 h
                ·
                  refine r_tabOut C 130 dX9_about_8 (tab_dflt 8 (fun j hj => by rcases (show j = 0 ∨ j = 1 ∨ j = 2 ∨ j = 3 ∨ j = 4 ∨ j = 5 ∨ j = 6 ∨ j = 7 by omega) with rfl | rfl | rfl | rfl | rfl | rfl | rfl | rfl <;> assumption) (by decide) (by decide)) (by decide) ?_
                  replace h := h.2.2.2.2.2.2.2.2 hc0 hc1 hc2 hc3 hc4 hc5 hc6 hc7
                  refine r_iconst (v := (-1 : Int32)) C dX9_about_130 rfl ?_
                  exact r_iret C dX9_about_131 h
end MG
