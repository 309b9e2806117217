section MG
variable {p : Program} {l : Launch} {e : Env} {R : Room} {s : State} {m : MethodId} {args : Array Value} {below : List Frame} {meth : Method} {c : Code} {D : va_G} {cy : Nat → ClassId} {ad : Nat → Nat}
def S_X4_readPlace_53 (v1 : Nat) (v2 : Int32) (o0 : Int32) (o1 : Int32) (X80 : Int32 → Mem → Prop) (K : Int32 → Mem → Prop) (M : Mem) : Prop := (¬ o1 = o0 → X80 v2 M) ∧ (o1 = o0 → (((M.1 42 10) ≤ (99 : Int32) → ∀ x2 : Int32, x2 = M.1 42 10 → f_X4_advance  M (fun (M_6 : Mem) => X80 x2 M_6)) ∧ (¬ (M.1 42 10) ≤ (99 : Int32) → f_X4_refuse (4 : Int32) M (fun (r_5 : Int32) (M_7 : Mem) => (r_5 &&& 1 = r_5) ∧ K r_5 M_7))))

set_option maxHeartbeats 1000000 in
set_option maxRecDepth 10000 in
theorem mS_X4_readPlace_53 (C : rw_C p s m meth c cX4_readPlace 3 RX4 (some .boolean) D cy ad) {v1 : Nat} {v2 : Int32} {o0 : Int32} {o1 : Int32} (h_v1 : isX1 v1) {X80 : Int32 → Mem → Prop} {K : Int32 → Mem → Prop} {M : Mem} (hX80 : ∀ (u2 : Int32) (M : Mem), X80 u2 M → rw_W p l e rm_X4_readPlace s m args below meth c D cy ad 3 0 0 (rw_Qi below args s D cy ad K) 80 [(0, .ref (ad 42)), (1, .ref (ad v1)), (2, .int u2)] [] M) (h : S_X4_readPlace_53 v1 v2 o0 o1 X80 K M) : rw_W p l e rm_X4_readPlace s m args below meth c D cy ad 3 0 0 (rw_Qi below args s D cy ad K) 53 [(0, .ref (ad 42)), (1, .ref (ad v1)), (2, .int v2)] [.int o0, .int o1] M := by
  refine r_icmp_ne C 80 dX4_readPlace_53 (by decide) (fun hc => ?_) (fun hc => ?_)
  · replace h := h.1 hc
    exact hX80 _ _ h
  · replace h := h.2 hc
    refine r_aload_n C 0 dX4_readPlace_56 rfl rfl ?_
    refine gX4_43 C dX4_readPlace_57 ?_
    refine r_bipush (v := (99 : Int32)) C dX4_readPlace_60 rfl ?_
    refine r_icmp_le C 71 dX4_readPlace_62 (by decide) (fun hc => ?_) (fun hc => ?_)
    · replace h := h.1 hc
      refine r_aload_n C 0 dX4_readPlace_71 rfl rfl ?_
      refine gX4_43 C dX4_readPlace_72 ?_
      refine r_istore_n C [(2, .int _), (0, .ref _), (1, .ref _)] dX4_readPlace_75 rfl (by decide) rfl ?_
      replace h := h _ rfl
      refine r_aload_n C 1 dX4_readPlace_76 rfl rfl ?_
      refine cX4_51 C (m_X4_advance l h) ⟨Nat.le_of_ble_eq_true rfl, Nat.le_of_ble_eq_true rfl⟩ (Nat.le_of_ble_eq_true rfl) ⟨Nat.le_refl 0, Nat.le_refl 0⟩ dX4_readPlace_77 (fun M_6 h => ?_)
      exact r_sub [1, 2, 0] rfl (hX80 _ _ h)
    · replace h := h.2 hc
      refine r_aload_n C 0 dX4_readPlace_65 rfl rfl ?_
      refine r_iconst (v := (4 : Int32)) C dX4_readPlace_66 rfl ?_
      refine cX4_63 C (m_X4_refuse l h) ⟨Nat.le_of_ble_eq_true rfl, Nat.le_of_ble_eq_true rfl⟩ (Nat.le_of_ble_eq_true rfl) ⟨Nat.le_refl 0, Nat.le_refl 0⟩ dX4_readPlace_67 (fun r_5 M_7 h => ?_)
      exact r_zret C h.1 dX4_readPlace_70 h.2

def f_X4_readPlace (v1 : Nat) (M : Mem) (K : Int32 → Mem → Prop) : Prop := (((M.1 v1 3) < (10 : Int32) → f_X4_advance  M (fun (M_2 : Mem) => f_X4_readNewName v1 M_2 (fun (r_2 : Int32) (M_3 : Mem) => ((¬ r_2 = 0 → vp_in (M_3.1 v1 3) 10 ∧ ∀ M_4 : Mem, M_4 = wI M_3 44 (M_3.1 v1 3).toNatClampNeg (M_3.1 42 9) → f_X4_advance  M_4 (fun (M_5 : Mem) => (S_X4_readPlace_53 v1 (0 : Int32) (3 : Int32) (M_5.1 42 7) (fun (v2_2 : Int32) (M_8 : Mem) => f_X1_addPlace v1 v2_2 M_8 (fun (M_9 : Mem) => f_X4_readClose  M_9 (fun (r_7 : Int32) (M_10 : Mem) => (r_7 &&& 1 = r_7) ∧ K r_7 M_10))) K M_5))) ∧ (r_2 = 0 → K (0 : Int32) M_3))))) ∧ (¬ (M.1 v1 3) < (10 : Int32) → f_X4_refuse (5 : Int32) M (fun (r_8 : Int32) (M_11 : Mem) => (r_8 &&& 1 = r_8) ∧ K r_8 M_11)))

set_option maxHeartbeats 1000000 in
set_option maxRecDepth 10000 in
theorem m_X4_readPlace (l : Launch) {v1 : Nat} (h_v1 : isX1 v1) {M : Mem} {K : Int32 → Mem → Prop} (h : f_X4_readPlace v1 M K) : CTi l yX4_readPlace cX4_readPlace 3 (some .boolean) rm_X4_readPlace (fun ad => [.ref (ad 42), .ref (ad v1)]) M K := by
  refine rw_enti (by decide +kernel) (fun ad => Nat.le_of_ble_eq_true rfl) (fun p e s m args below meth c D cy ad C => ?_)
  change rw_W p l e _ s m args below meth c D cy ad 3 0 0 _ 0 [(0, .ref (ad 42)), (1, .ref (ad v1))] [] M
  unfold f_X4_readPlace at h
  refine r_aload_n C 1 dX4_readPlace_0 rfl rfl ?_
  refine gX4_67 C h_v1 dX4_readPlace_1 ?_
  refine r_bipush (v := (10 : Int32)) C dX4_readPlace_4 rfl ?_
  refine r_icmp_lt C 15 dX4_readPlace_6 (by decide) (fun hc => ?_) (fun hc => ?_)
  · replace h := h.1 hc
    refine r_aload_n C 0 dX4_readPlace_15 rfl rfl ?_
    refine cX4_51 C (m_X4_advance l h) ⟨Nat.le_of_ble_eq_true rfl, Nat.le_of_ble_eq_true rfl⟩ (Nat.le_of_ble_eq_true rfl) ⟨Nat.le_refl 0, Nat.le_refl 0⟩ dX4_readPlace_16 (fun M_2 h => ?_)
    refine r_aload_n C 0 dX4_readPlace_19 rfl rfl ?_
    refine r_aload_n C 1 dX4_readPlace_20 rfl rfl ?_
    refine cX4_70 C (m_X4_readNewName l h_v1 h) ⟨Nat.le_of_ble_eq_true rfl, Nat.le_of_ble_eq_true rfl⟩ (Nat.le_of_ble_eq_true rfl) ⟨Nat.le_refl 0, Nat.le_refl 0⟩ dX4_readPlace_21 (fun r_2 M_3 h => ?_)
    refine r_if_ne C 29 dX4_readPlace_24 (by decide) (fun hc => ?_) (fun hc => ?_)
    · replace h := h.1 hc
      refine r_aload_n C 0 dX4_readPlace_29 rfl rfl ?_
      refine gX4_15 C dX4_readPlace_30 ?_
      refine r_aload_n C 1 dX4_readPlace_33 rfl rfl ?_
      refine gX4_67 C h_v1 dX4_readPlace_34 ?_
      refine r_aload_n C 0 dX4_readPlace_37 rfl rfl ?_
      refine gX4_40 C dX4_readPlace_38 ?_
      obtain ⟨q, h⟩ := h
      refine r_iast C sh_44 q dX4_readPlace_41 ?_
      replace h := h _ rfl
      refine r_aload_n C 0 dX4_readPlace_42 rfl rfl ?_
      refine cX4_51 C (m_X4_advance l h) ⟨Nat.le_of_ble_eq_true rfl, Nat.le_of_ble_eq_true rfl⟩ (Nat.le_of_ble_eq_true rfl) ⟨Nat.le_refl 0, Nat.le_refl 0⟩ dX4_readPlace_43 (fun M_5 h => ?_)
      refine r_iconst (v := (0 : Int32)) C dX4_readPlace_46 rfl ?_
      refine r_istore_n C [(2, .int _), (0, .ref _), (1, .ref _)] dX4_readPlace_47 rfl (by decide) rfl ?_
      refine r_aload_n C 1 dX4_readPlace_48 rfl rfl ?_
      refine gX4_34 C dX4_readPlace_49 ?_
      refine r_iconst (v := (3 : Int32)) C dX4_readPlace_52 rfl ?_
      refine r_sub [1, 2, 0] rfl (mS_X4_readPlace_53 C h_v1 (fun v2_2 M_8 h => ?_) h)
      refine r_aload_n C 1 dX4_readPlace_80 rfl rfl ?_
      refine r_iload_n C 2 dX4_readPlace_81 rfl rfl ?_
      refine cX4_73 C h_v1 (m_X1_addPlace l h_v1 h) ⟨Nat.le_of_ble_eq_true rfl, Nat.le_of_ble_eq_true rfl⟩ (Nat.le_of_ble_eq_true rfl) ⟨Nat.le_refl 0, Nat.le_refl 0⟩ dX4_readPlace_82 (fun M_9 h => ?_)
      refine r_aload_n C 0 dX4_readPlace_85 rfl rfl ?_
      refine cX4_77 C (m_X4_readClose l h) ⟨Nat.le_of_ble_eq_true rfl, Nat.le_of_ble_eq_true rfl⟩ (Nat.le_of_ble_eq_true rfl) ⟨Nat.le_refl 0, Nat.le_refl 0⟩ dX4_readPlace_86 (fun r_7 M_10 h => ?_)
      exact r_zret C h.1 dX4_readPlace_89 h.2
    · replace h := h.2 hc
      refine r_iconst (v := (0 : Int32)) C dX4_readPlace_27 rfl ?_
      exact r_zret C (by decide) dX4_readPlace_28 h
  · replace h := h.2 hc
    refine r_aload_n C 0 dX4_readPlace_9 rfl rfl ?_
    refine r_iconst (v := (5 : Int32)) C dX4_readPlace_10 rfl ?_
    refine cX4_63 C (m_X4_refuse l h) ⟨Nat.le_of_ble_eq_true rfl, Nat.le_of_ble_eq_true rfl⟩ (Nat.le_of_ble_eq_true rfl) ⟨Nat.le_refl 0, Nat.le_refl 0⟩ dX4_readPlace_11 (fun r_8 M_11 h => ?_)
    exact r_zret C h.1 dX4_readPlace_14 h.2
def S_X4_readArc_26 (v1 : Nat) (v2 : Int32) (v3 : Nat) (v4 : Int32) (v5 : Int32) (o0 : Int32) (o1 : Int32) (X53 : Int32 → Mem → Prop) (X37 : Mem → Prop) (K : Int32 → Mem → Prop) (M : Mem) : Prop := (o1 < o0 → X37 M) ∧ (¬ o1 < o0 → (((M.1 42 10) ≤ (3 : Int32) → ∀ x5 : Int32, x5 = M.1 42 10 → f_X4_advance  M (fun (M_3 : Mem) => X53 x5 M_3)) ∧ (¬ (M.1 42 10) ≤ (3 : Int32) → X37 M)))

set_option maxHeartbeats 1000000 in
set_option maxRecDepth 10000 in
theorem mS_X4_readArc_26 (C : rw_C p s m meth c cX4_readArc 8 RX4 (some .boolean) D cy ad) {v1 : Nat} {v2 : Int32} {v3 : Nat} {v4 : Int32} {v5 : Int32} {o0 : Int32} {o1 : Int32} (h_v1 : isX1 v1) (h_v3 : isA v3 0 (alen v3)) {X53 : Int32 → Mem → Prop} {X37 : Mem → Prop} {K : Int32 → Mem → Prop} {M : Mem} (hX53 : ∀ (u5 : Int32) (M : Mem), X53 u5 M → rw_W p l e rm_X4_readArc s m args below meth c D cy ad 8 0 0 (rw_Qi below args s D cy ad K) 53 [(0, .ref (ad 42)), (1, .ref (ad v1)), (2, .int v2), (3, .ref (ad v3)), (4, .int v4), (5, .int u5)] [] M) (hX37 : ∀  (M : Mem), X37 M → rw_W p l e rm_X4_readArc s m args below meth c D cy ad 8 0 0 (rw_Qi below args s D cy ad K) 37 [(0, .ref (ad 42))] [] M) (h : S_X4_readArc_26 v1 v2 v3 v4 v5 o0 o1 X53 X37 K M) : rw_W p l e rm_X4_readArc s m args below meth c D cy ad 8 0 0 (rw_Qi below args s D cy ad K) 26 [(0, .ref (ad 42)), (1, .ref (ad v1)), (2, .int v2), (3, .ref (ad v3)), (4, .int v4), (5, .int v5)] [.int o0, .int o1] M := by
  refine r_icmp_lt C 37 dX4_readArc_26 (by decide) (fun hc => ?_) (fun hc => ?_)
  · replace h := h.1 hc
    exact r_sub [0] rfl (hX37 _ h)
  · replace h := h.2 hc
    refine r_aload_n C 0 dX4_readArc_29 rfl rfl ?_
    refine gX4_43 C dX4_readArc_30 ?_
    refine r_iconst (v := (3 : Int32)) C dX4_readArc_33 rfl ?_
    refine r_icmp_le C 43 dX4_readArc_34 (by decide) (fun hc => ?_) (fun hc => ?_)
    · replace h := h.1 hc
      refine r_aload_n C 0 dX4_readArc_43 rfl rfl ?_
      refine gX4_43 C dX4_readArc_44 ?_
      refine r_istore C [(5, .int _), (0, .ref _), (1, .ref _), (2, .int _), (3, .ref _), (4, .int _)] dX4_readArc_47 (by decide) rfl ?_
      replace h := h _ rfl
      refine r_aload_n C 1 dX4_readArc_49 rfl rfl ?_
      refine cX4_51 C (m_X4_advance l h) ⟨Nat.le_of_ble_eq_true rfl, Nat.le_of_ble_eq_true rfl⟩ (Nat.le_of_ble_eq_true rfl) ⟨Nat.le_refl 0, Nat.le_refl 0⟩ dX4_readArc_50 (fun M_3 h => ?_)
      exact r_sub [1, 2, 3, 4, 5, 0] rfl (hX53 _ _ h)
    · replace h := h.2 hc
      exact r_sub [0] rfl (hX37 _ h)

def S_X4_readArc_18 (v1 : Nat) (v2 : Int32) (v3 : Nat) (v4 : Int32) (v5 : Int32) (o0 : Int32) (o1 : Int32) (X53 : Int32 → Mem → Prop) (K : Int32 → Mem → Prop) (M : Mem) : Prop := (¬ o1 = o0 → X53 v5 M) ∧ (o1 = o0 → (S_X4_readArc_26 v1 v2 v3 v4 v5 (1 : Int32) (M.1 42 10) (X53) (fun  (M_4 : Mem) => f_X4_refuse (4 : Int32) M_4 (fun (r_3 : Int32) (M_5 : Mem) => (r_3 &&& 1 = r_3) ∧ K r_3 M_5)) K M))

set_option maxHeartbeats 1000000 in
set_option maxRecDepth 10000 in
theorem mS_X4_readArc_18 (C : rw_C p s m meth c cX4_readArc 8 RX4 (some .boolean) D cy ad) {v1 : Nat} {v2 : Int32} {v3 : Nat} {v4 : Int32} {v5 : Int32} {o0 : Int32} {o1 : Int32} (h_v1 : isX1 v1) (h_v3 : isA v3 0 (alen v3)) {X53 : Int32 → Mem → Prop} {K : Int32 → Mem → Prop} {M : Mem} (hX53 : ∀ (u5 : Int32) (M : Mem), X53 u5 M → rw_W p l e rm_X4_readArc s m args below meth c D cy ad 8 0 0 (rw_Qi below args s D cy ad K) 53 [(0, .ref (ad 42)), (1, .ref (ad v1)), (2, .int v2), (3, .ref (ad v3)), (4, .int v4), (5, .int u5)] [] M) (h : S_X4_readArc_18 v1 v2 v3 v4 v5 o0 o1 X53 K M) : rw_W p l e rm_X4_readArc s m args below meth c D cy ad 8 0 0 (rw_Qi below args s D cy ad K) 18 [(0, .ref (ad 42)), (1, .ref (ad v1)), (2, .int v2), (3, .ref (ad v3)), (4, .int v4), (5, .int v5)] [.int o0, .int o1] M := by
  refine r_icmp_ne C 53 dX4_readArc_18 (by decide) (fun hc => ?_) (fun hc => ?_)
  · replace h := h.1 hc
    exact hX53 _ _ h
  · replace h := h.2 hc
    refine r_aload_n C 0 dX4_readArc_21 rfl rfl ?_
    refine gX4_43 C dX4_readArc_22 ?_
    refine r_iconst (v := (1 : Int32)) C dX4_readArc_25 rfl ?_
    refine mS_X4_readArc_26 C h_v1 h_v3 hX53 (fun M_4 h => ?_) h
    refine r_aload_n C 0 dX4_readArc_37 rfl rfl ?_
    refine r_iconst (v := (4 : Int32)) C dX4_readArc_38 rfl ?_
    refine cX4_63 C (m_X4_refuse l h) ⟨Nat.le_of_ble_eq_true rfl, Nat.le_of_ble_eq_true rfl⟩ (Nat.le_of_ble_eq_true rfl) ⟨Nat.le_refl 0, Nat.le_refl 0⟩ dX4_readArc_39 (fun r_3 M_5 h => ?_)
    exact r_zret C h.1 dX4_readArc_42 h.2

def f_X4_readArc (v1 : Nat) (v2 : Int32) (v3 : Nat) (M : Mem) (K : Int32 → Mem → Prop) : Prop := ∀ x4 : Int32, x4 = M.1 42 8 → f_X4_advance  M (fun (M_2 : Mem) => (S_X4_readArc_18 v1 v2 v3 x4 (1 : Int32) (3 : Int32) (M_2.1 42 7) (fun (v5_2 : Int32) (M_6 : Mem) => f_X4_isName  M_6 (fun (r_4 : Int32) (M_7 : Mem) => ((¬ r_4 = 0 → f_X4_indexOf 44 (M_7.1 v1 3) M_7 (fun (r_5 : Int32) (M_8 : Mem) => ((¬ r_5 = (-1 : Int32) → ∀ x7 : Int32, x7 = (v2 * (10 : Int32)) + r_5 → vp_in x7 (alen v3) ∧ ((((gI M_8 v3 x7) + v5_2) ≤ (3 : Int32) → ∀ M_9 : Mem, M_9 = wI M_8 v3 x7.toNatClampNeg ((gI M_8 v3 x7) + v5_2) → f_X4_advance  M_9 (fun (M_10 : Mem) => K (1 : Int32) M_10)) ∧ (¬ ((gI M_8 v3 x7) + v5_2) ≤ (3 : Int32) → f_X4_refuseAt (4 : Int32) x4 M_8 (fun (r_7 : Int32) (M_11 : Mem) => (r_7 &&& 1 = r_7) ∧ K r_7 M_11)))) ∧ (r_5 = (-1 : Int32) → f_X4_refuse (3 : Int32) M_8 (fun (r_8 : Int32) (M_12 : Mem) => (r_8 &&& 1 = r_8) ∧ K r_8 M_12))))) ∧ (r_4 = 0 → f_X4_refuse (2 : Int32) M_7 (fun (r_9 : Int32) (M_13 : Mem) => (r_9 &&& 1 = r_9) ∧ K r_9 M_13))))) K M_2))

set_option maxHeartbeats 1000000 in
set_option maxRecDepth 10000 in
theorem m_X4_readArc (l : Launch) {v1 : Nat} {v2 : Int32} {v3 : Nat} (h_v1 : isX1 v1) (h_v3 : isI v3) {M : Mem} {K : Int32 → Mem → Prop} (h : f_X4_readArc v1 v2 v3 M K) : CTi l yX4_readArc cX4_readArc 8 (some .boolean) rm_X4_readArc (fun ad => [.ref (ad 42), .ref (ad v1), .int v2, .ref (ad v3)]) M K := by
  refine rw_enti (by decide +kernel) (fun ad => Nat.le_of_ble_eq_true rfl) (fun p e s m args below meth c D cy ad C => ?_)
  change rw_W p l e _ s m args below meth c D cy ad 8 0 0 _ 0 [(0, .ref (ad 42)), (1, .ref (ad v1)), (2, .int v2), (3, .ref (ad v3))] [] M
  unfold f_X4_readArc at h
  refine r_aload_n C 0 dX4_readArc_0 rfl rfl ?_
  refine gX4_37 C dX4_readArc_1 ?_
  refine r_istore C [(4, .int _), (0, .ref _), (1, .ref _), (2, .int _), (3, .ref _)] dX4_readArc_4 (by decide) rfl ?_
  replace h := h _ rfl
  refine r_aload_n C 1 dX4_readArc_6 rfl rfl ?_
  refine cX4_51 C (m_X4_advance l h) ⟨Nat.le_of_ble_eq_true rfl, Nat.le_of_ble_eq_true rfl⟩ (Nat.le_of_ble_eq_true rfl) ⟨Nat.le_refl 0, Nat.le_refl 0⟩ dX4_readArc_7 (fun M_2 h => ?_)
  refine r_iconst (v := (1 : Int32)) C dX4_readArc_10 rfl ?_
  refine r_istore C [(5, .int _), (4, .int _), (0, .ref _), (1, .ref _), (2, .int _), (3, .ref _)] dX4_readArc_11 (by decide) rfl ?_
  refine r_aload_n C 2 dX4_readArc_13 rfl rfl ?_
  refine gX4_34 C dX4_readArc_14 ?_
  refine r_iconst (v := (3 : Int32)) C dX4_readArc_17 rfl ?_
  refine r_sub [2, 3, 4, 5, 1, 0] rfl (mS_X4_readArc_18 C h_v1 h_v3 (fun v5_2 M_6 h => ?_) h)
  refine r_aload_n C 0 dX4_readArc_53 rfl rfl ?_
  refine cX4_99 C (m_X4_isName l h) ⟨Nat.le_of_ble_eq_true rfl, Nat.le_of_ble_eq_true rfl⟩ (Nat.le_of_ble_eq_true rfl) ⟨Nat.le_refl 0, Nat.le_refl 0⟩ dX4_readArc_54 (fun r_4 M_7 h => ?_)
  refine r_if_ne C 66 dX4_readArc_57 (by decide) (fun hc => ?_) (fun hc => ?_)
  · replace h := h.1 hc
    refine r_aload_n C 0 dX4_readArc_66 rfl rfl ?_
    refine r_aload_n C 0 dX4_readArc_67 rfl rfl ?_
    refine gX4_15 C dX4_readArc_68 ?_
    refine r_aload_n C 1 dX4_readArc_71 rfl rfl ?_
    refine gX4_67 C h_v1 dX4_readArc_72 ?_
    refine cX4_102 C (m_X4_indexOf l (isI_of sh_44) h) ⟨Nat.le_of_ble_eq_true rfl, Nat.le_of_ble_eq_true rfl⟩ (Nat.le_of_ble_eq_true rfl) ⟨Nat.le_refl 0, Nat.le_refl 0⟩ dX4_readArc_75 (fun r_5 M_8 h => ?_)
    refine r_istore C [(6, .int _), (0, .ref _), (1, .ref _), (2, .int _), (3, .ref _), (4, .int _), (5, .int _)] dX4_readArc_78 (by decide) rfl ?_
    refine r_iload C 0 dX4_readArc_80 rfl ?_
    refine r_iconst (v := (-1 : Int32)) C dX4_readArc_82 rfl ?_
    refine r_icmp_ne C 92 dX4_readArc_83 (by decide) (fun hc => ?_) (fun hc => ?_)
    · replace h := h.1 hc
      refine r_iload_n C 3 dX4_readArc_92 rfl rfl ?_
      refine r_bipush (v := (10 : Int32)) C dX4_readArc_93 rfl ?_
      refine r_imul C dX4_readArc_95 ?_
      refine r_iload C 0 dX4_readArc_96 rfl ?_
      refine r_iadd C dX4_readArc_98 ?_
      refine r_istore C [(7, .int _), (6, .int _), (0, .ref _), (1, .ref _), (2, .int _), (3, .ref _), (4, .int _), (5, .int _)] dX4_readArc_99 (by decide) rfl ?_
      replace h := h _ rfl
      refine r_aload_n C 5 dX4_readArc_101 rfl rfl ?_
      refine r_iload C 0 dX4_readArc_102 rfl ?_
      obtain ⟨q, h⟩ := h
      refine r_iald C h_v3 q dX4_readArc_104 ?_
      refine r_iload C 7 dX4_readArc_105 rfl ?_
      refine r_iadd C dX4_readArc_107 ?_
      refine r_iconst (v := (3 : Int32)) C dX4_readArc_108 rfl ?_
      refine r_icmp_le C 120 dX4_readArc_109 (by decide) (fun hc => ?_) (fun hc => ?_)
      · replace h := h.1 hc
        refine r_aload_n C 5 dX4_readArc_120 rfl rfl ?_
        refine r_iload C 0 dX4_readArc_121 rfl ?_
        refine r_dup2_11 C dX4_readArc_123 rfl rfl ?_
        refine r_iald C h_v3 q dX4_readArc_124 ?_
        refine r_iload C 7 dX4_readArc_125 rfl ?_
        refine r_iadd C dX4_readArc_127 ?_
        refine r_iast C h_v3 q dX4_readArc_128 ?_
        replace h := h _ rfl
        refine r_aload_n C 2 dX4_readArc_129 rfl rfl ?_
        refine cX4_51 C (m_X4_advance l h) ⟨Nat.le_of_ble_eq_true rfl, Nat.le_of_ble_eq_true rfl⟩ (Nat.le_of_ble_eq_true rfl) ⟨Nat.le_refl 0, Nat.le_refl 0⟩ dX4_readArc_130 (fun M_10 h => ?_)
        refine r_iconst (v := (1 : Int32)) C dX4_readArc_133 rfl ?_
        exact r_zret C (by decide) dX4_readArc_134 h
      · replace h := h.2 hc
        refine r_aload_n C 2 dX4_readArc_112 rfl rfl ?_
        refine r_iconst (v := (4 : Int32)) C dX4_readArc_113 rfl ?_
        refine r_iload C 6 dX4_readArc_114 rfl ?_
        refine cX4_106 C (m_X4_refuseAt l h) ⟨Nat.le_of_ble_eq_true rfl, Nat.le_of_ble_eq_true rfl⟩ (Nat.le_of_ble_eq_true rfl) ⟨Nat.le_refl 0, Nat.le_refl 0⟩ dX4_readArc_116 (fun r_7 M_11 h => ?_)
        exact r_zret C h.1 dX4_readArc_119 h.2
    · replace h := h.2 hc
      refine r_aload_n C 1 dX4_readArc_86 rfl rfl ?_
      refine r_iconst (v := (3 : Int32)) C dX4_readArc_87 rfl ?_
      refine cX4_63 C (m_X4_refuse l h) ⟨Nat.le_of_ble_eq_true rfl, Nat.le_of_ble_eq_true rfl⟩ (Nat.le_of_ble_eq_true rfl) ⟨Nat.le_refl 0, Nat.le_refl 0⟩ dX4_readArc_88 (fun r_8 M_12 h => ?_)
      exact r_zret C h.1 dX4_readArc_91 h.2
  · replace h := h.2 hc
    refine r_aload_n C 0 dX4_readArc_60 rfl rfl ?_
    refine r_iconst (v := (2 : Int32)) C dX4_readArc_61 rfl ?_
    refine cX4_63 C (m_X4_refuse l h) ⟨Nat.le_of_ble_eq_true rfl, Nat.le_of_ble_eq_true rfl⟩ (Nat.le_of_ble_eq_true rfl) ⟨Nat.le_refl 0, Nat.le_refl 0⟩ dX4_readArc_62 (fun r_9 M_13 h => ?_)
    exact r_zret C h.1 dX4_readArc_65 h.2
def S_X4_readStep_78 (v1 : Nat) (v2 : Int32) (v3 : Int32) (o0 : Int32) (o1 : Int32) (X96 : Mem → Prop) (K : Int32 → Mem → Prop) (M : Mem) : Prop := (o1 = o0 → X96 M) ∧ (¬ o1 = o0 → (((M.1 42 9) = (3913426 : Int32) → X96 M) ∧ (¬ (M.1 42 9) = (3913426 : Int32) → f_X4_refuse (2 : Int32) M (fun (r_5 : Int32) (M_7 : Mem) => (r_5 &&& 1 = r_5) ∧ K r_5 M_7))))

set_option maxHeartbeats 1000000 in
set_option maxRecDepth 10000 in
theorem mS_X4_readStep_78 (C : rw_C p s m meth c cX4_readStep 4 RX4 (some .boolean) D cy ad) {v1 : Nat} {v2 : Int32} {v3 : Int32} {o0 : Int32} {o1 : Int32} (h_v1 : isX1 v1) {X96 : Mem → Prop} {K : Int32 → Mem → Prop} {M : Mem} (hX96 : ∀  (M : Mem), X96 M → rw_W p l e rm_X4_readStep s m args below meth c D cy ad 4 0 0 (rw_Qi below args s D cy ad K) 96 [(0, .ref (ad 42)), (1, .ref (ad v1)), (2, .int v2), (3, .int v3)] [] M) (h : S_X4_readStep_78 v1 v2 v3 o0 o1 X96 K M) : rw_W p l e rm_X4_readStep s m args below meth c D cy ad 4 0 0 (rw_Qi below args s D cy ad K) 78 [(0, .ref (ad 42)), (1, .ref (ad v1)), (2, .int v2), (3, .int v3)] [.int o0, .int o1] M := by
  refine r_icmp_eq C 96 dX4_readStep_78 (by decide) (fun hc => ?_) (fun hc => ?_)
  · replace h := h.1 hc
    exact hX96 _ h
  · replace h := h.2 hc
    refine r_aload_n C 0 dX4_readStep_81 rfl rfl ?_
    refine gX4_40 C dX4_readStep_82 ?_
    refine kX4_88 C dX4_readStep_85 ?_
    refine r_icmp_eq C 96 dX4_readStep_87 (by decide) (fun hc => ?_) (fun hc => ?_)
    · replace h := h.1 hc
      exact hX96 _ h
    · replace h := h.2 hc
      refine r_aload_n C 0 dX4_readStep_90 rfl rfl ?_
      refine r_iconst (v := (2 : Int32)) C dX4_readStep_91 rfl ?_
      refine cX4_63 C (m_X4_refuse l h) ⟨Nat.le_of_ble_eq_true rfl, Nat.le_of_ble_eq_true rfl⟩ (Nat.le_of_ble_eq_true rfl) ⟨Nat.le_refl 0, Nat.le_refl 0⟩ dX4_readStep_92 (fun r_5 M_7 h => ?_)
      exact r_zret C h.1 dX4_readStep_95 h.2

set_option maxHeartbeats 1000000 in
set_option maxRecDepth 10000 in
theorem mD_X4_readStep_105 (C : rw_C p s m meth c cX4_readStep 4 RX4 (some .boolean) D cy ad) {Q : State → Prop} {st : List Value} {M : Mem} {v1 : Nat} {v2 : Int32} {v3 : Int32} {o0 : Int32} {o1 : Int32} (h_v1 : isX1 v1) (kk : rw_W p l e R s m args below meth c D cy ad 4 0 0 Q 119 [(0, .ref (ad 42)), (1, .ref (ad v1)), (2, .int v2), (3, .int v3)] (.ref (ad (if ¬ o1 = o0 then (v1 + 2) else (v1 + 1))) :: st) M) : rw_W p l e R s m args below meth c D cy ad 4 0 0 Q 105 [(0, .ref (ad 42)), (1, .ref (ad v1)), (2, .int v2), (3, .int v3)] (.int o0 :: .int o1 :: st) M := by
  refine r_icmp_ne C 115 dX4_readStep_105 (by decide) (fun z0 => ?_) (fun z0 => ?_)
  · skip
    refine r_aload_n C 1 dX4_readStep_115 rfl rfl ?_
    refine gX4_92 C h_v1 dX4_readStep_116 ?_
    first | rw [if_pos z0] at kk | rw [if_neg (fun q9 => q9 z0)] at kk
    exact kk
  · skip
    refine r_aload_n C 1 dX4_readStep_108 rfl rfl ?_
    refine gX4_89 C h_v1 dX4_readStep_109 ?_
    refine r_goto C 119 dX4_readStep_112 (by decide) ?_
    first | rw [if_neg z0] at kk | rw [if_neg (fun q9 => q9 z0)] at kk
    exact kk

def L_X4_readStep_57 (v1 : Nat) (v2 : Int32) (X133 : Mem → Prop) (K : Int32 → Mem → Prop) : Nat → Int32 → Mem → Prop
  | 0, _, _ => False
  | n + 1, v3, M => (((900 : Int32) ≤ v3 → X133 M) ∧ (¬ (900 : Int32) ≤ v3 → ((¬ (M.1 42 7) = (2 : Int32) → X133 M) ∧ ((M.1 42 7) = (2 : Int32) → (S_X4_readStep_78 v1 v2 v3 (10656676 : Int32) (M.1 42 9) (fun  (M_8 : Mem) => f_X4_readArc v1 v2 (if ¬ (M_8.1 42 9) = (10656676 : Int32) then (v1 + 2) else (v1 + 1)) M_8 (fun (r_6 : Int32) (M_9 : Mem) => ((¬ r_6 = 0 → L_X4_readStep_57 v1 v2 X133 K n (v3 + (1 : Int32)) M_9) ∧ (r_6 = 0 → K (0 : Int32) M_9)))) K M)))))

set_option maxHeartbeats 1000000 in
set_option maxRecDepth 10000 in
theorem mL_X4_readStep_57 (C : rw_C p s m meth c cX4_readStep 4 RX4 (some .boolean) D cy ad) {v1 : Nat} {v2 : Int32} (h_v1 : isX1 v1) {X133 : Mem → Prop} {K : Int32 → Mem → Prop} (hX133 : ∀  (M : Mem), X133 M → rw_W p l e rm_X4_readStep s m args below meth c D cy ad 4 0 0 (rw_Qi below args s D cy ad K) 133 [(0, .ref (ad 42))] [] M) : ∀ (n : Nat) (v3 : Int32) (M : Mem), L_X4_readStep_57 v1 v2 X133 K n v3 M → rw_W p l e rm_X4_readStep s m args below meth c D cy ad 4 0 0 (rw_Qi below args s D cy ad K) 57 [(0, .ref (ad 42)), (1, .ref (ad v1)), (2, .int v2), (3, .int v3)] [] M := by
  intro n
  induction n with
  | zero => intro v3 M h; exact h.elim
  | succ n ih =>
    intro v3 M h
    refine r_iload_n C 3 dX4_readStep_57 rfl rfl ?_
    refine r_sipush (v := (900 : Int32)) C dX4_readStep_58 rfl ?_
    refine r_icmp_ge C 133 dX4_readStep_61 (by decide) (fun hc => ?_) (fun hc => ?_)
    · replace h := h.1 hc
      exact r_sub [0] rfl (hX133 _ h)
    · replace h := h.2 hc
      refine r_aload_n C 0 dX4_readStep_64 rfl rfl ?_
      refine gX4_34 C dX4_readStep_65 ?_
      refine r_iconst (v := (2 : Int32)) C dX4_readStep_68 rfl ?_
      refine r_icmp_ne C 133 dX4_readStep_69 (by decide) (fun hc => ?_) (fun hc => ?_)
      · replace h := h.1 hc
        exact r_sub [0] rfl (hX133 _ h)
      · replace h := h.2 hc
        refine r_aload_n C 0 dX4_readStep_72 rfl rfl ?_
        refine gX4_40 C dX4_readStep_73 ?_
        refine kX4_87 C dX4_readStep_76 ?_
        refine mS_X4_readStep_78 C h_v1 (fun M_8 h => ?_) h
        refine r_aload_n C 0 dX4_readStep_96 rfl rfl ?_
        refine r_aload_n C 1 dX4_readStep_97 rfl rfl ?_
        refine r_iload_n C 2 dX4_readStep_98 rfl rfl ?_
        refine r_aload_n C 0 dX4_readStep_99 rfl rfl ?_
        refine gX4_40 C dX4_readStep_100 ?_
        refine kX4_87 C dX4_readStep_103 ?_
        refine mD_X4_readStep_105 C h_v1 ?_
        refine cX4_95 C (m_X4_readArc l h_v1 (isI_of (ite_p (P := (fun a => isA a 0 80)) (isX1_A2 h_v1) (isX1_A1 h_v1))) h) ⟨Nat.le_of_ble_eq_true rfl, Nat.le_of_ble_eq_true rfl⟩ (Nat.le_of_ble_eq_true rfl) ⟨Nat.le_refl 0, Nat.le_refl 0⟩ dX4_readStep_119 (fun r_6 M_9 h => ?_)
        refine r_if_ne C 127 dX4_readStep_122 (by decide) (fun hc => ?_) (fun hc => ?_)
        · replace h := h.1 hc
          refine r_iinc C 3 (v := _) [(3, .int _), (0, .ref _), (1, .ref _), (2, .int _)] dX4_readStep_127 rfl rfl (by decide) rfl ?_
          refine r_goto C 57 dX4_readStep_130 (by decide) ?_
          exact r_sub [1, 2, 3, 0] rfl (ih _ _ h)
        · replace h := h.2 hc
          refine r_iconst (v := (0 : Int32)) C dX4_readStep_125 rfl ?_
          exact r_zret C (by decide) dX4_readStep_126 h

def f_X4_readStep (v1 : Nat) (M : Mem) (K : Int32 → Mem → Prop) : Prop := (((M.1 v1 4) < (8 : Int32) → f_X4_advance  M (fun (M_2 : Mem) => f_X4_readNewName v1 M_2 (fun (r_2 : Int32) (M_3 : Mem) => ((¬ r_2 = 0 → vp_in (M_3.1 v1 4) 8 ∧ ∀ M_4 : Mem, M_4 = wI M_3 45 (M_3.1 v1 4).toNatClampNeg (M_3.1 42 9) → ∀ x2 : Int32, x2 = M_4.1 v1 4 → f_X1_addStep v1 M_4 (fun (M_5 : Mem) => f_X4_advance  M_5 (fun (M_6 : Mem) => (∃ k57 : Nat, L_X4_readStep_57 v1 x2 (fun  (M_10 : Mem) => f_X4_readClose  M_10 (fun (r_7 : Int32) (M_11 : Mem) => (r_7 &&& 1 = r_7) ∧ K r_7 M_11)) K k57 (0 : Int32) M_6)))) ∧ (r_2 = 0 → K (0 : Int32) M_3))))) ∧ (¬ (M.1 v1 4) < (8 : Int32) → f_X4_refuse (5 : Int32) M (fun (r_8 : Int32) (M_12 : Mem) => (r_8 &&& 1 = r_8) ∧ K r_8 M_12)))

set_option maxHeartbeats 1000000 in
set_option maxRecDepth 10000 in
theorem m_X4_readStep (l : Launch) {v1 : Nat} (h_v1 : isX1 v1) {M : Mem} {K : Int32 → Mem → Prop} (h : f_X4_readStep v1 M K) : CTi l yX4_readStep cX4_readStep 4 (some .boolean) rm_X4_readStep (fun ad => [.ref (ad 42), .ref (ad v1)]) M K := by
  refine rw_enti (by decide +kernel) (fun ad => Nat.le_of_ble_eq_true rfl) (fun p e s m args below meth c D cy ad C => ?_)
  change rw_W p l e _ s m args below meth c D cy ad 4 0 0 _ 0 [(0, .ref (ad 42)), (1, .ref (ad v1))] [] M
  unfold f_X4_readStep at h
  refine r_aload_n C 1 dX4_readStep_0 rfl rfl ?_
  refine gX4_81 C h_v1 dX4_readStep_1 ?_
  refine r_bipush (v := (8 : Int32)) C dX4_readStep_4 rfl ?_
  refine r_icmp_lt C 15 dX4_readStep_6 (by decide) (fun hc => ?_) (fun hc => ?_)
  · replace h := h.1 hc
    refine r_aload_n C 0 dX4_readStep_15 rfl rfl ?_
    refine cX4_51 C (m_X4_advance l h) ⟨Nat.le_of_ble_eq_true rfl, Nat.le_of_ble_eq_true rfl⟩ (Nat.le_of_ble_eq_true rfl) ⟨Nat.le_refl 0, Nat.le_refl 0⟩ dX4_readStep_16 (fun M_2 h => ?_)
    refine r_aload_n C 0 dX4_readStep_19 rfl rfl ?_
    refine r_aload_n C 1 dX4_readStep_20 rfl rfl ?_
    refine cX4_70 C (m_X4_readNewName l h_v1 h) ⟨Nat.le_of_ble_eq_true rfl, Nat.le_of_ble_eq_true rfl⟩ (Nat.le_of_ble_eq_true rfl) ⟨Nat.le_refl 0, Nat.le_refl 0⟩ dX4_readStep_21 (fun r_2 M_3 h => ?_)
    refine r_if_ne C 29 dX4_readStep_24 (by decide) (fun hc => ?_) (fun hc => ?_)
    · replace h := h.1 hc
      refine r_aload_n C 0 dX4_readStep_29 rfl rfl ?_
      refine gX4_18 C dX4_readStep_30 ?_
      refine r_aload_n C 1 dX4_readStep_33 rfl rfl ?_
      refine gX4_81 C h_v1 dX4_readStep_34 ?_
      refine r_aload_n C 0 dX4_readStep_37 rfl rfl ?_
      refine gX4_40 C dX4_readStep_38 ?_
      obtain ⟨q, h⟩ := h
      refine r_iast C sh_45 q dX4_readStep_41 ?_
      replace h := h _ rfl
      refine r_aload_n C 1 dX4_readStep_42 rfl rfl ?_
      refine gX4_81 C h_v1 dX4_readStep_43 ?_
      refine r_istore_n C [(2, .int _), (0, .ref _), (1, .ref _)] dX4_readStep_46 rfl (by decide) rfl ?_
      replace h := h _ rfl
      refine r_aload_n C 2 dX4_readStep_47 rfl rfl ?_
      refine cX4_84 C h_v1 (m_X1_addStep l h_v1 h) ⟨Nat.le_of_ble_eq_true rfl, Nat.le_of_ble_eq_true rfl⟩ (Nat.le_of_ble_eq_true rfl) ⟨Nat.le_refl 0, Nat.le_refl 0⟩ dX4_readStep_48 (fun M_5 h => ?_)
      refine r_aload_n C 1 dX4_readStep_51 rfl rfl ?_
      refine cX4_51 C (m_X4_advance l h) ⟨Nat.le_of_ble_eq_true rfl, Nat.le_of_ble_eq_true rfl⟩ (Nat.le_of_ble_eq_true rfl) ⟨Nat.le_refl 0, Nat.le_refl 0⟩ dX4_readStep_52 (fun M_6 h => ?_)
      refine r_iconst (v := (0 : Int32)) C dX4_readStep_55 rfl ?_
      refine r_istore_n C [(3, .int _), (2, .int _), (0, .ref _), (1, .ref _)] dX4_readStep_56 rfl (by decide) rfl ?_
      obtain ⟨n57, h⟩ := h
      refine r_sub [2, 3, 1, 0] rfl (mL_X4_readStep_57 C h_v1 (fun M_10 h => ?_) n57 _ _ h)
      refine r_aload_n C 0 dX4_readStep_133 rfl rfl ?_
      refine cX4_77 C (m_X4_readClose l h) ⟨Nat.le_of_ble_eq_true rfl, Nat.le_of_ble_eq_true rfl⟩ (Nat.le_of_ble_eq_true rfl) ⟨Nat.le_refl 0, Nat.le_refl 0⟩ dX4_readStep_134 (fun r_7 M_11 h => ?_)
      exact r_zret C h.1 dX4_readStep_137 h.2
    · replace h := h.2 hc
      refine r_iconst (v := (0 : Int32)) C dX4_readStep_27 rfl ?_
      exact r_zret C (by decide) dX4_readStep_28 h
  · replace h := h.2 hc
    refine r_aload_n C 0 dX4_readStep_9 rfl rfl ?_
    refine r_iconst (v := (5 : Int32)) C dX4_readStep_10 rfl ?_
    refine cX4_63 C (m_X4_refuse l h) ⟨Nat.le_of_ble_eq_true rfl, Nat.le_of_ble_eq_true rfl⟩ (Nat.le_of_ble_eq_true rfl) ⟨Nat.le_refl 0, Nat.le_refl 0⟩ dX4_readStep_11 (fun r_8 M_12 h => ?_)
    exact r_zret C h.1 dX4_readStep_14 h.2
def L_X4_readInto_27 (v1 : Nat) (X110 : Int32 → Mem → Prop) (K : Int32 → Mem → Prop) : Nat → Int32 → Int32 → Mem → Prop
  | 0, _, _, _ => False
  | n + 1, v2, v3, M => (((900 : Int32) ≤ v3 → X110 v2 M) ∧ (¬ (900 : Int32) ≤ v3 → ((v2 = 0 → X110 v2 M) ∧ (¬ v2 = 0 → (((M.1 42 7) = (1 : Int32) → X110 v2 M) ∧ (¬ (M.1 42 7) = (1 : Int32) → ((¬ (M.1 42 7) = (2 : Int32) → ((¬ (M.1 42 7) = (2 : Int32) → f_X4_refuse (2 : Int32) M (fun (r_3 : Int32) (M_7 : Mem) => L_X4_readInto_27 v1 X110 K n r_3 (v3 + (1 : Int32)) M_7)) ∧ ((M.1 42 7) = (2 : Int32) → ((¬ (M.1 42 9) = (388708 : Int32) → f_X4_refuse (2 : Int32) M (fun (r_4 : Int32) (M_8 : Mem) => L_X4_readInto_27 v1 X110 K n r_4 (v3 + (1 : Int32)) M_8)) ∧ ((M.1 42 9) = (388708 : Int32) → f_X4_readStep v1 M (fun (r_5 : Int32) (M_9 : Mem) => L_X4_readInto_27 v1 X110 K n r_5 (v3 + (1 : Int32)) M_9)))))) ∧ ((M.1 42 7) = (2 : Int32) → ((¬ (M.1 42 9) = (8740067 : Int32) → ((¬ (M.1 42 7) = (2 : Int32) → f_X4_refuse (2 : Int32) M (fun (r_6 : Int32) (M_10 : Mem) => L_X4_readInto_27 v1 X110 K n r_6 (v3 + (1 : Int32)) M_10)) ∧ ((M.1 42 7) = (2 : Int32) → ((¬ (M.1 42 9) = (388708 : Int32) → f_X4_refuse (2 : Int32) M (fun (r_7 : Int32) (M_11 : Mem) => L_X4_readInto_27 v1 X110 K n r_7 (v3 + (1 : Int32)) M_11)) ∧ ((M.1 42 9) = (388708 : Int32) → f_X4_readStep v1 M (fun (r_8 : Int32) (M_12 : Mem) => L_X4_readInto_27 v1 X110 K n r_8 (v3 + (1 : Int32)) M_12)))))) ∧ ((M.1 42 9) = (8740067 : Int32) → f_X4_readPlace v1 M (fun (r_9 : Int32) (M_13 : Mem) => L_X4_readInto_27 v1 X110 K n r_9 (v3 + (1 : Int32)) M_13)))))))))))

set_option maxHeartbeats 1000000 in
set_option maxRecDepth 10000 in
theorem mL_X4_readInto_27 (C : rw_C p s m meth c cX4_readInto 4 RX4 (some .boolean) D cy ad) {v1 : Nat} (h_v1 : isX1 v1) {X110 : Int32 → Mem → Prop} {K : Int32 → Mem → Prop} (hX110 : ∀ (u2 : Int32) (M : Mem), X110 u2 M → rw_W p l e rm_X4_readInto s m args below meth c D cy ad 4 0 0 (rw_Qi below args s D cy ad K) 110 [(2, .int u2)] [] M) : ∀ (n : Nat) (v2 : Int32) (v3 : Int32) (M : Mem), L_X4_readInto_27 v1 X110 K n v2 v3 M → rw_W p l e rm_X4_readInto s m args below meth c D cy ad 4 0 0 (rw_Qi below args s D cy ad K) 27 [(0, .ref (ad 42)), (1, .ref (ad v1)), (2, .int v2), (3, .int v3)] [] M := by
  intro n
  induction n with
  | zero => intro v2 v3 M h; exact h.elim
  | succ n ih =>
    intro v2 v3 M h
    refine r_iload_n C 3 dX4_readInto_27 rfl rfl ?_
    refine r_sipush (v := (900 : Int32)) C dX4_readInto_28 rfl ?_
    refine r_icmp_ge C 110 dX4_readInto_31 (by decide) (fun hc => ?_) (fun hc => ?_)
    · replace h := h.1 hc
      exact r_sub [2] rfl (hX110 _ _ h)
    · replace h := h.2 hc
      refine r_iload_n C 2 dX4_readInto_34 rfl rfl ?_
      refine r_if_eq C 110 dX4_readInto_35 (by decide) (fun hc => ?_) (fun hc => ?_)
      · replace h := h.1 hc
        exact r_sub [2] rfl (hX110 _ _ h)
      · replace h := h.2 hc
        refine r_aload_n C 0 dX4_readInto_38 rfl rfl ?_
        refine gX4_34 C dX4_readInto_39 ?_
        refine r_iconst (v := (1 : Int32)) C dX4_readInto_42 rfl ?_
        refine r_icmp_eq C 110 dX4_readInto_43 (by decide) (fun hc => ?_) (fun hc => ?_)
        · replace h := h.1 hc
          exact r_sub [2] rfl (hX110 _ _ h)
        · replace h := h.2 hc
          refine r_aload_n C 0 dX4_readInto_46 rfl rfl ?_
          refine gX4_34 C dX4_readInto_47 ?_
          refine r_iconst (v := (2 : Int32)) C dX4_readInto_50 rfl ?_
          refine r_icmp_ne C 72 dX4_readInto_51 (by decide) (fun hc => ?_) (fun hc => ?_)
          · replace h := h.1 hc
            refine r_aload_n C 0 dX4_readInto_72 rfl rfl ?_
            refine gX4_34 C dX4_readInto_73 ?_
            refine r_iconst (v := (2 : Int32)) C dX4_readInto_76 rfl ?_
            refine r_icmp_ne C 98 dX4_readInto_77 (by decide) (fun hc => ?_) (fun hc => ?_)
            · replace h := h.1 hc
              refine r_aload_n C 0 dX4_readInto_98 rfl rfl ?_
              refine r_iconst (v := (2 : Int32)) C dX4_readInto_99 rfl ?_
              refine cX4_63 C (m_X4_refuse l h) ⟨Nat.le_of_ble_eq_true rfl, Nat.le_of_ble_eq_true rfl⟩ (Nat.le_of_ble_eq_true rfl) ⟨Nat.le_refl 0, Nat.le_refl 0⟩ dX4_readInto_100 (fun r_3 M_7 h => ?_)
              refine r_istore_n C [(2, .int _), (0, .ref _), (1, .ref _), (3, .int _)] dX4_readInto_103 rfl (by decide) rfl ?_
              refine r_iinc C 3 (v := _) [(3, .int _), (2, .int _), (0, .ref _), (1, .ref _)] dX4_readInto_104 rfl rfl (by decide) rfl ?_
              refine r_goto C 27 dX4_readInto_107 (by decide) ?_
              exact r_sub [2, 3, 1, 0] rfl (ih _ _ _ h)
            · replace h := h.2 hc
              refine r_aload_n C 0 dX4_readInto_80 rfl rfl ?_
              refine gX4_40 C dX4_readInto_81 ?_
              refine kX4_59 C dX4_readInto_84 ?_
              refine r_icmp_ne C 98 dX4_readInto_86 (by decide) (fun hc => ?_) (fun hc => ?_)
              · replace h := h.1 hc
                refine r_aload_n C 0 dX4_readInto_98 rfl rfl ?_
                refine r_iconst (v := (2 : Int32)) C dX4_readInto_99 rfl ?_
                refine cX4_63 C (m_X4_refuse l h) ⟨Nat.le_of_ble_eq_true rfl, Nat.le_of_ble_eq_true rfl⟩ (Nat.le_of_ble_eq_true rfl) ⟨Nat.le_refl 0, Nat.le_refl 0⟩ dX4_readInto_100 (fun r_4 M_8 h => ?_)
                refine r_istore_n C [(2, .int _), (0, .ref _), (1, .ref _), (3, .int _)] dX4_readInto_103 rfl (by decide) rfl ?_
                refine r_iinc C 3 (v := _) [(3, .int _), (2, .int _), (0, .ref _), (1, .ref _)] dX4_readInto_104 rfl rfl (by decide) rfl ?_
                refine r_goto C 27 dX4_readInto_107 (by decide) ?_
                exact r_sub [2, 3, 1, 0] rfl (ih _ _ _ h)
              · replace h := h.2 hc
                refine r_aload_n C 0 dX4_readInto_89 rfl rfl ?_
                refine r_aload_n C 1 dX4_readInto_90 rfl rfl ?_
                refine cX4_60 C (m_X4_readStep l h_v1 h) ⟨Nat.le_of_ble_eq_true rfl, Nat.le_of_ble_eq_true rfl⟩ (Nat.le_of_ble_eq_true rfl) ⟨Nat.le_refl 0, Nat.le_refl 0⟩ dX4_readInto_91 (fun r_5 M_9 h => ?_)
                refine r_istore_n C [(2, .int _), (0, .ref _), (1, .ref _), (3, .int _)] dX4_readInto_94 rfl (by decide) rfl ?_
                refine r_goto C 104 dX4_readInto_95 (by decide) ?_
                refine r_iinc C 3 (v := _) [(3, .int _), (2, .int _), (0, .ref _), (1, .ref _)] dX4_readInto_104 rfl rfl (by decide) rfl ?_
                refine r_goto C 27 dX4_readInto_107 (by decide) ?_
                exact r_sub [2, 3, 1, 0] rfl (ih _ _ _ h)
          · replace h := h.2 hc
            refine r_aload_n C 0 dX4_readInto_54 rfl rfl ?_
            refine gX4_40 C dX4_readInto_55 ?_
            refine kX4_54 C dX4_readInto_58 ?_
            refine r_icmp_ne C 72 dX4_readInto_60 (by decide) (fun hc => ?_) (fun hc => ?_)
            · replace h := h.1 hc
              refine r_aload_n C 0 dX4_readInto_72 rfl rfl ?_
              refine gX4_34 C dX4_readInto_73 ?_
              refine r_iconst (v := (2 : Int32)) C dX4_readInto_76 rfl ?_
              refine r_icmp_ne C 98 dX4_readInto_77 (by decide) (fun hc => ?_) (fun hc => ?_)
              · replace h := h.1 hc
                refine r_aload_n C 0 dX4_readInto_98 rfl rfl ?_
                refine r_iconst (v := (2 : Int32)) C dX4_readInto_99 rfl ?_
                refine cX4_63 C (m_X4_refuse l h) ⟨Nat.le_of_ble_eq_true rfl, Nat.le_of_ble_eq_true rfl⟩ (Nat.le_of_ble_eq_true rfl) ⟨Nat.le_refl 0, Nat.le_refl 0⟩ dX4_readInto_100 (fun r_6 M_10 h => ?_)
                refine r_istore_n C [(2, .int _), (0, .ref _), (1, .ref _), (3, .int _)] dX4_readInto_103 rfl (by decide) rfl ?_
                refine r_iinc C 3 (v := _) [(3, .int _), (2, .int _), (0, .ref _), (1, .ref _)] dX4_readInto_104 rfl rfl (by decide) rfl ?_
                refine r_goto C 27 dX4_readInto_107 (by decide) ?_
                exact r_sub [2, 3, 1, 0] rfl (ih _ _ _ h)
              · replace h := h.2 hc
                refine r_aload_n C 0 dX4_readInto_80 rfl rfl ?_
                refine gX4_40 C dX4_readInto_81 ?_
                refine kX4_59 C dX4_readInto_84 ?_
                refine r_icmp_ne C 98 dX4_readInto_86 (by decide) (fun hc => ?_) (fun hc => ?_)
                · replace h := h.1 hc
                  refine r_aload_n C 0 dX4_readInto_98 rfl rfl ?_
                  refine r_iconst (v := (2 : Int32)) C dX4_readInto_99 rfl ?_
                  refine cX4_63 C (m_X4_refuse l h) ⟨Nat.le_of_ble_eq_true rfl, Nat.le_of_ble_eq_true rfl⟩ (Nat.le_of_ble_eq_true rfl) ⟨Nat.le_refl 0, Nat.le_refl 0⟩ dX4_readInto_100 (fun r_7 M_11 h => ?_)
                  refine r_istore_n C [(2, .int _), (0, .ref _), (1, .ref _), (3, .int _)] dX4_readInto_103 rfl (by decide) rfl ?_
                  refine r_iinc C 3 (v := _) [(3, .int _), (2, .int _), (0, .ref _), (1, .ref _)] dX4_readInto_104 rfl rfl (by decide) rfl ?_
                  refine r_goto C 27 dX4_readInto_107 (by decide) ?_
                  exact r_sub [2, 3, 1, 0] rfl (ih _ _ _ h)
                · replace h := h.2 hc
                  refine r_aload_n C 0 dX4_readInto_89 rfl rfl ?_
                  refine r_aload_n C 1 dX4_readInto_90 rfl rfl ?_
                  refine cX4_60 C (m_X4_readStep l h_v1 h) ⟨Nat.le_of_ble_eq_true rfl, Nat.le_of_ble_eq_true rfl⟩ (Nat.le_of_ble_eq_true rfl) ⟨Nat.le_refl 0, Nat.le_refl 0⟩ dX4_readInto_91 (fun r_8 M_12 h => ?_)
                  refine r_istore_n C [(2, .int _), (0, .ref _), (1, .ref _), (3, .int _)] dX4_readInto_94 rfl (by decide) rfl ?_
                  refine r_goto C 104 dX4_readInto_95 (by decide) ?_
                  refine r_iinc C 3 (v := _) [(3, .int _), (2, .int _), (0, .ref _), (1, .ref _)] dX4_readInto_104 rfl rfl (by decide) rfl ?_
                  refine r_goto C 27 dX4_readInto_107 (by decide) ?_
                  exact r_sub [2, 3, 1, 0] rfl (ih _ _ _ h)
            · replace h := h.2 hc
              refine r_aload_n C 0 dX4_readInto_63 rfl rfl ?_
              refine r_aload_n C 1 dX4_readInto_64 rfl rfl ?_
              refine cX4_55 C (m_X4_readPlace l h_v1 h) ⟨Nat.le_of_ble_eq_true rfl, Nat.le_of_ble_eq_true rfl⟩ (Nat.le_of_ble_eq_true rfl) ⟨Nat.le_refl 0, Nat.le_refl 0⟩ dX4_readInto_65 (fun r_9 M_13 h => ?_)
              refine r_istore_n C [(2, .int _), (0, .ref _), (1, .ref _), (3, .int _)] dX4_readInto_68 rfl (by decide) rfl ?_
              refine r_goto C 104 dX4_readInto_69 (by decide) ?_
              refine r_iinc C 3 (v := _) [(3, .int _), (2, .int _), (0, .ref _), (1, .ref _)] dX4_readInto_104 rfl rfl (by decide) rfl ?_
              refine r_goto C 27 dX4_readInto_107 (by decide) ?_
              exact r_sub [2, 3, 1, 0] rfl (ih _ _ _ h)

def f_X4_readInto (v1 : Nat) (M : Mem) (K : Int32 → Mem → Prop) : Prop := ∀ M_2 : Mem, M_2 = wI M 42 4 (0 : Int32) → ∀ M_3 : Mem, M_3 = wI M_2 42 5 (-1 : Int32) → ∀ M_4 : Mem, M_4 = wI M_3 42 6 (0 : Int32) → f_X1_clear v1 M_4 (fun (M_5 : Mem) => f_X4_advance  M_5 (fun (M_6 : Mem) => (∃ k27 : Nat, L_X4_readInto_27 v1 (fun (v2_2 : Int32) (M_14 : Mem) => (v2_2 &&& 1 = v2_2) ∧ K v2_2 M_14) K k27 (1 : Int32) (0 : Int32) M_6)))

set_option maxHeartbeats 1000000 in
set_option maxRecDepth 10000 in
theorem m_X4_readInto (l : Launch) {v1 : Nat} (h_v1 : isX1 v1) {M : Mem} {K : Int32 → Mem → Prop} (h : f_X4_readInto v1 M K) : CTi l yX4_readInto cX4_readInto 4 (some .boolean) rm_X4_readInto (fun ad => [.ref (ad 42), .ref (ad v1)]) M K := by
  refine rw_enti (by decide +kernel) (fun ad => Nat.le_of_ble_eq_true rfl) (fun p e s m args below meth c D cy ad C => ?_)
  change rw_W p l e _ s m args below meth c D cy ad 4 0 0 _ 0 [(0, .ref (ad 42)), (1, .ref (ad v1))] [] M
  unfold f_X4_readInto at h
  refine r_aload_n C 0 dX4_readInto_0 rfl rfl ?_
  refine r_iconst (v := (0 : Int32)) C dX4_readInto_1 rfl ?_
  refine pX4_25 C dX4_readInto_2 ?_
  replace h := h _ rfl
  refine r_aload_n C 0 dX4_readInto_5 rfl rfl ?_
  refine r_iconst (v := (-1 : Int32)) C dX4_readInto_6 rfl ?_
  refine pX4_28 C dX4_readInto_7 ?_
  replace h := h _ rfl
  refine r_aload_n C 0 dX4_readInto_10 rfl rfl ?_
  refine r_iconst (v := (0 : Int32)) C dX4_readInto_11 rfl ?_
  refine pX4_31 C dX4_readInto_12 ?_
  replace h := h _ rfl
  refine r_aload_n C 1 dX4_readInto_15 rfl rfl ?_
  refine cX4_46 C h_v1 (m_X1_clear l h_v1 h) ⟨Nat.le_of_ble_eq_true rfl, Nat.le_of_ble_eq_true rfl⟩ (Nat.le_of_ble_eq_true rfl) ⟨Nat.le_refl 0, Nat.le_refl 0⟩ dX4_readInto_16 (fun M_5 h => ?_)
  refine r_aload_n C 0 dX4_readInto_19 rfl rfl ?_
  refine cX4_51 C (m_X4_advance l h) ⟨Nat.le_of_ble_eq_true rfl, Nat.le_of_ble_eq_true rfl⟩ (Nat.le_of_ble_eq_true rfl) ⟨Nat.le_refl 0, Nat.le_refl 0⟩ dX4_readInto_20 (fun M_6 h => ?_)
  refine r_iconst (v := (1 : Int32)) C dX4_readInto_23 rfl ?_
  refine r_istore_n C [(2, .int _), (0, .ref _), (1, .ref _)] dX4_readInto_24 rfl (by decide) rfl ?_
  refine r_iconst (v := (0 : Int32)) C dX4_readInto_25 rfl ?_
  refine r_istore_n C [(3, .int _), (2, .int _), (0, .ref _), (1, .ref _)] dX4_readInto_26 rfl (by decide) rfl ?_
  obtain ⟨n27, h⟩ := h
  refine r_sub [2, 3, 1, 0] rfl (mL_X4_readInto_27 C h_v1 (fun v2_2 M_14 h => ?_) n27 _ _ _ h)
  refine r_iload_n C 0 dX4_readInto_110 rfl rfl ?_
  exact r_zret C h.1 dX4_readInto_111 h.2
def S_X5_note_6 (v1 : Int32) (v2 : Int32) (v3 : Int32) (o0 : Int32) (o1 : Int32) (X49 : Mem → Prop) (K : Int32 → Mem → Prop) (M : Mem) : Prop := (o0 ≤ o1 → X49 M) ∧ (¬ o0 ≤ o1 → vp_in (M.1 146 4) 18 ∧ ∀ M_2 : Mem, M_2 = wI M 151 (M.1 146 4).toNatClampNeg v1 → vp_in (M_2.1 146 4) 18 ∧ ∀ M_3 : Mem, M_3 = wI M_2 152 (M_2.1 146 4).toNatClampNeg v2 → vp_in (M_3.1 146 4) 18 ∧ ∀ M_4 : Mem, M_4 = wI M_3 153 (M_3.1 146 4).toNatClampNeg v3 → ∀ M_5 : Mem, M_5 = wI M_4 146 4 ((M_4.1 146 4) + (1 : Int32)) → X49 M_5)

set_option maxHeartbeats 1000000 in
set_option maxRecDepth 10000 in
theorem mS_X5_note_6 (C : rw_C p s m meth c cX5_note 4 RX5 (some .boolean) D cy ad) {v1 : Int32} {v2 : Int32} {v3 : Int32} {o0 : Int32} {o1 : Int32} {X49 : Mem → Prop} {K : Int32 → Mem → Prop} {M : Mem} (hX49 : ∀  (M : Mem), X49 M → rw_W p l e rm_X5_note s m args below meth c D cy ad 4 0 0 (rw_Qi below args s D cy ad K) 49 [(0, .ref (ad 146)), (2, .int v2), (3, .int v3)] [] M) (h : S_X5_note_6 v1 v2 v3 o0 o1 X49 K M) : rw_W p l e rm_X5_note s m args below meth c D cy ad 4 0 0 (rw_Qi below args s D cy ad K) 6 [(0, .ref (ad 146)), (1, .int v1), (2, .int v2), (3, .int v3)] [.int o0, .int o1] M := by
  refine r_icmp_ge C 49 dX5_note_6 (by decide) (fun hc => ?_) (fun hc => ?_)
  · replace h := h.1 hc
    exact r_sub [0, 2, 3] rfl (hX49 _ h)
  · replace h := h.2 hc
    refine r_aload_n C 0 dX5_note_9 rfl rfl ?_
    refine gX5_18 C dX5_note_10 ?_
    refine r_aload_n C 0 dX5_note_13 rfl rfl ?_
    refine gX5_28 C dX5_note_14 ?_
    refine r_iload_n C 1 dX5_note_17 rfl rfl ?_
    obtain ⟨q, h⟩ := h
    refine r_iast C sh_151 q dX5_note_18 ?_
    replace h := h _ rfl
    refine r_aload_n C 0 dX5_note_19 rfl rfl ?_
    refine gX5_22 C dX5_note_20 ?_
    refine r_aload_n C 0 dX5_note_23 rfl rfl ?_
    refine gX5_28 C dX5_note_24 ?_
    refine r_iload_n C 2 dX5_note_27 rfl rfl ?_
    obtain ⟨q_2, h⟩ := h
    refine r_iast C sh_152 q_2 dX5_note_28 ?_
    replace h := h _ rfl
    refine r_aload_n C 0 dX5_note_29 rfl rfl ?_
    refine gX5_25 C dX5_note_30 ?_
    refine r_aload_n C 0 dX5_note_33 rfl rfl ?_
    refine gX5_28 C dX5_note_34 ?_
    refine r_iload_n C 3 dX5_note_37 rfl rfl ?_
    obtain ⟨q_3, h⟩ := h
    refine r_iast C sh_153 q_3 dX5_note_38 ?_
    replace h := h _ rfl
    refine r_aload_n C 0 dX5_note_39 rfl rfl ?_
    refine r_dup C dX5_note_40 rfl ?_
    refine gX5_28 C dX5_note_41 ?_
    refine r_iconst (v := (1 : Int32)) C dX5_note_44 rfl ?_
    refine r_iadd C dX5_note_45 ?_
    refine pX5_28 C dX5_note_46 ?_
    replace h := h _ rfl
    exact r_sub [0, 2, 3] rfl (hX49 _ h)

def S_X5_note_51 (v2 : Int32) (v3 : Int32) (o0 : Int32) (o1 : Int32) (X62 : Mem → Prop) (K : Int32 → Mem → Prop) (M : Mem) : Prop := (o1 = o0 → X62 M) ∧ (¬ o1 = o0 → f_X1_dropPlace 147 v2 M (fun (M_7 : Mem) => X62 M_7))

set_option maxHeartbeats 1000000 in
set_option maxRecDepth 10000 in
theorem mS_X5_note_51 (C : rw_C p s m meth c cX5_note 4 RX5 (some .boolean) D cy ad) {v2 : Int32} {v3 : Int32} {o0 : Int32} {o1 : Int32} {X62 : Mem → Prop} {K : Int32 → Mem → Prop} {M : Mem} (hX62 : ∀  (M : Mem), X62 M → rw_W p l e rm_X5_note s m args below meth c D cy ad 4 0 0 (rw_Qi below args s D cy ad K) 62 [(0, .ref (ad 146)), (3, .int v3)] [] M) (h : S_X5_note_51 v2 v3 o0 o1 X62 K M) : rw_W p l e rm_X5_note s m args below meth c D cy ad 4 0 0 (rw_Qi below args s D cy ad K) 51 [(0, .ref (ad 146)), (2, .int v2), (3, .int v3)] [.int o0, .int o1] M := by
  refine r_icmp_eq C 62 dX5_note_51 (by decide) (fun hc => ?_) (fun hc => ?_)
  · replace h := h.1 hc
    exact r_sub [0, 2] rfl (hX62 _ h)
  · replace h := h.2 hc
    refine r_aload_n C 0 dX5_note_54 rfl rfl ?_
    refine gX5_12 C dX5_note_55 ?_
    refine r_iload_n C 1 dX5_note_58 rfl rfl ?_
    refine cX5_62 C isX1_147 (m_X1_dropPlace l isX1_147 h) ⟨Nat.le_of_ble_eq_true rfl, Nat.le_of_ble_eq_true rfl⟩ (Nat.le_of_ble_eq_true rfl) ⟨Nat.le_refl 0, Nat.le_refl 0⟩ dX5_note_59 (fun M_7 h => ?_)
    exact r_sub [0, 2] rfl (hX62 _ h)

def f_X5_note (v1 : Int32) (v2 : Int32) (v3 : Int32) (M : Mem) (K : Int32 → Mem → Prop) : Prop := (S_X5_note_6 v1 v2 v3 (18 : Int32) (M.1 146 4) (fun  (M_6 : Mem) => (S_X5_note_51 v2 v3 (-1 : Int32) v2 (fun  (M_8 : Mem) => ((v3 = (-1 : Int32) → K (1 : Int32) M_8) ∧ (¬ v3 = (-1 : Int32) → f_X1_dropStep 147 v3 M_8 (fun (M_9 : Mem) => K (1 : Int32) M_9)))) K M_6)) K M)

set_option maxHeartbeats 1000000 in
set_option maxRecDepth 10000 in
theorem m_X5_note (l : Launch) {v1 : Int32} {v2 : Int32} {v3 : Int32}  {M : Mem} {K : Int32 → Mem → Prop} (h : f_X5_note v1 v2 v3 M K) : CTi l yX5_note cX5_note 4 (some .boolean) rm_X5_note (fun ad => [.ref (ad 146), .int v1, .int v2, .int v3]) M K := by
  refine rw_enti (by decide +kernel) (fun ad => Nat.le_of_ble_eq_true rfl) (fun p e s m args below meth c D cy ad C => ?_)
  change rw_W p l e _ s m args below meth c D cy ad 4 0 0 _ 0 [(0, .ref (ad 146)), (1, .int v1), (2, .int v2), (3, .int v3)] [] M
  unfold f_X5_note at h
  refine r_aload_n C 0 dX5_note_0 rfl rfl ?_
  refine gX5_28 C dX5_note_1 ?_
  refine r_bipush (v := (18 : Int32)) C dX5_note_4 rfl ?_
  refine mS_X5_note_6 C (fun M_6 h => ?_) h
  refine r_iload_n C 1 dX5_note_49 rfl rfl ?_
  refine r_iconst (v := (-1 : Int32)) C dX5_note_50 rfl ?_
  refine mS_X5_note_51 C (fun M_8 h => ?_) h
  refine r_iload_n C 1 dX5_note_62 rfl rfl ?_
  refine r_iconst (v := (-1 : Int32)) C dX5_note_63 rfl ?_
  refine r_icmp_eq C 75 dX5_note_64 (by decide) (fun hc => ?_) (fun hc => ?_)
  · replace h := h.1 hc
    refine r_iconst (v := (1 : Int32)) C dX5_note_75 rfl ?_
    exact r_zret C (by decide) dX5_note_76 h
  · replace h := h.2 hc
    refine r_aload_n C 0 dX5_note_67 rfl rfl ?_
    refine gX5_12 C dX5_note_68 ?_
    refine r_iload_n C 1 dX5_note_71 rfl rfl ?_
    refine cX5_66 C isX1_147 (m_X1_dropStep l isX1_147 h) ⟨Nat.le_of_ble_eq_true rfl, Nat.le_of_ble_eq_true rfl⟩ (Nat.le_of_ble_eq_true rfl) ⟨Nat.le_refl 0, Nat.le_refl 0⟩ dX5_note_72 (fun M_9 h => ?_)
    refine r_iconst (v := (1 : Int32)) C dX5_note_75 rfl ?_
    exact r_zret C (by decide) dX5_note_76 h
def L_X5_dropLikePlace_17 (v1 : Int32) (X123 : Mem → Prop) (K : Int32 → Mem → Prop) : Nat → Int32 → Mem → Prop
  | 0, _, _ => False
  | n + 1, v2, M => (((M.1 147 3) ≤ v2 → X123 M) ∧ (¬ (M.1 147 3) ≤ v2 → f_X1_hasPlace 147 v1 M (fun (r : Int32) (M_2 : Mem) => ((r = 0 → L_X5_dropLikePlace_17 v1 X123 K n (v2 + (1 : Int32)) M_2) ∧ (¬ r = 0 → f_X1_hasPlace 147 v2 M_2 (fun (r_2 : Int32) (M_3 : Mem) => ((r_2 = 0 → L_X5_dropLikePlace_17 v1 X123 K n (v2 + (1 : Int32)) M_3) ∧ (¬ r_2 = 0 → vp_in v1 10 ∧ vp_in v2 10 ∧ (((gI M_3 150 v2) < (gI M_3 150 v1) → L_X5_dropLikePlace_17 v1 X123 K n (v2 + (1 : Int32)) M_3) ∧ (¬ (gI M_3 150 v2) < (gI M_3 150 v1) → f_X1_sameOfPlaces 147 148 v1 v2 M_3 (fun (r_3 : Int32) (M_4 : Mem) => ((r_3 = 0 → L_X5_dropLikePlace_17 v1 X123 K n (v2 + (1 : Int32)) M_4) ∧ (¬ r_3 = 0 → f_X1_sameOfPlaces 147 149 v1 v2 M_4 (fun (r_4 : Int32) (M_5 : Mem) => ((r_4 = 0 → L_X5_dropLikePlace_17 v1 X123 K n (v2 + (1 : Int32)) M_5) ∧ (¬ r_4 = 0 → f_X5_note (1 : Int32) v2 (-1 : Int32) M_5 (fun (r_5 : Int32) (M_6 : Mem) => (r_5 &&& 1 = r_5) ∧ K r_5 M_6)))))))))))))))))

set_option maxHeartbeats 1000000 in
set_option maxRecDepth 10000 in
theorem mL_X5_dropLikePlace_17 (C : rw_C p s m meth c cX5_dropLikePlace 3 RX5 (some .boolean) D cy ad) {v1 : Int32} {X123 : Mem → Prop} {K : Int32 → Mem → Prop} (hX123 : ∀  (M : Mem), X123 M → rw_W p l e rm_X5_dropLikePlace s m args below meth c D cy ad 3 0 0 (rw_Qi below args s D cy ad K) 123 [(0, .ref (ad 146)), (1, .int v1)] [] M) : ∀ (n : Nat) (v2 : Int32) (M : Mem), L_X5_dropLikePlace_17 v1 X123 K n v2 M → rw_W p l e rm_X5_dropLikePlace s m args below meth c D cy ad 3 0 0 (rw_Qi below args s D cy ad K) 17 [(0, .ref (ad 146)), (1, .int v1), (2, .int v2)] [] M := by
  intro n
  induction n with
  | zero => intro v2 M h; exact h.elim
  | succ n ih =>
    intro v2 M h
    refine r_iload_n C 2 dX5_dropLikePlace_17 rfl rfl ?_
    refine r_aload_n C 0 dX5_dropLikePlace_18 rfl rfl ?_
    refine gX5_12 C dX5_dropLikePlace_19 ?_
    refine gX5_69 C isX1_147 dX5_dropLikePlace_22 ?_
    refine r_icmp_ge C 123 dX5_dropLikePlace_25 (by decide) (fun hc => ?_) (fun hc => ?_)
    · replace h := h.1 hc
      exact r_sub [0, 1] rfl (hX123 _ h)
    · replace h := h.2 hc
      refine r_aload_n C 0 dX5_dropLikePlace_28 rfl rfl ?_
      refine gX5_12 C dX5_dropLikePlace_29 ?_
      refine r_iload_n C 1 dX5_dropLikePlace_32 rfl rfl ?_
      refine cX5_72 C isX1_147 (m_X1_hasPlace l isX1_147 h) ⟨Nat.le_of_ble_eq_true rfl, Nat.le_of_ble_eq_true rfl⟩ (Nat.le_of_ble_eq_true rfl) ⟨Nat.le_refl 0, Nat.le_refl 0⟩ dX5_dropLikePlace_33 (fun r M_2 h => ?_)
      refine r_if_eq C 117 dX5_dropLikePlace_36 (by decide) (fun hc => ?_) (fun hc => ?_)
      · replace h := h.1 hc
        refine r_iinc C 2 (v := _) [(2, .int _), (0, .ref _), (1, .int _)] dX5_dropLikePlace_117 rfl rfl (by decide) rfl ?_
        refine r_goto C 17 dX5_dropLikePlace_120 (by decide) ?_
        exact r_sub [1, 2, 0] rfl (ih _ _ h)
      · replace h := h.2 hc
        refine r_aload_n C 0 dX5_dropLikePlace_39 rfl rfl ?_
        refine gX5_12 C dX5_dropLikePlace_40 ?_
        refine r_iload_n C 2 dX5_dropLikePlace_43 rfl rfl ?_
        refine cX5_72 C isX1_147 (m_X1_hasPlace l isX1_147 h) ⟨Nat.le_of_ble_eq_true rfl, Nat.le_of_ble_eq_true rfl⟩ (Nat.le_of_ble_eq_true rfl) ⟨Nat.le_refl 0, Nat.le_refl 0⟩ dX5_dropLikePlace_44 (fun r_2 M_3 h => ?_)
        refine r_if_eq C 117 dX5_dropLikePlace_47 (by decide) (fun hc => ?_) (fun hc => ?_)
        · replace h := h.1 hc
          refine r_iinc C 2 (v := _) [(2, .int _), (0, .ref _), (1, .int _)] dX5_dropLikePlace_117 rfl rfl (by decide) rfl ?_
          refine r_goto C 17 dX5_dropLikePlace_120 (by decide) ?_
          exact r_sub [1, 2, 0] rfl (ih _ _ h)
        · replace h := h.2 hc
          refine r_aload_n C 0 dX5_dropLikePlace_50 rfl rfl ?_
          refine gX5_12 C dX5_dropLikePlace_51 ?_
          refine gX5_76 C isX1_147 dX5_dropLikePlace_54 ?_
          refine r_iload_n C 1 dX5_dropLikePlace_57 rfl rfl ?_
          obtain ⟨q, h⟩ := h
          refine r_iald C (isX1_A3 isX1_147) q dX5_dropLikePlace_58 ?_
          refine r_aload_n C 0 dX5_dropLikePlace_59 rfl rfl ?_
          refine gX5_12 C dX5_dropLikePlace_60 ?_
          refine gX5_76 C isX1_147 dX5_dropLikePlace_63 ?_
          refine r_iload_n C 2 dX5_dropLikePlace_66 rfl rfl ?_
          obtain ⟨q_2, h⟩ := h
          refine r_iald C (isX1_A3 isX1_147) q_2 dX5_dropLikePlace_67 ?_
          refine r_icmp_gt C 117 dX5_dropLikePlace_68 (by decide) (fun hc => ?_) (fun hc => ?_)
          · replace h := h.1 hc
            refine r_iinc C 2 (v := _) [(2, .int _), (0, .ref _), (1, .int _)] dX5_dropLikePlace_117 rfl rfl (by decide) rfl ?_
            refine r_goto C 17 dX5_dropLikePlace_120 (by decide) ?_
            exact r_sub [1, 2, 0] rfl (ih _ _ h)
          · replace h := h.2 hc
            refine r_aload_n C 0 dX5_dropLikePlace_71 rfl rfl ?_
            refine gX5_12 C dX5_dropLikePlace_72 ?_
            refine r_aload_n C 0 dX5_dropLikePlace_75 rfl rfl ?_
            refine gX5_12 C dX5_dropLikePlace_76 ?_
            refine gX5_79 C isX1_147 dX5_dropLikePlace_79 ?_
            refine r_iload_n C 1 dX5_dropLikePlace_82 rfl rfl ?_
            refine r_iload_n C 2 dX5_dropLikePlace_83 rfl rfl ?_
            refine cX5_82 C isX1_147 (m_X1_sameOfPlaces l isX1_147 (isI_of (isX1_A1 isX1_147)) h) ⟨Nat.le_of_ble_eq_true rfl, Nat.le_of_ble_eq_true rfl⟩ (Nat.le_of_ble_eq_true rfl) ⟨Nat.le_refl 0, Nat.le_refl 0⟩ dX5_dropLikePlace_84 (fun r_3 M_4 h => ?_)
            refine r_if_eq C 117 dX5_dropLikePlace_87 (by decide) (fun hc => ?_) (fun hc => ?_)
            · replace h := h.1 hc
              refine r_iinc C 2 (v := _) [(2, .int _), (0, .ref _), (1, .int _)] dX5_dropLikePlace_117 rfl rfl (by decide) rfl ?_
              refine r_goto C 17 dX5_dropLikePlace_120 (by decide) ?_
              exact r_sub [1, 2, 0] rfl (ih _ _ h)
            · replace h := h.2 hc
              refine r_aload_n C 0 dX5_dropLikePlace_90 rfl rfl ?_
              refine gX5_12 C dX5_dropLikePlace_91 ?_
              refine r_aload_n C 0 dX5_dropLikePlace_94 rfl rfl ?_
              refine gX5_12 C dX5_dropLikePlace_95 ?_
              refine gX5_86 C isX1_147 dX5_dropLikePlace_98 ?_
              refine r_iload_n C 1 dX5_dropLikePlace_101 rfl rfl ?_
              refine r_iload_n C 2 dX5_dropLikePlace_102 rfl rfl ?_
              refine cX5_82 C isX1_147 (m_X1_sameOfPlaces l isX1_147 (isI_of (isX1_A2 isX1_147)) h) ⟨Nat.le_of_ble_eq_true rfl, Nat.le_of_ble_eq_true rfl⟩ (Nat.le_of_ble_eq_true rfl) ⟨Nat.le_refl 0, Nat.le_refl 0⟩ dX5_dropLikePlace_103 (fun r_4 M_5 h => ?_)
              refine r_if_eq C 117 dX5_dropLikePlace_106 (by decide) (fun hc => ?_) (fun hc => ?_)
              · replace h := h.1 hc
                refine r_iinc C 2 (v := _) [(2, .int _), (0, .ref _), (1, .int _)] dX5_dropLikePlace_117 rfl rfl (by decide) rfl ?_
                refine r_goto C 17 dX5_dropLikePlace_120 (by decide) ?_
                exact r_sub [1, 2, 0] rfl (ih _ _ h)
              · replace h := h.2 hc
                refine r_aload_n C 0 dX5_dropLikePlace_109 rfl rfl ?_
                refine r_iconst (v := (1 : Int32)) C dX5_dropLikePlace_110 rfl ?_
                refine r_iload_n C 2 dX5_dropLikePlace_111 rfl rfl ?_
                refine r_iconst (v := (-1 : Int32)) C dX5_dropLikePlace_112 rfl ?_
                refine cX5_89 C (m_X5_note l h) ⟨Nat.le_of_ble_eq_true rfl, Nat.le_of_ble_eq_true rfl⟩ (Nat.le_of_ble_eq_true rfl) ⟨Nat.le_refl 0, Nat.le_refl 0⟩ dX5_dropLikePlace_113 (fun r_5 M_6 h => ?_)
                exact r_zret C h.1 dX5_dropLikePlace_116 h.2

def L_X5_dropLikePlace_2 (X129 : Mem → Prop) (K : Int32 → Mem → Prop) : Nat → Int32 → Mem → Prop
  | 0, _, _ => False
  | n + 1, v1, M => (((M.1 147 3) ≤ v1 → X129 M) ∧ (¬ (M.1 147 3) ≤ v1 → ∀ x2 : Int32, x2 = v1 + (1 : Int32) → (∃ k17 : Nat, L_X5_dropLikePlace_17 v1 (fun  (M_7 : Mem) => L_X5_dropLikePlace_2 X129 K n (v1 + (1 : Int32)) M_7) K k17 x2 M)))

set_option maxHeartbeats 1000000 in
set_option maxRecDepth 10000 in
theorem mL_X5_dropLikePlace_2 (C : rw_C p s m meth c cX5_dropLikePlace 3 RX5 (some .boolean) D cy ad) {X129 : Mem → Prop} {K : Int32 → Mem → Prop} (hX129 : ∀  (M : Mem), X129 M → rw_W p l e rm_X5_dropLikePlace s m args below meth c D cy ad 3 0 0 (rw_Qi below args s D cy ad K) 129 [] [] M) : ∀ (n : Nat) (v1 : Int32) (M : Mem), L_X5_dropLikePlace_2 X129 K n v1 M → rw_W p l e rm_X5_dropLikePlace s m args below meth c D cy ad 3 0 0 (rw_Qi below args s D cy ad K) 2 [(0, .ref (ad 146)), (1, .int v1)] [] M := by
  intro n
  induction n with
  | zero => intro v1 M h; exact h.elim
  | succ n ih =>
    intro v1 M h
    refine r_iload_n C 1 dX5_dropLikePlace_2 rfl rfl ?_
    refine r_aload_n C 0 dX5_dropLikePlace_3 rfl rfl ?_
    refine gX5_12 C dX5_dropLikePlace_4 ?_
    refine gX5_69 C isX1_147 dX5_dropLikePlace_7 ?_
    refine r_icmp_ge C 129 dX5_dropLikePlace_10 (by decide) (fun hc => ?_) (fun hc => ?_)
    · replace h := h.1 hc
      exact r_sub [] rfl (hX129 _ h)
    · replace h := h.2 hc
      refine r_iload_n C 1 dX5_dropLikePlace_13 rfl rfl ?_
      refine r_iconst (v := (1 : Int32)) C dX5_dropLikePlace_14 rfl ?_
      refine r_iadd C dX5_dropLikePlace_15 ?_
      refine r_istore_n C [(2, .int _), (0, .ref _), (1, .int _)] dX5_dropLikePlace_16 rfl (by decide) rfl ?_
      replace h := h _ rfl
      obtain ⟨n17, h⟩ := h
      refine r_sub [1, 2, 0] rfl (mL_X5_dropLikePlace_17 C (fun M_7 h => ?_) n17 _ _ h)
      refine r_iinc C 1 (v := _) [(1, .int _), (0, .ref _)] dX5_dropLikePlace_123 rfl rfl (by decide) rfl ?_
      refine r_goto C 2 dX5_dropLikePlace_126 (by decide) ?_
      exact r_sub [1, 0] rfl (ih _ _ h)

def f_X5_dropLikePlace (M : Mem) (K : Int32 → Mem → Prop) : Prop := (∃ k2 : Nat, L_X5_dropLikePlace_2 (fun  (M_8 : Mem) => K (0 : Int32) M_8) K k2 (0 : Int32) M)

set_option maxHeartbeats 1000000 in
set_option maxRecDepth 10000 in
theorem m_X5_dropLikePlace (l : Launch)   {M : Mem} {K : Int32 → Mem → Prop} (h : f_X5_dropLikePlace M K) : CTi l yX5_dropLikePlace cX5_dropLikePlace 3 (some .boolean) rm_X5_dropLikePlace (fun ad => [.ref (ad 146)]) M K := by
  refine rw_enti (by decide +kernel) (fun ad => Nat.le_of_ble_eq_true rfl) (fun p e s m args below meth c D cy ad C => ?_)
  change rw_W p l e _ s m args below meth c D cy ad 3 0 0 _ 0 [(0, .ref (ad 146))] [] M
  unfold f_X5_dropLikePlace at h
  refine r_iconst (v := (0 : Int32)) C dX5_dropLikePlace_0 rfl ?_
  refine r_istore_n C [(1, .int _), (0, .ref _)] dX5_dropLikePlace_1 rfl (by decide) rfl ?_
  obtain ⟨n2, h⟩ := h
  refine r_sub [1, 0] rfl (mL_X5_dropLikePlace_2 C (fun M_8 h => ?_) n2 _ _ h)
  refine r_iconst (v := (0 : Int32)) C dX5_dropLikePlace_129 rfl ?_
  exact r_zret C (by decide) dX5_dropLikePlace_130 h
def L_X5_dropLikeStep_17 (v1 : Int32) (X102 : Mem → Prop) (K : Int32 → Mem → Prop) : Nat → Int32 → Mem → Prop
  | 0, _, _ => False
  | n + 1, v2, M => (((M.1 147 4) ≤ v2 → X102 M) ∧ (¬ (M.1 147 4) ≤ v2 → f_X1_hasStep 147 v1 M (fun (r : Int32) (M_2 : Mem) => ((r = 0 → L_X5_dropLikeStep_17 v1 X102 K n (v2 + (1 : Int32)) M_2) ∧ (¬ r = 0 → f_X1_hasStep 147 v2 M_2 (fun (r_2 : Int32) (M_3 : Mem) => ((r_2 = 0 → L_X5_dropLikeStep_17 v1 X102 K n (v2 + (1 : Int32)) M_3) ∧ (¬ r_2 = 0 → f_X1_sameOfSteps 147 148 v1 v2 M_3 (fun (r_3 : Int32) (M_4 : Mem) => ((r_3 = 0 → L_X5_dropLikeStep_17 v1 X102 K n (v2 + (1 : Int32)) M_4) ∧ (¬ r_3 = 0 → f_X1_sameOfSteps 147 149 v1 v2 M_4 (fun (r_4 : Int32) (M_5 : Mem) => ((r_4 = 0 → L_X5_dropLikeStep_17 v1 X102 K n (v2 + (1 : Int32)) M_5) ∧ (¬ r_4 = 0 → f_X5_note (2 : Int32) (-1 : Int32) v2 M_5 (fun (r_5 : Int32) (M_6 : Mem) => (r_5 &&& 1 = r_5) ∧ K r_5 M_6)))))))))))))))

set_option maxHeartbeats 1000000 in
set_option maxRecDepth 10000 in
theorem mL_X5_dropLikeStep_17 (C : rw_C p s m meth c cX5_dropLikeStep 3 RX5 (some .boolean) D cy ad) {v1 : Int32} {X102 : Mem → Prop} {K : Int32 → Mem → Prop} (hX102 : ∀  (M : Mem), X102 M → rw_W p l e rm_X5_dropLikeStep s m args below meth c D cy ad 3 0 0 (rw_Qi below args s D cy ad K) 102 [(0, .ref (ad 146)), (1, .int v1)] [] M) : ∀ (n : Nat) (v2 : Int32) (M : Mem), L_X5_dropLikeStep_17 v1 X102 K n v2 M → rw_W p l e rm_X5_dropLikeStep s m args below meth c D cy ad 3 0 0 (rw_Qi below args s D cy ad K) 17 [(0, .ref (ad 146)), (1, .int v1), (2, .int v2)] [] M := by
  intro n
  induction n with
  | zero => intro v2 M h; exact h.elim
  | succ n ih =>
    intro v2 M h
    refine r_iload_n C 2 dX5_dropLikeStep_17 rfl rfl ?_
    refine r_aload_n C 0 dX5_dropLikeStep_18 rfl rfl ?_
    refine gX5_12 C dX5_dropLikeStep_19 ?_
    refine gX5_93 C isX1_147 dX5_dropLikeStep_22 ?_
    refine r_icmp_ge C 102 dX5_dropLikeStep_25 (by decide) (fun hc => ?_) (fun hc => ?_)
    · replace h := h.1 hc
      exact r_sub [0, 1] rfl (hX102 _ h)
    · replace h := h.2 hc
      refine r_aload_n C 0 dX5_dropLikeStep_28 rfl rfl ?_
      refine gX5_12 C dX5_dropLikeStep_29 ?_
      refine r_iload_n C 1 dX5_dropLikeStep_32 rfl rfl ?_
      refine cX5_96 C isX1_147 (m_X1_hasStep l isX1_147 h) ⟨Nat.le_of_ble_eq_true rfl, Nat.le_of_ble_eq_true rfl⟩ (Nat.le_of_ble_eq_true rfl) ⟨Nat.le_refl 0, Nat.le_refl 0⟩ dX5_dropLikeStep_33 (fun r M_2 h => ?_)
      refine r_if_eq C 96 dX5_dropLikeStep_36 (by decide) (fun hc => ?_) (fun hc => ?_)
      · replace h := h.1 hc
        refine r_iinc C 2 (v := _) [(2, .int _), (0, .ref _), (1, .int _)] dX5_dropLikeStep_96 rfl rfl (by decide) rfl ?_
        refine r_goto C 17 dX5_dropLikeStep_99 (by decide) ?_
        exact r_sub [1, 2, 0] rfl (ih _ _ h)
      · replace h := h.2 hc
        refine r_aload_n C 0 dX5_dropLikeStep_39 rfl rfl ?_
        refine gX5_12 C dX5_dropLikeStep_40 ?_
        refine r_iload_n C 2 dX5_dropLikeStep_43 rfl rfl ?_
        refine cX5_96 C isX1_147 (m_X1_hasStep l isX1_147 h) ⟨Nat.le_of_ble_eq_true rfl, Nat.le_of_ble_eq_true rfl⟩ (Nat.le_of_ble_eq_true rfl) ⟨Nat.le_refl 0, Nat.le_refl 0⟩ dX5_dropLikeStep_44 (fun r_2 M_3 h => ?_)
        refine r_if_eq C 96 dX5_dropLikeStep_47 (by decide) (fun hc => ?_) (fun hc => ?_)
        · replace h := h.1 hc
          refine r_iinc C 2 (v := _) [(2, .int _), (0, .ref _), (1, .int _)] dX5_dropLikeStep_96 rfl rfl (by decide) rfl ?_
          refine r_goto C 17 dX5_dropLikeStep_99 (by decide) ?_
          exact r_sub [1, 2, 0] rfl (ih _ _ h)
        · replace h := h.2 hc
          refine r_aload_n C 0 dX5_dropLikeStep_50 rfl rfl ?_
          refine gX5_12 C dX5_dropLikeStep_51 ?_
          refine r_aload_n C 0 dX5_dropLikeStep_54 rfl rfl ?_
          refine gX5_12 C dX5_dropLikeStep_55 ?_
          refine gX5_79 C isX1_147 dX5_dropLikeStep_58 ?_
          refine r_iload_n C 1 dX5_dropLikeStep_61 rfl rfl ?_
          refine r_iload_n C 2 dX5_dropLikeStep_62 rfl rfl ?_
          refine cX5_99 C isX1_147 (m_X1_sameOfSteps l isX1_147 (isI_of (isX1_A1 isX1_147)) h) ⟨Nat.le_of_ble_eq_true rfl, Nat.le_of_ble_eq_true rfl⟩ (Nat.le_of_ble_eq_true rfl) ⟨Nat.le_refl 0, Nat.le_refl 0⟩ dX5_dropLikeStep_63 (fun r_3 M_4 h => ?_)
          refine r_if_eq C 96 dX5_dropLikeStep_66 (by decide) (fun hc => ?_) (fun hc => ?_)
          · replace h := h.1 hc
            refine r_iinc C 2 (v := _) [(2, .int _), (0, .ref _), (1, .int _)] dX5_dropLikeStep_96 rfl rfl (by decide) rfl ?_
            refine r_goto C 17 dX5_dropLikeStep_99 (by decide) ?_
            exact r_sub [1, 2, 0] rfl (ih _ _ h)
          · replace h := h.2 hc
            refine r_aload_n C 0 dX5_dropLikeStep_69 rfl rfl ?_
            refine gX5_12 C dX5_dropLikeStep_70 ?_
            refine r_aload_n C 0 dX5_dropLikeStep_73 rfl rfl ?_
            refine gX5_12 C dX5_dropLikeStep_74 ?_
            refine gX5_86 C isX1_147 dX5_dropLikeStep_77 ?_
            refine r_iload_n C 1 dX5_dropLikeStep_80 rfl rfl ?_
            refine r_iload_n C 2 dX5_dropLikeStep_81 rfl rfl ?_
            refine cX5_99 C isX1_147 (m_X1_sameOfSteps l isX1_147 (isI_of (isX1_A2 isX1_147)) h) ⟨Nat.le_of_ble_eq_true rfl, Nat.le_of_ble_eq_true rfl⟩ (Nat.le_of_ble_eq_true rfl) ⟨Nat.le_refl 0, Nat.le_refl 0⟩ dX5_dropLikeStep_82 (fun r_4 M_5 h => ?_)
            refine r_if_eq C 96 dX5_dropLikeStep_85 (by decide) (fun hc => ?_) (fun hc => ?_)
            · replace h := h.1 hc
              refine r_iinc C 2 (v := _) [(2, .int _), (0, .ref _), (1, .int _)] dX5_dropLikeStep_96 rfl rfl (by decide) rfl ?_
              refine r_goto C 17 dX5_dropLikeStep_99 (by decide) ?_
              exact r_sub [1, 2, 0] rfl (ih _ _ h)
            · replace h := h.2 hc
              refine r_aload_n C 0 dX5_dropLikeStep_88 rfl rfl ?_
              refine r_iconst (v := (2 : Int32)) C dX5_dropLikeStep_89 rfl ?_
              refine r_iconst (v := (-1 : Int32)) C dX5_dropLikeStep_90 rfl ?_
              refine r_iload_n C 2 dX5_dropLikeStep_91 rfl rfl ?_
              refine cX5_89 C (m_X5_note l h) ⟨Nat.le_of_ble_eq_true rfl, Nat.le_of_ble_eq_true rfl⟩ (Nat.le_of_ble_eq_true rfl) ⟨Nat.le_refl 0, Nat.le_refl 0⟩ dX5_dropLikeStep_92 (fun r_5 M_6 h => ?_)
              exact r_zret C h.1 dX5_dropLikeStep_95 h.2

def L_X5_dropLikeStep_2 (X108 : Mem → Prop) (K : Int32 → Mem → Prop) : Nat → Int32 → Mem → Prop
  | 0, _, _ => False
  | n + 1, v1, M => (((M.1 147 4) ≤ v1 → X108 M) ∧ (¬ (M.1 147 4) ≤ v1 → ∀ x2 : Int32, x2 = v1 + (1 : Int32) → (∃ k17 : Nat, L_X5_dropLikeStep_17 v1 (fun  (M_7 : Mem) => L_X5_dropLikeStep_2 X108 K n (v1 + (1 : Int32)) M_7) K k17 x2 M)))

set_option maxHeartbeats 1000000 in
set_option maxRecDepth 10000 in
theorem mL_X5_dropLikeStep_2 (C : rw_C p s m meth c cX5_dropLikeStep 3 RX5 (some .boolean) D cy ad) {X108 : Mem → Prop} {K : Int32 → Mem → Prop} (hX108 : ∀  (M : Mem), X108 M → rw_W p l e rm_X5_dropLikeStep s m args below meth c D cy ad 3 0 0 (rw_Qi below args s D cy ad K) 108 [] [] M) : ∀ (n : Nat) (v1 : Int32) (M : Mem), L_X5_dropLikeStep_2 X108 K n v1 M → rw_W p l e rm_X5_dropLikeStep s m args below meth c D cy ad 3 0 0 (rw_Qi below args s D cy ad K) 2 [(0, .ref (ad 146)), (1, .int v1)] [] M := by
  intro n
  induction n with
  | zero => intro v1 M h; exact h.elim
  | succ n ih =>
    intro v1 M h
    refine r_iload_n C 1 dX5_dropLikeStep_2 rfl rfl ?_
    refine r_aload_n C 0 dX5_dropLikeStep_3 rfl rfl ?_
    refine gX5_12 C dX5_dropLikeStep_4 ?_
    refine gX5_93 C isX1_147 dX5_dropLikeStep_7 ?_
    refine r_icmp_ge C 108 dX5_dropLikeStep_10 (by decide) (fun hc => ?_) (fun hc => ?_)
    · replace h := h.1 hc
      exact r_sub [] rfl (hX108 _ h)
    · replace h := h.2 hc
      refine r_iload_n C 1 dX5_dropLikeStep_13 rfl rfl ?_
      refine r_iconst (v := (1 : Int32)) C dX5_dropLikeStep_14 rfl ?_
      refine r_iadd C dX5_dropLikeStep_15 ?_
      refine r_istore_n C [(2, .int _), (0, .ref _), (1, .int _)] dX5_dropLikeStep_16 rfl (by decide) rfl ?_
      replace h := h _ rfl
      obtain ⟨n17, h⟩ := h
      refine r_sub [1, 2, 0] rfl (mL_X5_dropLikeStep_17 C (fun M_7 h => ?_) n17 _ _ h)
      refine r_iinc C 1 (v := _) [(1, .int _), (0, .ref _)] dX5_dropLikeStep_102 rfl rfl (by decide) rfl ?_
      refine r_goto C 2 dX5_dropLikeStep_105 (by decide) ?_
      exact r_sub [1, 0] rfl (ih _ _ h)

def f_X5_dropLikeStep (M : Mem) (K : Int32 → Mem → Prop) : Prop := (∃ k2 : Nat, L_X5_dropLikeStep_2 (fun  (M_8 : Mem) => K (0 : Int32) M_8) K k2 (0 : Int32) M)

set_option maxHeartbeats 1000000 in
set_option maxRecDepth 10000 in
theorem m_X5_dropLikeStep (l : Launch)   {M : Mem} {K : Int32 → Mem → Prop} (h : f_X5_dropLikeStep M K) : CTi l yX5_dropLikeStep cX5_dropLikeStep 3 (some .boolean) rm_X5_dropLikeStep (fun ad => [.ref (ad 146)]) M K := by
  refine rw_enti (by decide +kernel) (fun ad => Nat.le_of_ble_eq_true rfl) (fun p e s m args below meth c D cy ad C => ?_)
  change rw_W p l e _ s m args below meth c D cy ad 3 0 0 _ 0 [(0, .ref (ad 146))] [] M
  unfold f_X5_dropLikeStep at h
  refine r_iconst (v := (0 : Int32)) C dX5_dropLikeStep_0 rfl ?_
  refine r_istore_n C [(1, .int _), (0, .ref _)] dX5_dropLikeStep_1 rfl (by decide) rfl ?_
  obtain ⟨n2, h⟩ := h
  refine r_sub [1, 0] rfl (mL_X5_dropLikeStep_2 C (fun M_8 h => ?_) n2 _ _ h)
  refine r_iconst (v := (0 : Int32)) C dX5_dropLikeStep_108 rfl ?_
  exact r_zret C (by decide) dX5_dropLikeStep_109 h
def L_X5_isNeverChanged_2 (v1 : Int32) (X33 : Mem → Prop) (K : Int32 → Mem → Prop) : Nat → Int32 → Mem → Prop
  | 0, _, _ => False
  | n + 1, v2, M => (((M.1 147 4) ≤ v2 → X33 M) ∧ (¬ (M.1 147 4) ≤ v2 → f_X1_change 147 v2 v1 M (fun (r : Int32) (M_2 : Mem) => ((r = 0 → L_X5_isNeverChanged_2 v1 X33 K n (v2 + (1 : Int32)) M_2) ∧ (¬ r = 0 → K (0 : Int32) M_2)))))

set_option maxHeartbeats 1000000 in
set_option maxRecDepth 10000 in
theorem mL_X5_isNeverChanged_2 (C : rw_C p s m meth c cX5_isNeverChanged 3 RX5 (some .boolean) D cy ad) {v1 : Int32} {X33 : Mem → Prop} {K : Int32 → Mem → Prop} (hX33 : ∀  (M : Mem), X33 M → rw_W p l e rm_X5_isNeverChanged s m args below meth c D cy ad 3 0 0 (rw_Qi below args s D cy ad K) 33 [] [] M) : ∀ (n : Nat) (v2 : Int32) (M : Mem), L_X5_isNeverChanged_2 v1 X33 K n v2 M → rw_W p l e rm_X5_isNeverChanged s m args below meth c D cy ad 3 0 0 (rw_Qi below args s D cy ad K) 2 [(0, .ref (ad 146)), (1, .int v1), (2, .int v2)] [] M := by
  intro n
  induction n with
  | zero => intro v2 M h; exact h.elim
  | succ n ih =>
    intro v2 M h
    refine r_iload_n C 2 dX5_isNeverChanged_2 rfl rfl ?_
    refine r_aload_n C 0 dX5_isNeverChanged_3 rfl rfl ?_
    refine gX5_12 C dX5_isNeverChanged_4 ?_
    refine gX5_93 C isX1_147 dX5_isNeverChanged_7 ?_
    refine r_icmp_ge C 33 dX5_isNeverChanged_10 (by decide) (fun hc => ?_) (fun hc => ?_)
    · replace h := h.1 hc
      exact r_sub [] rfl (hX33 _ h)
    · replace h := h.2 hc
      refine r_aload_n C 0 dX5_isNeverChanged_13 rfl rfl ?_
      refine gX5_12 C dX5_isNeverChanged_14 ?_
      refine r_iload_n C 2 dX5_isNeverChanged_17 rfl rfl ?_
      refine r_iload_n C 1 dX5_isNeverChanged_18 rfl rfl ?_
      refine cX5_109 C isX1_147 (m_X1_change l isX1_147 h) ⟨Nat.le_of_ble_eq_true rfl, Nat.le_of_ble_eq_true rfl⟩ (Nat.le_of_ble_eq_true rfl) ⟨Nat.le_refl 0, Nat.le_refl 0⟩ dX5_isNeverChanged_19 (fun r M_2 h => ?_)
      refine r_if_eq C 27 dX5_isNeverChanged_22 (by decide) (fun hc => ?_) (fun hc => ?_)
      · replace h := h.1 hc
        refine r_iinc C 2 (v := _) [(2, .int _), (0, .ref _), (1, .int _)] dX5_isNeverChanged_27 rfl rfl (by decide) rfl ?_
        refine r_goto C 2 dX5_isNeverChanged_30 (by decide) ?_
        exact r_sub [1, 2, 0] rfl (ih _ _ h)
      · replace h := h.2 hc
        refine r_iconst (v := (0 : Int32)) C dX5_isNeverChanged_25 rfl ?_
        exact r_zret C (by decide) dX5_isNeverChanged_26 h

def f_X5_isNeverChanged (v1 : Int32) (M : Mem) (K : Int32 → Mem → Prop) : Prop := (∃ k2 : Nat, L_X5_isNeverChanged_2 v1 (fun  (M_3 : Mem) => K (1 : Int32) M_3) K k2 (0 : Int32) M)

set_option maxHeartbeats 1000000 in
set_option maxRecDepth 10000 in
theorem m_X5_isNeverChanged (l : Launch) {v1 : Int32}  {M : Mem} {K : Int32 → Mem → Prop} (h : f_X5_isNeverChanged v1 M K) : CTi l yX5_isNeverChanged cX5_isNeverChanged 3 (some .boolean) rm_X5_isNeverChanged (fun ad => [.ref (ad 146), .int v1]) M K := by
  refine rw_enti (by decide +kernel) (fun ad => Nat.le_of_ble_eq_true rfl) (fun p e s m args below meth c D cy ad C => ?_)
  change rw_W p l e _ s m args below meth c D cy ad 3 0 0 _ 0 [(0, .ref (ad 146)), (1, .int v1)] [] M
  unfold f_X5_isNeverChanged at h
  refine r_iconst (v := (0 : Int32)) C dX5_isNeverChanged_0 rfl ?_
  refine r_istore_n C [(2, .int _), (0, .ref _), (1, .int _)] dX5_isNeverChanged_1 rfl (by decide) rfl ?_
  obtain ⟨n2, h⟩ := h
  refine r_sub [1, 2, 0] rfl (mL_X5_isNeverChanged_2 C (fun M_3 h => ?_) n2 _ _ h)
  refine r_iconst (v := (1 : Int32)) C dX5_isNeverChanged_33 rfl ?_
  exact r_zret C (by decide) dX5_isNeverChanged_34 h
def L_X5_mostTaken_4 (v1 : Int32) (X40 : Int32 → Mem → Prop) (K : Int32 → Mem → Prop) : Nat → Int32 → Int32 → Mem → Prop
  | 0, _, _, _ => False
  | n + 1, v2, v3, M => (((M.1 147 4) ≤ v3 → X40 v2 M) ∧ (¬ (M.1 147 4) ≤ v3 → vp_in ((v3 * (10 : Int32)) + v1) 80 ∧ ∀ x2 : Int32, x2 = (if v2 < (gI M 148 ((v3 * (10 : Int32)) + v1)) then (gI M 148 ((v3 * (10 : Int32)) + v1)) else v2) → L_X5_mostTaken_4 v1 X40 K n x2 (v3 + (1 : Int32)) M))

set_option maxHeartbeats 1000000 in
set_option maxRecDepth 10000 in
theorem mL_X5_mostTaken_4 (C : rw_C p s m meth c cX5_mostTaken 4 RX5 (some .int) D cy ad) {v1 : Int32} {X40 : Int32 → Mem → Prop} {K : Int32 → Mem → Prop} (hX40 : ∀ (u2 : Int32) (M : Mem), X40 u2 M → rw_W p l e rm_X5_mostTaken s m args below meth c D cy ad 4 0 0 (rw_Qi below args s D cy ad K) 40 [(2, .int u2)] [] M) : ∀ (n : Nat) (v2 : Int32) (v3 : Int32) (M : Mem), L_X5_mostTaken_4 v1 X40 K n v2 v3 M → rw_W p l e rm_X5_mostTaken s m args below meth c D cy ad 4 0 0 (rw_Qi below args s D cy ad K) 4 [(0, .ref (ad 146)), (1, .int v1), (2, .int v2), (3, .int v3)] [] M := by
  intro n
  induction n with
  | zero => intro v2 v3 M h; exact h.elim
  | succ n ih =>
    intro v2 v3 M h
    refine r_iload_n C 3 dX5_mostTaken_4 rfl rfl ?_
    refine r_aload_n C 0 dX5_mostTaken_5 rfl rfl ?_
    refine gX5_12 C dX5_mostTaken_6 ?_
    refine gX5_93 C isX1_147 dX5_mostTaken_9 ?_
    refine r_icmp_ge C 40 dX5_mostTaken_12 (by decide) (fun hc => ?_) (fun hc => ?_)
    · replace h := h.1 hc
      exact r_sub [2] rfl (hX40 _ _ h)
    · replace h := h.2 hc
      refine r_iload_n C 2 dX5_mostTaken_15 rfl rfl ?_
      refine r_aload_n C 0 dX5_mostTaken_16 rfl rfl ?_
      refine gX5_12 C dX5_mostTaken_17 ?_
      refine gX5_79 C isX1_147 dX5_mostTaken_20 ?_
      refine r_iload_n C 3 dX5_mostTaken_23 rfl rfl ?_
      refine r_bipush (v := (10 : Int32)) C dX5_mostTaken_24 rfl ?_
      refine r_imul C dX5_mostTaken_26 ?_
      refine r_iload_n C 1 dX5_mostTaken_27 rfl rfl ?_
      refine r_iadd C dX5_mostTaken_28 ?_
      obtain ⟨q, h⟩ := h
      refine r_iald C (isX1_A1 isX1_147) q dX5_mostTaken_29 ?_
      refine cX5_113 C ⟨Nat.le_of_ble_eq_true rfl, Nat.le_of_ble_eq_true rfl⟩ (Nat.le_refl 0) (Nat.le_refl 0) dX5_mostTaken_30 ?_
      refine r_istore_n C [(2, .int _), (0, .ref _), (1, .int _), (3, .int _)] dX5_mostTaken_33 rfl (by decide) rfl ?_
      replace h := h _ rfl
      refine r_iinc C 3 (v := _) [(3, .int _), (2, .int _), (0, .ref _), (1, .int _)] dX5_mostTaken_34 rfl rfl (by decide) rfl ?_
      refine r_goto C 4 dX5_mostTaken_37 (by decide) ?_
      exact r_sub [2, 3, 1, 0] rfl (ih _ _ _ h)

def f_X5_mostTaken (v1 : Int32) (M : Mem) (K : Int32 → Mem → Prop) : Prop := (∃ k4 : Nat, L_X5_mostTaken_4 v1 (fun (v2_2 : Int32) (M_2 : Mem) => K v2_2 M_2) K k4 (0 : Int32) (0 : Int32) M)

set_option maxHeartbeats 1000000 in
set_option maxRecDepth 10000 in
theorem m_X5_mostTaken (l : Launch) {v1 : Int32}  {M : Mem} {K : Int32 → Mem → Prop} (h : f_X5_mostTaken v1 M K) : CTi l yX5_mostTaken cX5_mostTaken 4 (some .int) rm_X5_mostTaken (fun ad => [.ref (ad 146), .int v1]) M K := by
  refine rw_enti (by decide +kernel) (fun ad => Nat.le_of_ble_eq_true rfl) (fun p e s m args below meth c D cy ad C => ?_)
  change rw_W p l e _ s m args below meth c D cy ad 4 0 0 _ 0 [(0, .ref (ad 146)), (1, .int v1)] [] M
  unfold f_X5_mostTaken at h
  refine r_iconst (v := (0 : Int32)) C dX5_mostTaken_0 rfl ?_
  refine r_istore_n C [(2, .int _), (0, .ref _), (1, .int _)] dX5_mostTaken_1 rfl (by decide) rfl ?_
  refine r_iconst (v := (0 : Int32)) C dX5_mostTaken_2 rfl ?_
  refine r_istore_n C [(3, .int _), (2, .int _), (0, .ref _), (1, .int _)] dX5_mostTaken_3 rfl (by decide) rfl ?_
  obtain ⟨n4, h⟩ := h
  refine r_sub [2, 3, 1, 0] rfl (mL_X5_mostTaken_4 C (fun v2_2 M_2 h => ?_) n4 _ _ _ h)
  refine r_iload_n C 0 dX5_mostTaken_40 rfl rfl ?_
  exact r_iret C dX5_mostTaken_41 h
def L_X5_dropIdlePlace_2 (X63 : Mem → Prop) (K : Int32 → Mem → Prop) : Nat → Int32 → Mem → Prop
  | 0, _, _ => False
  | n + 1, v1, M => (((M.1 147 3) ≤ v1 → X63 M) ∧ (¬ (M.1 147 3) ≤ v1 → f_X1_hasPlace 147 v1 M (fun (r : Int32) (M_2 : Mem) => ((r = 0 → L_X5_dropIdlePlace_2 X63 K n (v1 + (1 : Int32)) M_2) ∧ (¬ r = 0 → f_X5_isNeverChanged v1 M_2 (fun (r_2 : Int32) (M_3 : Mem) => ((r_2 = 0 → L_X5_dropIdlePlace_2 X63 K n (v1 + (1 : Int32)) M_3) ∧ (¬ r_2 = 0 → vp_in v1 10 ∧ f_X5_mostTaken v1 M_3 (fun (r_3 : Int32) (M_4 : Mem) => (((gI M_3 150 v1) < r_3 → L_X5_dropIdlePlace_2 X63 K n (v1 + (1 : Int32)) M_4) ∧ (¬ (gI M_3 150 v1) < r_3 → f_X5_note (3 : Int32) v1 (-1 : Int32) M_4 (fun (r_4 : Int32) (M_5 : Mem) => (r_4 &&& 1 = r_4) ∧ K r_4 M_5))))))))))))

set_option maxHeartbeats 1000000 in
set_option maxRecDepth 10000 in
theorem mL_X5_dropIdlePlace_2 (C : rw_C p s m meth c cX5_dropIdlePlace 2 RX5 (some .boolean) D cy ad) {X63 : Mem → Prop} {K : Int32 → Mem → Prop} (hX63 : ∀  (M : Mem), X63 M → rw_W p l e rm_X5_dropIdlePlace s m args below meth c D cy ad 2 0 0 (rw_Qi below args s D cy ad K) 63 [] [] M) : ∀ (n : Nat) (v1 : Int32) (M : Mem), L_X5_dropIdlePlace_2 X63 K n v1 M → rw_W p l e rm_X5_dropIdlePlace s m args below meth c D cy ad 2 0 0 (rw_Qi below args s D cy ad K) 2 [(0, .ref (ad 146)), (1, .int v1)] [] M := by
  intro n
  induction n with
  | zero => intro v1 M h; exact h.elim
  | succ n ih =>
    intro v1 M h
    refine r_iload_n C 1 dX5_dropIdlePlace_2 rfl rfl ?_
    refine r_aload_n C 0 dX5_dropIdlePlace_3 rfl rfl ?_
    refine gX5_12 C dX5_dropIdlePlace_4 ?_
    refine gX5_69 C isX1_147 dX5_dropIdlePlace_7 ?_
    refine r_icmp_ge C 63 dX5_dropIdlePlace_10 (by decide) (fun hc => ?_) (fun hc => ?_)
    · replace h := h.1 hc
      exact r_sub [] rfl (hX63 _ h)
    · replace h := h.2 hc
      refine r_aload_n C 0 dX5_dropIdlePlace_13 rfl rfl ?_
      refine gX5_12 C dX5_dropIdlePlace_14 ?_
      refine r_iload_n C 1 dX5_dropIdlePlace_17 rfl rfl ?_
      refine cX5_72 C isX1_147 (m_X1_hasPlace l isX1_147 h) ⟨Nat.le_of_ble_eq_true rfl, Nat.le_of_ble_eq_true rfl⟩ (Nat.le_of_ble_eq_true rfl) ⟨Nat.le_refl 0, Nat.le_refl 0⟩ dX5_dropIdlePlace_18 (fun r M_2 h => ?_)
      refine r_if_eq C 57 dX5_dropIdlePlace_21 (by decide) (fun hc => ?_) (fun hc => ?_)
      · replace h := h.1 hc
        refine r_iinc C 1 (v := _) [(1, .int _), (0, .ref _)] dX5_dropIdlePlace_57 rfl rfl (by decide) rfl ?_
        refine r_goto C 2 dX5_dropIdlePlace_60 (by decide) ?_
        exact r_sub [1, 0] rfl (ih _ _ h)
      · replace h := h.2 hc
        refine r_aload_n C 0 dX5_dropIdlePlace_24 rfl rfl ?_
        refine r_iload_n C 1 dX5_dropIdlePlace_25 rfl rfl ?_
        refine cX5_102 C (m_X5_isNeverChanged l h) ⟨Nat.le_of_ble_eq_true rfl, Nat.le_of_ble_eq_true rfl⟩ (Nat.le_of_ble_eq_true rfl) ⟨Nat.le_refl 0, Nat.le_refl 0⟩ dX5_dropIdlePlace_26 (fun r_2 M_3 h => ?_)
        refine r_if_eq C 57 dX5_dropIdlePlace_29 (by decide) (fun hc => ?_) (fun hc => ?_)
        · replace h := h.1 hc
          refine r_iinc C 1 (v := _) [(1, .int _), (0, .ref _)] dX5_dropIdlePlace_57 rfl rfl (by decide) rfl ?_
          refine r_goto C 2 dX5_dropIdlePlace_60 (by decide) ?_
          exact r_sub [1, 0] rfl (ih _ _ h)
        · replace h := h.2 hc
          refine r_aload_n C 0 dX5_dropIdlePlace_32 rfl rfl ?_
          refine gX5_12 C dX5_dropIdlePlace_33 ?_
          refine gX5_76 C isX1_147 dX5_dropIdlePlace_36 ?_
          refine r_iload_n C 1 dX5_dropIdlePlace_39 rfl rfl ?_
          obtain ⟨q, h⟩ := h
          refine r_iald C (isX1_A3 isX1_147) q dX5_dropIdlePlace_40 ?_
          refine r_aload_n C 0 dX5_dropIdlePlace_41 rfl rfl ?_
          refine r_iload_n C 1 dX5_dropIdlePlace_42 rfl rfl ?_
          refine cX5_105 C (m_X5_mostTaken l h) ⟨Nat.le_of_ble_eq_true rfl, Nat.le_of_ble_eq_true rfl⟩ (Nat.le_of_ble_eq_true rfl) ⟨Nat.le_refl 0, Nat.le_refl 0⟩ dX5_dropIdlePlace_43 (fun r_3 M_4 h => ?_)
          refine r_icmp_lt C 57 dX5_dropIdlePlace_46 (by decide) (fun hc => ?_) (fun hc => ?_)
          · replace h := h.1 hc
            refine r_iinc C 1 (v := _) [(1, .int _), (0, .ref _)] dX5_dropIdlePlace_57 rfl rfl (by decide) rfl ?_
            refine r_goto C 2 dX5_dropIdlePlace_60 (by decide) ?_
            exact r_sub [1, 0] rfl (ih _ _ h)
          · replace h := h.2 hc
            refine r_aload_n C 0 dX5_dropIdlePlace_49 rfl rfl ?_
            refine r_iconst (v := (3 : Int32)) C dX5_dropIdlePlace_50 rfl ?_
            refine r_iload_n C 1 dX5_dropIdlePlace_51 rfl rfl ?_
            refine r_iconst (v := (-1 : Int32)) C dX5_dropIdlePlace_52 rfl ?_
            refine cX5_89 C (m_X5_note l h) ⟨Nat.le_of_ble_eq_true rfl, Nat.le_of_ble_eq_true rfl⟩ (Nat.le_of_ble_eq_true rfl) ⟨Nat.le_refl 0, Nat.le_refl 0⟩ dX5_dropIdlePlace_53 (fun r_4 M_5 h => ?_)
            exact r_zret C h.1 dX5_dropIdlePlace_56 h.2

def f_X5_dropIdlePlace (M : Mem) (K : Int32 → Mem → Prop) : Prop := (∃ k2 : Nat, L_X5_dropIdlePlace_2 (fun  (M_6 : Mem) => K (0 : Int32) M_6) K k2 (0 : Int32) M)

set_option maxHeartbeats 1000000 in
set_option maxRecDepth 10000 in
theorem m_X5_dropIdlePlace (l : Launch)   {M : Mem} {K : Int32 → Mem → Prop} (h : f_X5_dropIdlePlace M K) : CTi l yX5_dropIdlePlace cX5_dropIdlePlace 2 (some .boolean) rm_X5_dropIdlePlace (fun ad => [.ref (ad 146)]) M K := by
  refine rw_enti (by decide +kernel) (fun ad => Nat.le_of_ble_eq_true rfl) (fun p e s m args below meth c D cy ad C => ?_)
  change rw_W p l e _ s m args below meth c D cy ad 2 0 0 _ 0 [(0, .ref (ad 146))] [] M
  unfold f_X5_dropIdlePlace at h
  refine r_iconst (v := (0 : Int32)) C dX5_dropIdlePlace_0 rfl ?_
  refine r_istore_n C [(1, .int _), (0, .ref _)] dX5_dropIdlePlace_1 rfl (by decide) rfl ?_
  obtain ⟨n2, h⟩ := h
  refine r_sub [1, 0] rfl (mL_X5_dropIdlePlace_2 C (fun M_6 h => ?_) n2 _ _ h)
  refine r_iconst (v := (0 : Int32)) C dX5_dropIdlePlace_63 rfl ?_
  exact r_zret C (by decide) dX5_dropIdlePlace_64 h
def L_X5_dropIdleStep_18 (X65 : Mem → Prop) (K : Int32 → Mem → Prop) : Nat → Int32 → Mem → Prop
  | 0, _, _ => False
  | n + 1, v1, M => (((M.1 147 4) ≤ v1 → X65 M) ∧ (¬ (M.1 147 4) ≤ v1 → f_X1_hasStep 147 v1 M (fun (r_2 : Int32) (M_3 : Mem) => ((r_2 = 0 → L_X5_dropIdleStep_18 X65 K n (v1 + (1 : Int32)) M_3) ∧ (¬ r_2 = 0 → f_X1_changesNothing 147 v1 M_3 (fun (r_3 : Int32) (M_4 : Mem) => ((r_3 = 0 → L_X5_dropIdleStep_18 X65 K n (v1 + (1 : Int32)) M_4) ∧ (¬ r_3 = 0 → f_X5_note (4 : Int32) (-1 : Int32) v1 M_4 (fun (r_4 : Int32) (M_5 : Mem) => (r_4 &&& 1 = r_4) ∧ K r_4 M_5)))))))))

set_option maxHeartbeats 1000000 in
set_option maxRecDepth 10000 in
theorem mL_X5_dropIdleStep_18 (C : rw_C p s m meth c cX5_dropIdleStep 2 RX5 (some .boolean) D cy ad) {X65 : Mem → Prop} {K : Int32 → Mem → Prop} (hX65 : ∀  (M : Mem), X65 M → rw_W p l e rm_X5_dropIdleStep s m args below meth c D cy ad 2 0 0 (rw_Qi below args s D cy ad K) 65 [] [] M) : ∀ (n : Nat) (v1 : Int32) (M : Mem), L_X5_dropIdleStep_18 X65 K n v1 M → rw_W p l e rm_X5_dropIdleStep s m args below meth c D cy ad 2 0 0 (rw_Qi below args s D cy ad K) 18 [(0, .ref (ad 146)), (1, .int v1)] [] M := by
  intro n
  induction n with
  | zero => intro v1 M h; exact h.elim
  | succ n ih =>
    intro v1 M h
    refine r_iload_n C 1 dX5_dropIdleStep_18 rfl rfl ?_
    refine r_aload_n C 0 dX5_dropIdleStep_19 rfl rfl ?_
    refine gX5_12 C dX5_dropIdleStep_20 ?_
    refine gX5_93 C isX1_147 dX5_dropIdleStep_23 ?_
    refine r_icmp_ge C 65 dX5_dropIdleStep_26 (by decide) (fun hc => ?_) (fun hc => ?_)
    · replace h := h.1 hc
      exact r_sub [] rfl (hX65 _ h)
    · replace h := h.2 hc
      refine r_aload_n C 0 dX5_dropIdleStep_29 rfl rfl ?_
      refine gX5_12 C dX5_dropIdleStep_30 ?_
      refine r_iload_n C 1 dX5_dropIdleStep_33 rfl rfl ?_
      refine cX5_96 C isX1_147 (m_X1_hasStep l isX1_147 h) ⟨Nat.le_of_ble_eq_true rfl, Nat.le_of_ble_eq_true rfl⟩ (Nat.le_of_ble_eq_true rfl) ⟨Nat.le_refl 0, Nat.le_refl 0⟩ dX5_dropIdleStep_34 (fun r_2 M_3 h => ?_)
      refine r_if_eq C 59 dX5_dropIdleStep_37 (by decide) (fun hc => ?_) (fun hc => ?_)
      · replace h := h.1 hc
        refine r_iinc C 1 (v := _) [(1, .int _), (0, .ref _)] dX5_dropIdleStep_59 rfl rfl (by decide) rfl ?_
        refine r_goto C 18 dX5_dropIdleStep_62 (by decide) ?_
        exact r_sub [1, 0] rfl (ih _ _ h)
      · replace h := h.2 hc
        refine r_aload_n C 0 dX5_dropIdleStep_40 rfl rfl ?_
        refine gX5_12 C dX5_dropIdleStep_41 ?_
        refine r_iload_n C 1 dX5_dropIdleStep_44 rfl rfl ?_
        refine cX5_126 C isX1_147 (m_X1_changesNothing l isX1_147 h) ⟨Nat.le_of_ble_eq_true rfl, Nat.le_of_ble_eq_true rfl⟩ (Nat.le_of_ble_eq_true rfl) ⟨Nat.le_refl 0, Nat.le_refl 0⟩ dX5_dropIdleStep_45 (fun r_3 M_4 h => ?_)
        refine r_if_eq C 59 dX5_dropIdleStep_48 (by decide) (fun hc => ?_) (fun hc => ?_)
        · replace h := h.1 hc
          refine r_iinc C 1 (v := _) [(1, .int _), (0, .ref _)] dX5_dropIdleStep_59 rfl rfl (by decide) rfl ?_
          refine r_goto C 18 dX5_dropIdleStep_62 (by decide) ?_
          exact r_sub [1, 0] rfl (ih _ _ h)
        · replace h := h.2 hc
          refine r_aload_n C 0 dX5_dropIdleStep_51 rfl rfl ?_
          refine r_iconst (v := (4 : Int32)) C dX5_dropIdleStep_52 rfl ?_
          refine r_iconst (v := (-1 : Int32)) C dX5_dropIdleStep_53 rfl ?_
          refine r_iload_n C 1 dX5_dropIdleStep_54 rfl rfl ?_
          refine cX5_89 C (m_X5_note l h) ⟨Nat.le_of_ble_eq_true rfl, Nat.le_of_ble_eq_true rfl⟩ (Nat.le_of_ble_eq_true rfl) ⟨Nat.le_refl 0, Nat.le_refl 0⟩ dX5_dropIdleStep_55 (fun r_4 M_5 h => ?_)
          exact r_zret C h.1 dX5_dropIdleStep_58 h.2

def f_X5_dropIdleStep (M : Mem) (K : Int32 → Mem → Prop) : Prop := f_J6_bitCount_0f7a4 (M.1 147 6) M (fun (r : Int32) (M_2 : Mem) => (((2 : Int32) ≤ r → (∃ k18 : Nat, L_X5_dropIdleStep_18 (fun  (M_6 : Mem) => K (0 : Int32) M_6) K k18 (0 : Int32) M_2)) ∧ (¬ (2 : Int32) ≤ r → K (0 : Int32) M_2)))

set_option maxHeartbeats 1000000 in
set_option maxRecDepth 10000 in
theorem m_X5_dropIdleStep (l : Launch)   {M : Mem} {K : Int32 → Mem → Prop} (h : f_X5_dropIdleStep M K) : CTi l yX5_dropIdleStep cX5_dropIdleStep 2 (some .boolean) rm_X5_dropIdleStep (fun ad => [.ref (ad 146)]) M K := by
  refine rw_enti (by decide +kernel) (fun ad => Nat.le_of_ble_eq_true rfl) (fun p e s m args below meth c D cy ad C => ?_)
  change rw_W p l e _ s m args below meth c D cy ad 2 0 0 _ 0 [(0, .ref (ad 146))] [] M
  unfold f_X5_dropIdleStep at h
  refine r_aload_n C 0 dX5_dropIdleStep_0 rfl rfl ?_
  refine gX5_12 C dX5_dropIdleStep_1 ?_
  refine gX5_118 C isX1_147 dX5_dropIdleStep_4 ?_
  refine cX5_121 C (m_J6_bitCount_0f7a4 l h) ⟨Nat.le_of_ble_eq_true rfl, Nat.le_of_ble_eq_true rfl⟩ (Nat.le_of_ble_eq_true rfl) ⟨Nat.le_refl 0, Nat.le_refl 0⟩ dX5_dropIdleStep_7 (fun r M_2 h => ?_)
  refine r_iconst (v := (2 : Int32)) C dX5_dropIdleStep_10 rfl ?_
  refine r_icmp_ge C 16 dX5_dropIdleStep_11 (by decide) (fun hc => ?_) (fun hc => ?_)
  · replace h := h.1 hc
    refine r_iconst (v := (0 : Int32)) C dX5_dropIdleStep_16 rfl ?_
    refine r_istore_n C [(1, .int _), (0, .ref _)] dX5_dropIdleStep_17 rfl (by decide) rfl ?_
    obtain ⟨n18, h⟩ := h
    refine r_sub [1, 0] rfl (mL_X5_dropIdleStep_18 C (fun M_6 h => ?_) n18 _ _ h)
    refine r_iconst (v := (0 : Int32)) C dX5_dropIdleStep_65 rfl ?_
    exact r_zret C (by decide) dX5_dropIdleStep_66 h
  · replace h := h.2 hc
    refine r_iconst (v := (0 : Int32)) C dX5_dropIdleStep_14 rfl ?_
    exact r_zret C (by decide) dX5_dropIdleStep_15 h
def L_X5_isJoint_55 (v1 : Int32) (v3 : Int32) (X114 : Mem → Prop) (K : Int32 → Mem → Prop) : Nat → Int32 → Mem → Prop
  | 0, _, _ => False
  | n + 1, v4, M => (((M.1 147 3) ≤ v4 → X114 M) ∧ (¬ (M.1 147 3) ≤ v4 → vp_in ((v1 * (10 : Int32)) + v4) 80 ∧ vp_in ((v3 * (10 : Int32)) + v4) 80 ∧ ∀ x5 : Int32, x5 = (gI M 149 ((v1 * (10 : Int32)) + v4)) + (gI M 149 ((v3 * (10 : Int32)) + v4)) → ((x5 ≤ (3 : Int32) → L_X5_isJoint_55 v1 v3 X114 K n (v4 + (1 : Int32)) M) ∧ (¬ x5 ≤ (3 : Int32) → K (0 : Int32) M))))

set_option maxHeartbeats 1000000 in
set_option maxRecDepth 10000 in
theorem mL_X5_isJoint_55 (C : rw_C p s m meth c cX5_isJoint 6 RX5 (some .boolean) D cy ad) {v1 : Int32} {v3 : Int32} {X114 : Mem → Prop} {K : Int32 → Mem → Prop} (hX114 : ∀  (M : Mem), X114 M → rw_W p l e rm_X5_isJoint s m args below meth c D cy ad 6 0 0 (rw_Qi below args s D cy ad K) 114 [] [] M) : ∀ (n : Nat) (v4 : Int32) (M : Mem), L_X5_isJoint_55 v1 v3 X114 K n v4 M → rw_W p l e rm_X5_isJoint s m args below meth c D cy ad 6 0 0 (rw_Qi below args s D cy ad K) 55 [(0, .ref (ad 146)), (1, .int v1), (3, .int v3), (4, .int v4)] [] M := by
  intro n
  induction n with
  | zero => intro v4 M h; exact h.elim
  | succ n ih =>
    intro v4 M h
    refine r_iload C 3 dX5_isJoint_55 rfl ?_
    refine r_aload_n C 0 dX5_isJoint_57 rfl rfl ?_
    refine gX5_12 C dX5_isJoint_58 ?_
    refine gX5_69 C isX1_147 dX5_isJoint_61 ?_
    refine r_icmp_ge C 114 dX5_isJoint_64 (by decide) (fun hc => ?_) (fun hc => ?_)
    · replace h := h.1 hc
      exact r_sub [] rfl (hX114 _ h)
    · replace h := h.2 hc
      refine r_aload_n C 0 dX5_isJoint_67 rfl rfl ?_
      refine gX5_12 C dX5_isJoint_68 ?_
      refine gX5_86 C isX1_147 dX5_isJoint_71 ?_
      refine r_iload_n C 1 dX5_isJoint_74 rfl rfl ?_
      refine r_bipush (v := (10 : Int32)) C dX5_isJoint_75 rfl ?_
      refine r_imul C dX5_isJoint_77 ?_
      refine r_iload C 3 dX5_isJoint_78 rfl ?_
      refine r_iadd C dX5_isJoint_80 ?_
      obtain ⟨q_3, h⟩ := h
      refine r_iald C (isX1_A2 isX1_147) q_3 dX5_isJoint_81 ?_
      refine r_aload_n C 0 dX5_isJoint_82 rfl rfl ?_
      refine gX5_12 C dX5_isJoint_83 ?_
      refine gX5_86 C isX1_147 dX5_isJoint_86 ?_
      refine r_iload_n C 2 dX5_isJoint_89 rfl rfl ?_
      refine r_bipush (v := (10 : Int32)) C dX5_isJoint_90 rfl ?_
      refine r_imul C dX5_isJoint_92 ?_
      refine r_iload C 3 dX5_isJoint_93 rfl ?_
      refine r_iadd C dX5_isJoint_95 ?_
      obtain ⟨q_4, h⟩ := h
      refine r_iald C (isX1_A2 isX1_147) q_4 dX5_isJoint_96 ?_
      refine r_iadd C dX5_isJoint_97 ?_
      refine r_istore C [(5, .int _), (0, .ref _), (1, .int _), (3, .int _), (4, .int _)] dX5_isJoint_98 (by decide) rfl ?_
      replace h := h _ rfl
      refine r_iload C 0 dX5_isJoint_100 rfl ?_
      refine r_iconst (v := (3 : Int32)) C dX5_isJoint_102 rfl ?_
      refine r_icmp_le C 108 dX5_isJoint_103 (by decide) (fun hc => ?_) (fun hc => ?_)
      · replace h := h.1 hc
        refine r_iinc C 4 (v := _) [(4, .int _), (5, .int _), (0, .ref _), (1, .int _), (3, .int _)] dX5_isJoint_108 rfl rfl (by decide) rfl ?_
        refine r_goto C 55 dX5_isJoint_111 (by decide) ?_
        exact r_sub [2, 3, 4, 0] rfl (ih _ _ h)
      · replace h := h.2 hc
        refine r_iconst (v := (0 : Int32)) C dX5_isJoint_106 rfl ?_
        exact r_zret C (by decide) dX5_isJoint_107 h

def f_X5_isJoint (v1 : Int32) (v2 : Int32) (v3 : Int32) (M : Mem) (K : Int32 → Mem → Prop) : Prop := vp_in ((v1 * (10 : Int32)) + v2) 80 ∧ ((¬ (gI M 149 ((v1 * (10 : Int32)) + v2)) = (1 : Int32) → K (0 : Int32) M) ∧ ((gI M 149 ((v1 * (10 : Int32)) + v2)) = (1 : Int32) → vp_in ((v3 * (10 : Int32)) + v2) 80 ∧ ((¬ (gI M 148 ((v3 * (10 : Int32)) + v2)) = (1 : Int32) → K (0 : Int32) M) ∧ ((gI M 148 ((v3 * (10 : Int32)) + v2)) = (1 : Int32) → f_X1_takenFrom 147 v3 M (fun (r : Int32) (M_2 : Mem) => ((r = ((1 : Int32) <<< (v2 &&& 31)) → (∃ k55 : Nat, L_X5_isJoint_55 v1 v3 (fun  (M_3 : Mem) => K (1 : Int32) M_3) K k55 (0 : Int32) M_2)) ∧ (¬ r = ((1 : Int32) <<< (v2 &&& 31)) → K (0 : Int32) M_2)))))))

set_option maxHeartbeats 1000000 in
set_option maxRecDepth 10000 in
theorem m_X5_isJoint (l : Launch) {v1 : Int32} {v2 : Int32} {v3 : Int32}  {M : Mem} {K : Int32 → Mem → Prop} (h : f_X5_isJoint v1 v2 v3 M K) : CTi l yX5_isJoint cX5_isJoint 6 (some .boolean) rm_X5_isJoint (fun ad => [.ref (ad 146), .int v1, .int v2, .int v3]) M K := by
  refine rw_enti (by decide +kernel) (fun ad => Nat.le_of_ble_eq_true rfl) (fun p e s m args below meth c D cy ad C => ?_)
  change rw_W p l e _ s m args below meth c D cy ad 6 0 0 _ 0 [(0, .ref (ad 146)), (1, .int v1), (2, .int v2), (3, .int v3)] [] M
  unfold f_X5_isJoint at h
  refine r_aload_n C 0 dX5_isJoint_0 rfl rfl ?_
  refine gX5_12 C dX5_isJoint_1 ?_
  refine gX5_86 C isX1_147 dX5_isJoint_4 ?_
  refine r_iload_n C 1 dX5_isJoint_7 rfl rfl ?_
  refine r_bipush (v := (10 : Int32)) C dX5_isJoint_8 rfl ?_
  refine r_imul C dX5_isJoint_10 ?_
  refine r_iload_n C 2 dX5_isJoint_11 rfl rfl ?_
  refine r_iadd C dX5_isJoint_12 ?_
  obtain ⟨q, h⟩ := h
  refine r_iald C (isX1_A2 isX1_147) q dX5_isJoint_13 ?_
  refine r_iconst (v := (1 : Int32)) C dX5_isJoint_14 rfl ?_
  refine r_icmp_ne C 50 dX5_isJoint_15 (by decide) (fun hc => ?_) (fun hc => ?_)
  · replace h := h.1 hc
    refine r_iconst (v := (0 : Int32)) C dX5_isJoint_50 rfl ?_
    exact r_zret C (by decide) dX5_isJoint_51 h
  · replace h := h.2 hc
    refine r_aload_n C 0 dX5_isJoint_18 rfl rfl ?_
    refine gX5_12 C dX5_isJoint_19 ?_
    refine gX5_79 C isX1_147 dX5_isJoint_22 ?_
    refine r_iload_n C 3 dX5_isJoint_25 rfl rfl ?_
    refine r_bipush (v := (10 : Int32)) C dX5_isJoint_26 rfl ?_
    refine r_imul C dX5_isJoint_28 ?_
    refine r_iload_n C 2 dX5_isJoint_29 rfl rfl ?_
    refine r_iadd C dX5_isJoint_30 ?_
    obtain ⟨q_2, h⟩ := h
    refine r_iald C (isX1_A1 isX1_147) q_2 dX5_isJoint_31 ?_
    refine r_iconst (v := (1 : Int32)) C dX5_isJoint_32 rfl ?_
    refine r_icmp_ne C 50 dX5_isJoint_33 (by decide) (fun hc => ?_) (fun hc => ?_)
    · replace h := h.1 hc
      refine r_iconst (v := (0 : Int32)) C dX5_isJoint_50 rfl ?_
      exact r_zret C (by decide) dX5_isJoint_51 h
    · replace h := h.2 hc
      refine r_aload_n C 0 dX5_isJoint_36 rfl rfl ?_
      refine gX5_12 C dX5_isJoint_37 ?_
      refine r_iload_n C 3 dX5_isJoint_40 rfl rfl ?_
      refine cX5_136 C isX1_147 (m_X1_takenFrom l isX1_147 h) ⟨Nat.le_of_ble_eq_true rfl, Nat.le_of_ble_eq_true rfl⟩ (Nat.le_of_ble_eq_true rfl) ⟨Nat.le_refl 0, Nat.le_refl 0⟩ dX5_isJoint_41 (fun r M_2 h => ?_)
      refine r_iconst (v := (1 : Int32)) C dX5_isJoint_44 rfl ?_
      refine r_iload_n C 2 dX5_isJoint_45 rfl rfl ?_
      refine r_ishl C dX5_isJoint_46 ?_
      refine r_icmp_eq C 52 dX5_isJoint_47 (by decide) (fun hc => ?_) (fun hc => ?_)
      · replace h := h.1 hc
        refine r_iconst (v := (0 : Int32)) C dX5_isJoint_52 rfl ?_
        refine r_istore C [(4, .int _), (0, .ref _), (1, .int _), (2, .int _), (3, .int _)] dX5_isJoint_53 (by decide) rfl ?_
        obtain ⟨n55, h⟩ := h
        refine r_sub [1, 2, 4, 0] rfl (mL_X5_isJoint_55 C (fun M_3 h => ?_) n55 _ _ h)
        refine r_iconst (v := (1 : Int32)) C dX5_isJoint_114 rfl ?_
        exact r_zret C (by decide) dX5_isJoint_115 h
      · replace h := h.2 hc
        refine r_iconst (v := (0 : Int32)) C dX5_isJoint_50 rfl ?_
        exact r_zret C (by decide) dX5_isJoint_51 h
def L_X5_joinSteps_99 (v1 : Int32) (v2 : Int32) (v3 : Int32) (X150 : Mem → Prop) (K : Int32 → Mem → Prop) : Nat → Int32 → Mem → Prop
  | 0, _, _ => False
  | n + 1, v4, M => (((M.1 147 3) ≤ v4 → X150 M) ∧ (¬ (M.1 147 3) ≤ v4 → vp_in ((v2 * (10 : Int32)) + v4) 80 ∧ vp_in ((v3 * (10 : Int32)) + v4) 80 ∧ ∀ M_6 : Mem, M_6 = wI M 149 ((v2 * (10 : Int32)) + v4).toNatClampNeg ((gI M 149 ((v2 * (10 : Int32)) + v4)) + (gI M 149 ((v3 * (10 : Int32)) + v4))) → L_X5_joinSteps_99 v1 v2 v3 X150 K n (v4 + (1 : Int32)) M_6))

set_option maxHeartbeats 1000000 in
set_option maxRecDepth 10000 in
theorem mL_X5_joinSteps_99 (C : rw_C p s m meth c cX5_joinSteps 5 RX5 (some .boolean) D cy ad) {v1 : Int32} {v2 : Int32} {v3 : Int32} {X150 : Mem → Prop} {K : Int32 → Mem → Prop} (hX150 : ∀  (M : Mem), X150 M → rw_W p l e rm_X5_joinSteps s m args below meth c D cy ad 5 0 0 (rw_Qi below args s D cy ad K) 150 [(0, .ref (ad 146)), (1, .int v1), (3, .int v3)] [] M) : ∀ (n : Nat) (v4 : Int32) (M : Mem), L_X5_joinSteps_99 v1 v2 v3 X150 K n v4 M → rw_W p l e rm_X5_joinSteps s m args below meth c D cy ad 5 0 0 (rw_Qi below args s D cy ad K) 99 [(0, .ref (ad 146)), (1, .int v1), (2, .int v2), (3, .int v3), (4, .int v4)] [] M := by
  intro n
  induction n with
  | zero => intro v4 M h; exact h.elim
  | succ n ih =>
    intro v4 M h
    refine r_iload C 4 dX5_joinSteps_99 rfl ?_
    refine r_aload_n C 0 dX5_joinSteps_101 rfl rfl ?_
    refine gX5_12 C dX5_joinSteps_102 ?_
    refine gX5_69 C isX1_147 dX5_joinSteps_105 ?_
    refine r_icmp_ge C 150 dX5_joinSteps_108 (by decide) (fun hc => ?_) (fun hc => ?_)
    · replace h := h.1 hc
      exact r_sub [0, 1, 3] rfl (hX150 _ h)
    · replace h := h.2 hc
      refine r_aload_n C 0 dX5_joinSteps_111 rfl rfl ?_
      refine gX5_12 C dX5_joinSteps_112 ?_
      refine gX5_86 C isX1_147 dX5_joinSteps_115 ?_
      refine r_iload_n C 2 dX5_joinSteps_118 rfl rfl ?_
      refine r_bipush (v := (10 : Int32)) C dX5_joinSteps_119 rfl ?_
      refine r_imul C dX5_joinSteps_121 ?_
      refine r_iload C 4 dX5_joinSteps_122 rfl ?_
      refine r_iadd C dX5_joinSteps_124 ?_
      refine r_dup2_11 C dX5_joinSteps_125 rfl rfl ?_
      obtain ⟨q_2, h⟩ := h
      refine r_iald C (isX1_A2 isX1_147) q_2 dX5_joinSteps_126 ?_
      refine r_aload_n C 0 dX5_joinSteps_127 rfl rfl ?_
      refine gX5_12 C dX5_joinSteps_128 ?_
      refine gX5_86 C isX1_147 dX5_joinSteps_131 ?_
      refine r_iload_n C 3 dX5_joinSteps_134 rfl rfl ?_
      refine r_bipush (v := (10 : Int32)) C dX5_joinSteps_135 rfl ?_
      refine r_imul C dX5_joinSteps_137 ?_
      refine r_iload C 4 dX5_joinSteps_138 rfl ?_
      refine r_iadd C dX5_joinSteps_140 ?_
      obtain ⟨q_3, h⟩ := h
      refine r_iald C (isX1_A2 isX1_147) q_3 dX5_joinSteps_141 ?_
      refine r_iadd C dX5_joinSteps_142 ?_
      refine r_iast C (isX1_A2 isX1_147) q_2 dX5_joinSteps_143 ?_
      replace h := h _ rfl
      refine r_iinc C 4 (v := _) [(4, .int _), (0, .ref _), (1, .int _), (2, .int _), (3, .int _)] dX5_joinSteps_144 rfl rfl (by decide) rfl ?_
      refine r_goto C 99 dX5_joinSteps_147 (by decide) ?_
      exact r_sub [1, 2, 3, 4, 0] rfl (ih _ _ h)

def L_X5_joinSteps_2 (X164 : Mem → Prop) (K : Int32 → Mem → Prop) : Nat → Int32 → Mem → Prop
  | 0, _, _ => False
  | n + 1, v1, M => (((M.1 147 3) ≤ v1 → X164 M) ∧ (¬ (M.1 147 3) ≤ v1 → f_X1_hasPlace 147 v1 M (fun (r : Int32) (M_2 : Mem) => ((r = 0 → L_X5_joinSteps_2 X164 K n (v1 + (1 : Int32)) M_2) ∧ (¬ r = 0 → vp_in v1 10 ∧ (((gI M_2 150 v1) = 0 → f_X1_onlyStepWith 147 149 v1 M_2 (fun (r_2 : Int32) (M_3 : Mem) => f_X1_onlyStepWith 147 148 v1 M_3 (fun (r_3 : Int32) (M_4 : Mem) => ((r_2 = (-1 : Int32) → L_X5_joinSteps_2 X164 K n (v1 + (1 : Int32)) M_4) ∧ (¬ r_2 = (-1 : Int32) → ((r_3 = (-1 : Int32) → L_X5_joinSteps_2 X164 K n (v1 + (1 : Int32)) M_4) ∧ (¬ r_3 = (-1 : Int32) → ((r_2 = r_3 → L_X5_joinSteps_2 X164 K n (v1 + (1 : Int32)) M_4) ∧ (¬ r_2 = r_3 → f_X5_isJoint r_2 v1 r_3 M_4 (fun (r_4 : Int32) (M_5 : Mem) => ((r_4 = 0 → L_X5_joinSteps_2 X164 K n (v1 + (1 : Int32)) M_5) ∧ (¬ r_4 = 0 → (∃ k99 : Nat, L_X5_joinSteps_99 v1 r_2 r_3 (fun  (M_7 : Mem) => f_X5_note (5 : Int32) v1 r_3 M_7 (fun (r_5 : Int32) (M_8 : Mem) => (r_5 &&& 1 = r_5) ∧ K r_5 M_8)) K k99 (0 : Int32) M_5))))))))))))) ∧ (¬ (gI M_2 150 v1) = 0 → L_X5_joinSteps_2 X164 K n (v1 + (1 : Int32)) M_2)))))))

set_option maxHeartbeats 1000000 in
set_option maxRecDepth 10000 in
theorem mL_X5_joinSteps_2 (C : rw_C p s m meth c cX5_joinSteps 5 RX5 (some .boolean) D cy ad) {X164 : Mem → Prop} {K : Int32 → Mem → Prop} (hX164 : ∀  (M : Mem), X164 M → rw_W p l e rm_X5_joinSteps s m args below meth c D cy ad 5 0 0 (rw_Qi below args s D cy ad K) 164 [] [] M) : ∀ (n : Nat) (v1 : Int32) (M : Mem), L_X5_joinSteps_2 X164 K n v1 M → rw_W p l e rm_X5_joinSteps s m args below meth c D cy ad 5 0 0 (rw_Qi below args s D cy ad K) 2 [(0, .ref (ad 146)), (1, .int v1)] [] M := by
  intro n
  induction n with
  | zero => intro v1 M h; exact h.elim
  | succ n ih =>
    intro v1 M h
    refine r_iload_n C 1 dX5_joinSteps_2 rfl rfl ?_
    refine r_aload_n C 0 dX5_joinSteps_3 rfl rfl ?_
    refine gX5_12 C dX5_joinSteps_4 ?_
    refine gX5_69 C isX1_147 dX5_joinSteps_7 ?_
    refine r_icmp_ge C 164 dX5_joinSteps_10 (by decide) (fun hc => ?_) (fun hc => ?_)
    · replace h := h.1 hc
      exact r_sub [] rfl (hX164 _ h)
    · replace h := h.2 hc
      refine r_aload_n C 0 dX5_joinSteps_13 rfl rfl ?_
      refine gX5_12 C dX5_joinSteps_14 ?_
      refine r_iload_n C 1 dX5_joinSteps_17 rfl rfl ?_
      refine cX5_72 C isX1_147 (m_X1_hasPlace l isX1_147 h) ⟨Nat.le_of_ble_eq_true rfl, Nat.le_of_ble_eq_true rfl⟩ (Nat.le_of_ble_eq_true rfl) ⟨Nat.le_refl 0, Nat.le_refl 0⟩ dX5_joinSteps_18 (fun r M_2 h => ?_)
      refine r_if_eq C 158 dX5_joinSteps_21 (by decide) (fun hc => ?_) (fun hc => ?_)
      · replace h := h.1 hc
        refine r_iinc C 1 (v := _) [(1, .int _), (0, .ref _)] dX5_joinSteps_158 rfl rfl (by decide) rfl ?_
        refine r_goto C 2 dX5_joinSteps_161 (by decide) ?_
        exact r_sub [1, 0] rfl (ih _ _ h)
      · replace h := h.2 hc
        refine r_aload_n C 0 dX5_joinSteps_24 rfl rfl ?_
        refine gX5_12 C dX5_joinSteps_25 ?_
        refine gX5_76 C isX1_147 dX5_joinSteps_28 ?_
        refine r_iload_n C 1 dX5_joinSteps_31 rfl rfl ?_
        obtain ⟨q, h⟩ := h
        refine r_iald C (isX1_A3 isX1_147) q dX5_joinSteps_32 ?_
        refine r_if_eq C 39 dX5_joinSteps_33 (by decide) (fun hc => ?_) (fun hc => ?_)
        · replace h := h.1 hc
          refine r_aload_n C 0 dX5_joinSteps_39 rfl rfl ?_
          refine gX5_12 C dX5_joinSteps_40 ?_
          refine r_aload_n C 0 dX5_joinSteps_43 rfl rfl ?_
          refine gX5_12 C dX5_joinSteps_44 ?_
          refine gX5_86 C isX1_147 dX5_joinSteps_47 ?_
          refine r_iload_n C 1 dX5_joinSteps_50 rfl rfl ?_
          refine cX5_129 C isX1_147 (m_X1_onlyStepWith l isX1_147 (isI_of (isX1_A2 isX1_147)) h) ⟨Nat.le_of_ble_eq_true rfl, Nat.le_of_ble_eq_true rfl⟩ (Nat.le_of_ble_eq_true rfl) ⟨Nat.le_refl 0, Nat.le_refl 0⟩ dX5_joinSteps_51 (fun r_2 M_3 h => ?_)
          refine r_istore_n C [(2, .int _), (0, .ref _), (1, .int _)] dX5_joinSteps_54 rfl (by decide) rfl ?_
          refine r_aload_n C 1 dX5_joinSteps_55 rfl rfl ?_
          refine gX5_12 C dX5_joinSteps_56 ?_
          refine r_aload_n C 1 dX5_joinSteps_59 rfl rfl ?_
          refine gX5_12 C dX5_joinSteps_60 ?_
          refine gX5_79 C isX1_147 dX5_joinSteps_63 ?_
          refine r_iload_n C 2 dX5_joinSteps_66 rfl rfl ?_
          refine cX5_129 C isX1_147 (m_X1_onlyStepWith l isX1_147 (isI_of (isX1_A1 isX1_147)) h) ⟨Nat.le_of_ble_eq_true rfl, Nat.le_of_ble_eq_true rfl⟩ (Nat.le_of_ble_eq_true rfl) ⟨Nat.le_refl 0, Nat.le_refl 0⟩ dX5_joinSteps_67 (fun r_3 M_4 h => ?_)
          refine r_istore_n C [(3, .int _), (2, .int _), (0, .ref _), (1, .int _)] dX5_joinSteps_70 rfl (by decide) rfl ?_
          refine r_iload_n C 1 dX5_joinSteps_71 rfl rfl ?_
          refine r_iconst (v := (-1 : Int32)) C dX5_joinSteps_72 rfl ?_
          refine r_icmp_eq C 158 dX5_joinSteps_73 (by decide) (fun hc => ?_) (fun hc => ?_)
          · replace h := h.1 hc
            refine r_iinc C 3 (v := _) [(1, .int _), (3, .int _), (2, .int _), (0, .ref _)] dX5_joinSteps_158 rfl rfl (by decide) rfl ?_
            refine r_goto C 2 dX5_joinSteps_161 (by decide) ?_
            exact r_sub [3, 0] rfl (ih _ _ h)
          · replace h := h.2 hc
            refine r_iload_n C 0 dX5_joinSteps_76 rfl rfl ?_
            refine r_iconst (v := (-1 : Int32)) C dX5_joinSteps_77 rfl ?_
            refine r_icmp_eq C 158 dX5_joinSteps_78 (by decide) (fun hc => ?_) (fun hc => ?_)
            · replace h := h.1 hc
              refine r_iinc C 3 (v := _) [(1, .int _), (3, .int _), (2, .int _), (0, .ref _)] dX5_joinSteps_158 rfl rfl (by decide) rfl ?_
              refine r_goto C 2 dX5_joinSteps_161 (by decide) ?_
              exact r_sub [3, 0] rfl (ih _ _ h)
            · replace h := h.2 hc
              refine r_iload_n C 1 dX5_joinSteps_81 rfl rfl ?_
              refine r_iload_n C 0 dX5_joinSteps_82 rfl rfl ?_
              refine r_icmp_eq C 158 dX5_joinSteps_83 (by decide) (fun hc => ?_) (fun hc => ?_)
              · replace h := h.1 hc
                refine r_iinc C 3 (v := _) [(1, .int _), (3, .int _), (2, .int _), (0, .ref _)] dX5_joinSteps_158 rfl rfl (by decide) rfl ?_
                refine r_goto C 2 dX5_joinSteps_161 (by decide) ?_
                exact r_sub [3, 0] rfl (ih _ _ h)
              · replace h := h.2 hc
                refine r_aload_n C 2 dX5_joinSteps_86 rfl rfl ?_
                refine r_iload_n C 1 dX5_joinSteps_87 rfl rfl ?_
                refine r_iload_n C 3 dX5_joinSteps_88 rfl rfl ?_
                refine r_iload_n C 0 dX5_joinSteps_89 rfl rfl ?_
                refine cX5_133 C (m_X5_isJoint l h) ⟨Nat.le_of_ble_eq_true rfl, Nat.le_of_ble_eq_true rfl⟩ (Nat.le_of_ble_eq_true rfl) ⟨Nat.le_refl 0, Nat.le_refl 0⟩ dX5_joinSteps_90 (fun r_4 M_5 h => ?_)
                refine r_if_eq C 158 dX5_joinSteps_93 (by decide) (fun hc => ?_) (fun hc => ?_)
                · replace h := h.1 hc
                  refine r_iinc C 3 (v := _) [(1, .int _), (3, .int _), (2, .int _), (0, .ref _)] dX5_joinSteps_158 rfl rfl (by decide) rfl ?_
                  refine r_goto C 2 dX5_joinSteps_161 (by decide) ?_
                  exact r_sub [3, 0] rfl (ih _ _ h)
                · replace h := h.2 hc
                  refine r_iconst (v := (0 : Int32)) C dX5_joinSteps_96 rfl ?_
                  refine r_istore C [(4, .int _), (3, .int _), (2, .int _), (0, .ref _), (1, .int _)] dX5_joinSteps_97 (by decide) rfl ?_
                  obtain ⟨n99, h⟩ := h
                  refine r_sub [3, 4, 2, 1, 0] rfl (mL_X5_joinSteps_99 C (fun M_7 h => ?_) n99 _ _ h)
                  refine r_aload_n C 0 dX5_joinSteps_150 rfl rfl ?_
                  refine r_iconst (v := (5 : Int32)) C dX5_joinSteps_151 rfl ?_
                  refine r_iload_n C 1 dX5_joinSteps_152 rfl rfl ?_
                  refine r_iload_n C 2 dX5_joinSteps_153 rfl rfl ?_
                  refine cX5_89 C (m_X5_note l h) ⟨Nat.le_of_ble_eq_true rfl, Nat.le_of_ble_eq_true rfl⟩ (Nat.le_of_ble_eq_true rfl) ⟨Nat.le_refl 0, Nat.le_refl 0⟩ dX5_joinSteps_154 (fun r_5 M_8 h => ?_)
                  exact r_zret C h.1 dX5_joinSteps_157 h.2
        · replace h := h.2 hc
          refine r_goto C 158 dX5_joinSteps_36 (by decide) ?_
          refine r_iinc C 1 (v := _) [(1, .int _), (0, .ref _)] dX5_joinSteps_158 rfl rfl (by decide) rfl ?_
          refine r_goto C 2 dX5_joinSteps_161 (by decide) ?_
          exact r_sub [1, 0] rfl (ih _ _ h)

def f_X5_joinSteps (M : Mem) (K : Int32 → Mem → Prop) : Prop := (∃ k2 : Nat, L_X5_joinSteps_2 (fun  (M_9 : Mem) => K (0 : Int32) M_9) K k2 (0 : Int32) M)

set_option maxHeartbeats 1000000 in
set_option maxRecDepth 10000 in
theorem m_X5_joinSteps (l : Launch)   {M : Mem} {K : Int32 → Mem → Prop} (h : f_X5_joinSteps M K) : CTi l yX5_joinSteps cX5_joinSteps 5 (some .boolean) rm_X5_joinSteps (fun ad => [.ref (ad 146)]) M K := by
  refine rw_enti (by decide +kernel) (fun ad => Nat.le_of_ble_eq_true rfl) (fun p e s m args below meth c D cy ad C => ?_)
  change rw_W p l e _ s m args below meth c D cy ad 5 0 0 _ 0 [(0, .ref (ad 146))] [] M
  unfold f_X5_joinSteps at h
  refine r_iconst (v := (0 : Int32)) C dX5_joinSteps_0 rfl ?_
  refine r_istore_n C [(1, .int _), (0, .ref _)] dX5_joinSteps_1 rfl (by decide) rfl ?_
  obtain ⟨n2, h⟩ := h
  refine r_sub [1, 0] rfl (mL_X5_joinSteps_2 C (fun M_9 h => ?_) n2 _ _ h)
  refine r_iconst (v := (0 : Int32)) C dX5_joinSteps_164 rfl ?_
  exact r_zret C (by decide) dX5_joinSteps_165 h
end MG
