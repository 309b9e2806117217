section MG
variable {p : Program} {l : Launch} {e : Env} {R : Room} {s : State} {m : MethodId} {args : Array Value} {below : List Frame} {meth : Method} {c : Code} {D : va_G} {cy : Nat → ClassId} {ad : Nat → Nat}
def L_X9_reaches_11 (X49 : Mem → Prop) (K : Int32 → Mem → Prop) : Nat → Int32 → Mem → Prop
  | 0, _, _ => False
  | n + 1, v1, M => (((gI M 30 (0 : Int32)) ≤ v1 → X49 M) ∧ (¬ (gI M 30 (0 : Int32)) ≤ v1 → f_X9_isAim 24 ((10 : Int32) * v1) M (fun (r_2 : Int32) (M_4 : Mem) => ((r_2 = 0 → L_X9_reaches_11 X49 K n (v1 + (1 : Int32)) M_4) ∧ (¬ r_2 = 0 → vp_in v1 600 ∧ K (gI M_4 27 v1) M_4)))))

set_option maxHeartbeats 1000000 in
set_option maxRecDepth 10000 in
theorem mL_X9_reaches_11 (C : rw_C p s m meth c cX9_reaches 2 RX9 (some .int) D cy ad) {X49 : Mem → Prop} {K : Int32 → Mem → Prop} (hX49 : ∀  (M : Mem), X49 M → rw_W p l e rm_X9_reaches s m args below meth c D cy ad 2 0 0 (rw_Qi below args s D cy ad K) 49 [(0, .ref (ad 0))] [] M) : ∀ (n : Nat) (v1 : Int32) (M : Mem), L_X9_reaches_11 X49 K n v1 M → rw_W p l e rm_X9_reaches s m args below meth c D cy ad 2 0 0 (rw_Qi below args s D cy ad K) 11 [(0, .ref (ad 0)), (1, .int v1)] [] M := by
  intro n
  induction n with
  | zero => intro v1 M h; exact h.elim
  | succ n ih =>
    intro v1 M h
    refine r_iload_n C 1 dX9_reaches_11 rfl rfl ?_
    refine r_aload_n C 0 dX9_reaches_12 rfl rfl ?_
    refine gX9_103 C dX9_reaches_13 ?_
    refine r_iconst (v := (0 : Int32)) C dX9_reaches_16 rfl ?_
    refine r_iald C sh_30 (vpd (i := (0 : Int32)) (n := 2) (by decide +kernel)) dX9_reaches_17 ?_
    refine r_icmp_ge C 49 dX9_reaches_18 (by decide) (fun hc => ?_) (fun hc => ?_)
    · replace h := h.1 hc
      exact r_sub [0] rfl (hX49 _ h)
    · replace h := h.2 hc
      refine r_aload_n C 0 dX9_reaches_21 rfl rfl ?_
      refine r_aload_n C 0 dX9_reaches_22 rfl rfl ?_
      refine gX9_85 C dX9_reaches_23 ?_
      refine r_bipush (v := (10 : Int32)) C dX9_reaches_26 rfl ?_
      refine r_iload_n C 1 dX9_reaches_28 rfl rfl ?_
      refine r_imul C dX9_reaches_29 ?_
      refine cX9_357 C (m_X9_isAim l (isI_of sh_24) h) ⟨Nat.le_of_ble_eq_true rfl, Nat.le_of_ble_eq_true rfl⟩ (Nat.le_of_ble_eq_true rfl) ⟨Nat.le_refl 0, Nat.le_refl 0⟩ dX9_reaches_30 (fun r_2 M_4 h => ?_)
      refine r_if_eq C 43 dX9_reaches_33 (by decide) (fun hc => ?_) (fun hc => ?_)
      · replace h := h.1 hc
        refine r_iinc C 1 (v := _) [(1, .int _), (0, .ref _)] dX9_reaches_43 rfl rfl (by decide) rfl ?_
        refine r_goto C 11 dX9_reaches_46 (by decide) ?_
        exact r_sub [1, 0] rfl (ih _ _ h)
      · replace h := h.2 hc
        refine r_aload_n C 0 dX9_reaches_36 rfl rfl ?_
        refine gX9_94 C dX9_reaches_37 ?_
        refine r_iload_n C 1 dX9_reaches_40 rfl rfl ?_
        obtain ⟨q, h⟩ := h
        refine r_iald C sh_27 q dX9_reaches_41 ?_
        exact r_iret C dX9_reaches_42 h

def f_X9_reaches (M : Mem) (K : Int32 → Mem → Prop) : Prop := ∀ M_2 : Mem, M_2 = wI M 0 0 (0 : Int32) → f_X9_layNow  M_2 (fun (M_3 : Mem) => (∃ k11 : Nat, L_X9_reaches_11 (fun  (M_5 : Mem) => (((gI M_5 33 (0 : Int32)) = 0 → K (-1 : Int32) M_5) ∧ (¬ (gI M_5 33 (0 : Int32)) = 0 → K (-2 : Int32) M_5))) K k11 (0 : Int32) M_3))

set_option maxHeartbeats 1000000 in
set_option maxRecDepth 10000 in
theorem m_X9_reaches (l : Launch)   {M : Mem} {K : Int32 → Mem → Prop} (h : f_X9_reaches M K) : CTi l yX9_reaches cX9_reaches 2 (some .int) rm_X9_reaches (fun ad => [.ref (ad 0)]) M K := by
  refine rw_enti (by decide +kernel) (fun ad => Nat.le_of_ble_eq_true rfl) (fun p e s m args below meth c D cy ad C => ?_)
  change rw_W p l e _ s m args below meth c D cy ad 2 0 0 _ 0 [(0, .ref (ad 0))] [] M
  unfold f_X9_reaches at h
  refine r_aload_n C 0 dX9_reaches_0 rfl rfl ?_
  refine r_iconst (v := (0 : Int32)) C dX9_reaches_1 rfl ?_
  refine pX9_133 C dX9_reaches_2 ?_
  replace h := h _ rfl
  refine r_aload_n C 0 dX9_reaches_5 rfl rfl ?_
  refine cX9_397 C (m_X9_layNow l h) ⟨Nat.le_of_ble_eq_true rfl, Nat.le_of_ble_eq_true rfl⟩ (Nat.le_of_ble_eq_true rfl) ⟨Nat.le_refl 0, Nat.le_refl 0⟩ dX9_reaches_6 (fun M_3 h => ?_)
  refine r_iconst (v := (0 : Int32)) C dX9_reaches_9 rfl ?_
  refine r_istore_n C [(1, .int _), (0, .ref _)] dX9_reaches_10 rfl (by decide) rfl ?_
  obtain ⟨n11, h⟩ := h
  refine r_sub [1, 0] rfl (mL_X9_reaches_11 C (fun M_5 h => ?_) n11 _ _ h)
  refine r_aload_n C 0 dX9_reaches_49 rfl rfl ?_
  refine gX9_112 C dX9_reaches_50 ?_
  refine r_iconst (v := (0 : Int32)) C dX9_reaches_53 rfl ?_
  refine r_zald C sh_33 (vpd (i := (0 : Int32)) (n := 2) (by decide +kernel)) dX9_reaches_54 ?_
  refine r_if_eq C 63 dX9_reaches_55 (by decide) (fun hc => ?_) (fun hc => ?_)
  · replace h := h.1 hc
    refine r_iconst (v := (-1 : Int32)) C dX9_reaches_63 rfl ?_
    exact r_iret C dX9_reaches_64 h
  · replace h := h.2 hc
    refine r_bipush (v := (-2 : Int32)) C dX9_reaches_58 rfl ?_
    refine r_goto C 64 dX9_reaches_60 (by decide) ?_
    exact r_iret C dX9_reaches_64 h
def L_X9_graph_78 (X105 : Mem → Prop) (K : Int32 → Mem → Prop) : Nat → Int32 → Mem → Prop
  | 0, _, _ => False
  | n + 1, v3, M => (((gI M 30 (0 : Int32)) ≤ v3 → X105 M) ∧ (¬ (gI M 30 (0 : Int32)) ≤ v3 → vp_in v3 600 ∧ ((¬ (gI M 28 v3) = 0 → L_X9_graph_78 X105 K n (v3 + (1 : Int32)) M) ∧ ((gI M 28 v3) = 0 → K v3 M))))

set_option maxHeartbeats 1000000 in
set_option maxRecDepth 10000 in
theorem mL_X9_graph_78 (C : rw_C p s m meth c cX9_graph 4 RX9 (some .int) D cy ad) {X105 : Mem → Prop} {K : Int32 → Mem → Prop} (hX105 : ∀  (M : Mem), X105 M → rw_W p l e rm_X9_graph s m args below meth c D cy ad 4 0 0 (rw_Qi below args s D cy ad K) 105 [] [] M) : ∀ (n : Nat) (v3 : Int32) (M : Mem), L_X9_graph_78 X105 K n v3 M → rw_W p l e rm_X9_graph s m args below meth c D cy ad 4 0 0 (rw_Qi below args s D cy ad K) 78 [(0, .ref (ad 0)), (3, .int v3)] [] M := by
  intro n
  induction n with
  | zero => intro v3 M h; exact h.elim
  | succ n ih =>
    intro v3 M h
    refine r_iload_n C 1 dX9_graph_78 rfl rfl ?_
    refine r_aload_n C 0 dX9_graph_79 rfl rfl ?_
    refine gX9_103 C dX9_graph_80 ?_
    refine r_iconst (v := (0 : Int32)) C dX9_graph_83 rfl ?_
    refine r_iald C sh_30 (vpd (i := (0 : Int32)) (n := 2) (by decide +kernel)) dX9_graph_84 ?_
    refine r_icmp_ge C 105 dX9_graph_85 (by decide) (fun hc => ?_) (fun hc => ?_)
    · replace h := h.1 hc
      exact r_sub [] rfl (hX105 _ h)
    · replace h := h.2 hc
      refine r_aload_n C 0 dX9_graph_88 rfl rfl ?_
      refine gX9_97 C dX9_graph_89 ?_
      refine r_iload_n C 1 dX9_graph_92 rfl rfl ?_
      obtain ⟨q, h⟩ := h
      refine r_iald C sh_28 q dX9_graph_93 ?_
      refine r_if_ne C 99 dX9_graph_94 (by decide) (fun hc => ?_) (fun hc => ?_)
      · replace h := h.1 hc
        refine r_iinc C 1 (v := _) [(3, .int _), (0, .ref _)] dX9_graph_99 rfl rfl (by decide) rfl ?_
        refine r_goto C 78 dX9_graph_102 (by decide) ?_
        exact r_sub [1, 0] rfl (ih _ _ h)
      · replace h := h.2 hc
        refine r_iload_n C 1 dX9_graph_97 rfl rfl ?_
        exact r_iret C dX9_graph_98 h

def L_X9_graph_109 (X142 : Int32 → Mem → Prop) (K : Int32 → Mem → Prop) : Nat → Int32 → Int32 → Mem → Prop
  | 0, _, _, _ => False
  | n + 1, v2, v3, M => (((gI M 30 (0 : Int32)) ≤ v3 → X142 v2 M) ∧ (¬ (gI M 30 (0 : Int32)) ≤ v3 → vp_in v3 300 ∧ (((gI M 36 v3) = 0 → ∀ x2 : Int32, x2 = v2 + (0 : Int32) → L_X9_graph_109 X142 K n x2 (v3 + (1 : Int32)) M) ∧ (¬ (gI M 36 v3) = 0 → ∀ x2_2 : Int32, x2_2 = v2 + (1 : Int32) → L_X9_graph_109 X142 K n x2_2 (v3 + (1 : Int32)) M))))

set_option maxHeartbeats 1000000 in
set_option maxRecDepth 10000 in
theorem mL_X9_graph_109 (C : rw_C p s m meth c cX9_graph 4 RX9 (some .int) D cy ad) {X142 : Int32 → Mem → Prop} {K : Int32 → Mem → Prop} (hX142 : ∀ (u2 : Int32) (M : Mem), X142 u2 M → rw_W p l e rm_X9_graph s m args below meth c D cy ad 4 0 0 (rw_Qi below args s D cy ad K) 142 [(2, .int u2)] [] M) : ∀ (n : Nat) (v2 : Int32) (v3 : Int32) (M : Mem), L_X9_graph_109 X142 K n v2 v3 M → rw_W p l e rm_X9_graph s m args below meth c D cy ad 4 0 0 (rw_Qi below args s D cy ad K) 109 [(0, .ref (ad 0)), (2, .int v2), (3, .int v3)] [] M := by
  intro n
  induction n with
  | zero => intro v2 v3 M h; exact h.elim
  | succ n ih =>
    intro v2 v3 M h
    refine r_iload_n C 2 dX9_graph_109 rfl rfl ?_
    refine r_aload_n C 0 dX9_graph_110 rfl rfl ?_
    refine gX9_103 C dX9_graph_111 ?_
    refine r_iconst (v := (0 : Int32)) C dX9_graph_114 rfl ?_
    refine r_iald C sh_30 (vpd (i := (0 : Int32)) (n := 2) (by decide +kernel)) dX9_graph_115 ?_
    refine r_icmp_ge C 142 dX9_graph_116 (by decide) (fun hc => ?_) (fun hc => ?_)
    · replace h := h.1 hc
      exact r_sub [1] rfl (hX142 _ _ h)
    · replace h := h.2 hc
      refine r_iload_n C 1 dX9_graph_119 rfl rfl ?_
      refine r_aload_n C 0 dX9_graph_120 rfl rfl ?_
      refine gX9_121 C dX9_graph_121 ?_
      refine r_iload_n C 2 dX9_graph_124 rfl rfl ?_
      obtain ⟨q_2, h⟩ := h
      refine r_zald C sh_36 q_2 dX9_graph_125 ?_
      refine r_if_eq C 133 dX9_graph_126 (by decide) (fun hc => ?_) (fun hc => ?_)
      · replace h := h.1 hc
        refine r_iconst (v := (0 : Int32)) C dX9_graph_133 rfl ?_
        refine r_iadd C dX9_graph_134 ?_
        refine r_istore_n C [(2, .int _), (0, .ref _), (3, .int _)] dX9_graph_135 rfl (by decide) rfl ?_
        replace h := h _ rfl
        refine r_iinc C 2 (v := _) [(3, .int _), (2, .int _), (0, .ref _)] dX9_graph_136 rfl rfl (by decide) rfl ?_
        refine r_goto C 109 dX9_graph_139 (by decide) ?_
        exact r_sub [2, 1, 0] rfl (ih _ _ _ h)
      · replace h := h.2 hc
        refine r_iconst (v := (1 : Int32)) C dX9_graph_129 rfl ?_
        refine r_goto C 134 dX9_graph_130 (by decide) ?_
        refine r_iadd C dX9_graph_134 ?_
        refine r_istore_n C [(2, .int _), (0, .ref _), (3, .int _)] dX9_graph_135 rfl (by decide) rfl ?_
        replace h := h _ rfl
        refine r_iinc C 2 (v := _) [(3, .int _), (2, .int _), (0, .ref _)] dX9_graph_136 rfl rfl (by decide) rfl ?_
        refine r_goto C 109 dX9_graph_139 (by decide) ?_
        exact r_sub [2, 1, 0] rfl (ih _ _ _ h)

def f_X9_graph (v1 : Int32) (M : Mem) (K : Int32 → Mem → Prop) : Prop := ∀ M_2 : Mem, M_2 = wI M 0 0 (0 : Int32) → f_X9_layNow  M_2 (fun (M_3 : Mem) => ((v1 = (0 : Int32) → K (gI M_3 30 (0 : Int32)) M_3) ∧ (v1 = (1 : Int32) → (((gI M_3 33 (0 : Int32)) = 0 → K (0 : Int32) M_3) ∧ (¬ (gI M_3 33 (0 : Int32)) = 0 → K (1 : Int32) M_3))) ∧ (v1 = (2 : Int32) → f_X9_dead (0 : Int32) M_3 (fun (r_2 : Int32) (M_4 : Mem) => K r_2 M_4)) ∧ (v1 = (3 : Int32) → (∃ k78 : Nat, L_X9_graph_78 (fun  (M_5 : Mem) => K (-1 : Int32) M_5) K k78 (0 : Int32) M_3)) ∧ (v1 = (4 : Int32) → (∃ k109 : Nat, L_X9_graph_109 (fun (v2_2 : Int32) (M_6 : Mem) => K v2_2 M_6) K k109 (0 : Int32) (0 : Int32) M_3)) ∧ (¬ v1 = (0 : Int32) → ¬ v1 = (1 : Int32) → ¬ v1 = (2 : Int32) → ¬ v1 = (3 : Int32) → ¬ v1 = (4 : Int32) → K (-1 : Int32) M_3)))

set_option maxHeartbeats 1000000 in
set_option maxRecDepth 10000 in
theorem m_X9_graph (l : Launch) {v1 : Int32}  {M : Mem} {K : Int32 → Mem → Prop} (h : f_X9_graph v1 M K) : CTi l yX9_graph cX9_graph 4 (some .int) rm_X9_graph (fun ad => [.ref (ad 0), .int v1]) M K := by
  refine rw_enti (by decide +kernel) (fun ad => Nat.le_of_ble_eq_true rfl) (fun p e s m args below meth c D cy ad C => ?_)
  change rw_W p l e _ s m args below meth c D cy ad 4 0 0 _ 0 [(0, .ref (ad 0)), (1, .int v1)] [] M
  unfold f_X9_graph at h
  refine r_aload_n C 0 dX9_graph_0 rfl rfl ?_
  refine r_iconst (v := (0 : Int32)) C dX9_graph_1 rfl ?_
  refine pX9_133 C dX9_graph_2 ?_
  replace h := h _ rfl
  refine r_aload_n C 0 dX9_graph_5 rfl rfl ?_
  refine cX9_397 C (m_X9_layNow l h) ⟨Nat.le_of_ble_eq_true rfl, Nat.le_of_ble_eq_true rfl⟩ (Nat.le_of_ble_eq_true rfl) ⟨Nat.le_refl 0, Nat.le_refl 0⟩ dX9_graph_6 (fun M_3 h => ?_)
  refine r_iconst (v := (0 : Int32)) C dX9_graph_9 rfl ?_
  refine r_istore_n C [(2, .int _), (0, .ref _), (1, .int _)] dX9_graph_10 rfl (by decide) rfl ?_
  refine r_iload_n C 2 dX9_graph_11 rfl rfl ?_
  refine r_cases (0 : Int32) (fun hc0 => ?_) (fun hc0 => ?_)
  · refine r_tabIn C 48 dX9_graph_12 (off := 36) (by rw [hc0]; decide) (by rw [hc0]; decide) (by rw [hc0]; rfl) (by decide) ?_
    replace h := h.1 hc0
    refine r_aload_n C 1 dX9_graph_48 rfl rfl ?_
    refine gX9_103 C dX9_graph_49 ?_
    refine r_iconst (v := (0 : Int32)) C dX9_graph_52 rfl ?_
    refine r_iald C sh_30 (vpd (i := (0 : Int32)) (n := 2) (by decide +kernel)) dX9_graph_53 ?_
    exact r_iret C dX9_graph_54 h
  ·
    refine r_cases (1 : Int32) (fun hc1 => ?_) (fun hc1 => ?_)
    · refine r_tabIn C 55 dX9_graph_12 (off := 43) (by rw [hc1]; decide) (by rw [hc1]; decide) (by rw [hc1]; rfl) (by decide) ?_
      replace h := h.2.1 hc1
      refine r_aload_n C 1 dX9_graph_55 rfl rfl ?_
      refine gX9_112 C dX9_graph_56 ?_
      refine r_iconst (v := (0 : Int32)) C dX9_graph_59 rfl ?_
      refine r_zald C sh_33 (vpd (i := (0 : Int32)) (n := 2) (by decide +kernel)) dX9_graph_60 ?_
      refine r_if_eq C 68 dX9_graph_61 (by decide) (fun hc => ?_) (fun hc => ?_)
      · replace h := h.1 hc
        refine r_iconst (v := (0 : Int32)) C dX9_graph_68 rfl ?_
        exact r_iret C dX9_graph_69 h
      · replace h := h.2 hc
        refine r_iconst (v := (1 : Int32)) C dX9_graph_64 rfl ?_
        refine r_goto C 69 dX9_graph_65 (by decide) ?_
        exact r_iret C dX9_graph_69 h
    ·
      refine r_cases (2 : Int32) (fun hc2 => ?_) (fun hc2 => ?_)
      · refine r_tabIn C 70 dX9_graph_12 (off := 58) (by rw [hc2]; decide) (by rw [hc2]; decide) (by rw [hc2]; rfl) (by decide) ?_
        replace h := h.2.2.1 hc2
        refine r_aload_n C 1 dX9_graph_70 rfl rfl ?_
        refine r_iconst (v := (0 : Int32)) C dX9_graph_71 rfl ?_
        refine cX9_400 C (m_X9_dead l h) ⟨Nat.le_of_ble_eq_true rfl, Nat.le_of_ble_eq_true rfl⟩ (Nat.le_of_ble_eq_true rfl) ⟨Nat.le_refl 0, Nat.le_refl 0⟩ dX9_graph_72 (fun r_2 M_4 h => ?_)
        exact r_iret C dX9_graph_75 h
      ·
        refine r_cases (3 : Int32) (fun hc3 => ?_) (fun hc3 => ?_)
        · refine r_tabIn C 76 dX9_graph_12 (off := 64) (by rw [hc3]; decide) (by rw [hc3]; decide) (by rw [hc3]; rfl) (by decide) ?_
          replace h := h.2.2.2.1 hc3
          refine r_iconst (v := (0 : Int32)) C dX9_graph_76 rfl ?_
          refine r_istore_n C [(3, .int _), (2, .int _), (0, .ref _), (1, .int _)] dX9_graph_77 rfl (by decide) rfl ?_
          obtain ⟨n78, h⟩ := h
          refine r_sub [2, 0] rfl (mL_X9_graph_78 C (fun M_5 h => ?_) n78 _ _ h)
          refine r_iconst (v := (-1 : Int32)) C dX9_graph_105 rfl ?_
          exact r_iret C dX9_graph_106 h
        ·
          refine r_cases (4 : Int32) (fun hc4 => ?_) (fun hc4 => ?_)
          · refine r_tabIn C 107 dX9_graph_12 (off := 95) (by rw [hc4]; decide) (by rw [hc4]; decide) (by rw [hc4]; rfl) (by decide) ?_
            replace h := h.2.2.2.2.1 hc4
            refine r_iconst (v := (0 : Int32)) C dX9_graph_107 rfl ?_
            refine r_istore_n C [(3, .int _), (2, .int _), (0, .ref _), (1, .int _)] dX9_graph_108 rfl (by decide) rfl ?_
            obtain ⟨n109, h⟩ := h
            refine r_sub [2, 1, 0] rfl (mL_X9_graph_109 C (fun v2_2 M_6 h => ?_) n109 _ _ _ h)
            refine r_iload_n C 0 dX9_graph_142 rfl rfl ?_
            exact r_iret C dX9_graph_143 h
          ·
            refine r_tabOut C 144 dX9_graph_12 (tab_dflt 5 (fun j hj => by rcases (show j = 0 ∨ j = 1 ∨ j = 2 ∨ j = 3 ∨ j = 4 by omega) with rfl | rfl | rfl | rfl | rfl <;> assumption) (by decide) (by decide)) (by decide) ?_
            replace h := h.2.2.2.2.2 hc0 hc1 hc2 hc3 hc4
            refine r_iconst (v := (-1 : Int32)) C dX9_graph_144 rfl ?_
            exact r_iret C dX9_graph_145 h
def f_X9_isMarking (v1 : Int32) (M : Mem) (K : Int32 → Mem → Prop) : Prop := f_X9_layNow  M (fun (M_2 : Mem) => f_X9_in v1 (0 : Int32) ((gI M_2 30 (0 : Int32)) - (1 : Int32)) M_2 (fun (r_2 : Int32) (M_3 : Mem) => (r_2 &&& 1 = r_2) ∧ K r_2 M_3))

set_option maxHeartbeats 1000000 in
set_option maxRecDepth 10000 in
theorem m_X9_isMarking (l : Launch) {v1 : Int32}  {M : Mem} {K : Int32 → Mem → Prop} (h : f_X9_isMarking v1 M K) : CTi l yX9_isMarking cX9_isMarking 2 (some .boolean) rm_X9_isMarking (fun ad => [.ref (ad 0), .int v1]) M K := by
  refine rw_enti (by decide +kernel) (fun ad => Nat.le_of_ble_eq_true rfl) (fun p e s m args below meth c D cy ad C => ?_)
  change rw_W p l e _ s m args below meth c D cy ad 2 0 0 _ 0 [(0, .ref (ad 0)), (1, .int v1)] [] M
  unfold f_X9_isMarking at h
  refine r_aload_n C 0 dX9_isMarking_0 rfl rfl ?_
  refine cX9_397 C (m_X9_layNow l h) ⟨Nat.le_of_ble_eq_true rfl, Nat.le_of_ble_eq_true rfl⟩ (Nat.le_of_ble_eq_true rfl) ⟨Nat.le_refl 0, Nat.le_refl 0⟩ dX9_isMarking_1 (fun M_2 h => ?_)
  refine r_iload_n C 1 dX9_isMarking_4 rfl rfl ?_
  refine r_iconst (v := (0 : Int32)) C dX9_isMarking_5 rfl ?_
  refine r_aload_n C 0 dX9_isMarking_6 rfl rfl ?_
  refine gX9_103 C dX9_isMarking_7 ?_
  refine r_iconst (v := (0 : Int32)) C dX9_isMarking_10 rfl ?_
  refine r_iald C sh_30 (vpd (i := (0 : Int32)) (n := 2) (by decide +kernel)) dX9_isMarking_11 ?_
  refine r_iconst (v := (1 : Int32)) C dX9_isMarking_12 rfl ?_
  refine r_isub C dX9_isMarking_13 ?_
  refine cX9_136 C (m_X9_in l h) ⟨Nat.le_of_ble_eq_true rfl, Nat.le_of_ble_eq_true rfl⟩ (Nat.le_of_ble_eq_true rfl) ⟨Nat.le_refl 0, Nat.le_refl 0⟩ dX9_isMarking_14 (fun r_2 M_3 h => ?_)
  exact r_zret C h.1 dX9_isMarking_17 h.2
def f_X9_marking (v1 : Int32) (v2 : Int32) (M : Mem) (K : Int32 → Mem → Prop) : Prop := ∀ M_2 : Mem, M_2 = wI M 0 0 (0 : Int32) → f_X9_isMarking v1 M_2 (fun (r : Int32) (M_3 : Mem) => ((r = 0 → K (-1 : Int32) M_3) ∧ (¬ r = 0 → f_X9_isPlace v2 M_3 (fun (r_2 : Int32) (M_4 : Mem) => ((r_2 = 0 → K (-1 : Int32) M_4) ∧ (¬ r_2 = 0 → vp_in (((10 : Int32) * v1) + v2) 6000 ∧ K (gI M_4 24 (((10 : Int32) * v1) + v2)) M_4))))))

set_option maxHeartbeats 1000000 in
set_option maxRecDepth 10000 in
theorem m_X9_marking (l : Launch) {v1 : Int32} {v2 : Int32}  {M : Mem} {K : Int32 → Mem → Prop} (h : f_X9_marking v1 v2 M K) : CTi l yX9_marking cX9_marking 3 (some .int) rm_X9_marking (fun ad => [.ref (ad 0), .int v1, .int v2]) M K := by
  refine rw_enti (by decide +kernel) (fun ad => Nat.le_of_ble_eq_true rfl) (fun p e s m args below meth c D cy ad C => ?_)
  change rw_W p l e _ s m args below meth c D cy ad 3 0 0 _ 0 [(0, .ref (ad 0)), (1, .int v1), (2, .int v2)] [] M
  unfold f_X9_marking at h
  refine r_aload_n C 0 dX9_marking_0 rfl rfl ?_
  refine r_iconst (v := (0 : Int32)) C dX9_marking_1 rfl ?_
  refine pX9_133 C dX9_marking_2 ?_
  replace h := h _ rfl
  refine r_aload_n C 0 dX9_marking_5 rfl rfl ?_
  refine r_iload_n C 1 dX9_marking_6 rfl rfl ?_
  refine cX9_403 C (m_X9_isMarking l h) ⟨Nat.le_of_ble_eq_true rfl, Nat.le_of_ble_eq_true rfl⟩ (Nat.le_of_ble_eq_true rfl) ⟨Nat.le_refl 0, Nat.le_refl 0⟩ dX9_marking_7 (fun r M_3 h => ?_)
  refine r_if_eq C 35 dX9_marking_10 (by decide) (fun hc => ?_) (fun hc => ?_)
  · replace h := h.1 hc
    refine r_iconst (v := (-1 : Int32)) C dX9_marking_35 rfl ?_
    exact r_iret C dX9_marking_36 h
  · replace h := h.2 hc
    refine r_aload_n C 0 dX9_marking_13 rfl rfl ?_
    refine r_iload_n C 2 dX9_marking_14 rfl rfl ?_
    refine cX9_275 C (m_X9_isPlace l h) ⟨Nat.le_of_ble_eq_true rfl, Nat.le_of_ble_eq_true rfl⟩ (Nat.le_of_ble_eq_true rfl) ⟨Nat.le_refl 0, Nat.le_refl 0⟩ dX9_marking_15 (fun r_2 M_4 h => ?_)
    refine r_if_eq C 35 dX9_marking_18 (by decide) (fun hc => ?_) (fun hc => ?_)
    · replace h := h.1 hc
      refine r_iconst (v := (-1 : Int32)) C dX9_marking_35 rfl ?_
      exact r_iret C dX9_marking_36 h
    · replace h := h.2 hc
      refine r_aload_n C 0 dX9_marking_21 rfl rfl ?_
      refine gX9_85 C dX9_marking_22 ?_
      refine r_bipush (v := (10 : Int32)) C dX9_marking_25 rfl ?_
      refine r_iload_n C 1 dX9_marking_27 rfl rfl ?_
      refine r_imul C dX9_marking_28 ?_
      refine r_iload_n C 2 dX9_marking_29 rfl rfl ?_
      refine r_iadd C dX9_marking_30 ?_
      obtain ⟨q, h⟩ := h
      refine r_iald C sh_24 q dX9_marking_31 ?_
      refine r_goto C 36 dX9_marking_32 (by decide) ?_
      exact r_iret C dX9_marking_36 h
def f_X9_came (v1 : Int32) (v2 : Int32) (M : Mem) (K : Int32 → Mem → Prop) : Prop := ∀ M_2 : Mem, M_2 = wI M 0 0 (0 : Int32) → f_X9_isMarking v1 M_2 (fun (r : Int32) (M_3 : Mem) => ((r = 0 → K (-1 : Int32) M_3) ∧ (¬ r = 0 → f_X9_in v2 (0 : Int32) (3 : Int32) M_3 (fun (r_2 : Int32) (M_4 : Mem) => ((¬ r_2 = 0 → ((¬ v2 = 0 → ((¬ v2 = (1 : Int32) → ((¬ v2 = (2 : Int32) → vp_in v1 300 ∧ (((gI M_4 36 v1) = 0 → K (0 : Int32) M_4) ∧ (¬ (gI M_4 36 v1) = 0 → K (1 : Int32) M_4))) ∧ (v2 = (2 : Int32) → vp_in v1 600 ∧ K (gI M_4 28 v1) M_4))) ∧ (v2 = (1 : Int32) → vp_in v1 600 ∧ K (gI M_4 26 v1) M_4))) ∧ (v2 = 0 → vp_in v1 600 ∧ K (gI M_4 25 v1) M_4))) ∧ (r_2 = 0 → K (-1 : Int32) M_4))))))

set_option maxHeartbeats 1000000 in
set_option maxRecDepth 10000 in
theorem m_X9_came (l : Launch) {v1 : Int32} {v2 : Int32}  {M : Mem} {K : Int32 → Mem → Prop} (h : f_X9_came v1 v2 M K) : CTi l yX9_came cX9_came 3 (some .int) rm_X9_came (fun ad => [.ref (ad 0), .int v1, .int v2]) M K := by
  refine rw_enti (by decide +kernel) (fun ad => Nat.le_of_ble_eq_true rfl) (fun p e s m args below meth c D cy ad C => ?_)
  change rw_W p l e _ s m args below meth c D cy ad 3 0 0 _ 0 [(0, .ref (ad 0)), (1, .int v1), (2, .int v2)] [] M
  unfold f_X9_came at h
  refine r_aload_n C 0 dX9_came_0 rfl rfl ?_
  refine r_iconst (v := (0 : Int32)) C dX9_came_1 rfl ?_
  refine pX9_133 C dX9_came_2 ?_
  replace h := h _ rfl
  refine r_aload_n C 0 dX9_came_5 rfl rfl ?_
  refine r_iload_n C 1 dX9_came_6 rfl rfl ?_
  refine cX9_403 C (m_X9_isMarking l h) ⟨Nat.le_of_ble_eq_true rfl, Nat.le_of_ble_eq_true rfl⟩ (Nat.le_of_ble_eq_true rfl) ⟨Nat.le_refl 0, Nat.le_refl 0⟩ dX9_came_7 (fun r M_3 h => ?_)
  refine r_if_eq C 22 dX9_came_10 (by decide) (fun hc => ?_) (fun hc => ?_)
  · replace h := h.1 hc
    refine r_iconst (v := (-1 : Int32)) C dX9_came_22 rfl ?_
    exact r_iret C dX9_came_23 h
  · replace h := h.2 hc
    refine r_iload_n C 2 dX9_came_13 rfl rfl ?_
    refine r_iconst (v := (0 : Int32)) C dX9_came_14 rfl ?_
    refine r_iconst (v := (3 : Int32)) C dX9_came_15 rfl ?_
    refine cX9_136 C (m_X9_in l h) ⟨Nat.le_of_ble_eq_true rfl, Nat.le_of_ble_eq_true rfl⟩ (Nat.le_of_ble_eq_true rfl) ⟨Nat.le_refl 0, Nat.le_refl 0⟩ dX9_came_16 (fun r_2 M_4 h => ?_)
    refine r_if_ne C 24 dX9_came_19 (by decide) (fun hc => ?_) (fun hc => ?_)
    · replace h := h.1 hc
      refine r_iload_n C 2 dX9_came_24 rfl rfl ?_
      refine r_if_ne C 37 dX9_came_25 (by decide) (fun hc => ?_) (fun hc => ?_)
      · replace h := h.1 hc
        refine r_iload_n C 2 dX9_came_37 rfl rfl ?_
        refine r_iconst (v := (1 : Int32)) C dX9_came_38 rfl ?_
        refine r_icmp_ne C 51 dX9_came_39 (by decide) (fun hc => ?_) (fun hc => ?_)
        · replace h := h.1 hc
          refine r_iload_n C 2 dX9_came_51 rfl rfl ?_
          refine r_iconst (v := (2 : Int32)) C dX9_came_52 rfl ?_
          refine r_icmp_ne C 65 dX9_came_53 (by decide) (fun hc => ?_) (fun hc => ?_)
          · replace h := h.1 hc
            refine r_aload_n C 0 dX9_came_65 rfl rfl ?_
            refine gX9_121 C dX9_came_66 ?_
            refine r_iload_n C 1 dX9_came_69 rfl rfl ?_
            obtain ⟨q, h⟩ := h
            refine r_zald C sh_36 q dX9_came_70 ?_
            refine r_if_eq C 78 dX9_came_71 (by decide) (fun hc => ?_) (fun hc => ?_)
            · replace h := h.1 hc
              refine r_iconst (v := (0 : Int32)) C dX9_came_78 rfl ?_
              exact r_iret C dX9_came_79 h
            · replace h := h.2 hc
              refine r_iconst (v := (1 : Int32)) C dX9_came_74 rfl ?_
              refine r_goto C 79 dX9_came_75 (by decide) ?_
              exact r_iret C dX9_came_79 h
          · replace h := h.2 hc
            refine r_aload_n C 0 dX9_came_56 rfl rfl ?_
            refine gX9_97 C dX9_came_57 ?_
            refine r_iload_n C 1 dX9_came_60 rfl rfl ?_
            obtain ⟨q_2, h⟩ := h
            refine r_iald C sh_28 q_2 dX9_came_61 ?_
            refine r_goto C 79 dX9_came_62 (by decide) ?_
            exact r_iret C dX9_came_79 h
        · replace h := h.2 hc
          refine r_aload_n C 0 dX9_came_42 rfl rfl ?_
          refine gX9_91 C dX9_came_43 ?_
          refine r_iload_n C 1 dX9_came_46 rfl rfl ?_
          obtain ⟨q_3, h⟩ := h
          refine r_iald C sh_26 q_3 dX9_came_47 ?_
          refine r_goto C 79 dX9_came_48 (by decide) ?_
          exact r_iret C dX9_came_79 h
      · replace h := h.2 hc
        refine r_aload_n C 0 dX9_came_28 rfl rfl ?_
        refine gX9_88 C dX9_came_29 ?_
        refine r_iload_n C 1 dX9_came_32 rfl rfl ?_
        obtain ⟨q_4, h⟩ := h
        refine r_iald C sh_25 q_4 dX9_came_33 ?_
        refine r_goto C 79 dX9_came_34 (by decide) ?_
        exact r_iret C dX9_came_79 h
    · replace h := h.2 hc
      refine r_iconst (v := (-1 : Int32)) C dX9_came_22 rfl ?_
      exact r_iret C dX9_came_23 h
def f_X9_live (v1 : Int32) (M : Mem) (K : Int32 → Mem → Prop) : Prop := ∀ M_2 : Mem, M_2 = wI M 0 0 (0 : Int32) → f_X9_isStep v1 M_2 (fun (r : Int32) (M_3 : Mem) => ((¬ r = 0 → f_X9_layNow  M_3 (fun (M_4 : Mem) => f_X9_isLive (0 : Int32) v1 M_4 (fun (r_3 : Int32) (M_5 : Mem) => ((r_3 = 0 → K (0 : Int32) M_5) ∧ (¬ r_3 = 0 → K (1 : Int32) M_5))))) ∧ (r = 0 → K (-1 : Int32) M_3)))

set_option maxHeartbeats 1000000 in
set_option maxRecDepth 10000 in
theorem m_X9_live (l : Launch) {v1 : Int32}  {M : Mem} {K : Int32 → Mem → Prop} (h : f_X9_live v1 M K) : CTi l yX9_live cX9_live 2 (some .int) rm_X9_live (fun ad => [.ref (ad 0), .int v1]) M K := by
  refine rw_enti (by decide +kernel) (fun ad => Nat.le_of_ble_eq_true rfl) (fun p e s m args below meth c D cy ad C => ?_)
  change rw_W p l e _ s m args below meth c D cy ad 2 0 0 _ 0 [(0, .ref (ad 0)), (1, .int v1)] [] M
  unfold f_X9_live at h
  refine r_aload_n C 0 dX9_live_0 rfl rfl ?_
  refine r_iconst (v := (0 : Int32)) C dX9_live_1 rfl ?_
  refine pX9_133 C dX9_live_2 ?_
  replace h := h _ rfl
  refine r_aload_n C 0 dX9_live_5 rfl rfl ?_
  refine r_iload_n C 1 dX9_live_6 rfl rfl ?_
  refine cX9_272 C (m_X9_isStep l h) ⟨Nat.le_of_ble_eq_true rfl, Nat.le_of_ble_eq_true rfl⟩ (Nat.le_of_ble_eq_true rfl) ⟨Nat.le_refl 0, Nat.le_refl 0⟩ dX9_live_7 (fun r M_3 h => ?_)
  refine r_if_ne C 15 dX9_live_10 (by decide) (fun hc => ?_) (fun hc => ?_)
  · replace h := h.1 hc
    refine r_aload_n C 0 dX9_live_15 rfl rfl ?_
    refine cX9_397 C (m_X9_layNow l h) ⟨Nat.le_of_ble_eq_true rfl, Nat.le_of_ble_eq_true rfl⟩ (Nat.le_of_ble_eq_true rfl) ⟨Nat.le_refl 0, Nat.le_refl 0⟩ dX9_live_16 (fun M_4 h => ?_)
    refine r_aload_n C 0 dX9_live_19 rfl rfl ?_
    refine r_iconst (v := (0 : Int32)) C dX9_live_20 rfl ?_
    refine r_iload_n C 1 dX9_live_21 rfl rfl ?_
    refine cX9_406 C (m_X9_isLive l h) ⟨Nat.le_of_ble_eq_true rfl, Nat.le_of_ble_eq_true rfl⟩ (Nat.le_of_ble_eq_true rfl) ⟨Nat.le_refl 0, Nat.le_refl 0⟩ dX9_live_22 (fun r_3 M_5 h => ?_)
    refine r_if_eq C 32 dX9_live_25 (by decide) (fun hc => ?_) (fun hc => ?_)
    · replace h := h.1 hc
      refine r_iconst (v := (0 : Int32)) C dX9_live_32 rfl ?_
      exact r_iret C dX9_live_33 h
    · replace h := h.2 hc
      refine r_iconst (v := (1 : Int32)) C dX9_live_28 rfl ?_
      refine r_goto C 33 dX9_live_29 (by decide) ?_
      exact r_iret C dX9_live_33 h
  · replace h := h.2 hc
    refine r_iconst (v := (-1 : Int32)) C dX9_live_13 rfl ?_
    exact r_iret C dX9_live_14 h
def L_X9_most_23 (v1 : Int32) (X55 : Int32 → Mem → Prop) (K : Int32 → Mem → Prop) : Nat → Int32 → Int32 → Mem → Prop
  | 0, _, _, _ => False
  | n + 1, v2, v3, M => (((gI M 30 (0 : Int32)) ≤ v3 → X55 v2 M) ∧ (¬ (gI M 30 (0 : Int32)) ≤ v3 → vp_in (((10 : Int32) * v3) + v1) 6000 ∧ f_X9_greater v2 (gI M 24 (((10 : Int32) * v3) + v1)) M (fun (r_3 : Int32) (M_5 : Mem) => L_X9_most_23 v1 X55 K n r_3 (v3 + (1 : Int32)) M_5)))

set_option maxHeartbeats 1000000 in
set_option maxRecDepth 10000 in
theorem mL_X9_most_23 (C : rw_C p s m meth c cX9_most 4 RX9 (some .int) D cy ad) {v1 : Int32} {X55 : Int32 → Mem → Prop} {K : Int32 → Mem → Prop} (hX55 : ∀ (u2 : Int32) (M : Mem), X55 u2 M → rw_W p l e rm_X9_most s m args below meth c D cy ad 4 0 0 (rw_Qi below args s D cy ad K) 55 [(2, .int u2)] [] M) : ∀ (n : Nat) (v2 : Int32) (v3 : Int32) (M : Mem), L_X9_most_23 v1 X55 K n v2 v3 M → rw_W p l e rm_X9_most s m args below meth c D cy ad 4 0 0 (rw_Qi below args s D cy ad K) 23 [(0, .ref (ad 0)), (1, .int v1), (2, .int v2), (3, .int v3)] [] M := by
  intro n
  induction n with
  | zero => intro v2 v3 M h; exact h.elim
  | succ n ih =>
    intro v2 v3 M h
    refine r_iload_n C 3 dX9_most_23 rfl rfl ?_
    refine r_aload_n C 0 dX9_most_24 rfl rfl ?_
    refine gX9_103 C dX9_most_25 ?_
    refine r_iconst (v := (0 : Int32)) C dX9_most_28 rfl ?_
    refine r_iald C sh_30 (vpd (i := (0 : Int32)) (n := 2) (by decide +kernel)) dX9_most_29 ?_
    refine r_icmp_ge C 55 dX9_most_30 (by decide) (fun hc => ?_) (fun hc => ?_)
    · replace h := h.1 hc
      exact r_sub [2] rfl (hX55 _ _ h)
    · replace h := h.2 hc
      refine r_iload_n C 2 dX9_most_33 rfl rfl ?_
      refine r_aload_n C 0 dX9_most_34 rfl rfl ?_
      refine gX9_85 C dX9_most_35 ?_
      refine r_bipush (v := (10 : Int32)) C dX9_most_38 rfl ?_
      refine r_iload_n C 3 dX9_most_40 rfl rfl ?_
      refine r_imul C dX9_most_41 ?_
      refine r_iload_n C 1 dX9_most_42 rfl rfl ?_
      refine r_iadd C dX9_most_43 ?_
      obtain ⟨q, h⟩ := h
      refine r_iald C sh_24 q dX9_most_44 ?_
      refine cX9_409 C (m_X9_greater l h) ⟨Nat.le_of_ble_eq_true rfl, Nat.le_of_ble_eq_true rfl⟩ (Nat.le_of_ble_eq_true rfl) ⟨Nat.le_refl 0, Nat.le_refl 0⟩ dX9_most_45 (fun r_3 M_5 h => ?_)
      refine r_istore_n C [(2, .int _), (0, .ref _), (1, .int _), (3, .int _)] dX9_most_48 rfl (by decide) rfl ?_
      refine r_iinc C 3 (v := _) [(3, .int _), (2, .int _), (0, .ref _), (1, .int _)] dX9_most_49 rfl rfl (by decide) rfl ?_
      refine r_goto C 23 dX9_most_52 (by decide) ?_
      exact r_sub [2, 3, 1, 0] rfl (ih _ _ _ h)

def f_X9_most (v1 : Int32) (M : Mem) (K : Int32 → Mem → Prop) : Prop := ∀ M_2 : Mem, M_2 = wI M 0 0 (0 : Int32) → f_X9_isPlace v1 M_2 (fun (r : Int32) (M_3 : Mem) => ((¬ r = 0 → f_X9_layNow  M_3 (fun (M_4 : Mem) => (∃ k23 : Nat, L_X9_most_23 v1 (fun (v2_2 : Int32) (M_6 : Mem) => K v2_2 M_6) K k23 (0 : Int32) (0 : Int32) M_4))) ∧ (r = 0 → K (-1 : Int32) M_3)))

set_option maxHeartbeats 1000000 in
set_option maxRecDepth 10000 in
theorem m_X9_most (l : Launch) {v1 : Int32}  {M : Mem} {K : Int32 → Mem → Prop} (h : f_X9_most v1 M K) : CTi l yX9_most cX9_most 4 (some .int) rm_X9_most (fun ad => [.ref (ad 0), .int v1]) M K := by
  refine rw_enti (by decide +kernel) (fun ad => Nat.le_of_ble_eq_true rfl) (fun p e s m args below meth c D cy ad C => ?_)
  change rw_W p l e _ s m args below meth c D cy ad 4 0 0 _ 0 [(0, .ref (ad 0)), (1, .int v1)] [] M
  unfold f_X9_most at h
  refine r_aload_n C 0 dX9_most_0 rfl rfl ?_
  refine r_iconst (v := (0 : Int32)) C dX9_most_1 rfl ?_
  refine pX9_133 C dX9_most_2 ?_
  replace h := h _ rfl
  refine r_aload_n C 0 dX9_most_5 rfl rfl ?_
  refine r_iload_n C 1 dX9_most_6 rfl rfl ?_
  refine cX9_275 C (m_X9_isPlace l h) ⟨Nat.le_of_ble_eq_true rfl, Nat.le_of_ble_eq_true rfl⟩ (Nat.le_of_ble_eq_true rfl) ⟨Nat.le_refl 0, Nat.le_refl 0⟩ dX9_most_7 (fun r M_3 h => ?_)
  refine r_if_ne C 15 dX9_most_10 (by decide) (fun hc => ?_) (fun hc => ?_)
  · replace h := h.1 hc
    refine r_aload_n C 0 dX9_most_15 rfl rfl ?_
    refine cX9_397 C (m_X9_layNow l h) ⟨Nat.le_of_ble_eq_true rfl, Nat.le_of_ble_eq_true rfl⟩ (Nat.le_of_ble_eq_true rfl) ⟨Nat.le_refl 0, Nat.le_refl 0⟩ dX9_most_16 (fun M_4 h => ?_)
    refine r_iconst (v := (0 : Int32)) C dX9_most_19 rfl ?_
    refine r_istore_n C [(2, .int _), (0, .ref _), (1, .int _)] dX9_most_20 rfl (by decide) rfl ?_
    refine r_iconst (v := (0 : Int32)) C dX9_most_21 rfl ?_
    refine r_istore_n C [(3, .int _), (2, .int _), (0, .ref _), (1, .int _)] dX9_most_22 rfl (by decide) rfl ?_
    obtain ⟨n23, h⟩ := h
    refine r_sub [2, 3, 1, 0] rfl (mL_X9_most_23 C (fun v2_2 M_6 h => ?_) n23 _ _ _ h)
    refine r_iload_n C 0 dX9_most_55 rfl rfl ?_
    exact r_iret C dX9_most_56 h
  · replace h := h.2 hc
    refine r_iconst (v := (-1 : Int32)) C dX9_most_13 rfl ?_
    exact r_iret C dX9_most_14 h
def f_X9_isThere (v1 : Int32) (M : Mem) (K : Int32 → Mem → Prop) : Prop := f_X9_isOf (gI M 4 (1 : Int32)) v1 M (fun (r : Int32) (M_2 : Mem) => (r &&& 1 = r) ∧ K r M_2)

set_option maxHeartbeats 1000000 in
set_option maxRecDepth 10000 in
theorem m_X9_isThere (l : Launch) {v1 : Int32}  {M : Mem} {K : Int32 → Mem → Prop} (h : f_X9_isThere v1 M K) : CTi l yX9_isThere cX9_isThere 2 (some .boolean) rm_X9_isThere (fun ad => [.ref (ad 0), .int v1]) M K := by
  refine rw_enti (by decide +kernel) (fun ad => Nat.le_of_ble_eq_true rfl) (fun p e s m args below meth c D cy ad C => ?_)
  change rw_W p l e _ s m args below meth c D cy ad 2 0 0 _ 0 [(0, .ref (ad 0)), (1, .int v1)] [] M
  unfold f_X9_isThere at h
  refine r_aload_n C 0 dX9_isThere_0 rfl rfl ?_
  refine gX9_19 C dX9_isThere_1 ?_
  refine r_iconst (v := (1 : Int32)) C dX9_isThere_4 rfl ?_
  refine r_iald C sh_4 (vpd (i := (1 : Int32)) (n := 3) (by decide +kernel)) dX9_isThere_5 ?_
  refine r_iload_n C 1 dX9_isThere_6 rfl rfl ?_
  refine cX9_140 C (m_X9_isOf l h) ⟨Nat.le_of_ble_eq_true rfl, Nat.le_of_ble_eq_true rfl⟩ (Nat.le_of_ble_eq_true rfl) ⟨Nat.le_refl 0, Nat.le_refl 0⟩ dX9_isThere_7 (fun r M_2 h => ?_)
  exact r_zret C h.1 dX9_isThere_10 h.2
def f_X9_isLeft (v1 : Int32) (M : Mem) (K : Int32 → Mem → Prop) : Prop := f_X9_isOf (gI M 5 (1 : Int32)) v1 M (fun (r : Int32) (M_2 : Mem) => (r &&& 1 = r) ∧ K r M_2)

set_option maxHeartbeats 1000000 in
set_option maxRecDepth 10000 in
theorem m_X9_isLeft (l : Launch) {v1 : Int32}  {M : Mem} {K : Int32 → Mem → Prop} (h : f_X9_isLeft v1 M K) : CTi l yX9_isLeft cX9_isLeft 2 (some .boolean) rm_X9_isLeft (fun ad => [.ref (ad 0), .int v1]) M K := by
  refine rw_enti (by decide +kernel) (fun ad => Nat.le_of_ble_eq_true rfl) (fun p e s m args below meth c D cy ad C => ?_)
  change rw_W p l e _ s m args below meth c D cy ad 2 0 0 _ 0 [(0, .ref (ad 0)), (1, .int v1)] [] M
  unfold f_X9_isLeft at h
  refine r_aload_n C 0 dX9_isLeft_0 rfl rfl ?_
  refine gX9_22 C dX9_isLeft_1 ?_
  refine r_iconst (v := (1 : Int32)) C dX9_isLeft_4 rfl ?_
  refine r_iald C sh_5 (vpd (i := (1 : Int32)) (n := 3) (by decide +kernel)) dX9_isLeft_5 ?_
  refine r_iload_n C 1 dX9_isLeft_6 rfl rfl ?_
  refine cX9_140 C (m_X9_isOf l h) ⟨Nat.le_of_ble_eq_true rfl, Nat.le_of_ble_eq_true rfl⟩ (Nat.le_of_ble_eq_true rfl) ⟨Nat.le_refl 0, Nat.le_refl 0⟩ dX9_isLeft_7 (fun r M_2 h => ?_)
  exact r_zret C h.1 dX9_isLeft_10 h.2
def f_X9_taken (v1 : Int32) (v2 : Int32) (M : Mem) (K : Int32 → Mem → Prop) : Prop := f_X9_arcAt (1 : Int32) v1 v2 M (fun (r : Int32) (M_2 : Mem) => vp_in r 240 ∧ K (gI M_2 1 r) M_2)

set_option maxHeartbeats 1000000 in
set_option maxRecDepth 10000 in
theorem m_X9_taken (l : Launch) {v1 : Int32} {v2 : Int32}  {M : Mem} {K : Int32 → Mem → Prop} (h : f_X9_taken v1 v2 M K) : CTi l yX9_taken cX9_taken 3 (some .int) rm_X9_taken (fun ad => [.ref (ad 0), .int v1, .int v2]) M K := by
  refine rw_enti (by decide +kernel) (fun ad => Nat.le_of_ble_eq_true rfl) (fun p e s m args below meth c D cy ad C => ?_)
  change rw_W p l e _ s m args below meth c D cy ad 3 0 0 _ 0 [(0, .ref (ad 0)), (1, .int v1), (2, .int v2)] [] M
  unfold f_X9_taken at h
  refine r_aload_n C 0 dX9_taken_0 rfl rfl ?_
  refine gX9_7 C dX9_taken_1 ?_
  refine r_aload_n C 0 dX9_taken_4 rfl rfl ?_
  refine r_iconst (v := (1 : Int32)) C dX9_taken_5 rfl ?_
  refine r_iload_n C 1 dX9_taken_6 rfl rfl ?_
  refine r_iload_n C 2 dX9_taken_7 rfl rfl ?_
  refine cX9_144 C (m_X9_arcAt l h) ⟨Nat.le_of_ble_eq_true rfl, Nat.le_of_ble_eq_true rfl⟩ (Nat.le_of_ble_eq_true rfl) ⟨Nat.le_refl 0, Nat.le_refl 0⟩ dX9_taken_8 (fun r M_2 h => ?_)
  obtain ⟨q, h⟩ := h
  refine r_iald C sh_1 q dX9_taken_11 ?_
  exact r_iret C dX9_taken_12 h
def f_X9_given (v1 : Int32) (v2 : Int32) (M : Mem) (K : Int32 → Mem → Prop) : Prop := f_X9_arcAt (1 : Int32) v1 v2 M (fun (r : Int32) (M_2 : Mem) => vp_in r 240 ∧ K (gI M_2 2 r) M_2)

set_option maxHeartbeats 1000000 in
set_option maxRecDepth 10000 in
theorem m_X9_given (l : Launch) {v1 : Int32} {v2 : Int32}  {M : Mem} {K : Int32 → Mem → Prop} (h : f_X9_given v1 v2 M K) : CTi l yX9_given cX9_given 3 (some .int) rm_X9_given (fun ad => [.ref (ad 0), .int v1, .int v2]) M K := by
  refine rw_enti (by decide +kernel) (fun ad => Nat.le_of_ble_eq_true rfl) (fun p e s m args below meth c D cy ad C => ?_)
  change rw_W p l e _ s m args below meth c D cy ad 3 0 0 _ 0 [(0, .ref (ad 0)), (1, .int v1), (2, .int v2)] [] M
  unfold f_X9_given at h
  refine r_aload_n C 0 dX9_given_0 rfl rfl ?_
  refine gX9_13 C dX9_given_1 ?_
  refine r_aload_n C 0 dX9_given_4 rfl rfl ?_
  refine r_iconst (v := (1 : Int32)) C dX9_given_5 rfl ?_
  refine r_iload_n C 1 dX9_given_6 rfl rfl ?_
  refine r_iload_n C 2 dX9_given_7 rfl rfl ?_
  refine cX9_144 C (m_X9_arcAt l h) ⟨Nat.le_of_ble_eq_true rfl, Nat.le_of_ble_eq_true rfl⟩ (Nat.le_of_ble_eq_true rfl) ⟨Nat.le_refl 0, Nat.le_refl 0⟩ dX9_given_8 (fun r M_2 h => ?_)
  obtain ⟨q, h⟩ := h
  refine r_iald C sh_2 q dX9_given_11 ?_
  exact r_iret C dX9_given_12 h
def L_X9_notes_71 (v2 : Int32) (v3 : Int32) (X112 : Mem → Prop) (K : Mem → Prop) : Nat → Int32 → Mem → Prop
  | 0, _, _ => False
  | n + 1, v4, M => (((8 : Int32) ≤ v4 → X112 M) ∧ (¬ (8 : Int32) ≤ v4 → f_X9_arcAt (1 : Int32) v4 v2 M (fun (r : Int32) (M_8 : Mem) => vp_in r 240 ∧ ∀ M_9 : Mem, M_9 = wI M_8 1 r.toNatClampNeg (0 : Int32) → f_X9_arcAt (1 : Int32) v4 v2 M_9 (fun (r_2 : Int32) (M_10 : Mem) => vp_in r_2 240 ∧ ∀ M_11 : Mem, M_11 = wI M_10 2 r_2.toNatClampNeg (0 : Int32) → L_X9_notes_71 v2 v3 X112 K n (v4 + (1 : Int32)) M_11))))

set_option maxHeartbeats 1000000 in
set_option maxRecDepth 10000 in
theorem mL_X9_notes_71 (C : rw_C p s m meth c cX9_notes 5 RX9 none D cy ad) {v2 : Int32} {v3 : Int32} {X112 : Mem → Prop} {K : Mem → Prop} (hX112 : ∀  (M : Mem), X112 M → rw_W p l e rm_X9_notes s m args below meth c D cy ad 5 0 0 (rw_Qv below args s D cy ad K) 112 [(0, .ref (ad 0)), (3, .int v3)] [] M) : ∀ (n : Nat) (v4 : Int32) (M : Mem), L_X9_notes_71 v2 v3 X112 K n v4 M → rw_W p l e rm_X9_notes s m args below meth c D cy ad 5 0 0 (rw_Qv below args s D cy ad K) 71 [(0, .ref (ad 0)), (2, .int v2), (3, .int v3), (4, .int v4)] [] M := by
  intro n
  induction n with
  | zero => intro v4 M h; exact h.elim
  | succ n ih =>
    intro v4 M h
    refine r_iload C 3 dX9_notes_71 rfl ?_
    refine r_bipush (v := (8 : Int32)) C dX9_notes_73 rfl ?_
    refine r_icmp_ge C 112 dX9_notes_75 (by decide) (fun hc => ?_) (fun hc => ?_)
    · replace h := h.1 hc
      exact r_sub [0, 2] rfl (hX112 _ h)
    · replace h := h.2 hc
      refine r_aload_n C 0 dX9_notes_78 rfl rfl ?_
      refine gX9_7 C dX9_notes_79 ?_
      refine r_aload_n C 0 dX9_notes_82 rfl rfl ?_
      refine r_iconst (v := (1 : Int32)) C dX9_notes_83 rfl ?_
      refine r_iload C 3 dX9_notes_84 rfl ?_
      refine r_iload_n C 1 dX9_notes_86 rfl rfl ?_
      refine cX9_144 C (m_X9_arcAt l h) ⟨Nat.le_of_ble_eq_true rfl, Nat.le_of_ble_eq_true rfl⟩ (Nat.le_of_ble_eq_true rfl) ⟨Nat.le_refl 0, Nat.le_refl 0⟩ dX9_notes_87 (fun r M_8 h => ?_)
      refine r_iconst (v := (0 : Int32)) C dX9_notes_90 rfl ?_
      obtain ⟨q_5, h⟩ := h
      refine r_iast C sh_1 q_5 dX9_notes_91 ?_
      replace h := h _ rfl
      refine r_aload_n C 0 dX9_notes_92 rfl rfl ?_
      refine gX9_13 C dX9_notes_93 ?_
      refine r_aload_n C 0 dX9_notes_96 rfl rfl ?_
      refine r_iconst (v := (1 : Int32)) C dX9_notes_97 rfl ?_
      refine r_iload C 3 dX9_notes_98 rfl ?_
      refine r_iload_n C 1 dX9_notes_100 rfl rfl ?_
      refine cX9_144 C (m_X9_arcAt l h) ⟨Nat.le_of_ble_eq_true rfl, Nat.le_of_ble_eq_true rfl⟩ (Nat.le_of_ble_eq_true rfl) ⟨Nat.le_refl 0, Nat.le_refl 0⟩ dX9_notes_101 (fun r_2 M_10 h => ?_)
      refine r_iconst (v := (0 : Int32)) C dX9_notes_104 rfl ?_
      obtain ⟨q_6, h⟩ := h
      refine r_iast C sh_2 q_6 dX9_notes_105 ?_
      replace h := h _ rfl
      refine r_iinc C 3 (v := _) [(4, .int _), (0, .ref _), (2, .int _), (3, .int _)] dX9_notes_106 rfl rfl (by decide) rfl ?_
      refine r_goto C 71 dX9_notes_109 (by decide) ?_
      exact r_sub [1, 2, 3, 0] rfl (ih _ _ h)

def S_X9_notes_41 (v2 : Int32) (v3 : Int32) (o0 : Int32) (X112 : Mem → Prop) (K : Mem → Prop) (M : Mem) : Prop := (o0 < 0 → X112 M) ∧ (¬ o0 < 0 → ∀ M_6 : Mem, M_6 = wI M 4 (1 : Int32).toNatClampNeg ((gI M 4 (1 : Int32)) &&& (((1 : Int32) <<< (v2 &&& 31)) ^^^ (-1 : Int32))) → vp_in ((10 : Int32) + v2) 30 ∧ ∀ M_7 : Mem, M_7 = wI M_6 3 ((10 : Int32) + v2).toNatClampNeg (0 : Int32) → (∃ k71 : Nat, L_X9_notes_71 v2 v3 (X112) K k71 (0 : Int32) M_7))

set_option maxHeartbeats 1000000 in
set_option maxRecDepth 10000 in
theorem mS_X9_notes_41 (C : rw_C p s m meth c cX9_notes 5 RX9 none D cy ad) {v2 : Int32} {v3 : Int32} {o0 : Int32} {X112 : Mem → Prop} {K : Mem → Prop} {M : Mem} (hX112 : ∀  (M : Mem), X112 M → rw_W p l e rm_X9_notes s m args below meth c D cy ad 5 0 0 (rw_Qv below args s D cy ad K) 112 [(0, .ref (ad 0)), (3, .int v3)] [] M) (h : S_X9_notes_41 v2 v3 o0 X112 K M) : rw_W p l e rm_X9_notes s m args below meth c D cy ad 5 0 0 (rw_Qv below args s D cy ad K) 41 [(0, .ref (ad 0)), (2, .int v2), (3, .int v3)] [.int o0] M := by
  refine r_if_lt C 112 dX9_notes_41 (by decide) (fun hc => ?_) (fun hc => ?_)
  · replace h := h.1 hc
    exact r_sub [0, 2] rfl (hX112 _ h)
  · replace h := h.2 hc
    refine r_aload_n C 0 dX9_notes_44 rfl rfl ?_
    refine gX9_19 C dX9_notes_45 ?_
    refine r_iconst (v := (1 : Int32)) C dX9_notes_48 rfl ?_
    refine r_dup2_11 C dX9_notes_49 rfl rfl ?_
    refine r_iald C sh_4 (vpd (i := (1 : Int32)) (n := 3) (by decide +kernel)) dX9_notes_50 ?_
    refine r_iconst (v := (1 : Int32)) C dX9_notes_51 rfl ?_
    refine r_iload_n C 1 dX9_notes_52 rfl rfl ?_
    refine r_ishl C dX9_notes_53 ?_
    refine r_iconst (v := (-1 : Int32)) C dX9_notes_54 rfl ?_
    refine r_ixor C dX9_notes_55 ?_
    refine r_iand C dX9_notes_56 ?_
    refine r_iast C sh_4 (vpd (i := (1 : Int32)) (n := 3) (by decide +kernel)) dX9_notes_57 ?_
    replace h := h _ rfl
    refine r_aload_n C 0 dX9_notes_58 rfl rfl ?_
    refine gX9_16 C dX9_notes_59 ?_
    refine r_bipush (v := (10 : Int32)) C dX9_notes_62 rfl ?_
    refine r_iload_n C 1 dX9_notes_64 rfl rfl ?_
    refine r_iadd C dX9_notes_65 ?_
    refine r_iconst (v := (0 : Int32)) C dX9_notes_66 rfl ?_
    obtain ⟨q_4, h⟩ := h
    refine r_iast C sh_3 q_4 dX9_notes_67 ?_
    replace h := h _ rfl
    refine r_iconst (v := (0 : Int32)) C dX9_notes_68 rfl ?_
    refine r_istore C [(4, .int _), (0, .ref _), (2, .int _), (3, .int _)] dX9_notes_69 (by decide) rfl ?_
    obtain ⟨n71, h⟩ := h
    refine r_sub [1, 2, 3, 0] rfl (mL_X9_notes_71 C hX112 n71 _ _ h)

def L_X9_notes_133 (v3 : Int32) (X174 : Mem → Prop) (K : Mem → Prop) : Nat → Int32 → Mem → Prop
  | 0, _, _ => False
  | n + 1, v4, M => (((10 : Int32) ≤ v4 → X174 M) ∧ (¬ (10 : Int32) ≤ v4 → f_X9_arcAt (1 : Int32) v3 v4 M (fun (r_3 : Int32) (M_14 : Mem) => vp_in r_3 240 ∧ ∀ M_15 : Mem, M_15 = wI M_14 1 r_3.toNatClampNeg (0 : Int32) → f_X9_arcAt (1 : Int32) v3 v4 M_15 (fun (r_4 : Int32) (M_16 : Mem) => vp_in r_4 240 ∧ ∀ M_17 : Mem, M_17 = wI M_16 2 r_4.toNatClampNeg (0 : Int32) → L_X9_notes_133 v3 X174 K n (v4 + (1 : Int32)) M_17))))

set_option maxHeartbeats 1000000 in
set_option maxRecDepth 10000 in
theorem mL_X9_notes_133 (C : rw_C p s m meth c cX9_notes 5 RX9 none D cy ad) {v3 : Int32} {X174 : Mem → Prop} {K : Mem → Prop} (hX174 : ∀  (M : Mem), X174 M → rw_W p l e rm_X9_notes s m args below meth c D cy ad 5 0 0 (rw_Qv below args s D cy ad K) 174 [] [] M) : ∀ (n : Nat) (v4 : Int32) (M : Mem), L_X9_notes_133 v3 X174 K n v4 M → rw_W p l e rm_X9_notes s m args below meth c D cy ad 5 0 0 (rw_Qv below args s D cy ad K) 133 [(0, .ref (ad 0)), (3, .int v3), (4, .int v4)] [] M := by
  intro n
  induction n with
  | zero => intro v4 M h; exact h.elim
  | succ n ih =>
    intro v4 M h
    refine r_iload C 2 dX9_notes_133 rfl ?_
    refine r_bipush (v := (10 : Int32)) C dX9_notes_135 rfl ?_
    refine r_icmp_ge C 174 dX9_notes_137 (by decide) (fun hc => ?_) (fun hc => ?_)
    · replace h := h.1 hc
      exact r_sub [] rfl (hX174 _ h)
    · replace h := h.2 hc
      refine r_aload_n C 0 dX9_notes_140 rfl rfl ?_
      refine gX9_7 C dX9_notes_141 ?_
      refine r_aload_n C 0 dX9_notes_144 rfl rfl ?_
      refine r_iconst (v := (1 : Int32)) C dX9_notes_145 rfl ?_
      refine r_iload_n C 1 dX9_notes_146 rfl rfl ?_
      refine r_iload C 2 dX9_notes_147 rfl ?_
      refine cX9_144 C (m_X9_arcAt l h) ⟨Nat.le_of_ble_eq_true rfl, Nat.le_of_ble_eq_true rfl⟩ (Nat.le_of_ble_eq_true rfl) ⟨Nat.le_refl 0, Nat.le_refl 0⟩ dX9_notes_149 (fun r_3 M_14 h => ?_)
      refine r_iconst (v := (0 : Int32)) C dX9_notes_152 rfl ?_
      obtain ⟨q_7, h⟩ := h
      refine r_iast C sh_1 q_7 dX9_notes_153 ?_
      replace h := h _ rfl
      refine r_aload_n C 0 dX9_notes_154 rfl rfl ?_
      refine gX9_13 C dX9_notes_155 ?_
      refine r_aload_n C 0 dX9_notes_158 rfl rfl ?_
      refine r_iconst (v := (1 : Int32)) C dX9_notes_159 rfl ?_
      refine r_iload_n C 1 dX9_notes_160 rfl rfl ?_
      refine r_iload C 2 dX9_notes_161 rfl ?_
      refine cX9_144 C (m_X9_arcAt l h) ⟨Nat.le_of_ble_eq_true rfl, Nat.le_of_ble_eq_true rfl⟩ (Nat.le_of_ble_eq_true rfl) ⟨Nat.le_refl 0, Nat.le_refl 0⟩ dX9_notes_163 (fun r_4 M_16 h => ?_)
      refine r_iconst (v := (0 : Int32)) C dX9_notes_166 rfl ?_
      obtain ⟨q_8, h⟩ := h
      refine r_iast C sh_2 q_8 dX9_notes_167 ?_
      replace h := h _ rfl
      refine r_iinc C 2 (v := _) [(4, .int _), (0, .ref _), (3, .int _)] dX9_notes_168 rfl rfl (by decide) rfl ?_
      refine r_goto C 133 dX9_notes_171 (by decide) ?_
      exact r_sub [1, 2, 0] rfl (ih _ _ h)

def f_X9_notes (v1 : Int32) (v2 : Int32) (v3 : Int32) (M : Mem) (K : Mem → Prop) : Prop := vp_in (M.1 0 58) 20 ∧ ∀ M_2 : Mem, M_2 = wI M 37 (M.1 0 58).toNatClampNeg v1 → vp_in (M_2.1 0 58) 20 ∧ ∀ M_3 : Mem, M_3 = wI M_2 38 (M_2.1 0 58).toNatClampNeg v2 → vp_in (M_3.1 0 58) 20 ∧ ∀ M_4 : Mem, M_4 = wI M_3 39 (M_3.1 0 58).toNatClampNeg v3 → ∀ M_5 : Mem, M_5 = wI M_4 0 58 ((M_4.1 0 58) + (1 : Int32)) → (S_X9_notes_41 v2 v3 v2 (fun  (M_12 : Mem) => ((v3 < 0 → K M_12) ∧ (¬ v3 < 0 → ∀ M_13 : Mem, M_13 = wI M_12 5 (1 : Int32).toNatClampNeg ((gI M_12 5 (1 : Int32)) &&& (((1 : Int32) <<< (v3 &&& 31)) ^^^ (-1 : Int32))) → (∃ k133 : Nat, L_X9_notes_133 v3 (fun  (M_18 : Mem) => K M_18) K k133 (0 : Int32) M_13)))) K M_5)

set_option maxHeartbeats 1000000 in
set_option maxRecDepth 10000 in
theorem m_X9_notes (l : Launch) {v1 : Int32} {v2 : Int32} {v3 : Int32}  {M : Mem} {K : Mem → Prop} (h : f_X9_notes v1 v2 v3 M K) : CTv l yX9_notes cX9_notes 5 none rm_X9_notes (fun ad => [.ref (ad 0), .int v1, .int v2, .int v3]) M K := by
  refine rw_entv (by decide +kernel) (fun ad => Nat.le_of_ble_eq_true rfl) (fun p e s m args below meth c D cy ad C => ?_)
  change rw_W p l e _ s m args below meth c D cy ad 5 0 0 _ 0 [(0, .ref (ad 0)), (1, .int v1), (2, .int v2), (3, .int v3)] [] M
  unfold f_X9_notes at h
  refine r_aload_n C 0 dX9_notes_0 rfl rfl ?_
  refine gX9_124 C dX9_notes_1 ?_
  refine r_aload_n C 0 dX9_notes_4 rfl rfl ?_
  refine gX9_412 C dX9_notes_5 ?_
  refine r_iload_n C 1 dX9_notes_8 rfl rfl ?_
  obtain ⟨q, h⟩ := h
  refine r_iast C sh_37 q dX9_notes_9 ?_
  replace h := h _ rfl
  refine r_aload_n C 0 dX9_notes_10 rfl rfl ?_
  refine gX9_127 C dX9_notes_11 ?_
  refine r_aload_n C 0 dX9_notes_14 rfl rfl ?_
  refine gX9_412 C dX9_notes_15 ?_
  refine r_iload_n C 2 dX9_notes_18 rfl rfl ?_
  obtain ⟨q_2, h⟩ := h
  refine r_iast C sh_38 q_2 dX9_notes_19 ?_
  replace h := h _ rfl
  refine r_aload_n C 0 dX9_notes_20 rfl rfl ?_
  refine gX9_130 C dX9_notes_21 ?_
  refine r_aload_n C 0 dX9_notes_24 rfl rfl ?_
  refine gX9_412 C dX9_notes_25 ?_
  refine r_iload_n C 3 dX9_notes_28 rfl rfl ?_
  obtain ⟨q_3, h⟩ := h
  refine r_iast C sh_39 q_3 dX9_notes_29 ?_
  replace h := h _ rfl
  refine r_aload_n C 0 dX9_notes_30 rfl rfl ?_
  refine r_dup C dX9_notes_31 rfl ?_
  refine gX9_412 C dX9_notes_32 ?_
  refine r_iconst (v := (1 : Int32)) C dX9_notes_35 rfl ?_
  refine r_iadd C dX9_notes_36 ?_
  refine pX9_412 C dX9_notes_37 ?_
  replace h := h _ rfl
  refine r_iload_n C 2 dX9_notes_40 rfl rfl ?_
  refine r_sub [0, 2, 3] rfl (mS_X9_notes_41 C (fun M_12 h => ?_) h)
  refine r_iload_n C 1 dX9_notes_112 rfl rfl ?_
  refine r_if_lt C 174 dX9_notes_113 (by decide) (fun hc => ?_) (fun hc => ?_)
  · replace h := h.1 hc
    exact r_vret C dX9_notes_174 h
  · replace h := h.2 hc
    refine r_aload_n C 0 dX9_notes_116 rfl rfl ?_
    refine gX9_22 C dX9_notes_117 ?_
    refine r_iconst (v := (1 : Int32)) C dX9_notes_120 rfl ?_
    refine r_dup2_11 C dX9_notes_121 rfl rfl ?_
    refine r_iald C sh_5 (vpd (i := (1 : Int32)) (n := 3) (by decide +kernel)) dX9_notes_122 ?_
    refine r_iconst (v := (1 : Int32)) C dX9_notes_123 rfl ?_
    refine r_iload_n C 1 dX9_notes_124 rfl rfl ?_
    refine r_ishl C dX9_notes_125 ?_
    refine r_iconst (v := (-1 : Int32)) C dX9_notes_126 rfl ?_
    refine r_ixor C dX9_notes_127 ?_
    refine r_iand C dX9_notes_128 ?_
    refine r_iast C sh_5 (vpd (i := (1 : Int32)) (n := 3) (by decide +kernel)) dX9_notes_129 ?_
    replace h := h _ rfl
    refine r_iconst (v := (0 : Int32)) C dX9_notes_130 rfl ?_
    refine r_istore C [(4, .int _), (0, .ref _), (3, .int _)] dX9_notes_131 (by decide) rfl ?_
    obtain ⟨n133, h⟩ := h
    refine r_sub [1, 2, 0] rfl (mL_X9_notes_133 C (fun M_18 h => ?_) n133 _ _ h)
    exact r_vret C dX9_notes_174 h
def L_X9_arePlacesAlike_2 (v1 : Int32) (v2 : Int32) (X46 : Mem → Prop) (K : Int32 → Mem → Prop) : Nat → Int32 → Mem → Prop
  | 0, _, _ => False
  | n + 1, v3, M => (((8 : Int32) ≤ v3 → X46 M) ∧ (¬ (8 : Int32) ≤ v3 → f_X9_taken v3 v1 M (fun (r : Int32) (M_2 : Mem) => f_X9_taken v3 v2 M_2 (fun (r_2 : Int32) (M_3 : Mem) => ((¬ r = r_2 → K (0 : Int32) M_3) ∧ (r = r_2 → f_X9_given v3 v1 M_3 (fun (r_3 : Int32) (M_4 : Mem) => f_X9_given v3 v2 M_4 (fun (r_4 : Int32) (M_5 : Mem) => ((r_3 = r_4 → L_X9_arePlacesAlike_2 v1 v2 X46 K n (v3 + (1 : Int32)) M_5) ∧ (¬ r_3 = r_4 → K (0 : Int32) M_5))))))))))

set_option maxHeartbeats 1000000 in
set_option maxRecDepth 10000 in
theorem mL_X9_arePlacesAlike_2 (C : rw_C p s m meth c cX9_arePlacesAlike 4 RX9 (some .boolean) D cy ad) {v1 : Int32} {v2 : Int32} {X46 : Mem → Prop} {K : Int32 → Mem → Prop} (hX46 : ∀  (M : Mem), X46 M → rw_W p l e rm_X9_arePlacesAlike s m args below meth c D cy ad 4 0 0 (rw_Qi below args s D cy ad K) 46 [] [] M) : ∀ (n : Nat) (v3 : Int32) (M : Mem), L_X9_arePlacesAlike_2 v1 v2 X46 K n v3 M → rw_W p l e rm_X9_arePlacesAlike s m args below meth c D cy ad 4 0 0 (rw_Qi below args s D cy ad K) 2 [(0, .ref (ad 0)), (1, .int v1), (2, .int v2), (3, .int v3)] [] M := by
  intro n
  induction n with
  | zero => intro v3 M h; exact h.elim
  | succ n ih =>
    intro v3 M h
    refine r_iload_n C 3 dX9_arePlacesAlike_2 rfl rfl ?_
    refine r_bipush (v := (8 : Int32)) C dX9_arePlacesAlike_3 rfl ?_
    refine r_icmp_ge C 46 dX9_arePlacesAlike_5 (by decide) (fun hc => ?_) (fun hc => ?_)
    · replace h := h.1 hc
      exact r_sub [] rfl (hX46 _ h)
    · replace h := h.2 hc
      refine r_aload_n C 0 dX9_arePlacesAlike_8 rfl rfl ?_
      refine r_iload_n C 3 dX9_arePlacesAlike_9 rfl rfl ?_
      refine r_iload_n C 1 dX9_arePlacesAlike_10 rfl rfl ?_
      refine cX9_415 C (m_X9_taken l h) ⟨Nat.le_of_ble_eq_true rfl, Nat.le_of_ble_eq_true rfl⟩ (Nat.le_of_ble_eq_true rfl) ⟨Nat.le_refl 0, Nat.le_refl 0⟩ dX9_arePlacesAlike_11 (fun r M_2 h => ?_)
      refine r_aload_n C 0 dX9_arePlacesAlike_14 rfl rfl ?_
      refine r_iload_n C 3 dX9_arePlacesAlike_15 rfl rfl ?_
      refine r_iload_n C 2 dX9_arePlacesAlike_16 rfl rfl ?_
      refine cX9_415 C (m_X9_taken l h) ⟨Nat.le_of_ble_eq_true rfl, Nat.le_of_ble_eq_true rfl⟩ (Nat.le_of_ble_eq_true rfl) ⟨Nat.le_refl 0, Nat.le_refl 0⟩ dX9_arePlacesAlike_17 (fun r_2 M_3 h => ?_)
      refine r_icmp_ne C 38 dX9_arePlacesAlike_20 (by decide) (fun hc => ?_) (fun hc => ?_)
      · replace h := h.1 hc
        refine r_iconst (v := (0 : Int32)) C dX9_arePlacesAlike_38 rfl ?_
        exact r_zret C (by decide) dX9_arePlacesAlike_39 h
      · replace h := h.2 hc
        refine r_aload_n C 0 dX9_arePlacesAlike_23 rfl rfl ?_
        refine r_iload_n C 3 dX9_arePlacesAlike_24 rfl rfl ?_
        refine r_iload_n C 1 dX9_arePlacesAlike_25 rfl rfl ?_
        refine cX9_418 C (m_X9_given l h) ⟨Nat.le_of_ble_eq_true rfl, Nat.le_of_ble_eq_true rfl⟩ (Nat.le_of_ble_eq_true rfl) ⟨Nat.le_refl 0, Nat.le_refl 0⟩ dX9_arePlacesAlike_26 (fun r_3 M_4 h => ?_)
        refine r_aload_n C 0 dX9_arePlacesAlike_29 rfl rfl ?_
        refine r_iload_n C 3 dX9_arePlacesAlike_30 rfl rfl ?_
        refine r_iload_n C 2 dX9_arePlacesAlike_31 rfl rfl ?_
        refine cX9_418 C (m_X9_given l h) ⟨Nat.le_of_ble_eq_true rfl, Nat.le_of_ble_eq_true rfl⟩ (Nat.le_of_ble_eq_true rfl) ⟨Nat.le_refl 0, Nat.le_refl 0⟩ dX9_arePlacesAlike_32 (fun r_4 M_5 h => ?_)
        refine r_icmp_eq C 40 dX9_arePlacesAlike_35 (by decide) (fun hc => ?_) (fun hc => ?_)
        · replace h := h.1 hc
          refine r_iinc C 3 (v := _) [(3, .int _), (0, .ref _), (1, .int _), (2, .int _)] dX9_arePlacesAlike_40 rfl rfl (by decide) rfl ?_
          refine r_goto C 2 dX9_arePlacesAlike_43 (by decide) ?_
          exact r_sub [1, 2, 3, 0] rfl (ih _ _ h)
        · replace h := h.2 hc
          refine r_iconst (v := (0 : Int32)) C dX9_arePlacesAlike_38 rfl ?_
          exact r_zret C (by decide) dX9_arePlacesAlike_39 h

def f_X9_arePlacesAlike (v1 : Int32) (v2 : Int32) (M : Mem) (K : Int32 → Mem → Prop) : Prop := (∃ k2 : Nat, L_X9_arePlacesAlike_2 v1 v2 (fun  (M_6 : Mem) => K (1 : Int32) M_6) K k2 (0 : Int32) M)

set_option maxHeartbeats 1000000 in
set_option maxRecDepth 10000 in
theorem m_X9_arePlacesAlike (l : Launch) {v1 : Int32} {v2 : Int32}  {M : Mem} {K : Int32 → Mem → Prop} (h : f_X9_arePlacesAlike v1 v2 M K) : CTi l yX9_arePlacesAlike cX9_arePlacesAlike 4 (some .boolean) rm_X9_arePlacesAlike (fun ad => [.ref (ad 0), .int v1, .int v2]) M K := by
  refine rw_enti (by decide +kernel) (fun ad => Nat.le_of_ble_eq_true rfl) (fun p e s m args below meth c D cy ad C => ?_)
  change rw_W p l e _ s m args below meth c D cy ad 4 0 0 _ 0 [(0, .ref (ad 0)), (1, .int v1), (2, .int v2)] [] M
  unfold f_X9_arePlacesAlike at h
  refine r_iconst (v := (0 : Int32)) C dX9_arePlacesAlike_0 rfl ?_
  refine r_istore_n C [(3, .int _), (0, .ref _), (1, .int _), (2, .int _)] dX9_arePlacesAlike_1 rfl (by decide) rfl ?_
  obtain ⟨n2, h⟩ := h
  refine r_sub [1, 2, 3, 0] rfl (mL_X9_arePlacesAlike_2 C (fun M_6 h => ?_) n2 _ _ h)
  refine r_iconst (v := (1 : Int32)) C dX9_arePlacesAlike_46 rfl ?_
  exact r_zret C (by decide) dX9_arePlacesAlike_47 h
def L_X9_areStepsAlike_2 (v1 : Int32) (v2 : Int32) (X46 : Mem → Prop) (K : Int32 → Mem → Prop) : Nat → Int32 → Mem → Prop
  | 0, _, _ => False
  | n + 1, v3, M => (((10 : Int32) ≤ v3 → X46 M) ∧ (¬ (10 : Int32) ≤ v3 → f_X9_taken v1 v3 M (fun (r : Int32) (M_2 : Mem) => f_X9_taken v2 v3 M_2 (fun (r_2 : Int32) (M_3 : Mem) => ((¬ r = r_2 → K (0 : Int32) M_3) ∧ (r = r_2 → f_X9_given v1 v3 M_3 (fun (r_3 : Int32) (M_4 : Mem) => f_X9_given v2 v3 M_4 (fun (r_4 : Int32) (M_5 : Mem) => ((r_3 = r_4 → L_X9_areStepsAlike_2 v1 v2 X46 K n (v3 + (1 : Int32)) M_5) ∧ (¬ r_3 = r_4 → K (0 : Int32) M_5))))))))))

set_option maxHeartbeats 1000000 in
set_option maxRecDepth 10000 in
theorem mL_X9_areStepsAlike_2 (C : rw_C p s m meth c cX9_areStepsAlike 4 RX9 (some .boolean) D cy ad) {v1 : Int32} {v2 : Int32} {X46 : Mem → Prop} {K : Int32 → Mem → Prop} (hX46 : ∀  (M : Mem), X46 M → rw_W p l e rm_X9_areStepsAlike s m args below meth c D cy ad 4 0 0 (rw_Qi below args s D cy ad K) 46 [] [] M) : ∀ (n : Nat) (v3 : Int32) (M : Mem), L_X9_areStepsAlike_2 v1 v2 X46 K n v3 M → rw_W p l e rm_X9_areStepsAlike s m args below meth c D cy ad 4 0 0 (rw_Qi below args s D cy ad K) 2 [(0, .ref (ad 0)), (1, .int v1), (2, .int v2), (3, .int v3)] [] M := by
  intro n
  induction n with
  | zero => intro v3 M h; exact h.elim
  | succ n ih =>
    intro v3 M h
    refine r_iload_n C 3 dX9_areStepsAlike_2 rfl rfl ?_
    refine r_bipush (v := (10 : Int32)) C dX9_areStepsAlike_3 rfl ?_
    refine r_icmp_ge C 46 dX9_areStepsAlike_5 (by decide) (fun hc => ?_) (fun hc => ?_)
    · replace h := h.1 hc
      exact r_sub [] rfl (hX46 _ h)
    · replace h := h.2 hc
      refine r_aload_n C 0 dX9_areStepsAlike_8 rfl rfl ?_
      refine r_iload_n C 1 dX9_areStepsAlike_9 rfl rfl ?_
      refine r_iload_n C 3 dX9_areStepsAlike_10 rfl rfl ?_
      refine cX9_415 C (m_X9_taken l h) ⟨Nat.le_of_ble_eq_true rfl, Nat.le_of_ble_eq_true rfl⟩ (Nat.le_of_ble_eq_true rfl) ⟨Nat.le_refl 0, Nat.le_refl 0⟩ dX9_areStepsAlike_11 (fun r M_2 h => ?_)
      refine r_aload_n C 0 dX9_areStepsAlike_14 rfl rfl ?_
      refine r_iload_n C 2 dX9_areStepsAlike_15 rfl rfl ?_
      refine r_iload_n C 3 dX9_areStepsAlike_16 rfl rfl ?_
      refine cX9_415 C (m_X9_taken l h) ⟨Nat.le_of_ble_eq_true rfl, Nat.le_of_ble_eq_true rfl⟩ (Nat.le_of_ble_eq_true rfl) ⟨Nat.le_refl 0, Nat.le_refl 0⟩ dX9_areStepsAlike_17 (fun r_2 M_3 h => ?_)
      refine r_icmp_ne C 38 dX9_areStepsAlike_20 (by decide) (fun hc => ?_) (fun hc => ?_)
      · replace h := h.1 hc
        refine r_iconst (v := (0 : Int32)) C dX9_areStepsAlike_38 rfl ?_
        exact r_zret C (by decide) dX9_areStepsAlike_39 h
      · replace h := h.2 hc
        refine r_aload_n C 0 dX9_areStepsAlike_23 rfl rfl ?_
        refine r_iload_n C 1 dX9_areStepsAlike_24 rfl rfl ?_
        refine r_iload_n C 3 dX9_areStepsAlike_25 rfl rfl ?_
        refine cX9_418 C (m_X9_given l h) ⟨Nat.le_of_ble_eq_true rfl, Nat.le_of_ble_eq_true rfl⟩ (Nat.le_of_ble_eq_true rfl) ⟨Nat.le_refl 0, Nat.le_refl 0⟩ dX9_areStepsAlike_26 (fun r_3 M_4 h => ?_)
        refine r_aload_n C 0 dX9_areStepsAlike_29 rfl rfl ?_
        refine r_iload_n C 2 dX9_areStepsAlike_30 rfl rfl ?_
        refine r_iload_n C 3 dX9_areStepsAlike_31 rfl rfl ?_
        refine cX9_418 C (m_X9_given l h) ⟨Nat.le_of_ble_eq_true rfl, Nat.le_of_ble_eq_true rfl⟩ (Nat.le_of_ble_eq_true rfl) ⟨Nat.le_refl 0, Nat.le_refl 0⟩ dX9_areStepsAlike_32 (fun r_4 M_5 h => ?_)
        refine r_icmp_eq C 40 dX9_areStepsAlike_35 (by decide) (fun hc => ?_) (fun hc => ?_)
        · replace h := h.1 hc
          refine r_iinc C 3 (v := _) [(3, .int _), (0, .ref _), (1, .int _), (2, .int _)] dX9_areStepsAlike_40 rfl rfl (by decide) rfl ?_
          refine r_goto C 2 dX9_areStepsAlike_43 (by decide) ?_
          exact r_sub [1, 2, 3, 0] rfl (ih _ _ h)
        · replace h := h.2 hc
          refine r_iconst (v := (0 : Int32)) C dX9_areStepsAlike_38 rfl ?_
          exact r_zret C (by decide) dX9_areStepsAlike_39 h

def f_X9_areStepsAlike (v1 : Int32) (v2 : Int32) (M : Mem) (K : Int32 → Mem → Prop) : Prop := (∃ k2 : Nat, L_X9_areStepsAlike_2 v1 v2 (fun  (M_6 : Mem) => K (1 : Int32) M_6) K k2 (0 : Int32) M)

set_option maxHeartbeats 1000000 in
set_option maxRecDepth 10000 in
theorem m_X9_areStepsAlike (l : Launch) {v1 : Int32} {v2 : Int32}  {M : Mem} {K : Int32 → Mem → Prop} (h : f_X9_areStepsAlike v1 v2 M K) : CTi l yX9_areStepsAlike cX9_areStepsAlike 4 (some .boolean) rm_X9_areStepsAlike (fun ad => [.ref (ad 0), .int v1, .int v2]) M K := by
  refine rw_enti (by decide +kernel) (fun ad => Nat.le_of_ble_eq_true rfl) (fun p e s m args below meth c D cy ad C => ?_)
  change rw_W p l e _ s m args below meth c D cy ad 4 0 0 _ 0 [(0, .ref (ad 0)), (1, .int v1), (2, .int v2)] [] M
  unfold f_X9_areStepsAlike at h
  refine r_iconst (v := (0 : Int32)) C dX9_areStepsAlike_0 rfl ?_
  refine r_istore_n C [(3, .int _), (0, .ref _), (1, .int _), (2, .int _)] dX9_areStepsAlike_1 rfl (by decide) rfl ?_
  obtain ⟨n2, h⟩ := h
  refine r_sub [1, 2, 3, 0] rfl (mL_X9_areStepsAlike_2 C (fun M_6 h => ?_) n2 _ _ h)
  refine r_iconst (v := (1 : Int32)) C dX9_areStepsAlike_46 rfl ?_
  exact r_zret C (by decide) dX9_areStepsAlike_47 h
def L_X9_fitsOne_12 (v1 : Int32) (X79 : Mem → Prop) (K : Int32 → Mem → Prop) : Nat → Int32 → Mem → Prop
  | 0, _, _ => False
  | n + 1, v2, M => (((10 : Int32) ≤ v2 → X79 M) ∧ (¬ (10 : Int32) ≤ v2 → f_X9_isThere v1 M (fun (r : Int32) (M_2 : Mem) => ((r = 0 → L_X9_fitsOne_12 v1 X79 K n (v2 + (1 : Int32)) M_2) ∧ (¬ r = 0 → f_X9_isThere v2 M_2 (fun (r_2 : Int32) (M_3 : Mem) => ((r_2 = 0 → L_X9_fitsOne_12 v1 X79 K n (v2 + (1 : Int32)) M_3) ∧ (¬ r_2 = 0 → vp_in ((10 : Int32) + v1) 30 ∧ vp_in ((10 : Int32) + v2) 30 ∧ (((gI M_3 3 ((10 : Int32) + v2)) < (gI M_3 3 ((10 : Int32) + v1)) → L_X9_fitsOne_12 v1 X79 K n (v2 + (1 : Int32)) M_3) ∧ (¬ (gI M_3 3 ((10 : Int32) + v2)) < (gI M_3 3 ((10 : Int32) + v1)) → f_X9_arePlacesAlike v1 v2 M_3 (fun (r_3 : Int32) (M_4 : Mem) => ((r_3 = 0 → L_X9_fitsOne_12 v1 X79 K n (v2 + (1 : Int32)) M_4) ∧ (¬ r_3 = 0 → f_X9_notes (1 : Int32) v2 (-1 : Int32) M_4 (fun (M_5 : Mem) => K (1 : Int32) M_5))))))))))))))

set_option maxHeartbeats 1000000 in
set_option maxRecDepth 10000 in
theorem mL_X9_fitsOne_12 (C : rw_C p s m meth c cX9_fitsOne 3 RX9 (some .boolean) D cy ad) {v1 : Int32} {X79 : Mem → Prop} {K : Int32 → Mem → Prop} (hX79 : ∀  (M : Mem), X79 M → rw_W p l e rm_X9_fitsOne s m args below meth c D cy ad 3 0 0 (rw_Qi below args s D cy ad K) 79 [(0, .ref (ad 0)), (1, .int v1)] [] M) : ∀ (n : Nat) (v2 : Int32) (M : Mem), L_X9_fitsOne_12 v1 X79 K n v2 M → rw_W p l e rm_X9_fitsOne s m args below meth c D cy ad 3 0 0 (rw_Qi below args s D cy ad K) 12 [(0, .ref (ad 0)), (1, .int v1), (2, .int v2)] [] M := by
  intro n
  induction n with
  | zero => intro v2 M h; exact h.elim
  | succ n ih =>
    intro v2 M h
    refine r_iload_n C 2 dX9_fitsOne_12 rfl rfl ?_
    refine r_bipush (v := (10 : Int32)) C dX9_fitsOne_13 rfl ?_
    refine r_icmp_ge C 79 dX9_fitsOne_15 (by decide) (fun hc => ?_) (fun hc => ?_)
    · replace h := h.1 hc
      exact r_sub [0, 1] rfl (hX79 _ h)
    · replace h := h.2 hc
      refine r_aload_n C 0 dX9_fitsOne_18 rfl rfl ?_
      refine r_iload_n C 1 dX9_fitsOne_19 rfl rfl ?_
      refine cX9_421 C (m_X9_isThere l h) ⟨Nat.le_of_ble_eq_true rfl, Nat.le_of_ble_eq_true rfl⟩ (Nat.le_of_ble_eq_true rfl) ⟨Nat.le_refl 0, Nat.le_refl 0⟩ dX9_fitsOne_20 (fun r M_2 h => ?_)
      refine r_if_eq C 73 dX9_fitsOne_23 (by decide) (fun hc => ?_) (fun hc => ?_)
      · replace h := h.1 hc
        refine r_iinc C 2 (v := _) [(2, .int _), (0, .ref _), (1, .int _)] dX9_fitsOne_73 rfl rfl (by decide) rfl ?_
        refine r_goto C 12 dX9_fitsOne_76 (by decide) ?_
        exact r_sub [1, 2, 0] rfl (ih _ _ h)
      · replace h := h.2 hc
        refine r_aload_n C 0 dX9_fitsOne_26 rfl rfl ?_
        refine r_iload_n C 2 dX9_fitsOne_27 rfl rfl ?_
        refine cX9_421 C (m_X9_isThere l h) ⟨Nat.le_of_ble_eq_true rfl, Nat.le_of_ble_eq_true rfl⟩ (Nat.le_of_ble_eq_true rfl) ⟨Nat.le_refl 0, Nat.le_refl 0⟩ dX9_fitsOne_28 (fun r_2 M_3 h => ?_)
        refine r_if_eq C 73 dX9_fitsOne_31 (by decide) (fun hc => ?_) (fun hc => ?_)
        · replace h := h.1 hc
          refine r_iinc C 2 (v := _) [(2, .int _), (0, .ref _), (1, .int _)] dX9_fitsOne_73 rfl rfl (by decide) rfl ?_
          refine r_goto C 12 dX9_fitsOne_76 (by decide) ?_
          exact r_sub [1, 2, 0] rfl (ih _ _ h)
        · replace h := h.2 hc
          refine r_aload_n C 0 dX9_fitsOne_34 rfl rfl ?_
          refine gX9_16 C dX9_fitsOne_35 ?_
          refine r_bipush (v := (10 : Int32)) C dX9_fitsOne_38 rfl ?_
          refine r_iload_n C 1 dX9_fitsOne_40 rfl rfl ?_
          refine r_iadd C dX9_fitsOne_41 ?_
          obtain ⟨q, h⟩ := h
          refine r_iald C sh_3 q dX9_fitsOne_42 ?_
          refine r_aload_n C 0 dX9_fitsOne_43 rfl rfl ?_
          refine gX9_16 C dX9_fitsOne_44 ?_
          refine r_bipush (v := (10 : Int32)) C dX9_fitsOne_47 rfl ?_
          refine r_iload_n C 2 dX9_fitsOne_49 rfl rfl ?_
          refine r_iadd C dX9_fitsOne_50 ?_
          obtain ⟨q_2, h⟩ := h
          refine r_iald C sh_3 q_2 dX9_fitsOne_51 ?_
          refine r_icmp_gt C 73 dX9_fitsOne_52 (by decide) (fun hc => ?_) (fun hc => ?_)
          · replace h := h.1 hc
            refine r_iinc C 2 (v := _) [(2, .int _), (0, .ref _), (1, .int _)] dX9_fitsOne_73 rfl rfl (by decide) rfl ?_
            refine r_goto C 12 dX9_fitsOne_76 (by decide) ?_
            exact r_sub [1, 2, 0] rfl (ih _ _ h)
          · replace h := h.2 hc
            refine r_aload_n C 0 dX9_fitsOne_55 rfl rfl ?_
            refine r_iload_n C 1 dX9_fitsOne_56 rfl rfl ?_
            refine r_iload_n C 2 dX9_fitsOne_57 rfl rfl ?_
            refine cX9_424 C (m_X9_arePlacesAlike l h) ⟨Nat.le_of_ble_eq_true rfl, Nat.le_of_ble_eq_true rfl⟩ (Nat.le_of_ble_eq_true rfl) ⟨Nat.le_refl 0, Nat.le_refl 0⟩ dX9_fitsOne_58 (fun r_3 M_4 h => ?_)
            refine r_if_eq C 73 dX9_fitsOne_61 (by decide) (fun hc => ?_) (fun hc => ?_)
            · replace h := h.1 hc
              refine r_iinc C 2 (v := _) [(2, .int _), (0, .ref _), (1, .int _)] dX9_fitsOne_73 rfl rfl (by decide) rfl ?_
              refine r_goto C 12 dX9_fitsOne_76 (by decide) ?_
              exact r_sub [1, 2, 0] rfl (ih _ _ h)
            · replace h := h.2 hc
              refine r_aload_n C 0 dX9_fitsOne_64 rfl rfl ?_
              refine r_iconst (v := (1 : Int32)) C dX9_fitsOne_65 rfl ?_
              refine r_iload_n C 2 dX9_fitsOne_66 rfl rfl ?_
              refine r_iconst (v := (-1 : Int32)) C dX9_fitsOne_67 rfl ?_
              refine cX9_427 C (m_X9_notes l h) ⟨Nat.le_of_ble_eq_true rfl, Nat.le_of_ble_eq_true rfl⟩ (Nat.le_of_ble_eq_true rfl) ⟨Nat.le_refl 0, Nat.le_refl 0⟩ dX9_fitsOne_68 (fun M_5 h => ?_)
              refine r_iconst (v := (1 : Int32)) C dX9_fitsOne_71 rfl ?_
              exact r_zret C (by decide) dX9_fitsOne_72 h

def L_X9_fitsOne_2 (X85 : Mem → Prop) (K : Int32 → Mem → Prop) : Nat → Int32 → Mem → Prop
  | 0, _, _ => False
  | n + 1, v1, M => (((10 : Int32) ≤ v1 → X85 M) ∧ (¬ (10 : Int32) ≤ v1 → ∀ x2 : Int32, x2 = v1 + (1 : Int32) → (∃ k12 : Nat, L_X9_fitsOne_12 v1 (fun  (M_6 : Mem) => L_X9_fitsOne_2 X85 K n (v1 + (1 : Int32)) M_6) K k12 x2 M)))

set_option maxHeartbeats 1000000 in
set_option maxRecDepth 10000 in
theorem mL_X9_fitsOne_2 (C : rw_C p s m meth c cX9_fitsOne 3 RX9 (some .boolean) D cy ad) {X85 : Mem → Prop} {K : Int32 → Mem → Prop} (hX85 : ∀  (M : Mem), X85 M → rw_W p l e rm_X9_fitsOne s m args below meth c D cy ad 3 0 0 (rw_Qi below args s D cy ad K) 85 [] [] M) : ∀ (n : Nat) (v1 : Int32) (M : Mem), L_X9_fitsOne_2 X85 K n v1 M → rw_W p l e rm_X9_fitsOne s m args below meth c D cy ad 3 0 0 (rw_Qi below args s D cy ad K) 2 [(0, .ref (ad 0)), (1, .int v1)] [] M := by
  intro n
  induction n with
  | zero => intro v1 M h; exact h.elim
  | succ n ih =>
    intro v1 M h
    refine r_iload_n C 1 dX9_fitsOne_2 rfl rfl ?_
    refine r_bipush (v := (10 : Int32)) C dX9_fitsOne_3 rfl ?_
    refine r_icmp_ge C 85 dX9_fitsOne_5 (by decide) (fun hc => ?_) (fun hc => ?_)
    · replace h := h.1 hc
      exact r_sub [] rfl (hX85 _ h)
    · replace h := h.2 hc
      refine r_iload_n C 1 dX9_fitsOne_8 rfl rfl ?_
      refine r_iconst (v := (1 : Int32)) C dX9_fitsOne_9 rfl ?_
      refine r_iadd C dX9_fitsOne_10 ?_
      refine r_istore_n C [(2, .int _), (0, .ref _), (1, .int _)] dX9_fitsOne_11 rfl (by decide) rfl ?_
      replace h := h _ rfl
      obtain ⟨n12, h⟩ := h
      refine r_sub [1, 2, 0] rfl (mL_X9_fitsOne_12 C (fun M_6 h => ?_) n12 _ _ h)
      refine r_iinc C 1 (v := _) [(1, .int _), (0, .ref _)] dX9_fitsOne_79 rfl rfl (by decide) rfl ?_
      refine r_goto C 2 dX9_fitsOne_82 (by decide) ?_
      exact r_sub [1, 0] rfl (ih _ _ h)

def f_X9_fitsOne (M : Mem) (K : Int32 → Mem → Prop) : Prop := (∃ k2 : Nat, L_X9_fitsOne_2 (fun  (M_7 : Mem) => K (0 : Int32) M_7) K k2 (0 : Int32) M)

set_option maxHeartbeats 1000000 in
set_option maxRecDepth 10000 in
theorem m_X9_fitsOne (l : Launch)   {M : Mem} {K : Int32 → Mem → Prop} (h : f_X9_fitsOne M K) : CTi l yX9_fitsOne cX9_fitsOne 3 (some .boolean) rm_X9_fitsOne (fun ad => [.ref (ad 0)]) M K := by
  refine rw_enti (by decide +kernel) (fun ad => Nat.le_of_ble_eq_true rfl) (fun p e s m args below meth c D cy ad C => ?_)
  change rw_W p l e _ s m args below meth c D cy ad 3 0 0 _ 0 [(0, .ref (ad 0))] [] M
  unfold f_X9_fitsOne at h
  refine r_iconst (v := (0 : Int32)) C dX9_fitsOne_0 rfl ?_
  refine r_istore_n C [(1, .int _), (0, .ref _)] dX9_fitsOne_1 rfl (by decide) rfl ?_
  obtain ⟨n2, h⟩ := h
  refine r_sub [1, 0] rfl (mL_X9_fitsOne_2 C (fun M_7 h => ?_) n2 _ _ h)
  refine r_iconst (v := (0 : Int32)) C dX9_fitsOne_85 rfl ?_
  exact r_zret C (by decide) dX9_fitsOne_86 h
def L_X9_fitsTwo_12 (v1 : Int32) (X58 : Mem → Prop) (K : Int32 → Mem → Prop) : Nat → Int32 → Mem → Prop
  | 0, _, _ => False
  | n + 1, v2, M => (((8 : Int32) ≤ v2 → X58 M) ∧ (¬ (8 : Int32) ≤ v2 → f_X9_isLeft v1 M (fun (r : Int32) (M_2 : Mem) => ((r = 0 → L_X9_fitsTwo_12 v1 X58 K n (v2 + (1 : Int32)) M_2) ∧ (¬ r = 0 → f_X9_isLeft v2 M_2 (fun (r_2 : Int32) (M_3 : Mem) => ((r_2 = 0 → L_X9_fitsTwo_12 v1 X58 K n (v2 + (1 : Int32)) M_3) ∧ (¬ r_2 = 0 → f_X9_areStepsAlike v1 v2 M_3 (fun (r_3 : Int32) (M_4 : Mem) => ((r_3 = 0 → L_X9_fitsTwo_12 v1 X58 K n (v2 + (1 : Int32)) M_4) ∧ (¬ r_3 = 0 → f_X9_notes (2 : Int32) (-1 : Int32) v2 M_4 (fun (M_5 : Mem) => K (1 : Int32) M_5))))))))))))

set_option maxHeartbeats 1000000 in
set_option maxRecDepth 10000 in
theorem mL_X9_fitsTwo_12 (C : rw_C p s m meth c cX9_fitsTwo 3 RX9 (some .boolean) D cy ad) {v1 : Int32} {X58 : Mem → Prop} {K : Int32 → Mem → Prop} (hX58 : ∀  (M : Mem), X58 M → rw_W p l e rm_X9_fitsTwo s m args below meth c D cy ad 3 0 0 (rw_Qi below args s D cy ad K) 58 [(0, .ref (ad 0)), (1, .int v1)] [] M) : ∀ (n : Nat) (v2 : Int32) (M : Mem), L_X9_fitsTwo_12 v1 X58 K n v2 M → rw_W p l e rm_X9_fitsTwo s m args below meth c D cy ad 3 0 0 (rw_Qi below args s D cy ad K) 12 [(0, .ref (ad 0)), (1, .int v1), (2, .int v2)] [] M := by
  intro n
  induction n with
  | zero => intro v2 M h; exact h.elim
  | succ n ih =>
    intro v2 M h
    refine r_iload_n C 2 dX9_fitsTwo_12 rfl rfl ?_
    refine r_bipush (v := (8 : Int32)) C dX9_fitsTwo_13 rfl ?_
    refine r_icmp_ge C 58 dX9_fitsTwo_15 (by decide) (fun hc => ?_) (fun hc => ?_)
    · replace h := h.1 hc
      exact r_sub [0, 1] rfl (hX58 _ h)
    · replace h := h.2 hc
      refine r_aload_n C 0 dX9_fitsTwo_18 rfl rfl ?_
      refine r_iload_n C 1 dX9_fitsTwo_19 rfl rfl ?_
      refine cX9_430 C (m_X9_isLeft l h) ⟨Nat.le_of_ble_eq_true rfl, Nat.le_of_ble_eq_true rfl⟩ (Nat.le_of_ble_eq_true rfl) ⟨Nat.le_refl 0, Nat.le_refl 0⟩ dX9_fitsTwo_20 (fun r M_2 h => ?_)
      refine r_if_eq C 52 dX9_fitsTwo_23 (by decide) (fun hc => ?_) (fun hc => ?_)
      · replace h := h.1 hc
        refine r_iinc C 2 (v := _) [(2, .int _), (0, .ref _), (1, .int _)] dX9_fitsTwo_52 rfl rfl (by decide) rfl ?_
        refine r_goto C 12 dX9_fitsTwo_55 (by decide) ?_
        exact r_sub [1, 2, 0] rfl (ih _ _ h)
      · replace h := h.2 hc
        refine r_aload_n C 0 dX9_fitsTwo_26 rfl rfl ?_
        refine r_iload_n C 2 dX9_fitsTwo_27 rfl rfl ?_
        refine cX9_430 C (m_X9_isLeft l h) ⟨Nat.le_of_ble_eq_true rfl, Nat.le_of_ble_eq_true rfl⟩ (Nat.le_of_ble_eq_true rfl) ⟨Nat.le_refl 0, Nat.le_refl 0⟩ dX9_fitsTwo_28 (fun r_2 M_3 h => ?_)
        refine r_if_eq C 52 dX9_fitsTwo_31 (by decide) (fun hc => ?_) (fun hc => ?_)
        · replace h := h.1 hc
          refine r_iinc C 2 (v := _) [(2, .int _), (0, .ref _), (1, .int _)] dX9_fitsTwo_52 rfl rfl (by decide) rfl ?_
          refine r_goto C 12 dX9_fitsTwo_55 (by decide) ?_
          exact r_sub [1, 2, 0] rfl (ih _ _ h)
        · replace h := h.2 hc
          refine r_aload_n C 0 dX9_fitsTwo_34 rfl rfl ?_
          refine r_iload_n C 1 dX9_fitsTwo_35 rfl rfl ?_
          refine r_iload_n C 2 dX9_fitsTwo_36 rfl rfl ?_
          refine cX9_433 C (m_X9_areStepsAlike l h) ⟨Nat.le_of_ble_eq_true rfl, Nat.le_of_ble_eq_true rfl⟩ (Nat.le_of_ble_eq_true rfl) ⟨Nat.le_refl 0, Nat.le_refl 0⟩ dX9_fitsTwo_37 (fun r_3 M_4 h => ?_)
          refine r_if_eq C 52 dX9_fitsTwo_40 (by decide) (fun hc => ?_) (fun hc => ?_)
          · replace h := h.1 hc
            refine r_iinc C 2 (v := _) [(2, .int _), (0, .ref _), (1, .int _)] dX9_fitsTwo_52 rfl rfl (by decide) rfl ?_
            refine r_goto C 12 dX9_fitsTwo_55 (by decide) ?_
            exact r_sub [1, 2, 0] rfl (ih _ _ h)
          · replace h := h.2 hc
            refine r_aload_n C 0 dX9_fitsTwo_43 rfl rfl ?_
            refine r_iconst (v := (2 : Int32)) C dX9_fitsTwo_44 rfl ?_
            refine r_iconst (v := (-1 : Int32)) C dX9_fitsTwo_45 rfl ?_
            refine r_iload_n C 2 dX9_fitsTwo_46 rfl rfl ?_
            refine cX9_427 C (m_X9_notes l h) ⟨Nat.le_of_ble_eq_true rfl, Nat.le_of_ble_eq_true rfl⟩ (Nat.le_of_ble_eq_true rfl) ⟨Nat.le_refl 0, Nat.le_refl 0⟩ dX9_fitsTwo_47 (fun M_5 h => ?_)
            refine r_iconst (v := (1 : Int32)) C dX9_fitsTwo_50 rfl ?_
            exact r_zret C (by decide) dX9_fitsTwo_51 h

def L_X9_fitsTwo_2 (X64 : Mem → Prop) (K : Int32 → Mem → Prop) : Nat → Int32 → Mem → Prop
  | 0, _, _ => False
  | n + 1, v1, M => (((8 : Int32) ≤ v1 → X64 M) ∧ (¬ (8 : Int32) ≤ v1 → ∀ x2 : Int32, x2 = v1 + (1 : Int32) → (∃ k12 : Nat, L_X9_fitsTwo_12 v1 (fun  (M_6 : Mem) => L_X9_fitsTwo_2 X64 K n (v1 + (1 : Int32)) M_6) K k12 x2 M)))

set_option maxHeartbeats 1000000 in
set_option maxRecDepth 10000 in
theorem mL_X9_fitsTwo_2 (C : rw_C p s m meth c cX9_fitsTwo 3 RX9 (some .boolean) D cy ad) {X64 : Mem → Prop} {K : Int32 → Mem → Prop} (hX64 : ∀  (M : Mem), X64 M → rw_W p l e rm_X9_fitsTwo s m args below meth c D cy ad 3 0 0 (rw_Qi below args s D cy ad K) 64 [] [] M) : ∀ (n : Nat) (v1 : Int32) (M : Mem), L_X9_fitsTwo_2 X64 K n v1 M → rw_W p l e rm_X9_fitsTwo s m args below meth c D cy ad 3 0 0 (rw_Qi below args s D cy ad K) 2 [(0, .ref (ad 0)), (1, .int v1)] [] M := by
  intro n
  induction n with
  | zero => intro v1 M h; exact h.elim
  | succ n ih =>
    intro v1 M h
    refine r_iload_n C 1 dX9_fitsTwo_2 rfl rfl ?_
    refine r_bipush (v := (8 : Int32)) C dX9_fitsTwo_3 rfl ?_
    refine r_icmp_ge C 64 dX9_fitsTwo_5 (by decide) (fun hc => ?_) (fun hc => ?_)
    · replace h := h.1 hc
      exact r_sub [] rfl (hX64 _ h)
    · replace h := h.2 hc
      refine r_iload_n C 1 dX9_fitsTwo_8 rfl rfl ?_
      refine r_iconst (v := (1 : Int32)) C dX9_fitsTwo_9 rfl ?_
      refine r_iadd C dX9_fitsTwo_10 ?_
      refine r_istore_n C [(2, .int _), (0, .ref _), (1, .int _)] dX9_fitsTwo_11 rfl (by decide) rfl ?_
      replace h := h _ rfl
      obtain ⟨n12, h⟩ := h
      refine r_sub [1, 2, 0] rfl (mL_X9_fitsTwo_12 C (fun M_6 h => ?_) n12 _ _ h)
      refine r_iinc C 1 (v := _) [(1, .int _), (0, .ref _)] dX9_fitsTwo_58 rfl rfl (by decide) rfl ?_
      refine r_goto C 2 dX9_fitsTwo_61 (by decide) ?_
      exact r_sub [1, 0] rfl (ih _ _ h)

def f_X9_fitsTwo (M : Mem) (K : Int32 → Mem → Prop) : Prop := (∃ k2 : Nat, L_X9_fitsTwo_2 (fun  (M_7 : Mem) => K (0 : Int32) M_7) K k2 (0 : Int32) M)

set_option maxHeartbeats 1000000 in
set_option maxRecDepth 10000 in
theorem m_X9_fitsTwo (l : Launch)   {M : Mem} {K : Int32 → Mem → Prop} (h : f_X9_fitsTwo M K) : CTi l yX9_fitsTwo cX9_fitsTwo 3 (some .boolean) rm_X9_fitsTwo (fun ad => [.ref (ad 0)]) M K := by
  refine rw_enti (by decide +kernel) (fun ad => Nat.le_of_ble_eq_true rfl) (fun p e s m args below meth c D cy ad C => ?_)
  change rw_W p l e _ s m args below meth c D cy ad 3 0 0 _ 0 [(0, .ref (ad 0))] [] M
  unfold f_X9_fitsTwo at h
  refine r_iconst (v := (0 : Int32)) C dX9_fitsTwo_0 rfl ?_
  refine r_istore_n C [(1, .int _), (0, .ref _)] dX9_fitsTwo_1 rfl (by decide) rfl ?_
  obtain ⟨n2, h⟩ := h
  refine r_sub [1, 0] rfl (mL_X9_fitsTwo_2 C (fun M_7 h => ?_) n2 _ _ h)
  refine r_iconst (v := (0 : Int32)) C dX9_fitsTwo_64 rfl ?_
  exact r_zret C (by decide) dX9_fitsTwo_65 h
def L_X9_fitsThree_16 (v1 : Int32) (X69 : Int32 → Mem → Prop) (K : Int32 → Mem → Prop) : Nat → Int32 → Int32 → Mem → Prop
  | 0, _, _, _ => False
  | n + 1, v2, v3, M => (((8 : Int32) ≤ v3 → X69 v2 M) ∧ (¬ (8 : Int32) ≤ v3 → f_X9_taken v3 v1 M (fun (r_2 : Int32) (M_3 : Mem) => f_X9_given v3 v1 M_3 (fun (r_3 : Int32) (M_4 : Mem) => ((¬ r_2 = r_3 → ∀ x2 : Int32, x2 = v2 &&& (0 : Int32) → L_X9_fitsThree_16 v1 X69 K n x2 (v3 + (1 : Int32)) M_4) ∧ (r_2 = r_3 → f_X9_taken v3 v1 M_4 (fun (r_4 : Int32) (M_5 : Mem) => vp_in ((10 : Int32) + v1) 30 ∧ (((gI M_5 3 ((10 : Int32) + v1)) < r_4 → ∀ x2_2 : Int32, x2_2 = v2 &&& (0 : Int32) → L_X9_fitsThree_16 v1 X69 K n x2_2 (v3 + (1 : Int32)) M_5) ∧ (¬ (gI M_5 3 ((10 : Int32) + v1)) < r_4 → ∀ x2_3 : Int32, x2_3 = v2 &&& (1 : Int32) → L_X9_fitsThree_16 v1 X69 K n x2_3 (v3 + (1 : Int32)) M_5)))))))))

set_option maxHeartbeats 1000000 in
set_option maxRecDepth 10000 in
theorem mL_X9_fitsThree_16 (C : rw_C p s m meth c cX9_fitsThree 4 RX9 (some .boolean) D cy ad) {v1 : Int32} {X69 : Int32 → Mem → Prop} {K : Int32 → Mem → Prop} (hX69 : ∀ (u2 : Int32) (M : Mem), X69 u2 M → rw_W p l e rm_X9_fitsThree s m args below meth c D cy ad 4 0 0 (rw_Qi below args s D cy ad K) 69 [(0, .ref (ad 0)), (1, .int v1), (2, .int u2)] [] M) : ∀ (n : Nat) (v2 : Int32) (v3 : Int32) (M : Mem), L_X9_fitsThree_16 v1 X69 K n v2 v3 M → rw_W p l e rm_X9_fitsThree s m args below meth c D cy ad 4 0 0 (rw_Qi below args s D cy ad K) 16 [(0, .ref (ad 0)), (1, .int v1), (2, .int v2), (3, .int v3)] [] M := by
  intro n
  induction n with
  | zero => intro v2 v3 M h; exact h.elim
  | succ n ih =>
    intro v2 v3 M h
    refine r_iload_n C 3 dX9_fitsThree_16 rfl rfl ?_
    refine r_bipush (v := (8 : Int32)) C dX9_fitsThree_17 rfl ?_
    refine r_icmp_ge C 69 dX9_fitsThree_19 (by decide) (fun hc => ?_) (fun hc => ?_)
    · replace h := h.1 hc
      exact r_sub [0, 1, 2] rfl (hX69 _ _ h)
    · replace h := h.2 hc
      refine r_iload_n C 2 dX9_fitsThree_22 rfl rfl ?_
      refine r_aload_n C 0 dX9_fitsThree_23 rfl rfl ?_
      refine r_iload_n C 3 dX9_fitsThree_24 rfl rfl ?_
      refine r_iload_n C 1 dX9_fitsThree_25 rfl rfl ?_
      refine cX9_415 C (m_X9_taken l h) ⟨Nat.le_of_ble_eq_true rfl, Nat.le_of_ble_eq_true rfl⟩ (Nat.le_of_ble_eq_true rfl) ⟨Nat.le_refl 0, Nat.le_refl 0⟩ dX9_fitsThree_26 (fun r_2 M_3 h => ?_)
      refine r_aload_n C 0 dX9_fitsThree_29 rfl rfl ?_
      refine r_iload_n C 3 dX9_fitsThree_30 rfl rfl ?_
      refine r_iload_n C 1 dX9_fitsThree_31 rfl rfl ?_
      refine cX9_418 C (m_X9_given l h) ⟨Nat.le_of_ble_eq_true rfl, Nat.le_of_ble_eq_true rfl⟩ (Nat.le_of_ble_eq_true rfl) ⟨Nat.le_refl 0, Nat.le_refl 0⟩ dX9_fitsThree_32 (fun r_3 M_4 h => ?_)
      refine r_icmp_ne C 60 dX9_fitsThree_35 (by decide) (fun hc => ?_) (fun hc => ?_)
      · replace h := h.1 hc
        refine r_iconst (v := (0 : Int32)) C dX9_fitsThree_60 rfl ?_
        refine r_iand C dX9_fitsThree_61 ?_
        refine r_istore_n C [(2, .int _), (0, .ref _), (1, .int _), (3, .int _)] dX9_fitsThree_62 rfl (by decide) rfl ?_
        replace h := h _ rfl
        refine r_iinc C 3 (v := _) [(3, .int _), (2, .int _), (0, .ref _), (1, .int _)] dX9_fitsThree_63 rfl rfl (by decide) rfl ?_
        refine r_goto C 16 dX9_fitsThree_66 (by decide) ?_
        exact r_sub [2, 3, 1, 0] rfl (ih _ _ _ h)
      · replace h := h.2 hc
        refine r_aload_n C 0 dX9_fitsThree_38 rfl rfl ?_
        refine r_iload_n C 3 dX9_fitsThree_39 rfl rfl ?_
        refine r_iload_n C 1 dX9_fitsThree_40 rfl rfl ?_
        refine cX9_415 C (m_X9_taken l h) ⟨Nat.le_of_ble_eq_true rfl, Nat.le_of_ble_eq_true rfl⟩ (Nat.le_of_ble_eq_true rfl) ⟨Nat.le_refl 0, Nat.le_refl 0⟩ dX9_fitsThree_41 (fun r_4 M_5 h => ?_)
        refine r_aload_n C 0 dX9_fitsThree_44 rfl rfl ?_
        refine gX9_16 C dX9_fitsThree_45 ?_
        refine r_bipush (v := (10 : Int32)) C dX9_fitsThree_48 rfl ?_
        refine r_iload_n C 1 dX9_fitsThree_50 rfl rfl ?_
        refine r_iadd C dX9_fitsThree_51 ?_
        obtain ⟨q, h⟩ := h
        refine r_iald C sh_3 q dX9_fitsThree_52 ?_
        refine r_icmp_gt C 60 dX9_fitsThree_53 (by decide) (fun hc => ?_) (fun hc => ?_)
        · replace h := h.1 hc
          refine r_iconst (v := (0 : Int32)) C dX9_fitsThree_60 rfl ?_
          refine r_iand C dX9_fitsThree_61 ?_
          refine r_istore_n C [(2, .int _), (0, .ref _), (1, .int _), (3, .int _)] dX9_fitsThree_62 rfl (by decide) rfl ?_
          replace h := h _ rfl
          refine r_iinc C 3 (v := _) [(3, .int _), (2, .int _), (0, .ref _), (1, .int _)] dX9_fitsThree_63 rfl rfl (by decide) rfl ?_
          refine r_goto C 16 dX9_fitsThree_66 (by decide) ?_
          exact r_sub [2, 3, 1, 0] rfl (ih _ _ _ h)
        · replace h := h.2 hc
          refine r_iconst (v := (1 : Int32)) C dX9_fitsThree_56 rfl ?_
          refine r_goto C 61 dX9_fitsThree_57 (by decide) ?_
          refine r_iand C dX9_fitsThree_61 ?_
          refine r_istore_n C [(2, .int _), (0, .ref _), (1, .int _), (3, .int _)] dX9_fitsThree_62 rfl (by decide) rfl ?_
          replace h := h _ rfl
          refine r_iinc C 3 (v := _) [(3, .int _), (2, .int _), (0, .ref _), (1, .int _)] dX9_fitsThree_63 rfl rfl (by decide) rfl ?_
          refine r_goto C 16 dX9_fitsThree_66 (by decide) ?_
          exact r_sub [2, 3, 1, 0] rfl (ih _ _ _ h)

def L_X9_fitsThree_2 (X88 : Mem → Prop) (K : Int32 → Mem → Prop) : Nat → Int32 → Mem → Prop
  | 0, _, _ => False
  | n + 1, v1, M => (((10 : Int32) ≤ v1 → X88 M) ∧ (¬ (10 : Int32) ≤ v1 → f_X9_isThere v1 M (fun (r : Int32) (M_2 : Mem) => (∃ k16 : Nat, L_X9_fitsThree_16 v1 (fun (v2_2 : Int32) (M_6 : Mem) => ((v2_2 = 0 → L_X9_fitsThree_2 X88 K n (v1 + (1 : Int32)) M_6) ∧ (¬ v2_2 = 0 → f_X9_notes (3 : Int32) v1 (-1 : Int32) M_6 (fun (M_7 : Mem) => K (1 : Int32) M_7)))) K k16 r (0 : Int32) M_2))))

set_option maxHeartbeats 1000000 in
set_option maxRecDepth 10000 in
theorem mL_X9_fitsThree_2 (C : rw_C p s m meth c cX9_fitsThree 4 RX9 (some .boolean) D cy ad) {X88 : Mem → Prop} {K : Int32 → Mem → Prop} (hX88 : ∀  (M : Mem), X88 M → rw_W p l e rm_X9_fitsThree s m args below meth c D cy ad 4 0 0 (rw_Qi below args s D cy ad K) 88 [] [] M) : ∀ (n : Nat) (v1 : Int32) (M : Mem), L_X9_fitsThree_2 X88 K n v1 M → rw_W p l e rm_X9_fitsThree s m args below meth c D cy ad 4 0 0 (rw_Qi below args s D cy ad K) 2 [(0, .ref (ad 0)), (1, .int v1)] [] M := by
  intro n
  induction n with
  | zero => intro v1 M h; exact h.elim
  | succ n ih =>
    intro v1 M h
    refine r_iload_n C 1 dX9_fitsThree_2 rfl rfl ?_
    refine r_bipush (v := (10 : Int32)) C dX9_fitsThree_3 rfl ?_
    refine r_icmp_ge C 88 dX9_fitsThree_5 (by decide) (fun hc => ?_) (fun hc => ?_)
    · replace h := h.1 hc
      exact r_sub [] rfl (hX88 _ h)
    · replace h := h.2 hc
      refine r_aload_n C 0 dX9_fitsThree_8 rfl rfl ?_
      refine r_iload_n C 1 dX9_fitsThree_9 rfl rfl ?_
      refine cX9_421 C (m_X9_isThere l h) ⟨Nat.le_of_ble_eq_true rfl, Nat.le_of_ble_eq_true rfl⟩ (Nat.le_of_ble_eq_true rfl) ⟨Nat.le_refl 0, Nat.le_refl 0⟩ dX9_fitsThree_10 (fun r M_2 h => ?_)
      refine r_istore_n C [(2, .int _), (0, .ref _), (1, .int _)] dX9_fitsThree_13 rfl (by decide) rfl ?_
      refine r_iconst (v := (0 : Int32)) C dX9_fitsThree_14 rfl ?_
      refine r_istore_n C [(3, .int _), (2, .int _), (0, .ref _), (1, .int _)] dX9_fitsThree_15 rfl (by decide) rfl ?_
      obtain ⟨n16, h⟩ := h
      refine r_sub [2, 3, 1, 0] rfl (mL_X9_fitsThree_16 C (fun v2_2 M_6 h => ?_) n16 _ _ _ h)
      refine r_iload_n C 2 dX9_fitsThree_69 rfl rfl ?_
      refine r_if_eq C 82 dX9_fitsThree_70 (by decide) (fun hc => ?_) (fun hc => ?_)
      · replace h := h.1 hc
        refine r_iinc C 1 (v := _) [(1, .int _), (0, .ref _), (2, .int _)] dX9_fitsThree_82 rfl rfl (by decide) rfl ?_
        refine r_goto C 2 dX9_fitsThree_85 (by decide) ?_
        exact r_sub [1, 0] rfl (ih _ _ h)
      · replace h := h.2 hc
        refine r_aload_n C 0 dX9_fitsThree_73 rfl rfl ?_
        refine r_iconst (v := (3 : Int32)) C dX9_fitsThree_74 rfl ?_
        refine r_iload_n C 1 dX9_fitsThree_75 rfl rfl ?_
        refine r_iconst (v := (-1 : Int32)) C dX9_fitsThree_76 rfl ?_
        refine cX9_427 C (m_X9_notes l h) ⟨Nat.le_of_ble_eq_true rfl, Nat.le_of_ble_eq_true rfl⟩ (Nat.le_of_ble_eq_true rfl) ⟨Nat.le_refl 0, Nat.le_refl 0⟩ dX9_fitsThree_77 (fun M_7 h => ?_)
        refine r_iconst (v := (1 : Int32)) C dX9_fitsThree_80 rfl ?_
        exact r_zret C (by decide) dX9_fitsThree_81 h

def f_X9_fitsThree (M : Mem) (K : Int32 → Mem → Prop) : Prop := (∃ k2 : Nat, L_X9_fitsThree_2 (fun  (M_8 : Mem) => K (0 : Int32) M_8) K k2 (0 : Int32) M)

set_option maxHeartbeats 1000000 in
set_option maxRecDepth 10000 in
theorem m_X9_fitsThree (l : Launch)   {M : Mem} {K : Int32 → Mem → Prop} (h : f_X9_fitsThree M K) : CTi l yX9_fitsThree cX9_fitsThree 4 (some .boolean) rm_X9_fitsThree (fun ad => [.ref (ad 0)]) M K := by
  refine rw_enti (by decide +kernel) (fun ad => Nat.le_of_ble_eq_true rfl) (fun p e s m args below meth c D cy ad C => ?_)
  change rw_W p l e _ s m args below meth c D cy ad 4 0 0 _ 0 [(0, .ref (ad 0))] [] M
  unfold f_X9_fitsThree at h
  refine r_iconst (v := (0 : Int32)) C dX9_fitsThree_0 rfl ?_
  refine r_istore_n C [(1, .int _), (0, .ref _)] dX9_fitsThree_1 rfl (by decide) rfl ?_
  obtain ⟨n2, h⟩ := h
  refine r_sub [1, 0] rfl (mL_X9_fitsThree_2 C (fun M_8 h => ?_) n2 _ _ h)
  refine r_iconst (v := (0 : Int32)) C dX9_fitsThree_88 rfl ?_
  exact r_zret C (by decide) dX9_fitsThree_89 h
def L_X9_fitsFour_29 (v1 : Int32) (X64 : Int32 → Mem → Prop) (K : Int32 → Mem → Prop) : Nat → Int32 → Int32 → Mem → Prop
  | 0, _, _, _ => False
  | n + 1, v2, v3, M => (((10 : Int32) ≤ v3 → X64 v2 M) ∧ (¬ (10 : Int32) ≤ v3 → f_X9_taken v1 v3 M (fun (r_3 : Int32) (M_4 : Mem) => f_X9_given v1 v3 M_4 (fun (r_4 : Int32) (M_5 : Mem) => ((¬ r_3 = r_4 → ∀ x2 : Int32, x2 = v2 &&& (0 : Int32) → L_X9_fitsFour_29 v1 X64 K n x2 (v3 + (1 : Int32)) M_5) ∧ (r_3 = r_4 → ∀ x2_2 : Int32, x2_2 = v2 &&& (1 : Int32) → L_X9_fitsFour_29 v1 X64 K n x2_2 (v3 + (1 : Int32)) M_5))))))

set_option maxHeartbeats 1000000 in
set_option maxRecDepth 10000 in
theorem mL_X9_fitsFour_29 (C : rw_C p s m meth c cX9_fitsFour 4 RX9 (some .boolean) D cy ad) {v1 : Int32} {X64 : Int32 → Mem → Prop} {K : Int32 → Mem → Prop} (hX64 : ∀ (u2 : Int32) (M : Mem), X64 u2 M → rw_W p l e rm_X9_fitsFour s m args below meth c D cy ad 4 0 0 (rw_Qi below args s D cy ad K) 64 [(0, .ref (ad 0)), (1, .int v1), (2, .int u2)] [] M) : ∀ (n : Nat) (v2 : Int32) (v3 : Int32) (M : Mem), L_X9_fitsFour_29 v1 X64 K n v2 v3 M → rw_W p l e rm_X9_fitsFour s m args below meth c D cy ad 4 0 0 (rw_Qi below args s D cy ad K) 29 [(0, .ref (ad 0)), (1, .int v1), (2, .int v2), (3, .int v3)] [] M := by
  intro n
  induction n with
  | zero => intro v2 v3 M h; exact h.elim
  | succ n ih =>
    intro v2 v3 M h
    refine r_iload_n C 3 dX9_fitsFour_29 rfl rfl ?_
    refine r_bipush (v := (10 : Int32)) C dX9_fitsFour_30 rfl ?_
    refine r_icmp_ge C 64 dX9_fitsFour_32 (by decide) (fun hc => ?_) (fun hc => ?_)
    · replace h := h.1 hc
      exact r_sub [0, 1, 2] rfl (hX64 _ _ h)
    · replace h := h.2 hc
      refine r_iload_n C 2 dX9_fitsFour_35 rfl rfl ?_
      refine r_aload_n C 0 dX9_fitsFour_36 rfl rfl ?_
      refine r_iload_n C 1 dX9_fitsFour_37 rfl rfl ?_
      refine r_iload_n C 3 dX9_fitsFour_38 rfl rfl ?_
      refine cX9_415 C (m_X9_taken l h) ⟨Nat.le_of_ble_eq_true rfl, Nat.le_of_ble_eq_true rfl⟩ (Nat.le_of_ble_eq_true rfl) ⟨Nat.le_refl 0, Nat.le_refl 0⟩ dX9_fitsFour_39 (fun r_3 M_4 h => ?_)
      refine r_aload_n C 0 dX9_fitsFour_42 rfl rfl ?_
      refine r_iload_n C 1 dX9_fitsFour_43 rfl rfl ?_
      refine r_iload_n C 3 dX9_fitsFour_44 rfl rfl ?_
      refine cX9_418 C (m_X9_given l h) ⟨Nat.le_of_ble_eq_true rfl, Nat.le_of_ble_eq_true rfl⟩ (Nat.le_of_ble_eq_true rfl) ⟨Nat.le_refl 0, Nat.le_refl 0⟩ dX9_fitsFour_45 (fun r_4 M_5 h => ?_)
      refine r_icmp_ne C 55 dX9_fitsFour_48 (by decide) (fun hc => ?_) (fun hc => ?_)
      · replace h := h.1 hc
        refine r_iconst (v := (0 : Int32)) C dX9_fitsFour_55 rfl ?_
        refine r_iand C dX9_fitsFour_56 ?_
        refine r_istore_n C [(2, .int _), (0, .ref _), (1, .int _), (3, .int _)] dX9_fitsFour_57 rfl (by decide) rfl ?_
        replace h := h _ rfl
        refine r_iinc C 3 (v := _) [(3, .int _), (2, .int _), (0, .ref _), (1, .int _)] dX9_fitsFour_58 rfl rfl (by decide) rfl ?_
        refine r_goto C 29 dX9_fitsFour_61 (by decide) ?_
        exact r_sub [2, 3, 1, 0] rfl (ih _ _ _ h)
      · replace h := h.2 hc
        refine r_iconst (v := (1 : Int32)) C dX9_fitsFour_51 rfl ?_
        refine r_goto C 56 dX9_fitsFour_52 (by decide) ?_
        refine r_iand C dX9_fitsFour_56 ?_
        refine r_istore_n C [(2, .int _), (0, .ref _), (1, .int _), (3, .int _)] dX9_fitsFour_57 rfl (by decide) rfl ?_
        replace h := h _ rfl
        refine r_iinc C 3 (v := _) [(3, .int _), (2, .int _), (0, .ref _), (1, .int _)] dX9_fitsFour_58 rfl rfl (by decide) rfl ?_
        refine r_goto C 29 dX9_fitsFour_61 (by decide) ?_
        exact r_sub [2, 3, 1, 0] rfl (ih _ _ _ h)

def L_X9_fitsFour_2 (X83 : Mem → Prop) (K : Int32 → Mem → Prop) : Nat → Int32 → Mem → Prop
  | 0, _, _ => False
  | n + 1, v1, M => (((8 : Int32) ≤ v1 → X83 M) ∧ (¬ (8 : Int32) ≤ v1 → f_X9_many (gI M 5 (1 : Int32)) M (fun (r : Int32) (M_2 : Mem) => ((r ≤ (1 : Int32) → X83 M_2) ∧ (¬ r ≤ (1 : Int32) → f_X9_isLeft v1 M_2 (fun (r_2 : Int32) (M_3 : Mem) => (∃ k29 : Nat, L_X9_fitsFour_29 v1 (fun (v2_2 : Int32) (M_6 : Mem) => ((v2_2 = 0 → L_X9_fitsFour_2 X83 K n (v1 + (1 : Int32)) M_6) ∧ (¬ v2_2 = 0 → f_X9_notes (4 : Int32) (-1 : Int32) v1 M_6 (fun (M_7 : Mem) => K (1 : Int32) M_7)))) K k29 r_2 (0 : Int32) M_3)))))))

set_option maxHeartbeats 1000000 in
set_option maxRecDepth 10000 in
theorem mL_X9_fitsFour_2 (C : rw_C p s m meth c cX9_fitsFour 4 RX9 (some .boolean) D cy ad) {X83 : Mem → Prop} {K : Int32 → Mem → Prop} (hX83 : ∀  (M : Mem), X83 M → rw_W p l e rm_X9_fitsFour s m args below meth c D cy ad 4 0 0 (rw_Qi below args s D cy ad K) 83 [] [] M) : ∀ (n : Nat) (v1 : Int32) (M : Mem), L_X9_fitsFour_2 X83 K n v1 M → rw_W p l e rm_X9_fitsFour s m args below meth c D cy ad 4 0 0 (rw_Qi below args s D cy ad K) 2 [(0, .ref (ad 0)), (1, .int v1)] [] M := by
  intro n
  induction n with
  | zero => intro v1 M h; exact h.elim
  | succ n ih =>
    intro v1 M h
    refine r_iload_n C 1 dX9_fitsFour_2 rfl rfl ?_
    refine r_bipush (v := (8 : Int32)) C dX9_fitsFour_3 rfl ?_
    refine r_icmp_ge C 83 dX9_fitsFour_5 (by decide) (fun hc => ?_) (fun hc => ?_)
    · replace h := h.1 hc
      exact r_sub [] rfl (hX83 _ h)
    · replace h := h.2 hc
      refine r_aload_n C 0 dX9_fitsFour_8 rfl rfl ?_
      refine gX9_22 C dX9_fitsFour_9 ?_
      refine r_iconst (v := (1 : Int32)) C dX9_fitsFour_12 rfl ?_
      refine r_iald C sh_5 (vpd (i := (1 : Int32)) (n := 3) (by decide +kernel)) dX9_fitsFour_13 ?_
      refine cX9_266 C (m_X9_many l h) ⟨Nat.le_of_ble_eq_true rfl, Nat.le_of_ble_eq_true rfl⟩ (Nat.le_of_ble_eq_true rfl) ⟨Nat.le_refl 0, Nat.le_refl 0⟩ dX9_fitsFour_14 (fun r M_2 h => ?_)
      refine r_iconst (v := (1 : Int32)) C dX9_fitsFour_17 rfl ?_
      refine r_icmp_le C 83 dX9_fitsFour_18 (by decide) (fun hc => ?_) (fun hc => ?_)
      · replace h := h.1 hc
        exact r_sub [] rfl (hX83 _ h)
      · replace h := h.2 hc
        refine r_aload_n C 0 dX9_fitsFour_21 rfl rfl ?_
        refine r_iload_n C 1 dX9_fitsFour_22 rfl rfl ?_
        refine cX9_430 C (m_X9_isLeft l h) ⟨Nat.le_of_ble_eq_true rfl, Nat.le_of_ble_eq_true rfl⟩ (Nat.le_of_ble_eq_true rfl) ⟨Nat.le_refl 0, Nat.le_refl 0⟩ dX9_fitsFour_23 (fun r_2 M_3 h => ?_)
        refine r_istore_n C [(2, .int _), (0, .ref _), (1, .int _)] dX9_fitsFour_26 rfl (by decide) rfl ?_
        refine r_iconst (v := (0 : Int32)) C dX9_fitsFour_27 rfl ?_
        refine r_istore_n C [(3, .int _), (2, .int _), (0, .ref _), (1, .int _)] dX9_fitsFour_28 rfl (by decide) rfl ?_
        obtain ⟨n29, h⟩ := h
        refine r_sub [2, 3, 1, 0] rfl (mL_X9_fitsFour_29 C (fun v2_2 M_6 h => ?_) n29 _ _ _ h)
        refine r_iload_n C 2 dX9_fitsFour_64 rfl rfl ?_
        refine r_if_eq C 77 dX9_fitsFour_65 (by decide) (fun hc => ?_) (fun hc => ?_)
        · replace h := h.1 hc
          refine r_iinc C 1 (v := _) [(1, .int _), (0, .ref _), (2, .int _)] dX9_fitsFour_77 rfl rfl (by decide) rfl ?_
          refine r_goto C 2 dX9_fitsFour_80 (by decide) ?_
          exact r_sub [1, 0] rfl (ih _ _ h)
        · replace h := h.2 hc
          refine r_aload_n C 0 dX9_fitsFour_68 rfl rfl ?_
          refine r_iconst (v := (4 : Int32)) C dX9_fitsFour_69 rfl ?_
          refine r_iconst (v := (-1 : Int32)) C dX9_fitsFour_70 rfl ?_
          refine r_iload_n C 1 dX9_fitsFour_71 rfl rfl ?_
          refine cX9_427 C (m_X9_notes l h) ⟨Nat.le_of_ble_eq_true rfl, Nat.le_of_ble_eq_true rfl⟩ (Nat.le_of_ble_eq_true rfl) ⟨Nat.le_refl 0, Nat.le_refl 0⟩ dX9_fitsFour_72 (fun M_7 h => ?_)
          refine r_iconst (v := (1 : Int32)) C dX9_fitsFour_75 rfl ?_
          exact r_zret C (by decide) dX9_fitsFour_76 h

def f_X9_fitsFour (M : Mem) (K : Int32 → Mem → Prop) : Prop := (∃ k2 : Nat, L_X9_fitsFour_2 (fun  (M_8 : Mem) => K (0 : Int32) M_8) K k2 (0 : Int32) M)

set_option maxHeartbeats 1000000 in
set_option maxRecDepth 10000 in
theorem m_X9_fitsFour (l : Launch)   {M : Mem} {K : Int32 → Mem → Prop} (h : f_X9_fitsFour M K) : CTi l yX9_fitsFour cX9_fitsFour 4 (some .boolean) rm_X9_fitsFour (fun ad => [.ref (ad 0)]) M K := by
  refine rw_enti (by decide +kernel) (fun ad => Nat.le_of_ble_eq_true rfl) (fun p e s m args below meth c D cy ad C => ?_)
  change rw_W p l e _ s m args below meth c D cy ad 4 0 0 _ 0 [(0, .ref (ad 0))] [] M
  unfold f_X9_fitsFour at h
  refine r_iconst (v := (0 : Int32)) C dX9_fitsFour_0 rfl ?_
  refine r_istore_n C [(1, .int _), (0, .ref _)] dX9_fitsFour_1 rfl (by decide) rfl ?_
  obtain ⟨n2, h⟩ := h
  refine r_sub [1, 0] rfl (mL_X9_fitsFour_2 C (fun M_8 h => ?_) n2 _ _ h)
  refine r_iconst (v := (0 : Int32)) C dX9_fitsFour_83 rfl ?_
  exact r_zret C (by decide) dX9_fitsFour_84 h
def S_X9_oneAt_16 (v1 : Int32) (v2 : Int32) (v3 : Int32) (v4 : Int32) (v5 : Int32) (o0 : Int32) (X36 : Int32 → Mem → Prop) (K : Int32 → Mem → Prop) (M : Mem) : Prop := (o0 = 0 → f_X9_given v5 v1 M (fun (r : Int32) (M_2 : Mem) => X36 r M_2)) ∧ (¬ o0 = 0 → f_X9_taken v5 v1 M (fun (r_2 : Int32) (M_3 : Mem) => X36 r_2 M_3))

set_option maxHeartbeats 1000000 in
set_option maxRecDepth 10000 in
theorem mS_X9_oneAt_16 (C : rw_C p s m meth c cX9_oneAt 7 RX9 (some .int) D cy ad) {v1 : Int32} {v2 : Int32} {v3 : Int32} {v4 : Int32} {v5 : Int32} {o0 : Int32} {X36 : Int32 → Mem → Prop} {K : Int32 → Mem → Prop} {M : Mem} (hX36 : ∀  (w0 : Int32) (M : Mem), X36 w0 M → rw_W p l e rm_X9_oneAt s m args below meth c D cy ad 7 0 0 (rw_Qi below args s D cy ad K) 36 [(0, .ref (ad 0)), (1, .int v1), (2, .int v2), (3, .int v3), (4, .int v4), (5, .int v5)] [.int w0] M) (h : S_X9_oneAt_16 v1 v2 v3 v4 v5 o0 X36 K M) : rw_W p l e rm_X9_oneAt s m args below meth c D cy ad 7 0 0 (rw_Qi below args s D cy ad K) 16 [(0, .ref (ad 0)), (1, .int v1), (2, .int v2), (3, .int v3), (4, .int v4), (5, .int v5)] [.int o0] M := by
  refine r_if_eq C 29 dX9_oneAt_16 (by decide) (fun hc => ?_) (fun hc => ?_)
  · replace h := h.1 hc
    refine r_aload_n C 0 dX9_oneAt_29 rfl rfl ?_
    refine r_iload C 5 dX9_oneAt_30 rfl ?_
    refine r_iload_n C 1 dX9_oneAt_32 rfl rfl ?_
    refine cX9_418 C (m_X9_given l h) ⟨Nat.le_of_ble_eq_true rfl, Nat.le_of_ble_eq_true rfl⟩ (Nat.le_of_ble_eq_true rfl) ⟨Nat.le_refl 0, Nat.le_refl 0⟩ dX9_oneAt_33 (fun r M_2 h => ?_)
    exact hX36 _ _ h
  · replace h := h.2 hc
    refine r_aload_n C 0 dX9_oneAt_19 rfl rfl ?_
    refine r_iload C 5 dX9_oneAt_20 rfl ?_
    refine r_iload_n C 1 dX9_oneAt_22 rfl rfl ?_
    refine cX9_415 C (m_X9_taken l h) ⟨Nat.le_of_ble_eq_true rfl, Nat.le_of_ble_eq_true rfl⟩ (Nat.le_of_ble_eq_true rfl) ⟨Nat.le_refl 0, Nat.le_refl 0⟩ dX9_oneAt_23 (fun r_2 M_3 h => ?_)
    refine r_goto C 36 dX9_oneAt_26 (by decide) ?_
    exact hX36 _ _ h

def L_X9_oneAt_8 (v1 : Int32) (v2 : Int32) (X63 : Int32 → Int32 → Mem → Prop) (K : Int32 → Mem → Prop) : Nat → Int32 → Int32 → Int32 → Mem → Prop
  | 0, _, _, _, _ => False
  | n + 1, v3, v4, v5, M => (((8 : Int32) ≤ v5 → X63 v3 v4 M) ∧ (¬ (8 : Int32) ≤ v5 → (S_X9_oneAt_16 v1 v2 v3 v4 v5 v2 (fun (w : Int32) (M_4 : Mem) => ∀ x4 : Int32, x4 = v4 + w → ((w ≤ 0 → L_X9_oneAt_8 v1 v2 X63 K n v3 x4 (v5 + (1 : Int32)) M_4) ∧ (¬ w ≤ 0 → L_X9_oneAt_8 v1 v2 X63 K n v5 x4 (v5 + (1 : Int32)) M_4))) K M)))

set_option maxHeartbeats 1000000 in
set_option maxRecDepth 10000 in
theorem mL_X9_oneAt_8 (C : rw_C p s m meth c cX9_oneAt 7 RX9 (some .int) D cy ad) {v1 : Int32} {v2 : Int32} {X63 : Int32 → Int32 → Mem → Prop} {K : Int32 → Mem → Prop} (hX63 : ∀ (u3 : Int32) (u4 : Int32) (M : Mem), X63 u3 u4 M → rw_W p l e rm_X9_oneAt s m args below meth c D cy ad 7 0 0 (rw_Qi below args s D cy ad K) 63 [(3, .int u3), (4, .int u4)] [] M) : ∀ (n : Nat) (v3 : Int32) (v4 : Int32) (v5 : Int32) (M : Mem), L_X9_oneAt_8 v1 v2 X63 K n v3 v4 v5 M → rw_W p l e rm_X9_oneAt s m args below meth c D cy ad 7 0 0 (rw_Qi below args s D cy ad K) 8 [(0, .ref (ad 0)), (1, .int v1), (2, .int v2), (3, .int v3), (4, .int v4), (5, .int v5)] [] M := by
  intro n
  induction n with
  | zero => intro v3 v4 v5 M h; exact h.elim
  | succ n ih =>
    intro v3 v4 v5 M h
    refine r_iload C 5 dX9_oneAt_8 rfl ?_
    refine r_bipush (v := (8 : Int32)) C dX9_oneAt_10 rfl ?_
    refine r_icmp_ge C 63 dX9_oneAt_12 (by decide) (fun hc => ?_) (fun hc => ?_)
    · replace h := h.1 hc
      exact r_sub [3, 4] rfl (hX63 _ _ _ h)
    · replace h := h.2 hc
      refine r_iload_n C 2 dX9_oneAt_15 rfl rfl ?_
      refine mS_X9_oneAt_16 C (fun w M_4 h => ?_) h
      refine r_istore C [(6, .int _), (0, .ref _), (1, .int _), (2, .int _), (3, .int _), (4, .int _), (5, .int _)] dX9_oneAt_36 (by decide) rfl ?_
      refine r_iload C 5 dX9_oneAt_38 rfl ?_
      refine r_iload C 0 dX9_oneAt_40 rfl ?_
      refine r_iadd C dX9_oneAt_42 ?_
      refine r_istore C [(4, .int _), (6, .int _), (0, .ref _), (1, .int _), (2, .int _), (3, .int _), (5, .int _)] dX9_oneAt_43 (by decide) rfl ?_
      replace h := h _ rfl
      refine r_iload C 1 dX9_oneAt_45 rfl ?_
      refine r_if_le C 55 dX9_oneAt_47 (by decide) (fun hc => ?_) (fun hc => ?_)
      · replace h := h.1 hc
        refine r_iload_n C 5 dX9_oneAt_55 rfl rfl ?_
        refine r_istore_n C [(3, .int _), (4, .int _), (6, .int _), (0, .ref _), (1, .int _), (2, .int _), (5, .int _)] dX9_oneAt_56 rfl (by decide) rfl ?_
        refine r_iinc C 6 (v := _) [(5, .int _), (3, .int _), (4, .int _), (6, .int _), (0, .ref _), (1, .int _), (2, .int _)] dX9_oneAt_57 rfl rfl (by decide) rfl ?_
        refine r_goto C 8 dX9_oneAt_60 (by decide) ?_
        exact r_sub [4, 5, 6, 1, 2, 0] rfl (ih _ _ _ _ h)
      · replace h := h.2 hc
        refine r_iload C 6 dX9_oneAt_50 rfl ?_
        refine r_goto C 56 dX9_oneAt_52 (by decide) ?_
        refine r_istore_n C [(3, .int _), (4, .int _), (6, .int _), (0, .ref _), (1, .int _), (2, .int _), (5, .int _)] dX9_oneAt_56 rfl (by decide) rfl ?_
        refine r_iinc C 6 (v := _) [(5, .int _), (3, .int _), (4, .int _), (6, .int _), (0, .ref _), (1, .int _), (2, .int _)] dX9_oneAt_57 rfl rfl (by decide) rfl ?_
        refine r_goto C 8 dX9_oneAt_60 (by decide) ?_
        exact r_sub [4, 5, 6, 1, 2, 0] rfl (ih _ _ _ _ h)

def f_X9_oneAt (v1 : Int32) (v2 : Int32) (M : Mem) (K : Int32 → Mem → Prop) : Prop := (∃ k8 : Nat, L_X9_oneAt_8 v1 v2 (fun (v3_2 : Int32) (v4_2 : Int32) (M_5 : Mem) => ((¬ v4_2 = (1 : Int32) → K (-1 : Int32) M_5) ∧ (v4_2 = (1 : Int32) → K v3_2 M_5))) K k8 (-1 : Int32) (0 : Int32) (0 : Int32) M)

set_option maxHeartbeats 1000000 in
set_option maxRecDepth 10000 in
theorem m_X9_oneAt (l : Launch) {v1 : Int32} {v2 : Int32}  {M : Mem} {K : Int32 → Mem → Prop} (h : f_X9_oneAt v1 v2 M K) : CTi l yX9_oneAt cX9_oneAt 7 (some .int) rm_X9_oneAt (fun ad => [.ref (ad 0), .int v1, .int v2]) M K := by
  refine rw_enti (by decide +kernel) (fun ad => Nat.le_of_ble_eq_true rfl) (fun p e s m args below meth c D cy ad C => ?_)
  change rw_W p l e _ s m args below meth c D cy ad 7 0 0 _ 0 [(0, .ref (ad 0)), (1, .int v1), (2, .int v2)] [] M
  unfold f_X9_oneAt at h
  refine r_iconst (v := (-1 : Int32)) C dX9_oneAt_0 rfl ?_
  refine r_istore_n C [(3, .int _), (0, .ref _), (1, .int _), (2, .int _)] dX9_oneAt_1 rfl (by decide) rfl ?_
  refine r_iconst (v := (0 : Int32)) C dX9_oneAt_2 rfl ?_
  refine r_istore C [(4, .int _), (3, .int _), (0, .ref _), (1, .int _), (2, .int _)] dX9_oneAt_3 (by decide) rfl ?_
  refine r_iconst (v := (0 : Int32)) C dX9_oneAt_5 rfl ?_
  refine r_istore C [(5, .int _), (4, .int _), (3, .int _), (0, .ref _), (1, .int _), (2, .int _)] dX9_oneAt_6 (by decide) rfl ?_
  obtain ⟨n8, h⟩ := h
  refine r_sub [3, 4, 5, 2, 1, 0] rfl (mL_X9_oneAt_8 C (fun v3_2 v4_2 M_5 h => ?_) n8 _ _ _ _ h)
  refine r_iload C 1 dX9_oneAt_63 rfl ?_
  refine r_iconst (v := (1 : Int32)) C dX9_oneAt_65 rfl ?_
  refine r_icmp_ne C 73 dX9_oneAt_66 (by decide) (fun hc => ?_) (fun hc => ?_)
  · replace h := h.1 hc
    refine r_iconst (v := (-1 : Int32)) C dX9_oneAt_73 rfl ?_
    exact r_iret C dX9_oneAt_74 h
  · replace h := h.2 hc
    refine r_iload_n C 0 dX9_oneAt_69 rfl rfl ?_
    refine r_goto C 74 dX9_oneAt_70 (by decide) ?_
    exact r_iret C dX9_oneAt_74 h
end MG
