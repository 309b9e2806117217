/-! the reference: rules 5 and 6 -/
theorem X9_oneAt_sp {n : NN} {tp ts p : Nat} {b : Bool} {M : Mem} {K : Int32 → Mem → Prop} (hn : rt M 1 = enc n) (w : WF n tp ts) (hp : p < 10) (h : K (oI (one (col (if b then n.1 else n.2.1) p) 8)) M) : f_X9_oneAt (nI p) (bI b) M K := by
  unfold f_X9_oneAt
  have f3 : ∀ i, col (if b then n.1 else n.2.1) p i ≤ 3 := fun i => by cases b; exact wf_G3 w _; exact wf_T3 w _
  have key : ∃ k, L_X9_oneAt_8 (nI p) (bI b) (fun v3_2 v4_2 M_5 => ((¬ v4_2 = (1) → K (-1) M_5) ∧ (v4_2 = (1) → K v3_2 M_5))) K k (oI (lastp (col (if b then n.1 else n.2.1) p) 0)) (nI (sm (col (if b then n.1 else n.2.1) p) 0)) (nI 0) M := by
    refine upT (fun k j => L_X9_oneAt_8 (nI p) (bI b) (fun v3_2 v4_2 M_5 => ((¬ v4_2 = (1) → K (-1) M_5) ∧ (v4_2 = (1) → K v3_2 M_5))) K k (oI (lastp (col (if b then n.1 else n.2.1) p) j)) (nI (sm (col (if b then n.1 else n.2.1) p) j)) (nI j) M) 0 8 (by omega) (fun k => ?_) (fun j _ hj k ih => ?_)
    · have := sm_le f3 8
      rw [L_X9_oneAt_8, nI_E1 (by omega)]
      rw [one_sm] at h
      refine ⟨fun _ => ⟨fun e => ?_, fun e => ?_⟩, fun q => absurd (by rw [l_8, nI_LE (by omega) (by omega)]; exact Nat.le_refl _) q⟩
      · rw [if_neg e] at h; exact h
      · rw [if_pos e] at h; exact h
    · rw [L_X9_oneAt_8]
      refine ⟨fun q => absurd q (by rw [l_8, nI_LE (by omega) (by omega)]; omega), fun _ => ?_⟩
      have b3 := f3 j
      have go : ∀ x4 : Int32, x4 = nI (sm (col (if b then n.1 else n.2.1) p) j) + nI (col (if b then n.1 else n.2.1) p j) → ((nI (col (if b then n.1 else n.2.1) p j) ≤ 0 → L_X9_oneAt_8 (nI p) (bI b) (fun v3_2 v4_2 M_5 => ((¬ v4_2 = (1) → K (-1) M_5) ∧ (v4_2 = (1) → K v3_2 M_5))) K k (oI (lastp (col (if b then n.1 else n.2.1) p) j)) x4 (nI j + 1) M) ∧ (¬ nI (col (if b then n.1 else n.2.1) p j) ≤ 0 → L_X9_oneAt_8 (nI p) (bI b) (fun v3_2 v4_2 M_5 => ((¬ v4_2 = (1) → K (-1) M_5) ∧ (v4_2 = (1) → K v3_2 M_5))) K k (nI j) x4 (nI j + 1) M)) := by
        intro x4 e4
        rw [e4, nI_add, nI_A1, nI_L0 (by omega)]
        rw [lastp, sm] at ih
        refine ⟨fun e => ?_, fun e => ?_⟩
        · rw [if_pos e] at ih; exact ih
        · rw [if_neg e] at ih; exact ih
      unfold S_X9_oneAt_16
      cases b with
      | false => exact ⟨fun _ => X9_given_sp hn hj hp go, fun e => absurd rfl e⟩
      | true => exact ⟨fun e => absurd e (by decide), fun _ => X9_taken_sp hn hj hp go⟩
  exact key
theorem X9_onePlace_sp {n : NN} {tp ts s : Nat} {b : Bool} {M : Mem} {K : Int32 → Mem → Prop} (hn : rt M 1 = enc n) (w : WF n tp ts) (hs : s < 8) (h : K (oI (one (row (if b then n.1 else n.2.1) s) 10)) M) : f_X9_onePlace (nI s) (bI b) M K := by
  unfold f_X9_onePlace
  have f3 : ∀ i, row (if b then n.1 else n.2.1) s i ≤ 3 := fun i => by cases b; exact wf_G3 w _; exact wf_T3 w _
  have key : ∃ k, L_X9_onePlace_8 (nI s) (bI b) (fun v3_2 v4_2 M_5 => ((¬ v4_2 = (1) → K (-1) M_5) ∧ (v4_2 = (1) → K v3_2 M_5))) K k (oI (lastp (row (if b then n.1 else n.2.1) s) 0)) (nI (sm (row (if b then n.1 else n.2.1) s) 0)) (nI 0) M := by
    refine upT (fun k j => L_X9_onePlace_8 (nI s) (bI b) (fun v3_2 v4_2 M_5 => ((¬ v4_2 = (1) → K (-1) M_5) ∧ (v4_2 = (1) → K v3_2 M_5))) K k (oI (lastp (row (if b then n.1 else n.2.1) s) j)) (nI (sm (row (if b then n.1 else n.2.1) s) j)) (nI j) M) 0 10 (by omega) (fun k => ?_) (fun j _ hj k ih => ?_)
    · have := sm_le f3 10
      rw [L_X9_onePlace_8, nI_E1 (by omega)]
      rw [one_sm] at h
      refine ⟨fun _ => ⟨fun e => ?_, fun e => ?_⟩, fun q => absurd (by rw [l_10, nI_LE (by omega) (by omega)]; exact Nat.le_refl _) q⟩
      · rw [if_neg e] at h; exact h
      · rw [if_pos e] at h; exact h
    · rw [L_X9_onePlace_8]
      refine ⟨fun q => absurd q (by rw [l_10, nI_LE (by omega) (by omega)]; omega), fun _ => ?_⟩
      have b3 := f3 j
      have go : ∀ x4 : Int32, x4 = nI (sm (row (if b then n.1 else n.2.1) s) j) + nI (row (if b then n.1 else n.2.1) s j) → ((nI (row (if b then n.1 else n.2.1) s j) ≤ 0 → L_X9_onePlace_8 (nI s) (bI b) (fun v3_2 v4_2 M_5 => ((¬ v4_2 = (1) → K (-1) M_5) ∧ (v4_2 = (1) → K v3_2 M_5))) K k (oI (lastp (row (if b then n.1 else n.2.1) s) j)) x4 (nI j + 1) M) ∧ (¬ nI (row (if b then n.1 else n.2.1) s j) ≤ 0 → L_X9_onePlace_8 (nI s) (bI b) (fun v3_2 v4_2 M_5 => ((¬ v4_2 = (1) → K (-1) M_5) ∧ (v4_2 = (1) → K v3_2 M_5))) K k (nI j) x4 (nI j + 1) M)) := by
        intro x4 e4
        rw [e4, nI_add, nI_A1, nI_L0 (by omega)]
        rw [lastp, sm] at ih
        refine ⟨fun e => ?_, fun e => ?_⟩
        · rw [if_pos e] at ih; exact ih
        · rw [if_neg e] at ih; exact ih
      unfold S_X9_onePlace_16
      cases b with
      | false => exact ⟨fun _ => X9_given_sp hn hs hj go, fun e => absurd rfl e⟩
      | true => exact ⟨fun e => absurd e (by decide), fun _ => X9_taken_sp hn hs hj go⟩
  exact key
theorem oI_lt0 {o : Option Nat} (h : ∀ x, o = some x → x < 100) : (oI o < 0) ↔ o = none := by
  cases o with
  | none => exact ⟨fun _ => rfl, fun _ => by decide⟩
  | some x => show nI x < 0 ↔ _; rw [nI_l0 (by have := h x rfl; omega)]; exact ⟨fun e => e.elim, fun e => by cases e⟩
theorem oI_eq {o : Option Nat} {x : Nat} (h : ∀ x, o = some x → x < 100) (hx : x < 100) : (oI o = nI x) ↔ o = some x := by
  cases o with
  | none => exact ⟨fun e => absurd e.symm (nI_M (by omega)), fun e => by cases e⟩
  | some y =>
    have := h y rfl
    show nI y = nI x ↔ _
    rw [nI_EQ (by omega) (by omega)]
    exact ⟨fun e => by rw [e], fun e => by cases e; rfl⟩
theorem one_lt {f : Nat → Nat} {N : Nat} (hN : N ≤ 100) : ∀ x, one f N = some x → x < 100 := fun x e => by have := (one_some e).1; omega
/-- a loop that goes on while it holds -/
theorem X9_f5a_sp {n : NN} {tp ts p s t : Nat} {M : Mem} {X K : Int32 → Mem → Prop} (hn : rt M 1 = enc n) (w : WF n tp ts) (hp : p < 10) (hs : s < 8) (ht : t < 8)
    (h1 : (∀ q, q < 10 → q = p ∨ nG n (10 * s + q) + nG n (10 * t + q) ≤ 3) → X 1 M) (h0 : ¬ (∀ q, q < 10 → q = p ∨ nG n (10 * s + q) + nG n (10 * t + q) ≤ 3) → X 0 M) : ∃ k, L_X9_fitsFive_78 (nI p) (nI s) (nI t) X K k 1 0 M := by
  have key : ∀ d j, j + d = 10 → ((∀ q, q < j → q = p ∨ nG n (10 * s + q) + nG n (10 * t + q) ≤ 3) → L_X9_fitsFive_78 (nI p) (nI s) (nI t) X K (d + 1) 1 (nI j) M) := by
    intro d
    induction d with
    | zero =>
      intro j hj e
      rw [L_X9_fitsFive_78]; simp (disch := omega) only [forall_eq, gI, ix_z, m_10, m10_, m_80, m80_, m300_, m8_, m_8, nI_add, nI_A1, nI_E1, nI_L1, nI_1L, nI_1l, vp_nI, nI_LE, nI_LT, nI_EQ, nI_CL, nI_Z, l_2, l_3, l_4, l_5, l_6, l_7, l_8, l_9, l_10, l_11, l_12, l_13, l_14, l_15, l_16, l_17, l_18, l_19, l_20, l_21, l_22, l_23, l_24, l_25, l_26, l_27, l_28, l_29, l_30, l_32, l_48, l_57, l_59, l_63, l_80, l_96, l_97, l_99, l_122, l_128, l_160, l_170, l_171, l_172, l_200, l_240, l_255, l_256, l_260, l_300, l_900, l_999, l_1023, l_1024, l_1296, l_2064, l_2400, l_3010, l_4800, l_6000, l_600, l_10000]
      exact ⟨fun _ => h1 (fun q hq => e q (by omega)), by omega⟩
    | succ d ih =>
      intro j hj e
      have b3 := wf_G3 w (10 * s + j)
      have b4 := wf_G3 w (10 * t + j)
      rw [L_X9_fitsFive_78]; simp (disch := omega) only [forall_eq, gI, ix_z, m_10, m10_, m_80, m80_, m300_, m8_, m_8, nI_add, nI_A1, nI_E1, nI_L1, nI_1L, nI_1l, vp_nI, nI_LE, nI_LT, nI_EQ, nI_CL, nI_Z, l_2, l_3, l_4, l_5, l_6, l_7, l_8, l_9, l_10, l_11, l_12, l_13, l_14, l_15, l_16, l_17, l_18, l_19, l_20, l_21, l_22, l_23, l_24, l_25, l_26, l_27, l_28, l_29, l_30, l_32, l_48, l_57, l_59, l_63, l_80, l_96, l_97, l_99, l_122, l_128, l_160, l_170, l_171, l_172, l_200, l_240, l_255, l_256, l_260, l_300, l_900, l_999, l_1023, l_1024, l_1296, l_2064, l_2400, l_3010, l_4800, l_6000, l_600, l_10000]
      refine ⟨by omega, fun _ => ⟨fun x => absurd x (by decide), fun _ => ⟨fun x => ih (j + 1) (by omega) (fun q hq => ?_), fun x => X9_given_sp hn hs (by omega) (X9_given_sp hn ht (by omega) ?_)⟩⟩⟩
      · rcases Nat.lt_succ_iff_lt_or_eq.mp hq with y | rfl
        · exact e q y
        · exact Or.inl x
      · rw [nI_add, nI_LT (by omega) (by omega)]
        refine ⟨fun y => ?_, fun y => ih (j + 1) (by omega) (fun q hq => ?_)⟩
        · have no : ¬ (∀ q, q < 10 → q = p ∨ nG n (10 * s + q) + nG n (10 * t + q) ≤ 3) := fun z => by
            rcases z j (by omega) with v | v
            · exact x v
            · omega
          cases d with
          | zero =>
            rw [L_X9_fitsFive_78]; simp (disch := omega) only [forall_eq, gI, ix_z, m_10, m10_, m_80, m80_, m300_, m8_, m_8, nI_add, nI_A1, nI_E1, nI_L1, nI_1L, nI_1l, vp_nI, nI_LE, nI_LT, nI_EQ, nI_CL, nI_Z, l_2, l_3, l_4, l_5, l_6, l_7, l_8, l_9, l_10, l_11, l_12, l_13, l_14, l_15, l_16, l_17, l_18, l_19, l_20, l_21, l_22, l_23, l_24, l_25, l_26, l_27, l_28, l_29, l_30, l_32, l_48, l_57, l_59, l_63, l_80, l_96, l_97, l_99, l_122, l_128, l_160, l_170, l_171, l_172, l_200, l_240, l_255, l_256, l_260, l_300, l_900, l_999, l_1023, l_1024, l_1296, l_2064, l_2400, l_3010, l_4800, l_6000, l_600, l_10000]
            exact ⟨fun _ => h0 no, by omega⟩
          | succ d =>
            rw [L_X9_fitsFive_78]; simp (disch := omega) only [forall_eq, gI, ix_z, m_10, m10_, m_80, m80_, m300_, m8_, m_8, nI_add, nI_A1, nI_E1, nI_L1, nI_1L, nI_1l, vp_nI, nI_LE, nI_LT, nI_EQ, nI_CL, nI_Z, l_2, l_3, l_4, l_5, l_6, l_7, l_8, l_9, l_10, l_11, l_12, l_13, l_14, l_15, l_16, l_17, l_18, l_19, l_20, l_21, l_22, l_23, l_24, l_25, l_26, l_27, l_28, l_29, l_30, l_32, l_48, l_57, l_59, l_63, l_80, l_96, l_97, l_99, l_122, l_128, l_160, l_170, l_171, l_172, l_200, l_240, l_255, l_256, l_260, l_300, l_900, l_999, l_1023, l_1024, l_1296, l_2064, l_2400, l_3010, l_4800, l_6000, l_600, l_10000]
            exact ⟨by omega, fun _ => ⟨fun _ => h0 no, fun z => absurd trivial z⟩⟩
        · rcases Nat.lt_succ_iff_lt_or_eq.mp hq with v | rfl
          · exact e q v
          · exact Or.inr (by omega)
  exact ⟨_, key 10 0 (by omega) (fun q hq => absurd hq (Nat.not_lt_zero q))⟩
theorem X9_f5z_sp {p : Nat} {a b : Int32} {M : Mem} {X K : Int32 → Mem → Prop} (h0 : X 0 M) : ∃ k, L_X9_fitsFive_78 (nI p) a b X K k 0 0 M := by
  refine ⟨1, ?_⟩
  rw [L_X9_fitsFive_78]
  exact ⟨fun e => absurd e (by decide), fun _ => ⟨fun _ => h0, fun z => absurd rfl z⟩⟩
def jG (f : Nat → Int32) (s t k : Nat) : Nat → Int32 := fun i => if 80 ≤ i ∧ (i - 80) / 10 = s ∧ (i - 80) % 10 < k then f i + f (80 + (10 * t + (i - 80) % 10)) else f i
theorem jG_0 (f : Nat → Int32) (s t : Nat) : jG f s t 0 = f := by funext i; unfold jG; rw [if_neg (by omega)]
theorem jG_s (f : Nat → Int32) {s t k : Nat} (hk : k < 10) : upd (jG f s t k) (80 + (10 * s + k)) (f (80 + (10 * s + k)) + f (80 + (10 * t + k))) = jG f s t (k + 1) := by
  funext i
  by_cases h : i = 80 + (10 * s + k)
  · subst h; rw [upd_at]; unfold jG; rw [if_pos ⟨by omega, by omega, by omega⟩, show 80 + (10 * s + k) - 80 = 10 * s + k by omega, (md hk).1]
  · rw [upd_no h]; unfold jG
    by_cases h2 : 80 ≤ i ∧ (i - 80) / 10 = s ∧ (i - 80) % 10 < k
    · rw [if_pos h2, if_pos ⟨h2.1, h2.2.1, by omega⟩]
    · rw [if_neg h2, if_neg (fun z => h2 ⟨z.1, z.2.1, by omega⟩)]
theorem X9_gv_sp {s p : Nat} {M : Mem} {K : Int32 → Mem → Prop} (hs : s < 8) (hp : p < 10) (h : K (M.1 2 (80 + (10 * s + p))) M) : f_X9_given (nI s) (nI p) M K := by
  unfold f_X9_given
  refine X9_arc1_sp hs hp ⟨(vp_nI (by omega) (by omega)).mpr (by omega), ?_⟩
  rw [gI, nI_CL (by omega)]
  exact h
theorem X9_f5j_sp {s t : Nat} {v : Int32} {M : Mem} {X : Mem → Prop} {K : Int32 → Mem → Prop} (hs : s < 8) (ht : t < 8) (hst : s ≠ t) (h : X (sA M 2 (jG (M.1 2) s t 10))) : ∃ n, L_X9_fitsFive_139 v (nI s) (nI t) X K n 0 M := by
  have e0 : M = sA M 2 (jG (M.1 2) s t 0) := by rw [jG_0, sA_id]
  have key : ∃ n, L_X9_fitsFive_139 v (nI s) (nI t) X K n (nI 0) (sA M 2 (jG (M.1 2) s t 0)) := by
    refine upT (fun n j => L_X9_fitsFive_139 v (nI s) (nI t) X K n (nI j) (sA M 2 (jG (M.1 2) s t j))) 0 10 (by omega) (fun n => ?_) (fun j _ hj n ih => ?_)
    · rw [L_X9_fitsFive_139]
      exact ⟨fun _ => h, fun q => absurd (by rw [l_10, nI_LE (by omega) (by omega)]; exact Nat.le_refl _) q⟩
    · rw [L_X9_fitsFive_139]
      refine ⟨fun q => absurd q (by rw [l_10, nI_LE (by omega) (by omega)]; omega), fun _ => X9_arc1_sp hs hj ⟨(vp_nI (by omega) (by omega)).mpr (by omega), X9_gv_sp ht hj (fun M1 e1 => ?_)⟩⟩
      rw [gI, nI_CL (by omega), wI_of_sA, sA_eq, show jG (M.1 2) s t j (80 + (10 * s + j)) = M.1 2 (80 + (10 * s + j)) by unfold jG; rw [if_neg (by omega)], show jG (M.1 2) s t j (80 + (10 * t + j)) = M.1 2 (80 + (10 * t + j)) by unfold jG; rw [if_neg (by omega)], jG_s _ hj] at e1
      rw [e1, nI_A1]
      exact ih
  rw [← e0] at key
  exact key
theorem jG_enc {n : NN} {M : Mem} {tp ts s t : Nat} (hn : rt M 1 = enc n) (w : WF n tp ts) (hs : s < 8) (ht : t < 8) : rt (sA M 2 (jG (M.1 2) s t 10)) 1 = enc (j5 n s t) := by
  refine r5 ?_ ?_ ?_ ?_ ?_
  · exact congrArg (·.1) hn
  · show tr 80 (fun i => jG (M.1 2) s t 10 (80 * 1 + i)) = fun i => nI (if i / 10 = s then nG n i + nG n (10 * t + i % 10) else nG n i)
    funext i
    unfold tr
    by_cases hi : i < 80
    · rw [if_pos hi]
      show jG (M.1 2) s t 10 (80 + i) = _
      unfold jG
      have e1 : M.1 2 (80 + i) = nI (nG n i) := rt_G hn hi
      have e2 : M.1 2 (80 + (10 * t + i % 10)) = nI (nG n (10 * t + i % 10)) := rt_G hn (by omega)
      rw [show 80 + i - 80 = i by omega]
      by_cases q : i / 10 = s
      · rw [if_pos q, ← nI_add, e1, if_pos ⟨by omega, q, by omega⟩, e2]
      · rw [if_neg q, if_neg (fun z => q z.2.1), e1]
    · rw [if_neg hi, if_neg (by omega)]
      rcases Nat.eq_zero_or_pos (nG n i) with z | z
      · rw [z]; rfl
      · exact absurd (wf_Gn w (by omega)).1 hi
  · exact congrArg (·.2.2.1) hn
  · exact congrArg (·.2.2.2.1) hn
  · exact congrArg (·.2.2.2.2) hn
theorem jG_fr {M : Mem} {s t : Nat} (hs : s < 8) : frR M (sA M 2 (jG (M.1 2) s t 10)) := by
  refine ⟨fun i hi => ⟨by rw [sA_ne (by decide)], ?_⟩, fun i _ => by rw [sA_ne (by decide)], fun i _ => ⟨by rw [sA_ne (by decide)], by rw [sA_ne (by decide)]⟩⟩
  rw [sA_eq]; unfold jG; rw [if_neg (by omega)]
theorem X9_fitsFive_sp {n : NN} {tp ts c : Nat} {M : Mem} {K : Int32 → Mem → Prop} (hn : rt M 1 = enc n) (w : WF n tp ts) (hc : M.1 0 58 = nI c) (hc18 : c < 20) (h : QR M K c (rl5 n)) : f_X9_fitsFive M K := by
  unfold f_X9_fitsFive
  have hP := wf_P w
  refine lpF _ (QR M K c) (fun k j => L_X9_fitsFive_2 (fun M_8 => K 0 M_8) K k (nI j) M) 0 10 (Nat.zero_le _) h (fun e k => ?_) (fun p _ hp k z0 z1 => ?_)
  · rw [L_X9_fitsFive_2]; simp (disch := omega) only [forall_eq, gI, ix_z, m_10, m10_, m_80, m80_, m300_, m8_, m_8, nI_add, nI_A1, nI_E1, nI_L1, nI_1L, nI_1l, vp_nI, nI_LE, nI_LT, nI_EQ, nI_CL, nI_Z, l_2, l_3, l_4, l_5, l_6, l_7, l_8, l_9, l_10, l_11, l_12, l_13, l_14, l_15, l_16, l_17, l_18, l_19, l_20, l_21, l_22, l_23, l_24, l_25, l_26, l_27, l_28, l_29, l_30, l_32, l_48, l_57, l_59, l_63, l_80, l_96, l_97, l_99, l_122, l_128, l_160, l_170, l_171, l_172, l_200, l_240, l_255, l_256, l_260, l_300, l_900, l_999, l_1023, l_1024, l_1296, l_2064, l_2400, l_3010, l_4800, l_6000, l_600, l_10000]
    exact ⟨fun _ => e.1 rfl, by omega⟩
  · have b1 := wf_H w p
    rw [L_X9_fitsFive_2]; simp (disch := omega) only [nI_LE, nI_A1, l_10, nI_add, gI, nI_CL, vp_nI]
    refine ⟨by omega, fun _ => X9_isThere_sp hn hP hp ⟨fun e => z0 (ifP_f (fun z => by rw [b_of0 e] at z; exact absurd z.1 (by decide))), fun e1 => ⟨by omega, ?_⟩⟩⟩
    rw [rt_1H hn hp, nI_L0 (by omega)]
    refine ⟨fun e2 => ?_, fun e2 => z0 (ifP_f (fun z => e2 z.2))⟩
    have hg0 : g5 n p = h5 n p (one (col n.2.1 p) 8) (one (col n.1 p) 8) := ifP_t ⟨b_ofn e1, e2⟩
    refine X9_oneAt_sp (b := false) hn w hp (X9_oneAt_sp (b := true) hn w hp ?_)
    simp only [Bool.false_eq_true, if_false, if_true]
    unfold S_X9_fitsFive_46
    have zz : g5 n p = none → ∀ a b : Int32, (∃ k78 : Nat, L_X9_fitsFive_78 (nI p) a b (fun (v4_2) (M_9) => ((¬ v4_2 = 0 → (∃ k139 : Nat, L_X9_fitsFive_139 (nI p) a b (fun (M_13) => f_X9_notes (5) (nI p) b M_13 (fun (M_14) => K (1) M_14)) K k139 (0) M_9)) ∧ (v4_2 = 0 → L_X9_fitsFive_2 (fun M_8 => K 0 M_8) K k (nI (p + 1)) M_9))) K k78 0 (0) M) := fun e a b => X9_f5z_sp ⟨fun q => absurd rfl q, fun _ => z0 e⟩
    cases os : one (col n.2.1 p) 8 with
    | none =>
      rw [os] at hg0
      exact ⟨fun _ => zz hg0 _ _, fun e => absurd (show (-1 : Int32) < 0 by decide) e⟩
    | some s =>
      have s8 := (one_some os).1
      cases ot : one (col n.1 p) 8 with
      | none =>
        rw [os, ot] at hg0
        exact ⟨fun _ => zz hg0 _ _, fun _ => ⟨fun _ => zz hg0 _ _, fun e => absurd (show (-1 : Int32) < 0 by decide) e⟩⟩
      | some t =>
        have t8 := (one_some ot).1
        rw [os, ot] at hg0
        show (nI s < 0 → _) ∧ (¬ nI s < 0 → ((nI t < 0 → _) ∧ (¬ nI t < 0 → ((nI s = nI t → _) ∧ (¬ nI s = nI t → _)))))
        rw [nI_l0 (by omega), nI_l0 (by omega), nI_EQ (by omega) (by omega)]
        refine ⟨fun e => e.elim, fun _ => ⟨fun e => e.elim, fun _ => ⟨fun e => zz ?_ _ _, fun hne => ?_⟩⟩⟩
        · rw [hg0]; exact ifP_f (fun z => z.1 e)
        refine X9_onePlace_sp (b := true) hn w t8 ?_
        show (¬ oI (one (row n.1 t) 10) = nI p → _) ∧ (oI (one (row n.1 t) 10) = nI p → _)
        have oe := oI_eq (o := one (row n.1 t) 10) (x := p) (one_lt (by omega)) (by omega)
        refine ⟨fun e => zz ?_ _ _, fun e3 => ?_⟩
        · rw [hg0]; exact ifP_f (fun z => e (oe.mpr z.2.1))
        refine X9_f5a_sp hn w hp s8 t8 (fun e4 => ⟨fun _ => ?_, fun e => absurd e (by decide)⟩) (fun e4 => ⟨fun e => absurd rfl e, fun _ => z0 ?_⟩)
        · have hg : g5 n p = some (5, some p, some t, dS (dP (j5 n s t) p) t) := by rw [hg0]; exact ifP_t ⟨hne, oe.mp e3, e4⟩
          refine X9_f5j_sp s8 t8 hne ?_
          exact note_R (k := 5) (p := some p) (s := some t) hc hc18 (fun x e => by cases e; omega) (fun x e => by cases e; omega) (fun b h1 _ => sA_ne h1) (jG_fr s8) rfl (jG_enc hn w s8 t8) ((z1 _ hg).2 _ rfl)
        · rw [hg0]; exact ifP_f (fun z => e4 z.2.2)
