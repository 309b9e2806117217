/-! the tape: feed, end, fault -/
def byt (v : Int32) (k : Nat) : Int32 := (v >>> (nI k &&& 31)) &&& 255
theorem byt_u (v : Int32) : ∀ k, k = 24 ∨ k = 16 ∨ k = 8 ∨ k = 0 → (ushr v (nI k)) &&& 255 = byt v k := by
  intro k hk
  have h : ∀ i : Nat, i < 32 → ∀ k : Nat, k ≤ 24 → ((ushr v (nI k)) &&& 255).toBitVec.getLsbD i = (byt v k).toBitVec.getLsbD i := by
    intro i hi k hk
    have e255 : (255 : Int32).toBitVec.getLsbD i = decide (i < 8) := by
      have : ∀ i : Fin 32, (255 : Int32).toBitVec.getLsbD i = decide ((i : Nat) < 8) := by decide
      exact this ⟨i, hi⟩
    have es : ∀ k : Nat, k ≤ 24 → ((nI k &&& 31).toBitVec.smod 32).toNat = k := by
      have : ∀ k : Fin 25, ((nI k &&& 31).toBitVec.smod 32).toNat = k := by decide
      exact fun k hk => this ⟨k, by omega⟩
    have eu : ∀ k : Nat, k ≤ 24 → (((nI k).toUInt32 &&& Int32.toUInt32 31).toBitVec % 32).toNat = k := by
      have : ∀ k : Fin 25, (((nI k).toUInt32 &&& Int32.toUInt32 31).toBitVec % 32).toNat = k := by decide
      exact fun k hk => this ⟨k, by omega⟩
    unfold byt ushr
    rw [Int32.toBitVec_and, Int32.toBitVec_and, BitVec.getLsbD_and, BitVec.getLsbD_and, e255]
    by_cases h8 : i < 8
    · congr 1
      show (v.toBitVec >>> (((nI k).toUInt32 &&& Int32.toUInt32 31).toBitVec % 32)).getLsbD i = (v.toBitVec.sshiftRight' ((nI k &&& 31).toBitVec.smod 32)).getLsbD i
      rw [BitVec.sshiftRight', BitVec.getLsbD_sshiftRight, BitVec.ushiftRight_eq', BitVec.getLsbD_ushiftRight, es k hk, eu k hk]
      simp only [show ¬ (32 ≤ i) by omega, decide_false, Bool.not_false, Bool.true_and, if_pos (show k + i < 32 by omega)]
    · simp [h8]
  have hk' : k ≤ 24 := by omega
  exact Int32.toBitVec_inj.mp (BitVec.eq_of_getLsbD_eq (fun i hi => h i hi k hk'))
def put4 (f : Nat → Int32) (n : Nat) (v : Int32) : Nat → Int32 := upd (upd (upd (upd f n (byt v 24)) (n + 1) (byt v 16)) (n + 2) (byt v 8)) (n + 3) (byt v 0)
theorem put4_in (f : Nat → Int32) (n : Nat) (v : Int32) (j : Nat) : put4 f n v j = if j = n then byt v 24 else if j = n + 1 then byt v 16 else if j = n + 2 then byt v 8 else if j = n + 3 then byt v 0 else f j := by
  unfold put4 upd
  split <;> rename_i h3
  · subst h3; simp
  · split <;> rename_i h2
    · subst h2; simp
    · split <;> rename_i h1
      · subst h1; simp
      · rfl
theorem X9_four_sp {v : Int32} {M : Mem} {K : Mem → Prop} {n : Nat} (hn : M.1 0 10 = nI n) (h4 : n + 4 ≤ 900)
    (hK : K (sA (sA M 9 (put4 (M.1 9) n v)) 0 (upd (M.1 0) 10 (nI (n + 4))))) : f_X9_four v M K := by
  have hv : ∀ m, m < 900 → vp_in (nI m) 900 := fun m hm => (vp_nI (by omega) (by omega)).mpr hm
  have hc : ∀ m, m < 900 → (nI m).toNatClampNeg = m := fun m hm => nI_CL (by omega)
  refine ⟨5, ?_⟩
  rw [L_X9_four_3]
  refine ⟨fun h => absurd h (by decide), fun _ => ⟨by rw [hn]; exact hv n (by omega), ?_⟩⟩
  intro M1 e1 M2 e2
  rw [hn, hc n (by omega)] at e1
  have hn1 : M2.1 0 10 = nI (n + 1) := by rw [e2, w1_at, e1, w1_ne (by decide), hn, li, nI_add]
  rw [L_X9_four_3]
  refine ⟨fun h => absurd h (by decide), fun _ => ⟨by rw [hn1]; exact hv _ (by omega), ?_⟩⟩
  intro M3 e3 M4 e4
  rw [hn1, hc _ (by omega)] at e3
  have hn2 : M4.1 0 10 = nI (n + 2) := by rw [e4, w1_at, e3, w1_ne (by decide), hn1, li, nI_add]
  rw [L_X9_four_3]
  refine ⟨fun h => absurd h (by decide), fun _ => ⟨by rw [hn2]; exact hv _ (by omega), ?_⟩⟩
  intro M5 e5 M6 e6
  rw [hn2, hc _ (by omega)] at e5
  have hn3 : M6.1 0 10 = nI (n + 3) := by rw [e6, w1_at, e5, w1_ne (by decide), hn2, li, nI_add]
  rw [L_X9_four_3]
  refine ⟨fun h => absurd h (by decide), fun _ => ⟨by rw [hn3]; exact hv _ (by omega), ?_⟩⟩
  intro M7 e7 M8 e8
  rw [hn3, hc _ (by omega)] at e7
  rw [L_X9_four_3]
  refine ⟨fun _ => ?_, fun h => absurd (by decide) h⟩
  have e : M8 = sA (sA M 9 (put4 (M.1 9) n v)) 0 (upd (M.1 0) 10 (nI (n + 4))) := by
    have e9 : M8.1 0 10 = nI (n + 4) := by rw [e8, w1_at, e7, w1_ne (by decide), hn3, li, nI_add]
    refine Prod.ext (funext fun b => funext fun j => ?_) (by rw [e8, w1_2, e7, w1_2, e6, w1_2, e5, w1_2, e4, w1_2, e3, w1_2, e2, w1_2, e1, w1_2]; rfl)
    by_cases h0 : b = 0
    · subst h0
      rw [sA_eq]
      by_cases hj : j = 10
      · subst hj; rw [e9, upd_at]
      · rw [upd_no hj, e8, w1_no hj, e7, w1_ne (by decide), e6, w1_no hj, e5, w1_ne (by decide), e4, w1_no hj, e3, w1_ne (by decide), e2, w1_no hj, e1, w1_ne (by decide)]
    · rw [sA_ne h0]
      by_cases h9 : b = 9
      · subst h9
        rw [sA_eq, e8, w1_ne (by decide), e7, w1_eq, e6, w1_ne (by decide), e5, w1_eq, e4, w1_ne (by decide), e3, w1_eq, e2, w1_ne (by decide), e1, w1_eq]
        rfl
      · rw [sA_ne h9, e8, w1_ne h0, e7, w1_ne h9, e6, w1_ne h0, e5, w1_ne h9, e4, w1_ne h0, e3, w1_ne h9, e2, w1_ne h0, e1, w1_ne h9]
  rw [e]; exact hK
theorem X4_append_sp {v : Int32} {M : Mem} {K : Mem → Prop} {n : Nat} (hn : M.1 42 3 = nI n) (h4 : n + 4 ≤ 900)
    (hK : K (sA (sA M 43 (put4 (M.1 43) n v)) 42 (upd (M.1 42) 3 (nI (n + 4))))) : f_X4_append v M K := by
  have hv : ∀ m, m < 900 → vp_in (nI m) 900 := fun m hm => (vp_nI (by omega) (by omega)).mpr hm
  have hc : ∀ m, m < 900 → (nI m).toNatClampNeg = m := fun m hm => nI_CL (by omega)
  have hl : ∀ m, m < 900 → ¬ ((900 : Int32) ≤ nI m) := fun m hm => by rw [l_900, nI_LE (by omega) (by omega)]; omega
  refine ⟨5, ?_⟩
  rw [L_X4_append_3]
  refine ⟨fun h => absurd h (by decide), fun _ => ⟨fun h => absurd h (by rw [hn]; exact hl n (by omega)), fun _ => ⟨by rw [hn]; exact hv n (by omega), ?_⟩⟩⟩
  intro M1 e1 M2 e2
  rw [hn, hc n (by omega), li 24, byt_u v 24 (by omega)] at e1
  have hn1 : M2.1 42 3 = nI (n + 1) := by rw [e2, w1_at, e1, w1_ne (by decide), hn, li, nI_add]
  rw [L_X4_append_3]
  refine ⟨fun h => absurd h (by decide), fun _ => ⟨fun h => absurd h (by rw [hn1]; exact hl _ (by omega)), fun _ => ⟨by rw [hn1]; exact hv _ (by omega), ?_⟩⟩⟩
  intro M3 e3 M4 e4
  rw [hn1, hc _ (by omega), show (24 : Int32) + (-8) = nI 16 from rfl, byt_u v 16 (by omega)] at e3
  have hn2 : M4.1 42 3 = nI (n + 2) := by rw [e4, w1_at, e3, w1_ne (by decide), hn1, li, nI_add]
  rw [L_X4_append_3]
  refine ⟨fun h => absurd h (by decide), fun _ => ⟨fun h => absurd h (by rw [hn2]; exact hl _ (by omega)), fun _ => ⟨by rw [hn2]; exact hv _ (by omega), ?_⟩⟩⟩
  intro M5 e5 M6 e6
  rw [hn2, hc _ (by omega), show (24 : Int32) + (-8) + (-8) = nI 8 from rfl, byt_u v 8 (by omega)] at e5
  have hn3 : M6.1 42 3 = nI (n + 3) := by rw [e6, w1_at, e5, w1_ne (by decide), hn2, li, nI_add]
  rw [L_X4_append_3]
  refine ⟨fun h => absurd h (by decide), fun _ => ⟨fun h => absurd h (by rw [hn3]; exact hl _ (by omega)), fun _ => ⟨by rw [hn3]; exact hv _ (by omega), ?_⟩⟩⟩
  intro M7 e7 M8 e8
  rw [hn3, hc _ (by omega), show (24 : Int32) + (-8) + (-8) + (-8) = nI 0 from rfl, byt_u v 0 (by omega)] at e7
  rw [L_X4_append_3]
  refine ⟨fun _ => ?_, fun h => absurd (by decide) h⟩
  have e : M8 = sA (sA M 43 (put4 (M.1 43) n v)) 42 (upd (M.1 42) 3 (nI (n + 4))) := by
    have e9 : M8.1 42 3 = nI (n + 4) := by rw [e8, w1_at, e7, w1_ne (by decide), hn3, li, nI_add]
    refine Prod.ext (funext fun b => funext fun j => ?_) (by rw [e8, w1_2, e7, w1_2, e6, w1_2, e5, w1_2, e4, w1_2, e3, w1_2, e2, w1_2, e1, w1_2]; rfl)
    by_cases h0 : b = 42
    · subst h0
      rw [sA_eq]
      by_cases hj : j = 3
      · subst hj; rw [e9, upd_at]
      · rw [upd_no hj, e8, w1_no hj, e7, w1_ne (by decide), e6, w1_no hj, e5, w1_ne (by decide), e4, w1_no hj, e3, w1_ne (by decide), e2, w1_no hj, e1, w1_ne (by decide)]
    · rw [sA_ne h0]
      by_cases h9 : b = 43
      · subst h9
        rw [sA_eq, e8, w1_ne (by decide), e7, w1_eq, e6, w1_ne (by decide), e5, w1_eq, e4, w1_ne (by decide), e3, w1_eq, e2, w1_ne (by decide), e1, w1_eq]
        rfl
      · rw [sA_ne h9, e8, w1_ne h0, e7, w1_ne h9, e6, w1_ne h0, e5, w1_ne h9, e4, w1_ne h0, e3, w1_ne h9, e2, w1_ne h0, e1, w1_ne h9]
  rw [e]; exact hK
