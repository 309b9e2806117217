/-! calls: siphons, siphon, isSiphon, greatest, unguarded, lost -/
abbrev cLw (n : NN) (w : Bool) : Nat := ctB (lsN n w) 1024
theorem cLw_le (n : NN) (w : Bool) : cLw n w ≤ 252 := lst_ct _ _ _
theorem enum_k {a : Int32} {A : Nat → Int32} {o k : Nat} {c : Nat → Bool} (h : enumOK a A o c 1024) (hk : k < ctB c 1024) : A (o + k) = nI (nthB c k) := by
  have s := nthB_sp hk
  have := h.2 _ s.1 s.2.1
  rw [s.2.2] at this
  exact this
noncomputable def aSph (z : ZS) (v : Int32) : Int32 := if v = 0 ∨ v = 1 then nI (cLw (zsN z) (wbv v)) else -1
theorem loC_ps {w : Bool} {M M' : Mem} (h : ∀ b, b < psC w ∨ psC w + 4 < b → M'.1 b = M.1 b) : loC M M' := fun b hb => h b (by have := psC_in w; omega)
theorem C_siphons {c : Nat} {v : Int32} {M : Mem} {z : ZS} {K : Int32 → Mem → Prop} (hc : c < 100000) (h : IvC c M z) (k : ∀ M', IvC c M' z → loC M M' → K (aSph z v) M') : f_X8_siphons v M K := by
  unfold f_X8_siphons
  refine X8_isOneOfTwo_sp ⟨fun q => ?_, fun q => ?_⟩
  · have q := of_decide_eq_false (b_of0 q)
    have := k M h (loC_rf M)
    unfold aSph at this
    rw [if_neg q] at this; exact this
  · have q := of_decide_eq_true (b_ofn q)
    refine X8_leastSets_sp hc (is01 q) h (fun M' a _ b lo => ⟨isX3_ps _, ?_⟩)
    have := k M' a (loC_ps lo)
    unfold aSph at this
    rw [if_pos q] at this
    rw [b.1]; exact this
theorem R_siphons {v : Int32} {M : Mem} {z : ZS} {K : Int32 → Mem → Prop} (h : IvR M z) (k : ∀ M', IvR M' z → hiC M M' → K (aSph z v) M') : f_X9_siphons v M K := by
  unfold f_X9_siphons
  intro M2 e2
  have h2 : IvR M2 z := by rw [e2]; exact IvR_0 h
  have g2 : hiC M M2 := by rw [e2]; exact hiC_w (by decide)
  refine in01_sp ⟨fun q => ?_, fun q => ?_⟩
  · have q := of_decide_eq_true (b_ofn q)
    refine lS_r h2 (fun M' a b lo => ?_)
    have k := k M' a (hiC_tr g2 lo)
    unfold aSph at k
    rw [if_pos q] at k
    have e : v = nI (bN (wbv v)) := by rw [← bI_N]; exact is01 q
    have b2 := bN_2 (wbv v)
    rw [gI, e, nI_CL (by omega), (b (wbv v)).2.1]
    exact ⟨(vp_nI (by omega) (by omega)).mpr b2, k⟩
  · have q := of_decide_eq_false (b_of0 q)
    have := k M2 h2 g2
    unfold aSph at this
    rw [if_neg q] at this; exact this
def isSn (n : NN) (v1 v2 : Int32) : Bool := decide (v1 = 0 ∨ v1 = 1) && decide (0 ≤ v2 ∧ v2 < nI (cLw n (wbv v1)))
theorem isSn_n {n : NN} {v1 v2 : Int32} (h : isSn n v1 v2 = true) : (v1 = 0 ∨ v1 = 1) ∧ (0 ≤ v2 ∧ v2 < nI (cLw n (wbv v1))) ∧ ∃ j, v2 = nI j ∧ j < cLw n (wbv v1) := by
  unfold isSn at h
  rw [Bool.and_eq_true] at h
  have a := of_decide_eq_true h.1
  have b := of_decide_eq_true h.2
  have c2 := cLw_le n (wbv v1)
  obtain ⟨j, j1, j2⟩ := nn_of (i_nlt.mpr b.1)
  refine ⟨a, b, j, j2, ?_⟩
  have := b.2
  rw [j2, nI_LT (by omega) (by omega)] at this
  exact this
theorem R_siphon {v1 v2 : Int32} {M : Mem} {z : ZS} {K : Int32 → Mem → Prop} (h : IvR M z) (k0 : isSn (zsN z) v1 v2 = false → ∀ M', IvR M' z → hiC M M' → M'.1 0 0 = 1 → K 0 M') (k1 : isSn (zsN z) v1 v2 = true → ∀ M', IvR M' z → hiC M M' → M'.1 0 0 = 0 → K (nI (nthB (lsN (zsN z) (wbv v1)) v2.toNatClampNeg)) M') : f_X9_siphon v1 v2 M K := by
  unfold f_X9_siphon
  refine lS_r h (fun M' a b lo => in01_sp ?_)
  have fin : ∀ x : Bool, x = isSn (zsN z) v1 v2 → ∀ M3 : Mem, M3 = wI M' 0 0 (if x then 0 else 1) → ((¬ (M3.1 0 0) = 0 → K (0 : Int32) M3) ∧ ((M3.1 0 0) = 0 → vp_in (((260 : Int32) * v1) + v2) 520 ∧ K (gI M3 16 (((260 : Int32) * v1) + v2)) M3)) := fun x ex M3 e3 => by
    have a3 : IvR M3 z := by rw [e3]; exact IvR_0 a
    have l3 : hiC M M3 := hiC_tr lo (by rw [e3]; exact hiC_w (by decide))
    cases x
    · have e : M3.1 0 0 = 1 := by rw [e3, w1_at]; rfl
      rw [e]
      exact ⟨fun _ => k0 ex.symm M3 a3 l3 e, fun y => absurd y (by decide)⟩
    · have e : M3.1 0 0 = 0 := by rw [e3, w1_at]; rfl
      rw [e]
      obtain ⟨q1, q2, j, q3, q4⟩ := isSn_n ex.symm
      have c2 := cLw_le (zsN z) (wbv v1)
      have b2 := bN_2 (wbv v1)
      have k := k1 ex.symm M3 a3 l3 e
      refine ⟨fun y => absurd rfl y, fun _ => ?_⟩
      rw [q3, nI_CL (by omega)] at k
      rw [q3, ix260 q1, gI, nI_CL (by omega), e3, w1_ne (by decide), enum_k (b (wbv v1)).2 q4]
      rw [← e3]
      exact ⟨(vp_nI (by omega) (by omega)).mpr (by omega), k⟩
  unfold S_X9_siphon_11
  refine ⟨fun q => ?_, fun q => ?_⟩
  · have q := of_decide_eq_false (b_of0 q)
    exact fin false (by unfold isSn; rw [decide_eq_false q, Bool.false_and])
  · have q := of_decide_eq_true (b_ofn q)
    have e : v1 = nI (bN (wbv v1)) := by rw [← bI_N]; exact is01 q
    have b2 := bN_2 (wbv v1)
    have c2 := cLw_le (zsN z) (wbv v1)
    have g : gI M' 18 v1 = nI (cLw (zsN z) (wbv v1)) := by rw [gI]; rw [show v1.toNatClampNeg = bN (wbv v1) by rw [e, nI_CL (by omega)]; rw [← e]]; exact (b (wbv v1)).2.1
    rw [g]
    refine ⟨by rw [e]; exact (vp_nI (by omega) (by omega)).mpr b2, X9_in_sp ?_⟩
    rw [show decide (0 ≤ v2 ∧ v2 ≤ nI (cLw (zsN z) (wbv v1)) - 1) = decide (0 ≤ v2 ∧ v2 < nI (cLw (zsN z) (wbv v1))) from decide_eq_decide.mpr (by rw [le_m1 (by omega)])]
    have ei : isSn (zsN z) v1 v2 = decide (0 ≤ v2 ∧ v2 < nI (cLw (zsN z) (wbv v1))) := by unfold isSn; rw [decide_eq_true q, Bool.true_and]
    refine ⟨fun y => ?_, fun y => ?_⟩
    · exact fin false (by rw [ei]; exact (b_of0 y).symm)
    · exact fin true (by rw [ei]; exact (b_ofn y).symm)
/- isSiphon -/
theorem in_P {v : Int32} {P : Nat} (hP : P < 1024) (h : v &&& (nI P ^^^ (-1)) = 0) : ∃ m, m < 1024 ∧ v = nI m := by
  refine ⟨v.toBitVec.toNat &&& P, Nat.lt_of_le_of_lt Nat.and_le_right hP, gb_ext fun i hi => ?_⟩
  rw [gb_nI hi, Nat.testBit_and]
  have a : gb (v &&& (nI P ^^^ (-1))) i = false := by rw [h, gb_0]
  rw [gb_and, gb_xor, gb_nI hi, gb_m1 hi, Bool.xor_true] at a
  show gb v i = (gb v i && P.testBit i)
  cases q : gb v i
  · rfl
  · rw [q, Bool.true_and] at a
    cases r : P.testBit i
    · rw [r] at a; cases a
    · rfl
def aIsS (z : ZS) (v1 v2 : Int32) : Int32 := if v1 = 0 ∨ v1 = 1 then (if v2 = 0 then 0 else if v2 &&& (nI (nP (zsN z)) ^^^ (-1)) = 0 then bI (cl (akN (zsN z) (wbv v1)) (akN (zsN z) (!wbv v1)) v2.toNatClampNeg) else 0) else -1
theorem C_isSiphon {c : Nat} {v1 v2 : Int32} {M : Mem} {z : ZS} {K : Int32 → Mem → Prop} (hc : c < 100000) (h : IvC c M z) (k : ∀ M', IvC c M' z → loC M M' → K (aIsS z v1 v2) M') : f_X8_isSiphon v1 v2 M K := by
  have hn := IvC_w h
  unfold f_X8_isSiphon
  unfold aIsS at k
  refine X8_isOneOfTwo_sp ⟨fun q => ?_, fun q => ?_⟩
  · have q := of_decide_eq_true (b_ofn q)
    rw [if_pos q] at k
    rw [ac_P hn]
    refine ⟨fun y => ?_, fun y => ⟨fun y2 => ?_, fun y2 => ?_⟩⟩
    · rw [if_pos y] at k; exact k M h (loC_rf M)
    · rw [if_neg y, if_pos y2] at k
      obtain ⟨m, m1, m2⟩ := in_P (wf_P hn.2.2.2) y2
      rw [m2, nI_CL (by omega)] at k
      refine X8_placeSets_sp hc (is01 q) h (fun M' a b lo => ⟨isX3_ps _, ?_⟩)
      rw [m2]
      exact X3_isClosed_sp b.1 b.2 (X8_oneIf_sp (k M' a (loC_ps lo)))
    · rw [if_neg y, if_neg y2] at k; exact k M h (loC_rf M)
  · have q := of_decide_eq_false (b_of0 q)
    rw [if_neg q] at k; exact k M h (loC_rf M)
theorem R_isSiphon {v1 v2 : Int32} {M : Mem} {z : ZS} {K : Int32 → Mem → Prop} (h : IvR M z) (k : ∀ M', IvR M' z → hiC M M' → K (aIsS z v1 v2) M') : f_X9_isSiphon v1 v2 M K := by
  unfold f_X9_isSiphon
  intro M2 e2
  have h2 : IvR M2 z := by rw [e2]; exact IvR_0 h
  have g2 : hiC M M2 := by rw [e2]; exact hiC_w (by decide)
  obtain ⟨hn, w⟩ := h2.2.2.1
  have k := k M2 h2 g2
  unfold aIsS at k
  have gP : gI M2 4 (0 : Int32) = nI (nP (zsN z)) := rt_P hn
  refine in01_sp ⟨fun q => ?_, fun q => ?_⟩
  · have q := of_decide_eq_true (b_ofn q)
    rw [if_pos q] at k
    rw [gP]
    refine ⟨fun y => ?_, fun y => ⟨fun y2 => ?_, fun y2 => ?_⟩⟩
    · rw [if_pos y] at k; exact k
    · rw [if_neg y, if_neg y2] at k; exact k
    · rw [if_neg y, if_pos y2] at k
      obtain ⟨m, m1, m2⟩ := in_P (wf_P w) y2
      rw [m2, nI_CL (by omega)] at k
      have e := is01 q
      generalize wbv v1 = b at k e
      rw [m2, e]
      refine X9_isClosed_sp ?_
      rw [cl_cg (fun s hs => rA_akN hn w b hs) (fun s hs => rA_akN hn w (!b) hs)]
      refine ⟨fun y => ?_, fun y => ?_⟩
      · rw [b_of0 y] at k; exact k
      · rw [b_ofn y] at k; exact k
  · have q := of_decide_eq_false (b_of0 q)
    rw [if_neg q] at k; exact k
/- greatest -/
noncomputable def grS (n : NN) (w : Bool) (m : Nat) : Nat := @Classical.epsilon _ ⟨0⟩ (isGr (akN n w) (akN n (!w)) m)
theorem grS_of {n : NN} {w : Bool} {m r : Nat} (h : isGr (akN n w) (akN n (!w)) m r) : r = grS n w m := by
  have g : isGr (akN n w) (akN n (!w)) m (grS n w m) := Classical.epsilon_spec (p := isGr (akN n w) (akN n (!w)) m) ⟨r, h⟩
  exact sub_as (g.2.2 r h.1 h.2.1) (h.2.2 _ g.1 g.2.1)
theorem isGr_cg {a a' b b' : Nat → Nat} {m r : Nat} (ha : ∀ s, s < 8 → a s = a' s) (hb : ∀ s, s < 8 → b s = b' s) (h : isGr a b m r) : isGr a' b' m r := by
  unfold isGr at *
  have e : cl a b = cl a' b' := funext fun m => cl_cg ha hb m
  rw [← e]; exact h
theorem and_P (v : Int32) {P : Nat} (hP : P < 1024) : ∃ m, m < 1024 ∧ v &&& nI P = nI m := by
  obtain ⟨m, hm⟩ := x_nI v
  exact ⟨m &&& P, Nat.lt_of_le_of_lt Nat.and_le_right hP, by rw [hm, nI_and]⟩
noncomputable def aGrt (z : ZS) (v1 v2 : Int32) : Int32 := if v1 = 0 ∨ v1 = 1 then nI (grS (zsN z) (wbv v1) (v2 &&& nI (nP (zsN z))).toNatClampNeg) else -1
theorem C_greatest {c : Nat} {v1 v2 : Int32} {M : Mem} {z : ZS} {K : Int32 → Mem → Prop} (hc : c < 100000) (h : IvC c M z) (k : ∀ M', IvC c M' z → loC M M' → K (aGrt z v1 v2) M') : f_X8_greatest v1 v2 M K := by
  unfold f_X8_greatest
  unfold aGrt at k
  refine X8_isOneOfTwo_sp ⟨fun q => ?_, fun q => ?_⟩
  · have q := of_decide_eq_false (b_of0 q)
    rw [if_neg q] at k; exact k M h (loC_rf M)
  · have q := of_decide_eq_true (b_ofn q)
    rw [if_pos q] at k
    refine X8_placeSets_sp hc (is01 q) h (fun M' a b lo => ⟨isX3_ps _, ?_⟩)
    have hn := IvC_w a
    have k := k M' a (loC_ps lo)
    rw [ac_P hn]
    obtain ⟨m, m1, m2⟩ := and_P v2 (wf_P hn.2.2.2)
    rw [m2, nI_CL (by omega)] at k
    rw [m2]
    exact X3_largestWithin_sp b.1 b.2 m1 (fun r hr => by rw [grS_of hr]; exact k)
theorem R_greatest {v1 v2 : Int32} {M : Mem} {z : ZS} {K : Int32 → Mem → Prop} (h : IvR M z) (k : ∀ M', IvR M' z → hiC M M' → K (aGrt z v1 v2) M') : f_X9_greatest v1 v2 M K := by
  unfold f_X9_greatest
  intro M2 e2
  have h2 : IvR M2 z := by rw [e2]; exact IvR_0 h
  have g2 : hiC M M2 := by rw [e2]; exact hiC_w (by decide)
  obtain ⟨hn, w⟩ := h2.2.2.1
  have k := k M2 h2 g2
  unfold aGrt at k
  refine in01_sp ⟨fun q => ?_, fun q => ?_⟩
  · have q := of_decide_eq_false (b_of0 q)
    rw [if_neg q] at k; exact k
  · have q := of_decide_eq_true (b_ofn q)
    rw [if_pos q] at k
    obtain ⟨m, m1, m2⟩ := and_P v2 (wf_P w)
    rw [m2, nI_CL (by omega)] at k
    have e := is01 q
    generalize wbv v1 = b at k e
    rw [e]
    exact X9_within_sp m1 (by rw [rt_P hn]; exact m2) (fun r hr => by rw [grS_of (isGr_cg (fun s hs => rA_akN hn w b hs) (fun s hs => rA_akN hn w (!b) hs) hr)]; exact k)
/- places with tokens -/
def mkN (n : NN) : Nat := mN (fun p => decide (¬ nH n p = 0)) 10
theorem mkN_lt (n : NN) : mkN n < 1024 := mN_lt _ 10
theorem mN_out {c : Nat → Bool} {m : Nat} : ∀ {n : Nat}, m ≤ n → (∀ j, m ≤ j → j < n → c j = false) → mN c n = mN c m
  | 0, h, _ => by rw [show m = 0 by omega]
  | n + 1, h, hc => by
    rcases Nat.lt_or_ge n m with q | q
    · rw [show m = n + 1 by omega]
    · rw [mN, hc n q (by omega), mN_out q (fun j a b => hc j a (by omega))]
      exact Nat.or_zero _
theorem marked_sp {n : NN} {tp ts : Nat} {M : Mem} {K : Int32 → Mem → Prop} (hn : atC M 50 n tp ts) (k : K (nI (mkN n)) M) : f_X1_markedPlaces 50 M K := by
  have w := hn.2.2.2
  have e : mkN n = mN (fun p => decide (¬ nH n p = 0)) tp := mN_out w.1 (fun j a b => decide_eq_false (fun y => y (wf_H0 w a)))
  rw [e] at k
  have t10 := w.1
  refine upT (fun m j => L_X1_markedPlaces_4 50 (fun (v1_2 : Int32) (M_2 : Mem) => K v1_2 M_2) K m (nI (mN (fun p => decide (¬ nH n p = 0)) j)) (nI j) M) 0 tp (Nat.zero_le _) (fun m => ?_) (fun j _ hj m ih => ?_)
  · rw [L_X1_markedPlaces_4, hn.2.1, nI_LE (by omega) (by omega)]
    exact ⟨fun _ => k, fun y => absurd (Nat.le_refl _) y⟩
  · have hh := wf_H w j
    rw [mN_s] at ih
    rw [L_X1_markedPlaces_4, hn.2.1, nI_LE (by omega) (by omega), gI, nI_CL (by omega), ac_H hn (by omega), nI_L0 (by omega), nI_A1, shl_nI (by omega), nI_or]
    refine ⟨by omega, fun _ => ⟨(vp_nI (by omega) (by omega)).mpr (by omega), fun q => ?_, fun q x e => ?_⟩⟩
    · rw [if_neg (by rw [decide_eq_true_eq]; exact fun y => y q)] at ih; exact ih
    · rw [if_pos (decide_eq_true q)] at ih; rw [e]; exact ih
theorem filled_sp {n : NN} {tp ts : Nat} {M : Mem} {K : Int32 → Mem → Prop} (hn : rt M 0 = enc n) (w : WF n tp ts) (k : K (nI (mkN n)) M) : f_X9_filled M K := by
  refine upT (fun m j => L_X9_filled_4 (fun (v1_2 : Int32) (M_2 : Mem) => K v1_2 M_2) K m (nI (mN (fun p => decide (¬ nH n p = 0)) j)) (nI j) M) 0 10 (Nat.zero_le _) (fun m => ?_) (fun j _ hj m ih => ?_)
  · rw [L_X9_filled_4, l_10, nI_LE (by omega) (by omega)]
    exact ⟨fun _ => k, fun y => absurd (Nat.le_refl _) y⟩
  · have hh := wf_H w j
    rw [mN_s] at ih
    rw [L_X9_filled_4, l_10, nI_LE (by omega) (by omega), gI, nI_CL (by omega), rt0_H hn j hj, nI_L0 (by omega), nI_A1, shl_nI (by omega), nI_or, or0]
    refine ⟨by omega, fun _ => ⟨(vp_nI (by omega) (by omega)).mpr (by omega), fun q x e => ?_, fun q x e => ?_⟩⟩
    · rw [if_neg (by rw [decide_eq_true_eq]; exact fun y => y q)] at ih; rw [e]; exact ih
    · rw [if_pos (decide_eq_true q)] at ih; rw [e]; exact ih
/- unguarded -/
noncomputable def ugF (n : NN) (v : Int32) : Nat → Int32 → Nat → Int32
  | 0, f, _ => if v = -1 then f else -1
  | d + 1, f, i => if grS n true (nthB (lsN n false) i) &&& mkN n = 0 then (if f = v then nI (nthB (lsN n false) i) else ugF n v d (f + 1) (i + 1)) else ugF n v d f (i + 1)
theorem and_mk (n : NN) (r : Nat) : r &&& mkN n < 1024 := Nat.lt_of_le_of_lt Nat.and_le_right (mkN_lt n)
theorem C_unguarded {c : Nat} {v : Int32} {M : Mem} {z : ZS} {K : Int32 → Mem → Prop} (hc : c < 100000) (h : IvC c M z) (k : ∀ M', IvC c M' z → loC M M' → K (ugF (zsN z) v (cLw (zsN z) false) 0 0) M') : f_X8_unguarded v M K := by
  unfold f_X8_unguarded
  refine X8_leastSets_sp (w := false) hc rfl h (fun M2 a2 b2 d2 lo2 => ⟨isX3_ps _, ?_⟩)
  refine X8_placeSets_sp (w := true) hc rfl a2 (fun M3 a3 b3 lo3 => ⟨isX3_ps _, ?_⟩)
  refine marked_sp (IvC_w a3) ?_
  have k := k M3 a3 (loC_tr (loC_ps lo2) (loC_ps lo3))
  have d3 : enumOK (M3.1 (psC false) 5) (M3.1 (psC false + 3)) 0 (lsN (zsN z) false) 1024 := by
    rw [lo3 (psC false) (Or.inl (by decide)), lo3 (psC false + 3) (Or.inl (by decide))]; exact d2
  have c2 := cLw_le (zsN z) false
  have d31 : M3.1 (psC false) 5 = nI (cLw (zsN z) false) := d3.1
  have key : ∀ d i, i + d = cLw (zsN z) false → ∀ f, K (ugF (zsN z) v d f i) M3 → L_X8_unguarded_27 v (psC false) (psC true) (nI (mkN (zsN z))) (fun (v5_2 : Int32) (M_6 : Mem) => ((¬ v = (-1 : Int32) → K (-1 : Int32) M_6) ∧ (v = (-1 : Int32) → K v5_2 M_6))) K (d + 1) f (nI i) M3 := by
    intro d
    induction d with
    | zero =>
      intro i hi f kf
      rw [ugF] at kf
      rw [L_X8_unguarded_27, d31, nI_LE (by omega) (by omega)]
      refine ⟨fun _ => ⟨fun y => ?_, fun y => ?_⟩, by omega⟩
      · rw [if_neg y] at kf; exact kf
      · rw [if_pos y] at kf; exact kf
    | succ d ih =>
      intro i hi f kf
      have ek := enum_k d3 (show i < cLw (zsN z) false by omega)
      rw [Nat.zero_add] at ek
      have s := nthB_sp (show i < cLw (zsN z) false by omega)
      rw [ugF] at kf
      rw [L_X8_unguarded_27, d31, nI_LE (by omega) (by omega), gI, nI_CL (by omega), ek, nI_A1]
      refine ⟨by omega, fun _ => ⟨(vp_nI (by omega) (by omega)).mpr (by omega), X3_largestWithin_sp b3.1 b3.2 s.1 (fun r hr => ?_)⟩⟩
      have er := grS_of (n := zsN z) (w := true) hr
      have am := and_mk (zsN z) r
      rw [nI_and, nI_Z (by omega)]
      rw [← er] at kf
      refine ⟨fun q => ⟨fun y => ?_, fun y => ?_⟩, fun q => ?_⟩
      · rw [if_pos q, if_neg y] at kf; exact ih (i + 1) (by omega) _ kf
      · rw [if_pos q, if_pos y] at kf
        rw [gI, nI_CL (by omega), ek]; exact kf
      · rw [if_neg q] at kf; exact ih (i + 1) (by omega) _ kf
  exact ⟨_, key (cLw (zsN z) false) 0 (Nat.zero_add _) 0 k⟩
theorem R_unguarded {v : Int32} {M : Mem} {z : ZS} {K : Int32 → Mem → Prop} (h : IvR M z) (k : ∀ M', IvR M' z → hiC M M' → K (ugF (zsN z) v (cLw (zsN z) false) 0 0) M') : f_X9_unguarded v M K := by
  unfold f_X9_unguarded
  intro M2 e2
  have h2 : IvR M2 z := by rw [e2]; exact IvR_0 h
  have g2 : hiC M M2 := by rw [e2]; exact hiC_w (by decide)
  refine lS_r h2 (fun M3 a b lo => ?_)
  have k := k M3 a (hiC_tr g2 lo)
  obtain ⟨hn, w⟩ := a.2.2.1
  have c2 := cLw_le (zsN z) false
  have g : gI M3 18 (0 : Int32) = nI (cLw (zsN z) false) := (b false).2.1
  have key : ∀ d i, i + d = cLw (zsN z) false → ∀ f, K (ugF (zsN z) v d f i) M3 → L_X9_unguarded_13 v (fun (v2_2 : Int32) (M_6 : Mem) => ((¬ v = (-1 : Int32) → K (-1 : Int32) M_6) ∧ (v = (-1 : Int32) → K v2_2 M_6))) K (d + 1) f (nI i) M3 := by
    intro d
    induction d with
    | zero =>
      intro i hi f kf
      rw [ugF] at kf
      rw [L_X9_unguarded_13, g, nI_LE (by omega) (by omega)]
      refine ⟨fun _ => ⟨fun y => ?_, fun y => ?_⟩, by omega⟩
      · rw [if_neg y] at kf; exact kf
      · rw [if_pos y] at kf; exact kf
    | succ d ih =>
      intro i hi f kf
      have ek := enum_k (b false).2 (show i < cLw (zsN z) false by omega)
      rw [show 260 * bN false + i = i from Nat.zero_add _] at ek
      have s := nthB_sp (show i < cLw (zsN z) false by omega)
      have sP := ((lst_iff s.1).mp s.2.1).2.1
      rw [ugF] at kf
      rw [L_X9_unguarded_13, g, nI_LE (by omega) (by omega), gI, nI_CL (by omega), ek, nI_A1]
      refine ⟨by omega, fun _ => ⟨(vp_nI (by omega) (by omega)).mpr (by omega), X9_within_sp (b := true) s.1 (by rw [rt_P hn, nI_and, of_decide_eq_true sP]) (fun r hr => filled_sp hn w ?_)⟩⟩
      have er := grS_of (n := zsN z) (w := true) (isGr_cg (fun s hs => rA_akN hn w true hs) (fun s hs => rA_akN hn w (!true) hs) hr)
      have am := and_mk (zsN z) r
      rw [nI_and, nI_Z (by omega)]
      rw [← er] at kf
      refine ⟨fun q => ⟨fun y => ?_, fun y => ?_⟩, fun q => ?_⟩
      · rw [if_pos q, if_neg y] at kf; exact ih (i + 1) (by omega) _ kf
      · rw [if_pos q, if_pos y] at kf
        rw [gI, nI_CL (by omega), ek]; exact kf
      · rw [if_neg q] at kf; exact ih (i + 1) (by omega) _ kf
  exact ⟨_, key (cLw (zsN z) false) 0 (Nat.zero_add _) 0 k⟩
/- lost -/
noncomputable def nvN (n : NN) : Nat := grS n false (dif (nP n) (mkN n))
noncomputable def loN (n : NN) : Nat := mN (fun s => decide (¬ akN n true s &&& nvN n = 0)) 8
theorem ak_0 {n : NN} {tp ts : Nat} (w : WF n tp ts) {s : Nat} (h : ts ≤ s) (b : Bool) : akN n b s = 0 := by
  unfold akN
  refine Nat.eq_of_testBit_eq fun i => ?_
  rw [mN_tb, Nat.zero_testBit]
  by_cases q : i < 10
  · rw [decide_eq_true q, Bool.true_and]
    refine decide_eq_false (fun y => y ?_)
    cases b
    · exact wf_G0s w q h
    · exact wf_T0s w q h
  · rw [decide_eq_false q, Bool.false_and]
theorem C_lost {c : Nat} {M : Mem} {z : ZS} {K : Int32 → Mem → Prop} (hc : c < 100000) (h : IvC c M z) (k : ∀ M', IvC c M' z → loC M M' → K (nI (loN (zsN z))) M') : f_X8_lost M K := by
  have hn0 := IvC_w h
  unfold f_X8_lost
  refine marked_sp hn0 (fun x1 e1 => ?_)
  rw [ac_P hn0, nI_dif] at e1
  refine X8_placeSets_sp (w := false) hc rfl h (fun M3 a b lo => ⟨isX3_ps _, ?_⟩)
  have k := k M3 a (loC_ps lo)
  have hn := IvC_w a
  have w := hn.2.2.2
  have wP := wf_P w
  have dl := dif_le (nP (zsN z)) (mkN (zsN z))
  rw [e1]
  refine X3_largestWithin_sp b.1 b.2 (by omega) (fun r hr => ?_)
  have er : r = nvN (zsN z) := grS_of (n := zsN z) (w := false) hr
  have e : loN (zsN z) = mN (fun s => decide (¬ akN (zsN z) true s &&& r = 0)) (zs3 z).2.2 := by
    unfold loN
    rw [← er]
    exact mN_out w.2.1 (fun j p1 p2 => decide_eq_false (fun y => y (by rw [ak_0 w p1, Nat.zero_and])))
  rw [e] at k
  have t8 := w.2.1
  refine upT (fun m j => L_X8_lost_33 (nI r) (fun (v3_2 : Int32) (M_6 : Mem) => K v3_2 M_6) K m (nI (mN (fun s => decide (¬ akN (zsN z) true s &&& r = 0)) j)) (nI j) M3) 0 (zs3 z).2.2 (Nat.zero_le _) (fun m => ?_) (fun j _ hj m ih => ?_)
  · rw [L_X8_lost_33, hn.2.2.1, nI_LE (by omega) (by omega)]
    exact ⟨fun _ => k, fun y => absurd (Nat.le_refl _) y⟩
  · rw [mN_s] at ih
    have al := akN_lt (zsN z) true j
    have al2 : akN (zsN z) true j &&& r ≤ akN (zsN z) true j := Nat.and_le_left
    rw [L_X8_lost_33, hn.2.2.1, nI_LE (by omega) (by omega)]
    refine ⟨by omega, fun _ => ak_takes hn rfl (by omega) ?_⟩
    rw [nI_and, nI_Z (by omega), nI_A1, shl_nI (by omega), nI_or]
    refine ⟨fun q => ?_, fun q x e => ?_⟩
    · rw [if_neg (by rw [decide_eq_true_eq]; exact fun y => y q)] at ih; exact ih
    · rw [if_pos (decide_eq_true q)] at ih; rw [e]; exact ih
theorem R_lost {M : Mem} {z : ZS} {K : Int32 → Mem → Prop} (h : IvR M z) (k : ∀ M', IvR M' z → hiC M M' → K (nI (loN (zsN z))) M') : f_X9_lost M K := by
  unfold f_X9_lost
  intro M2 e2
  have h2 : IvR M2 z := by rw [e2]; exact IvR_0 h
  have g2 : hiC M M2 := by rw [e2]; exact hiC_w (by decide)
  have k := k M2 h2 g2
  obtain ⟨hn, w⟩ := h2.2.2.1
  have wP := wf_P w
  have dl := dif_le (nP (zsN z)) (mkN (zsN z))
  refine filled_sp hn w (X9_within_sp (b := false) (m := dif (nP (zsN z)) (mkN (zsN z))) (by omega) (by rw [rt_P hn, ← nI_dif, Int32.and_comm]) (fun r hr => ?_))
  have er : r = nvN (zsN z) := grS_of (n := zsN z) (w := false) (isGr_cg (fun s hs => rA_akN hn w false hs) (fun s hs => rA_akN hn w (!false) hs) hr)
  unfold loN at k
  rw [← er] at k
  refine upT (fun m j => L_X9_lost_21 (nI r) (fun (v3_2 : Int32) (M_6 : Mem) => K v3_2 M_6) K m (nI (mN (fun s => decide (¬ akN (zsN z) true s &&& r = 0)) j)) (nI j) M2) 0 8 (Nat.zero_le _) (fun m => ?_) (fun j _ hj m ih => ?_)
  · rw [L_X9_lost_21, l_8, nI_LE (by omega) (by omega)]
    exact ⟨fun _ => k, fun y => absurd (Nat.le_refl _) y⟩
  · rw [mN_s] at ih
    have al := akN_lt (zsN z) true j
    have al2 : akN (zsN z) true j &&& r ≤ akN (zsN z) true j := Nat.and_le_left
    rw [L_X9_lost_21, l_8, nI_LE (by omega) (by omega)]
    refine ⟨by omega, fun _ => X9_placesOf_sp (b := true) hj ?_⟩
    rw [show aks (M2.1 (if true = true then 1 else 2)) j = akN (zsN z) true j from rA_akN hn w true hj, nI_and, nI_Z (by omega), nI_A1, shl_nI (by omega), nI_or, or0]
    refine ⟨fun q x e => ?_, fun q x e => ?_⟩
    · rw [if_neg (by rw [decide_eq_true_eq]; exact fun y => y q)] at ih; rw [e]; exact ih
    · rw [if_pos (decide_eq_true q)] at ih; rw [e]; exact ih
