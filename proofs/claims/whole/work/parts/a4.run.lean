/-! calls: run -/
theorem ush16 (x : Int32) : ∃ u, u < 65536 ∧ ushr x 16 = nI u := by
  refine ⟨x.toBitVec.toNat >>> 16, ?_, gb_ext fun i hi => ?_⟩
  · have := x.toBitVec.isLt
    rw [Nat.shiftRight_eq_div_pow]
    omega
  · rw [gb_nI hi, Nat.testBit_shiftRight]
    have eu : (((16 : Int32).toUInt32 &&& Int32.toUInt32 31).toBitVec % 32).toNat = 16 := by decide
    show (x.toBitVec >>> (((16 : Int32).toUInt32 &&& Int32.toUInt32 31).toBitVec % 32)).getLsbD i = x.toBitVec.toNat.testBit (16 + i)
    rw [BitVec.ushiftRight_eq', BitVec.getLsbD_ushiftRight, eu]
    rfl
theorem pop_0 {A : Nat} (h : A < 1024) : pop A = 0 ↔ A = 0 := by
  constructor
  · intro e
    refine Nat.eq_of_testBit_eq fun i => ?_
    rw [Nat.zero_testBit]
    cases q : A.testBit i
    · rfl
    · have i10 : i < 10 := tb_lt (k := 10) h q
      have := ctB_lt (c := fun i => A.testBit i) i10 q
      unfold pop at e
      omega
  · intro e
    rw [e]; decide
noncomputable def ktB (A k : Nat) : Nat := @Classical.epsilon _ ⟨0⟩ (fun j => j < 10 ∧ A.testBit j = true ∧ ctB (fun i => A.testBit i) j = k)
theorem ktB_sp {A k : Nat} (h : k < pop A) : ktB A k < 10 ∧ A.testBit (ktB A k) = true ∧ ctB (fun i => A.testBit i) (ktB A k) = k := by
  obtain ⟨m, hm⟩ := ctB_kth (c := fun i => A.testBit i) (n := 10) h
  exact Classical.epsilon_spec (p := fun j => j < 10 ∧ A.testBit j = true ∧ ctB (fun i => A.testBit i) j = k) ⟨m, hm⟩
noncomputable abbrev alN (n : NN) : Nat := mN (can n (nH n)) 8
theorem alN_lt (n : NN) : alN n < 256 := mN_lt _ 8
theorem alN_c {n : NN} {j : Nat} (h : (alN n).testBit j = true) : j < 8 ∧ can n (nH n) j = true := by
  rw [mN_tb, Bool.and_eq_true] at h
  exact ⟨of_decide_eq_true h.1, h.2⟩
def drw (v : Int32) : Int32 := v * 1103515245 + 12345
noncomputable def pkN (n : NN) (v : Int32) : Nat := ktB (alN n) (irem (ushr (drw v) 16) (nI (pop (alN n)))).toNatClampNeg
noncomputable def rnF : Nat → Int32 → NN → Nat → NN × Nat
  | 0, _, n, d => (n, d)
  | r + 1, v, n, d => if alN n = 0 then (n, d) else rnF r (drw v) (fiN n (pkN n v)) (d + 1)
theorem pk_k {n : NN} {v : Int32} (h : ¬ alN n = 0) : ∃ k, k < pop (alN n) ∧ irem (ushr (drw v) 16) (nI (pop (alN n))) = nI k ∧ pkN n v = ktB (alN n) k := by
  obtain ⟨u, u1, u2⟩ := ush16 (drw v)
  have al := alN_lt n
  have p0 : pop (alN n) ≠ 0 := fun e => h ((pop_0 (by omega)).mp e)
  have pl := pop_le (alN n)
  have e : irem (ushr (drw v) 16) (nI (pop (alN n))) = nI (u % pop (alN n)) := by rw [u2, irem_n (by omega) (by omega) (by omega)]
  have lt : u % pop (alN n) < pop (alN n) := Nat.mod_lt _ (by omega)
  refine ⟨u % pop (alN n), lt, e, ?_⟩
  unfold pkN
  rw [e, nI_CL (by omega)]
theorem pk_c {n : NN} {v : Int32} (h : ¬ alN n = 0) : pkN n v < 8 ∧ can n (nH n) (pkN n v) = true := by
  obtain ⟨k, k1, k2, k3⟩ := pk_k (v := v) h
  rw [k3]
  exact alN_c (ktB_sp k1).2.1
theorem rn_ar : ∀ (r : Nat) (v : Int32) (n : NN) (d : Nat), arN (rnF r v n d).1 = arN n
  | 0, _, _, _ => rfl
  | r + 1, v, n, d => by
    rw [rnF]
    split
    · rfl
    · rw [rn_ar r]; rfl
theorem rn_d : ∀ (r : Nat) (v : Int32) (n : NN) (d : Nat), (rnF r v n d).2 ≤ d + r
  | 0, _, _, _ => Nat.le_refl _
  | r + 1, v, n, d => by
    rw [rnF]
    split
    · exact Nat.le_add_right _ _
    · have := rn_d r (drw v) (fiN n (pkN n v)) (d + 1)
      omega
theorem rn_c {N tp ts : Nat} {M0 : Mem} {X K : Int32 → Mem → Prop} (hN : N ≤ 200) : ∀ r d, d + r = N → ∀ (v : Int32) (n : NN) (M1 : Mem), (∀ b, b ≠ 53 → M1.1 b = M0.1 b) → atC M1 50 n tp ts → (∀ M', (∀ b, b ≠ 53 → M'.1 b = M0.1 b) → atC M' 50 (rnF r v n d).1 tp ts → X (nI (rnF r v n d).2) M') → L_X8_run_43 (nI N) X K (r + 1) v (nI d) (nI d) M1 := by
  intro r
  induction r with
  | zero =>
    intro d hd v n M1 f1 a1 h
    rw [L_X8_run_43, nI_LE (by omega) (by omega)]
    exact ⟨fun _ => h M1 f1 a1, by omega⟩
  | succ r ih =>
    intro d hd v n M1 f1 a1 h
    have w := a1.2.2.2
    have al := alN_lt n
    have pl := pop_le (alN n)
    rw [L_X8_run_43, nI_LE (by omega) (by omega)]
    refine ⟨by omega, fun _ => allowed_nn a1 (J6_bitCount_sp (show alN n < 1024 by omega) ?_)⟩
    rw [nI_Z (show pop (alN n) < 2147483648 by omega), pop_0 (show alN n < 1024 by omega)]
    rw [rnF] at h
    refine ⟨fun q x3 e3 => ⟨q, ?_⟩, fun q => ?_⟩
    · rw [if_neg q] at h
      have e3 : x3 = drw v := e3
      obtain ⟨k, k1, k2, k3⟩ := pk_k (v := v) q
      have kt := ktB_sp k1
      rw [e3, k2]
      refine X8_bitAt_sp (show alN n < 2147483648 by omega) (by omega) (fun j j1 j2 j3 => ?_) (fun y => absurd k1 (Nat.not_lt.mpr y))
      have ej : j = pkN n v := by
        rw [k3]
        exact ctB_inj (c := fun i => (alN n).testBit i) j2 kt.2.1 (by rw [j3, kt.2.2])
      have pc := pk_c (v := v) q
      rw [ej]
      have hS := wf_S w
      refine X1_move_sp (t := 50) (a := 53) (o1 := 0) (o2 := 0) (by rw [ac_S a1, isSt_bt pc.1, bt_nI (by omega) (by omega)]; exact (can_iff.mp pc.2).1) pc.1 (by decide) (by decide) (by decide) (by decide) (by decide) (Or.inl rfl) ?_
      have eM : ∀ b, b ≠ 53 → (sA M1 53 (mvF (M1.1 (50 + 1)) (M1.1 (50 + 2)) (M1.1 53) (pkN n v) 0 0 10)).1 b = M1.1 b := fun b hb => sA_ne hb
      have ha : atC (sA M1 53 (mvF (M1.1 (50 + 1)) (M1.1 (50 + 2)) (M1.1 53) (pkN n v) 0 0 10)) 50 (fiN n (pkN n v)) tp ts := atC_H a1 (fiN_wf w pc.1 pc.2) (fiN_ar _ _) eM (fun p hp => by rw [sA_eq]; exact mvF_fi (fun i hi => ac_T a1 hi) (fun i hi => ac_G a1 hi) (fun p hp => ac_H a1 hp) pc.1 pc.2 p hp)
      rw [nI_A1]
      exact ih (d + 1) (by omega) (drw v) _ _ (fun b hb => by rw [eM b hb, f1 b hb]) ha h
    · rw [if_pos q] at h
      exact h M1 f1 a1
def zRun (z : ZS) (n : NN) : ZS := zNt (zKp z) n
def rnB (z : ZS) (v : Int32) : Bool := decide (1 ≤ v ∧ v ≤ 200) && !decide (nS (zsN z) = 0)
theorem C_run {c : Nat} {v1 v2 : Int32} {M : Mem} {z : ZS} {K : Int32 → Mem → Prop} (h : IvC c M z) (k0 : rnB z v2 = false → K (-1) M) (k1 : rnB z v2 = true → ∀ M', IvC (c + 1) M' (zRun z (rnF v2.toNatClampNeg v1 (zsN z) 0).1) → loC M M' → K (nI (rnF v2.toNatClampNeg v1 (zsN z) 0).2) M') : f_X8_run v1 v2 M K := by
  have hn := IvC_w h
  have w := hn.2.2.2
  have hS := wf_S w
  obtain ⟨S, st, h⟩ := h
  unfold f_X8_run
  rw [ac_S hn, nI_Z (by omega)]
  refine ⟨fun y => k0 ?_, fun y => ⟨fun y2 => k0 ?_, fun y2 => ⟨fun y3 => ?_, fun y3 => k0 ?_⟩⟩⟩
  · unfold rnB
    rw [decide_eq_false (fun t => i_nle.mpr y t.1), Bool.false_and]
  · unfold rnB
    rw [decide_eq_false (fun t => i_nle.mpr y2 t.2), Bool.false_and]
  · have i1 : 1 ≤ v2 ∧ v2 ≤ 200 := by
      rw [i_lt, t_1] at y
      rw [i_lt, t_200] at y2
      rw [i_le, i_le, t_1, t_200]; omega
    have k := k1 (by unfold rnB; rw [decide_eq_true i1, decide_eq_false y3]; rfl)
    obtain ⟨N, n1, n2⟩ : ∃ N : Nat, N ≤ 200 ∧ v2 = nI N := by
      rw [i_le, i_le, t_1, t_200] at i1
      exact ⟨v2.toInt.toNat, by omega, cl_of (by omega)⟩
    rw [n2, nI_CL (by omega)] at k
    rw [n2]
    refine kp_c h (fun M3 a3 lo3 => ?_)
    have hn3 : atC M3 50 (zsN z) (zs3 z).2.1 (zs3 z).2.2 := IvC_w (z := zKp z) ⟨S, st, a3⟩
    refine ⟨N + 1, rn_c n1 N 0 (by omega) v1 (zsN z) M3 (fun _ _ => rfl) hn3 (fun M5 f5 a5 => ?_)⟩
    exact nS_c (z := zKp z) a3 f5 a5 (rn_ar _ _ _ _) (fun M6 a6 lo6 => k M6 a6 (fun b hb => by rw [lo6 b (by omega), lo3 b (by omega)]))
  · unfold rnB
    rw [decide_eq_true y3]
    exact Bool.and_false _
theorem r78_sp {v2 v3 v4 : Int32} {A k : Nat} {M : Mem} {X K : Int32 → Mem → Prop} (hA : A < 256) (hk : k < pop A) (h : X (nI (ktB A k)) M) : ∃ f, L_X9_run_78 v2 v3 v4 (nI A) X K f (nI k) 0 M := by
  have kt := ktB_sp hk
  have pl := pop_le A
  have key : ∀ d s, s + d = ktB A k → L_X9_run_78 v2 v3 v4 (nI A) X K (d + 1) (nI (k - ctB (fun i => A.testBit i) s)) (nI s) M := by
    intro d
    induction d with
    | zero =>
      intro s hs
      have hs : s = ktB A k := by omega
      have b : decide ((nI A >>> (nI s &&& 31)) &&& 1 = 1) = true := by
        have := bt_nI (n := A) (k := s) (by omega) (by omega)
        unfold bt at this
        rw [this, hs]; exact kt.2.1
      rw [L_X9_run_78]
      refine X9_isOf_sp ?_
      rw [b, hs, kt.2.2, Nat.sub_self]
      exact ⟨fun y => absurd y (by decide), fun _ => ⟨fun _ => h, fun y => absurd (by decide) y⟩⟩
    | succ d ih =>
      intro s hs
      have i' := ih (s + 1) (by omega)
      have b := bt_nI (n := A) (k := s) (by omega) (by omega)
      unfold bt at b
      rw [L_X9_run_78]
      refine X9_isOf_sp ?_
      rw [b]
      cases q : A.testBit s
      · rw [ctB_f (c := fun i => A.testBit i) q] at i'
        refine ⟨fun _ => X9_isOf_sp ?_, fun y => absurd rfl y⟩
        rw [b, q]
        refine ⟨fun _ x e => ?_, fun y => absurd rfl y⟩
        rw [e, l_0, nI_sb (Nat.zero_le _), Nat.sub_zero, nI_A1]; exact i'
      · have lt := ctB_lt (c := fun i => A.testBit i) (show s < ktB A k by omega) q
        rw [kt.2.2] at lt
        rw [ctB_t (c := fun i => A.testBit i) q] at i'
        refine ⟨fun y => absurd y (by decide), fun _ => ⟨fun y => ?_, fun y => X9_isOf_sp ?_⟩⟩
        · rw [nI_L0 (by omega)] at y; omega
        · rw [b, q]
          refine ⟨fun y => absurd y (by decide), fun _ x e => ?_⟩
          rw [e, l_1, nI_sb (by omega), nI_add, show k - ctB (fun i => A.testBit i) s - 1 = k - (ctB (fun i => A.testBit i) s + 1) by omega]
          exact i'
  exact ⟨_, key (ktB A k) 0 (Nat.zero_add _)⟩
theorem rn_r {N tp ts : Nat} {M0 : Mem} {X K : Int32 → Mem → Prop} (hN : N ≤ 200) : ∀ r d, d + r = N → ∀ (v : Int32) (n : NN) (M1 : Mem), (∀ b, b ≠ 3 → M1.1 b = M0.1 b) → M1.2 = M0.2 → rt M1 0 = enc n → WF n tp ts → (∀ M', (∀ b, b ≠ 3 → M'.1 b = M0.1 b) → M'.2 = M0.2 → rt M' 0 = enc (rnF r v n d).1 → WF (rnF r v n d).1 tp ts → X (nI (rnF r v n d).2) M') → L_X9_run_42 (nI N) X K (r + 1) v (nI d) (nI (alN n)) M1 := by
  intro r
  induction r with
  | zero =>
    intro d hd v n M1 f1 g1 a1 w h
    rw [L_X9_run_42, nI_LE (by omega) (by omega)]
    exact ⟨fun _ => h M1 f1 g1 a1 w, by omega⟩
  | succ r ih =>
    intro d hd v n M1 f1 g1 a1 w h
    have al := alN_lt n
    have pl := pop_le (alN n)
    rw [L_X9_run_42, nI_LE (by omega) (by omega), nI_Z (show alN n < 2147483648 by omega)]
    rw [rnF] at h
    refine ⟨by omega, fun _ => ⟨fun q => ?_, fun q x3 e3 => X9_many_sp (show alN n < 2147483648 by omega) ?_⟩⟩
    · rw [if_pos q] at h
      exact h M1 f1 g1 a1 w
    · rw [if_neg q] at h
      have e3 : x3 = drw v := e3
      obtain ⟨k, k1, k2, k3⟩ := pk_k (v := v) q
      have pc := pk_c (v := v) q
      refine ⟨by rw [nI_Z (show pop (alN n) < 2147483648 by omega), pop_0 (show alN n < 1024 by omega)]; exact q, fun x6 e6 => ?_⟩
      rw [e3, k2] at e6
      rw [e6]
      refine r78_sp al k1 ?_
      rw [← k3]
      refine X9_does_sp pc.1 ?_
      have eM : ∀ b, b ≠ 3 → (sA M1 3 (mvF (M1.1 1) (M1.1 2) (M1.1 3) (pkN n v) 0 0 10)).1 b = M1.1 b := fun b hb => sA_ne hb
      have wf' := fiN_wf w pc.1 pc.2
      have hr : rt (sA M1 3 (mvF (M1.1 1) (M1.1 2) (M1.1 3) (pkN n v) 0 0 10)) 0 = enc (fiN n (pkN n v)) := rt_Hs a1 wf' (fiN_ar _ _) eM (fun p hp => by
        rw [sA_eq]
        exact mvF_fi (fun i hi => by have := rt_T a1 hi; rw [Nat.mul_zero, Nat.zero_add] at this; exact this) (fun i hi => by have := rt_G a1 hi; rw [Nat.mul_zero, Nat.zero_add] at this; exact this) (rt0_H a1) pc.1 pc.2 p hp)
      refine allThat_nn hr wf' ?_
      rw [nI_A1, e3]
      exact ih (d + 1) (by omega) (drw v) _ _ (fun b hb => by rw [eM b hb, f1 b hb]) g1 hr wf' h
theorem R_run {v1 v2 : Int32} {M : Mem} {z : ZS} {K : Int32 → Mem → Prop} (h : IvR M z) (k0 : rnB z v2 = false → ∀ M', IvR M' z → hiC M M' → K (-1) M') (k1 : rnB z v2 = true → ∀ M', IvR M' (zRun z (rnF v2.toNatClampNeg v1 (zsN z) 0).1) → hiC M M' → K (nI (rnF v2.toNatClampNeg v1 (zsN z) 0).2) M') : f_X9_run v1 v2 M K := by
  unfold f_X9_run
  intro M2 e2
  have h2 : IvR M2 z := by rw [e2]; exact IvR_0 h
  have g2 : hiC M M2 := by rw [e2]; exact hiC_w (by decide)
  obtain ⟨hn, w⟩ := h2.2.2.1
  have hS := wf_S w
  refine X9_in_sp ⟨fun y => k0 (by unfold rnB; rw [b_of0 y, Bool.false_and]) M2 h2 g2, fun y => ?_⟩
  have i1 := of_decide_eq_true (b_ofn y)
  rw [show gI M2 5 (0 : Int32) = nI (nS (zsN z)) from rt_S hn, nI_Z (by omega)]
  refine ⟨fun y3 => ?_, fun y3 => k0 (by unfold rnB; rw [decide_eq_true y3]; exact Bool.and_false _) M2 h2 g2⟩
  have k := k1 (by unfold rnB; rw [decide_eq_true i1, decide_eq_false y3]; rfl)
  obtain ⟨N, n1, n2⟩ : ∃ N : Nat, N ≤ 200 ∧ v2 = nI N := by
    rw [i_le, i_le, t_1, t_200] at i1
    exact ⟨v2.toInt.toNat, by omega, cl_of (by omega)⟩
  rw [n2, nI_CL (by omega)] at k
  rw [n2]
  refine kp_r h2 (fun M5 a5 o5 o50 e52 => ?_)
  obtain ⟨hn5, w5⟩ := a5.2.2.1
  have hn5 : rt M5 0 = enc (zsN z) := hn5
  refine allThat_nn hn5 w5 ⟨N + 1, rn_r n1 N 0 (by omega) v1 (zsN z) M5 (fun _ _ => rfl) rfl hn5 w5 (fun M6 f6 g6 a6 w6 => ?_)⟩
  exact mv_r (z := zKp z) a5 f6 g6 a6 w6 (rn_ar _ _ _ _) (fun M7 a7 l7 => k M7 a7 (hiC_tr g2 (hiC_tr (fun b hb => ⟨o5 b (by omega) (by omega), by rw [e52]⟩) l7)))
