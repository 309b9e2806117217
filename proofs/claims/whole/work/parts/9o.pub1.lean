/-! calls: the text -/
theorem nn_of {v : Int32} (h : ¬ v < 0) : ∃ k, k < 2147483648 ∧ v = nI k := by
  have r := i_rng v
  rw [i_lt, t_0] at h
  exact ⟨v.toInt.toNat, by omega, cl_of (by omega)⟩
theorem nn_lt {v : Int32} (h : v < 0) {k : Nat} (hk : k < 2147483648) (e : v = nI k) : False := by
  rw [e] at h; exact nI_neg hk h
theorem x_nI (x : Int32) : ∃ m, x = nI m := ⟨x.toBitVec.toNat, gb_ext fun i hi => by rw [gb_nI hi]; rfl⟩
theorem byt_n (v : Int32) (k : Nat) : byt v k = nI (byt v k).toNatClampNeg ∧ (byt v k).toNatClampNeg ≤ 255 := by
  obtain ⟨m, hm⟩ := x_nI (v >>> (nI k &&& 31))
  have e : byt v k = nI (m &&& 255) := by unfold byt; rw [hm, l_255, nI_and]
  have l : m &&& 255 ≤ 255 := Nat.and_le_right
  rw [e, nI_CL (by omega)]
  exact ⟨rfl, l⟩
def tp4 (tp : Nat → Nat) (n : Nat) (v : Int32) : Nat → Nat := fun i => if i < n then tp i else if i = n then (byt v 24).toNatClampNeg else if i = n + 1 then (byt v 16).toNatClampNeg else if i = n + 2 then (byt v 8).toNatClampNeg else (byt v 0).toNatClampNeg
theorem put4_t {f : Nat → Int32} {tp : Nat → Nat} {n : Nat} {v : Int32} (h : ∀ i, i < n → f i = nI (tp i) ∧ tp i ≤ 255) : ∀ i, i < n + 4 → put4 f n v i = nI (tp4 tp n v i) ∧ tp4 tp n v i ≤ 255 := fun i hi => by
  unfold put4 tp4
  by_cases q : i < n
  · rw [if_pos q, upd_no (by omega), upd_no (by omega), upd_no (by omega), upd_no (by omega)]; exact h i q
  · rw [if_neg q]
    by_cases q0 : i = n
    · rw [if_pos q0, q0, upd_no (by omega), upd_no (by omega), upd_no (by omega), upd_at]; exact byt_n v 24
    · rw [if_neg q0]
      by_cases q1 : i = n + 1
      · rw [if_pos q1, q1, upd_no (by omega), upd_no (by omega), upd_at]; exact byt_n v 16
      · rw [if_neg q1]
        by_cases q2 : i = n + 2
        · rw [if_pos q2, q2, upd_no (by omega), upd_at]; exact byt_n v 8
        · rw [if_neg q2, show i = n + 3 by omega, upd_at]; exact byt_n v 0
def tpcI (M0 M : Mem) (n : Nat) (tp : Nat → Nat) : Prop := (∀ b, b ≠ 42 → b ≠ 43 → M.1 b = M0.1 b) ∧ (∀ j, j ≠ 3 → M.1 42 j = M0.1 42 j) ∧ M.1 42 3 = nI n ∧ ∀ i, i < n → M.1 43 i = nI (tp i) ∧ tp i ≤ 255
def tprI (M0 M : Mem) (n : Nat) (tp : Nat → Nat) : Prop := (∀ b, b ≠ 0 → b ≠ 9 → M.1 b = M0.1 b) ∧ (∀ j, j ≠ 10 → M.1 0 j = M0.1 0 j) ∧ M.1 0 10 = nI n ∧ (∀ i, i < n → M.1 9 i = nI (tp i) ∧ tp i ≤ 255) ∧ M.2 = M0.2
theorem app_c {v : Int32} {M0 M : Mem} {n : Nat} {tp : Nat → Nat} {K : Mem → Prop} (h : tpcI M0 M n tp) (h4 : n + 4 ≤ 900) (k : ∀ M', tpcI M0 M' (n + 4) (tp4 tp n v) → K M') : f_X4_append v M K := by
  obtain ⟨a1, a2, a3, a4⟩ := h
  refine X4_append_sp a3 h4 (k _ ⟨fun b h1 h2 => ?_, fun j hj => ?_, ?_, fun i hi => ?_⟩)
  · rw [sA_ne h1, sA_ne h2, a1 b h1 h2]
  · rw [sA_eq, upd_no hj, a2 j hj]
  · rw [sA_eq, upd_at]
  · rw [sA_ne (by decide), sA_eq]; exact put4_t a4 i hi
theorem app_r {v : Int32} {M0 M : Mem} {n : Nat} {tp : Nat → Nat} {K : Mem → Prop} (h : tprI M0 M n tp) (h4 : n + 4 ≤ 900) (k : ∀ M', tprI M0 M' (n + 4) (tp4 tp n v) → K M') : f_X9_four v M K := by
  obtain ⟨a1, a2, a3, a4, a5⟩ := h
  refine X9_four_sp a3 h4 (k _ ⟨fun b h1 h2 => ?_, fun j hj => ?_, ?_, fun i hi => ?_, ?_⟩)
  · rw [sA_ne h1, sA_ne h2, a1 b h1 h2]
  · rw [sA_eq, upd_no hj, a2 j hj]
  · rw [sA_eq, upd_at]
  · rw [sA_ne (by decide), sA_eq]; exact put4_t a4 i hi
  · exact a5
theorem IvC_t {c : Nat} {M M' : Mem} {z z' : ZS} (h : IvC c M z) (hz : z'.2.2 = z.2.2) (e : ∀ b, b ≠ 42 → b ≠ 43 → M'.1 b = M.1 b) (t : iTp M' z') : IvC c M' z' := by
  obtain ⟨S, st, a1, a2, a3, a4, a5, a6⟩ := h
  refine ⟨S, st, ⟨a1.1, by rw [e 41 (by decide) (by decide)]; exact a1.2⟩, t, ?_, ?_, ?_, iCa_f a6 (fun b hb => e b (by omega) (by omega))⟩
  · show iNt M' S st 50 z'.2.2.1
    rw [hz]; exact iNt_f a3 (fun b h1 h2 => e b (by omega) (by omega))
  · show iPa M' S st z'.2.2.2.1
    rw [hz]; exact iPa_f a4 (fun b h1 h2 => e b (by omega) (by omega))
  · show iSk M' S st z'.2.2.2.2
    rw [hz]; exact iSk_f a5 (fun b h1 h2 => e b (by omega) (by omega))
theorem IvR_t {M M' : Mem} {z z' : ZS} (h : IvR M z) (hz : z'.2.2 = z.2.2) (e0 : ∀ j, j ≠ 0 → j ≠ 10 → j ≠ 16 → j ≠ 17 → M'.1 0 j = M.1 0 j) (e : ∀ b, 0 < b → b < 40 → b ≠ 9 → M'.1 b = M.1 b) (t : zsL z' ≤ 900 ∧ M'.1 0 10 = nI (zsL z') ∧ ∀ i, i < zsL z' → M'.1 9 i = nI (zsT z' i) ∧ zsT z' i ≤ 255) (t2 : M'.1 0 16 = zsK z' ∧ M'.1 0 17 = zsF z') : IvR M' z' := by
  obtain ⟨a1, a2, a3, a4, a5, a6, a7, a8⟩ := h
  have hr := rt0_f (e 1 (by decide) (by decide) (by decide)) (e 2 (by decide) (by decide) (by decide)) (e 3 (by decide) (by decide) (by decide)) (e 4 (by decide) (by decide) (by decide)) (e 5 (by decide) (by decide) (by decide)) 0
  refine ⟨t, t2, ?_, ?_, ?_, ?_, ?_, ?_⟩
  · show rt M' 0 = enc z'.2.2.1.1 ∧ WF z'.2.2.1.1 z'.2.2.1.2.1 z'.2.2.1.2.2
    rw [hz, hr]; exact a3
  · show M'.1 0 26 = nI z'.2.2.2.1.length ∧ z'.2.2.2.1.length ≤ 12 ∧ ∀ i x, z'.2.2.2.1[i]? = some x → kb M' i = enc x.1
    rw [hz, e0 26 (by decide) (by decide) (by decide) (by decide)]
    exact ⟨a4.1, a4.2.1, fun i x hx => by rw [kb_f (e 10 (by decide) (by decide) (by decide))]; exact a4.2.2 i x hx⟩
  · show ∀ p, p < 10 → M'.1 8 p = nI (z'.2.2.2.2 p) ∧ z'.2.2.2.2 p ≤ 999
    rw [hz, e 8 (by decide) (by decide) (by decide)]; exact a5
  · show M'.1 0 22 ≠ 0 → rSmP M' z'.2.2.1.1
    rw [hz, e0 22 (by decide) (by decide) (by decide) (by decide)]
    exact fun q => rSmP_f (a6 q) (fun b h1 h2 => e b (by omega) (by omega) (by omega))
  · show M'.1 0 23 ≠ 0 → rGr M' z'.2.2.1.1
    rw [hz, e0 23 (by decide) (by decide) (by decide) (by decide)]
    exact fun q => rGr_f (a7 q) (fun b h1 h2 _ _ _ _ => e b (by omega) (by omega) (by omega))
  · show M'.1 0 24 ≠ 0 → RCt M' z'.2.2.1.1 z'.2.2.2.2
    rw [hz, e0 24 (by decide) (by decide) (by decide) (by decide)]
    exact fun q => RCt_f (a8 q) (e0 40 (by decide) (by decide) (by decide) (by decide)) (e 20 (by decide) (by decide) (by decide)) (e 22 (by decide) (by decide) (by decide)) (e 23 (by decide) (by decide) (by decide))
/-- feed -/
def zFeed (z : ZS) (v1 v2 v3 v4 v5 : Int32) : ZS := ((zsL z + 20, tp4 (tp4 (tp4 (tp4 (tp4 (zsT z) (zsL z) v1) (zsL z + 4) v2) (zsL z + 8) v3) (zsL z + 12) v4) (zsL z + 16) v5), z.2)
theorem C_feed {c : Nat} {v1 v2 v3 v4 v5 : Int32} {M : Mem} {z : ZS} {K : Int32 → Mem → Prop} (h : IvC c M z) (k0 : ¬ zsL z + 20 ≤ 900 → K (-1) M) (k1 : zsL z + 20 ≤ 900 → ∀ M', IvC c M' (zFeed z v1 v2 v3 v4 v5) → loC M M' → K (nI (zsL z + 20)) M') : f_X8_feed v1 v2 v3 v4 v5 M K := by
  obtain ⟨S, st, a1, ⟨⟨t1, t2, t3⟩, t4, t5⟩, a3⟩ := id h
  unfold f_X8_feed
  rw [t2, l_20, nI_add, l_900, nI_LE (by omega) (by omega)]
  refine ⟨fun q => ?_, k0⟩
  refine app_c (M0 := M) (n := zsL z) (tp := zsT z) ⟨fun _ _ _ => rfl, fun _ _ => rfl, t2, t3⟩ (by omega) (fun M2 h2 => app_c h2 (by omega) (fun M3 h3 => app_c h3 (by omega) (fun M4 h4 => app_c h4 (by omega) (fun M5 h5 => app_c h5 (by omega) (fun M6 h6 => ?_)))))
  obtain ⟨b1, b2, b3, b4⟩ := h6
  rw [b3]
  refine k1 q M6 (IvC_t h rfl b1 ⟨⟨?_, b3, b4⟩, ?_, ?_⟩) (fun b hb => b1 b (by omega) (by omega))
  · show zsL z + 20 ≤ 900; exact q
  · rw [b2 4 (by decide)]; exact t4
  · rw [b2 5 (by decide)]; exact t5
theorem R_feed {v1 v2 v3 v4 v5 : Int32} {M : Mem} {z : ZS} {K : Int32 → Mem → Prop} (h : IvR M z) (k0 : ¬ zsL z + 20 ≤ 900 → ∀ M', IvR M' z → hiC M M' → K (-1) M') (k1 : zsL z + 20 ≤ 900 → ∀ M', IvR M' (zFeed z v1 v2 v3 v4 v5) → hiC M M' → K (nI (zsL z + 20)) M') : f_X9_feed v1 v2 v3 v4 v5 M K := by
  unfold f_X9_feed
  intro M2 e2
  have h2 : IvR M2 z := by rw [e2]; exact IvR_0 h
  have g2 : hiC M M2 := by rw [e2]; exact hiC_w (by decide)
  obtain ⟨⟨t1, t2, t3⟩, t4, a3⟩ := id h2
  rw [t2, l_20, nI_add, l_900, nI_LE (by omega) (by omega)]
  refine ⟨fun q => ?_, fun q => k0 q M2 h2 g2⟩
  refine app_r (M0 := M2) (n := zsL z) (tp := zsT z) ⟨fun _ _ _ => rfl, fun _ _ => rfl, t2, t3, rfl⟩ (by omega) (fun M3 h3 => app_r h3 (by omega) (fun M4 h4 => app_r h4 (by omega) (fun M5 h5 => app_r h5 (by omega) (fun M6 h6 => app_r h6 (by omega) (fun M7 h7 => ?_)))))
  obtain ⟨b1, b2, b3, b4, b5⟩ := h7
  rw [b3]
  refine k1 q M7 (IvR_t h2 rfl (fun j _ hj _ _ => b2 j hj) (fun b h1 _ h9 => b1 b (by omega) h9) ⟨?_, b3, b4⟩ ⟨?_, ?_⟩) (hiC_tr g2 (fun b hb => ⟨b1 b (by omega) (by omega), by rw [b5]⟩))
  · show zsL z + 20 ≤ 900; exact q
  · rw [b2 16 (by decide)]; exact t4.1
  · rw [b2 17 (by decide)]; exact t4.2
/-- end -/
def zEnd (z : ZS) (n : Nat) : ZS := ((n, zsT z), z.2)
theorem C_end {c : Nat} {v : Int32} {M : Mem} {z : ZS} {K : Int32 → Mem → Prop} (h : IvC c M z) (k0 : ¬ (0 ≤ v ∧ v ≤ nI (zsL z)) → K (-1) M) (k1 : ∀ n M', v = nI n → n ≤ zsL z → IvC c M' (zEnd z n) → loC M M' → K v M') : f_X8_end v M K := by
  obtain ⟨S, st, a1, ⟨⟨t1, t2, t3⟩, t4, t5⟩, a3⟩ := id h
  unfold f_X8_end
  rw [t2]
  refine ⟨fun q => k0 (fun y => ?_), fun q => ⟨fun q2 M2 e2 => ?_, fun q2 => k0 (fun y => q2 y.2)⟩⟩
  · rw [i_lt] at q; rw [i_le] at y; omega
  · obtain ⟨n, n1, n2⟩ := nn_of q
    rw [n2, nI_LE n1 (by omega)] at q2
    refine k1 n M2 n2 q2 (IvC_t h rfl (fun b h1 _ => by rw [e2, w1_ne h1]) ⟨⟨by show n ≤ 900; omega, ?_, fun i hi => ?_⟩, ?_, ?_⟩) (by rw [e2]; exact loC_w (by decide))
    · rw [e2, w1_at]; exact n2
    · rw [e2, w1_ne (by decide)]; exact t3 i (by have : i < n := hi; omega)
    · rw [e2, w1_no (by decide)]; exact t4
    · rw [e2, w1_no (by decide)]; exact t5
theorem R_end {v : Int32} {M : Mem} {z : ZS} {K : Int32 → Mem → Prop} (h : IvR M z) (k0 : ¬ (0 ≤ v ∧ v ≤ nI (zsL z)) → ∀ M', IvR M' z → hiC M M' → K (-1) M') (k1 : (0 ≤ v ∧ v ≤ nI (zsL z)) → ∀ n M', v = nI n → n ≤ zsL z → IvR M' (zEnd z n) → hiC M M' → K v M') : f_X9_end v M K := by
  unfold f_X9_end
  intro M2 e2
  have h2 : IvR M2 z := by rw [e2]; exact IvR_0 h
  have g2 : hiC M M2 := by rw [e2]; exact hiC_w (by decide)
  obtain ⟨⟨t1, t2, t3⟩, t4, a3⟩ := id h2
  rw [t2]
  refine X9_in_sp ⟨fun q M4 e4 => ?_, fun q => k0 (of_decide_eq_false (b_of0 q)) M2 h2 g2⟩
  have q := of_decide_eq_true (b_ofn q)
  obtain ⟨n, n1, n2⟩ := nn_of (v := v) (by rw [i_lt]; have := q.1; rw [i_le] at this; omega)
  have q2 := q.2
  rw [n2, nI_LE n1 (by omega)] at q2
  refine k1 q n M4 n2 q2 (IvR_t h2 rfl (fun j _ hj _ _ => by rw [e4, w1_no hj]) (fun b h1 _ _ => by rw [e4, w1_ne (by omega)]) ⟨by show n ≤ 900; omega, ?_, fun i hi => ?_⟩ ⟨?_, ?_⟩) (hiC_tr g2 (by rw [e4]; exact hiC_w (by decide)))
  · rw [e4, w1_at]; exact n2
  · rw [e4, w1_ne (by decide)]; exact t3 i (by have : i < n := hi; omega)
  · rw [e4, w1_no (by decide)]; exact t4.1
  · rw [e4, w1_no (by decide)]; exact t4.2
