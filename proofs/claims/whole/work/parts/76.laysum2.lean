def frq (w : Bool) (M M' : Mem) : Prop := frQ M M' ∧ (∀ j, j ≠ bN w → M'.1 17 j = M.1 17 j ∧ M'.1 18 j = M.1 18 j) ∧ (∀ j, j < 260 * bN w ∨ 260 * bN w + 260 ≤ j → M'.1 14 j = M.1 14 j ∧ M'.1 16 j = M.1 16 j) ∧ ∀ j, j < 2600 * bN w ∨ 2600 * bN w + 2600 ≤ j → M'.1 15 j = M.1 15 j
theorem frq_rf (w : Bool) (M : Mem) : frq w M M := ⟨frQ_rf M, fun _ _ => ⟨rfl, rfl⟩, fun _ _ => ⟨rfl, rfl⟩, fun _ _ => rfl⟩
theorem frq_tr {w : Bool} {M M1 M2 : Mem} (h : frq w M M1) (h' : frq w M1 M2) : frq w M M2 := ⟨frQ_tr h.1 h'.1, fun j hj => ⟨by rw [(h'.2.1 j hj).1, (h.2.1 j hj).1], by rw [(h'.2.1 j hj).2, (h.2.1 j hj).2]⟩, fun j hj => ⟨by rw [(h'.2.2.1 j hj).1, (h.2.2.1 j hj).1], by rw [(h'.2.2.1 j hj).2, (h.2.2.1 j hj).2]⟩, fun j hj => by rw [h'.2.2.2 j hj, h.2.2.2 j hj]⟩
theorem frq_Z {w : Bool} {M M' : Mem} (h : frZ M M') : frq w M M' := ⟨⟨fun b h1 _ _ _ _ _ => h.1 b h1, h.2⟩, fun j _ => ⟨by rw [h.1 17 (by decide)], by rw [h.1 18 (by decide)]⟩, fun j _ => ⟨by rw [h.1 14 (by decide)], by rw [h.1 16 (by decide)]⟩, fun j _ => by rw [h.1 15 (by decide)]⟩
theorem X9_S68_sp {S U tp ts : Nat} {n : NN} {w : Bool} {M : Mem} {X K : Mem → Prop} (hn : rt M 0 = enc n) (hwf : WF n tp ts) (hS : S < 1024) (hr : rSw M w (CH n w) U S)
    (h : ∀ M', rSw M' w (CH n w) U (S + 1) → M'.1 16 = M.1 16 → M'.1 18 = M.1 18 → frq w M M' → X M') : S_X9_laySums_68 (bI w) (nI U) (nI S) (nI S &&& (nI U ^^^ (-1 : Int32))) X K M := by
  have b2 := bN_2 w
  have ct : ctB (gdB (CH n w) U) S ≤ 252 := Nat.le_trans (ctB_mono _ (by omega)) (gd_ct (CH n w) U)
  have keep : ∀ M' : Mem, frZ M M' → gdB (CH n w) U S = false → X M' := fun M' f hg => by
    have r' : rSw M' w (CH n w) U S := by unfold rSw; rw [f.1 17 (by decide), f.1 14 (by decide), f.1 15 (by decide)]; exact hr
    exact h M' (rSw_f r' hg) (f.1 16 (by decide)) (f.1 18 (by decide)) (frq_Z f)
  unfold S_X9_laySums_68
  rw [and_dif hS]
  refine ⟨fun q => keep M ⟨fun _ _ => rfl, fun _ _ _ => rfl⟩ (pB_f (fun t => q t.1)), fun q => ?_⟩
  refine X9_solves_sp hn hwf hS (fun M6 no f6 => ⟨fun _ => keep M6 f6 (pB_f (fun t => no t.2)), fun t => absurd rfl t⟩) (fun M6 yes y6 f6 => ⟨fun t => absurd t (by decide), fun _ => ?_⟩)
  have gS : gdB (CH n w) U S = true := pB_t ⟨q, yes⟩
  have t17 : M6.1 17 (bN w) = nI (ctB (gdB (CH n w) U) S) := by rw [f6.1 17 (by decide)]; exact hr.1.1
  rw [bI_N]
  refine ⟨(vp_nI (by omega) (by omega)).mpr b2, fun x4 e4 => ?_⟩
  rw [gI, nI_CL (by omega), t17, l_260, pk_mul, nI_add] at e4
  subst e4
  refine ⟨(vp_nI (by omega) (by omega)).mpr (by omega), fun M7 e7 => ?_⟩
  rw [nI_CL (by omega)] at e7
  refine X9_ls105_sp (D := 260 * bN w + ctB (gdB (CH n w) U) S) (y := yv (CH n w) S) (by omega) (fun i hi => by rw [e7, w1_2]; exact y6 i hi) (fun M9 c1 c2 f9 => ⟨(vp_nI (by omega) (by omega)).mpr b2, fun M10 e10 => ?_⟩)
  have s17 : M9.1 17 (bN w) = nI (ctB (gdB (CH n w) U) S) := by rw [f9.1 17 (by decide), e7, w1_ne (by decide)]; exact t17
  rw [gI, nI_CL (by omega), s17] at e10
  have n9 : ∀ b, b ≠ 13 → b ≠ 14 → b ≠ 15 → M9.1 b = M.1 b := fun b h1 h2 h3 => by rw [f9.1 b h3, e7, w1_ne h2, f6.1 b h1]
  have t14 : M10.1 14 = upd (M.1 14) (260 * bN w + ctB (gdB (CH n w) U) S) (nI S) := by rw [e10, w1_ne (by decide), f9.1 14 (by decide), e7, w1_eq, f6.1 14 (by decide)]
  have t15 : M10.1 15 = M9.1 15 := by rw [e10, w1_ne (by decide)]
  have u15 : ∀ j, j < 10 * (260 * bN w + ctB (gdB (CH n w) U) S) ∨ 10 * (260 * bN w + ctB (gdB (CH n w) U) S) + 10 ≤ j → M10.1 15 j = M.1 15 j := fun j hj => by rw [t15, c2 j hj, e7, w1_ne (by decide), f6.1 15 (by decide)]
  refine h M10 ⟨?_, fun S' hS' hg' i hi => ?_⟩ (by rw [e10, w1_ne (by decide), n9 16 (by decide) (by decide) (by decide)]) (by rw [e10, w1_ne (by decide), n9 18 (by decide) (by decide) (by decide)]) ⟨⟨fun b h1 h2 h3 h4 h5 h6 => by rw [e10, w1_ne h5, n9 b h1 h2 h3], fun b h1 h2 => by rw [e10, w1_2, f9.2, e7, w1_2, f6.2 b h1 h2]⟩, fun j hj => ⟨by rw [e10, w1_no hj, n9 17 (by decide) (by decide) (by decide)], by rw [e10, w1_ne (by decide), n9 18 (by decide) (by decide) (by decide)]⟩, fun j hj => ⟨by rw [t14, upd_no (by omega)], by rw [e10, w1_ne (by decide), n9 16 (by decide) (by decide) (by decide)]⟩, fun j hj => u15 j (by omega)⟩
  · have := enum_t hr.1 gS
    rw [t14, e10, w1_at]
    rw [hr.1.1] at this
    exact this
  · rcases Nat.lt_succ_iff_lt_or_eq.mp hS' with y | y
    · have lt := ctB_lt y hg'
      rw [u15 _ (by omega)]
      exact hr.2 S' y hg' i hi
    · rw [y, t15]; exact c1 i hi
/-- siphons or traps of the reference's net -/
noncomputable def rl8 (M : Mem) (w : Bool) : Nat → Bool := lst (rA M w) (rA M (!w)) (M.1 4 0).toNatClampNeg
theorem X9_ls56_sp {tp ts : Nat} {n : NN} {w : Bool} {M : Mem} {X K : Mem → Prop} (hn : rt M 0 = enc n) (hwf : WF n tp ts) (h17 : M.1 17 (bN w) = 0) (h18 : M.1 18 (bN w) = 0)
    (h : ∀ M', rSw M' w (CH n w) (unM n w) 1024 → enumOK (M'.1 18 (bN w)) (M'.1 16) (260 * bN w) (lst (rA M w) (rA M (!w)) (nP n)) 1024 → frq w M M' → X M') : ∃ g, L_X9_laySums_56 (bI w) (nI (unM n w)) X K g 1 M := by
  have b2 := bN_2 w
  have hP := wf_P hwf
  have lct : ∀ S, S ≤ 1024 → ctB (lst (rA M w) (rA M (!w)) (nP n)) S ≤ 252 := fun S hS => Nat.le_trans (ctB_mono _ hS) (lst_ct _ _ _)
  have key : ∀ d S, S + d = 1024 → 1 ≤ S → ∀ M1 : Mem, rSw M1 w (CH n w) (unM n w) S → enumOK (M1.1 18 (bN w)) (M1.1 16) (260 * bN w) (lst (rA M w) (rA M (!w)) (nP n)) S → frq w M M1 → L_X9_laySums_56 (bI w) (nI (unM n w)) X K (d + 1) (nI S) M1 := by
    intro d
    induction d with
    | zero =>
      intro S hS h1 M1 c1 c2 c3
      have : S = 1024 := by omega
      subst this
      rw [L_X9_laySums_56, l_1024, nI_LE (by omega) (by omega)]
      exact ⟨fun _ => h M1 c1 c2 c3, by omega⟩
    | succ d ih =>
      intro S hS h1 M1 c1 c2 c3
      rw [L_X9_laySums_56, l_1024, nI_LE (by omega) (by omega), nI_A1]
      refine ⟨by omega, fun _ => X9_S68_sp (by rw [frQ_rt c3.1]; exact hn) hwf (by omega) c1 (fun M2 r2 e16 e18 f2 => ?_)⟩
      have f02 := frq_tr c3 f2
      have c2' : enumOK (M2.1 18 (bN w)) (M2.1 16) (260 * bN w) (lst (rA M w) (rA M (!w)) (nP n)) S := by rw [e16, e18]; exact c2
      have t4 : M2.1 4 0 = nI (nP n) := by rw [f02.1.1 4 (by decide) (by decide) (by decide) (by decide) (by decide) (by decide)]; exact rt_P hn
      rw [gI, show (0 : Int32).toNatClampNeg = 0 from rfl, t4, and_dif (by omega)]
      have skip : lst (rA M w) (rA M (!w)) (nP n) S = false → L_X9_laySums_56 (bI w) (nI (unM n w)) X K (d + 1) (nI (S + 1)) M2 := fun hl => ih (S + 1) (by omega) (by omega) M2 r2 (enum_f c2' hl) f02
      refine ⟨fun q => skip ?_, fun q => X9_isClosed_sp ?_⟩
      · rw [← Bool.not_eq_true, lst_iff (by omega)]; exact fun t => q t.2.1
      · rw [frQ_rA f02.1 w, frQ_rA f02.1 (!w)]
        refine ⟨fun t => skip ?_, fun t => ?_⟩
        · have t := b_of0 t
          rw [← Bool.not_eq_true, lst_iff (by omega)]
          intro y
          rw [y.2.2.1] at t; cases t
        · have t := b_ofn t
          have lc := lct S (by omega)
          have ln := lst_new (P := nP n) (show S < 1024 by omega) (by omega) q t
          refine X9_hasLess_sp (by omega) (lct 1024 (Nat.le_refl _)) c2' (fun y => ⟨fun _ => skip ?_, fun z => absurd z (by decide)⟩) (fun y => ⟨fun z => absurd rfl z, fun _ => ?_⟩)
          · rw [← Bool.not_eq_true, ln]; exact fun z => z y
          · have lS := ln.mpr y
            rw [bI_N, gI, nI_CL (by omega), c2'.1, l_260, pk_mul, nI_add, vp_nI (by omega) (by omega), vp_nI (by omega) (by omega), nI_CL (by omega)]
            refine ⟨b2, by omega, fun M14 e14 M15 e15 => ?_⟩
            rw [gI, nI_CL (by omega), e14, w1_ne (by decide), ← e14] at e15
            rw [← bI_N]
            have n15 : ∀ b, b ≠ 16 → b ≠ 18 → M15.1 b = M2.1 b := fun b h1 h2 => by rw [e15, w1_ne h2, e14, w1_ne h1]
            refine ih (S + 1) (by omega) (by omega) M15 ?_ ?_ (frq_tr f02 ⟨⟨fun b _ _ _ h4 _ h6 => n15 b h4 h6, fun b _ _ => by rw [e15, w1_2, e14, w1_2]⟩, fun j hj => ⟨by rw [n15 17 (by decide) (by decide)], by rw [e15, w1_no hj, e14, w1_ne (by decide)]⟩, fun j hj => ⟨by rw [n15 14 (by decide) (by decide)], by rw [e15, w1_ne (by decide), e14, w1_no (by omega)]⟩, fun j _ => by rw [n15 15 (by decide) (by decide)]⟩)
            · unfold rSw; rw [n15 17 (by decide) (by decide), n15 14 (by decide) (by decide), n15 15 (by decide) (by decide)]; exact r2
            · have := enum_t c2' lS
              rw [e15, w1_at, w1_ne (by decide), e14, w1_eq]
              exact this
  have g0 := gd_0 (CH n w) (unM n w)
  refine ⟨_, key 1023 1 (by omega) (by omega) M (rSw_f ⟨⟨h17, fun m hm => absurd hm (Nat.not_lt_zero _)⟩, fun S hS => absurd hS (Nat.not_lt_zero _)⟩ g0) (enum_f ⟨h18, fun m hm => absurd hm (Nat.not_lt_zero _)⟩ (lst_0 _ _ _)) (frq_rf w M)⟩
/-- sums, rows, siphons, traps, as the reference has them -/
def rSum (M : Mem) (n : NN) : Prop := ∀ w : Bool, rSw M w (CH n w) (unM n w) 1024 ∧ enumOK (M.1 18 (bN w)) (M.1 16) (260 * bN w) (lst (rA M w) (rA M (!w)) (nP n)) 1024
theorem X9_laySums_sp {tp ts : Nat} {n : NN} {M : Mem} {K : Mem → Prop} (hn : rt M 0 = enc n) (hwf : WF n tp ts) (hs : M.1 0 22 ≠ 0 → rSum M n)
    (h : ∀ M', rSum M' n → M'.1 0 22 ≠ 0 → (∀ j, j ≠ 22 → M'.1 0 j = M.1 0 j) → (∀ b, b ≠ 0 → b ≠ 13 → b ≠ 14 → b ≠ 15 → b ≠ 16 → b ≠ 17 → b ≠ 18 → M'.1 b = M.1 b) → (∀ b, b ≠ 11 → b ≠ 12 → M'.2 b = M.2 b) → K M') : f_X9_laySums M K := by
  unfold f_X9_laySums
  refine ⟨fun q M2 e2 => ⟨3, ?_⟩, fun q => h M (hs q) q (fun _ _ => rfl) (fun _ _ _ _ _ _ _ _ => rfl) (fun _ _ _ => rfl)⟩
  have hn2 : rt M2 0 = enc n := by
    have : rt M2 0 = rt M 0 := by unfold rt; rw [e2, w1_ne (by decide), w1_ne (by decide), w1_ne (by decide), w1_ne (by decide), w1_ne (by decide)]
    rw [this]; exact hn
  -- one what
  have one : ∀ (w : Bool) (f : Nat) (X : Mem → Prop) (M1 : Mem), rt M1 0 = enc n → (∀ M', rSw M' w (CH n w) (unM n w) 1024 → enumOK (M'.1 18 (bN w)) (M'.1 16) (260 * bN w) (lst (rA M1 w) (rA M1 (!w)) (nP n)) 1024 → frq w M1 M' → L_X9_laySums_15 X K f (nI (bN w + 1)) M') → L_X9_laySums_15 X K (f + 1) (nI (bN w)) M1 := by
    intro w f X M1 hn1 k
    have b2 := bN_2 w
    rw [L_X9_laySums_15, l_2, nI_LE (by omega) (by omega), vp_nI (by omega) (by omega), nI_CL (by omega), nI_A1]
    refine ⟨by omega, fun _ => ⟨b2, fun M3 e3 M4 e4 => ?_⟩⟩
    have n4 : ∀ b, b ≠ 17 → b ≠ 18 → M4.1 b = M1.1 b := fun b h1 h2 => by rw [e4, w1_ne h2, e3, w1_ne h1]
    have f4 : frq w M1 M4 := ⟨⟨fun b _ _ _ _ h5 h6 => n4 b h5 h6, fun b _ _ => by rw [e4, w1_2, e3, w1_2]⟩, fun j hj => ⟨by rw [e4, w1_ne (by decide), e3, w1_no hj], by rw [e4, w1_no hj, e3, w1_ne (by decide)]⟩, fun j _ => ⟨by rw [n4 14 (by decide) (by decide)], by rw [n4 16 (by decide) (by decide)]⟩, fun j _ => by rw [n4 15 (by decide) (by decide)]⟩
    have hn4 : rt M4 0 = enc n := by rw [frQ_rt f4.1]; exact hn1
    have main : ∀ M5 : Mem, M5 = M4 → ∃ g, L_X9_laySums_56 (nI (bN w)) (nI (unM n w)) (fun M_16 => L_X9_laySums_15 X K f (nI (bN w + 1)) M_16) K g 1 M5 := fun M5 e5 => by
      subst e5
      rw [← bI_N]
      refine X9_ls56_sp hn4 hwf (by rw [e4, w1_ne (by decide), e3, w1_at]) (by rw [e4, w1_at]) (fun M' a1 a2 a3 => k M' a1 ?_ (frq_tr f4 a3))
      rw [frQ_rA f4.1 w, frQ_rA f4.1 (!w)] at a2
      exact a2
    unfold S_X9_laySums_35
    have s0 : gI M4 4 (0 : Int32) = nI (nP n) := by rw [gI, show (0 : Int32).toNatClampNeg = 0 from rfl]; exact rt_P hn4
    have s1 : gI M4 5 (0 : Int32) = nI (nS n) := by rw [gI, show (0 : Int32).toNatClampNeg = 0 from rfl]; exact rt_S hn4
    rw [s0, s1, ← bI_N]
    rw [← bI_N] at main
    cases w
    · exact ⟨fun z => absurd rfl z, fun _ => main M4 rfl⟩
    · exact ⟨fun _ => main M4 rfl, fun z => absurd z (by decide)⟩
  have := one false 2 (fun M_17 => K M_17) M2 hn2 (fun M3 a1 a2 a3 => ?_)
  · exact this
  · have hn3 : rt M3 0 = enc n := by rw [frQ_rt a3.1]; exact hn2
    have := one true 1 (fun M_17 => K M_17) M3 hn3 (fun M4 b1 b2 b3 => ?_)
    · exact this
    · have f24 : frQ M2 M4 := frQ_tr a3.1 b3.1
      rw [L_X9_laySums_15, l_2, nI_LE (by omega) (by decide)]
      refine ⟨fun _ => h M4 (fun w => ?_) ?_ (fun j hj => ?_) (fun b h0 h1 h2 h3 h4 h5 h6 => ?_) (fun b h1 h2 => ?_), fun z => absurd (show 2 ≤ bN true + 1 by decide) z⟩
      · have rr : ∀ b, rA M3 b = rA M4 b := fun b => (frQ_rA b3.1 b).symm
        cases w
        · refine ⟨⟨⟨?_, fun m hm hg => ?_⟩, fun S hS hg i hi => ?_⟩, ?_, fun m hm hg => ?_⟩
          · rw [(b3.2.1 (bN false) (by decide)).1]; exact a1.1.1
          · have lt := ctB_lt hm hg
            have := gd_ct (CH n false) (unM n false)
            have z0 : bN false = 0 := rfl
            have z1 : bN true = 1 := rfl
            rw [(b3.2.2.1 _ (Or.inl (by rw [z0, z1]; omega))).1]; exact a1.1.2 m hm hg
          · have lt := ctB_lt hS hg
            have := gd_ct (CH n false) (unM n false)
            have z0 : bN false = 0 := rfl
            have z1 : bN true = 1 := rfl
            rw [b3.2.2.2 _ (Or.inl (by rw [z0, z1]; omega))]; exact a1.2 S hS hg i hi
          · rw [(b3.2.1 (bN false) (by decide)).2, frQ_rA f24 false, frQ_rA f24 (!false)]; exact a2.1
          · rw [frQ_rA f24 false, frQ_rA f24 (!false)] at hg ⊢
            have lt := ctB_lt hm hg
            have := lst_ct (rA M2 false) (rA M2 (!false)) (nP n)
            have z0 : bN false = 0 := rfl
            have z1 : bN true = 1 := rfl
            rw [(b3.2.2.1 _ (Or.inl (by rw [z0, z1]; omega))).2]; exact a2.2 m hm hg
        · refine ⟨b1, ?_⟩
          rw [rr true, rr (!true)] at b2
          exact b2
      · rw [f24.1 0 (by decide) (by decide) (by decide) (by decide) (by decide) (by decide), e2, w1_at]; decide
      · rw [f24.1 0 (by decide) (by decide) (by decide) (by decide) (by decide) (by decide), e2, w1_no hj]
      · rw [f24.1 b h1 h2 h3 h4 h5 h6, e2, w1_ne h0]
      · rw [f24.2 b h1 h2, e2, w1_2]
