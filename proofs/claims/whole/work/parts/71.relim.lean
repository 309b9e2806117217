/-! the reference: rows laid, swapped, cleared -/
def AE (n : NN) (w : Bool) (S : Nat) (r i : Nat) : Int := if S.testBit i = true then CH n w i r else 0
def frJ (M M' : Mem) : Prop := M'.1 = M.1 ∧ ∀ b, b ≠ 11 → M'.2 b = M.2 b
theorem frJ_rf (M : Mem) : frJ M M := ⟨rfl, fun _ _ => rfl⟩
theorem frJ_tr {M M1 M2 : Mem} (h : frJ M M1) (h' : frJ M1 M2) : frJ M M2 := ⟨by rw [h'.1, h.1], fun b hb => by rw [h'.2 b hb, h.2 b hb]⟩
theorem frJ_L {lo wd : Nat} {M M' : Mem} (h : frL 11 lo wd M M') : frJ M M' := ⟨h.1, h.2.1⟩
theorem rt_1 {M M' : Mem} (h : M'.1 = M.1) (o : Nat) : rt M' o = rt M o := by unfold rt; rw [h]
theorem X9_S57_sp {v1 v3 b0 : Int32} {S i s p tp ts : Nat} {n : NN} {M : Mem} {X83 : Int64 → Mem → Prop} {K : Mem → Prop} (hn : rt M 0 = enc n) (hwf : WF n tp ts) (hS : S < 1024) (hi : i < 10) (hs : s < 10) (hp : p < 10) (h : ∀ z : Int64, z = oL (if S.testBit i = true then (if s < 8 then cgI n s p else 0) else 0) → X83 z M) : S_X9_layRows_57 v1 (nI S) v3 (nI i) (nI s) (nI p) 8 (nI s) b0 X83 K M := by
  unfold S_X9_layRows_57
  rw [l_8, nI_LE (by omega) (by omega)]
  have e : decide ((nI S >>> (nI i &&& 31)) &&& 1 = 1) = S.testBit i := bt_nI (n := S) (k := i) (by omega) (by omega)
  refine ⟨fun q => h _ ?_, fun q => X9_isOf_sp ⟨fun z => h _ ?_, fun z => X9_change_sp (g := 0) (by omega) (by omega) hp (h _ ?_)⟩⟩
  · rw [if_neg (show ¬ s < 8 by omega)]; split <;> rfl
  · rw [e] at z; rw [b_of0 z]; rfl
  · rw [e] at z
    rw [b_ofn z, if_pos rfl, if_pos (by omega), Nat.add_assoc, rt_G hn (by omega), rt_T hn (by omega), nI_dL (wf_G3 hwf _) (wf_T3 hwf _)]; rfl
theorem X9_lr11_sp {r S tp ts : Nat} {n : NN} {w : Bool} {M : Mem} {X K : Mem → Prop} (hn : rt M 0 = enc n) (hwf : WF n tp ts) (hr : r < 10) (hS : S < 1024)
    (h : ∀ M', rwL M' 11 10 r (AE n w S r) → frL 11 (10 * r) 10 M M' → X M') : ∃ f, L_X9_layRows_11 (bI w) (nI S) (nI r) X K f 0 M := by
  have key : ∀ d i, i + d = 10 → ∀ M1 : Mem, (∀ j, j < i → M1.2 11 (10 * r + j) = oL (AE n w S r j)) → frL 11 (10 * r) 10 M M1 → L_X9_layRows_11 (bI w) (nI S) (nI r) X K (d + 1) (nI i) M1 := by
    intro d
    induction d with
    | zero =>
      intro i hi M1 c1 c2
      rw [L_X9_layRows_11, l_10, nI_LE (by omega) (by omega)]
      exact ⟨fun _ => h M1 (fun j hj => c1 j (by omega)) c2, by omega⟩
    | succ d ih =>
      intro i hi M1 c1 c2
      have hn1 : rt M1 0 = enc n := by rw [rt_1 c2.1]; exact hn
      have nx : ∀ z : Int64, z = oL (AE n w S r i) → vp_in (nI 10 * nI r + nI i) 100 ∧ ∀ M_5 : Mem, M_5 = wL M1 11 (nI 10 * nI r + nI i).toNatClampNeg z → L_X9_layRows_11 (bI w) (nI S) (nI r) X K (d + 1) (nI i + 1) M_5 := by
        intro z ez
        rw [ix10, nI_CL (by omega), nI_A1]
        refine ⟨(vp_nI (by omega) (by omega)).mpr (by omega), fun M5 e5 => ih (i + 1) (by omega) M5 (fun j hj => ?_) (frL_tr c2 (by rw [e5]; exact frL_w M1 (by omega) (by omega)))⟩
        by_cases q : j = i
        · rw [e5, q, wL_at, ez]
        · rw [e5, wL_no (by omega)]; exact c1 j (by omega)
      rw [L_X9_layRows_11, l_10, nI_LE (by omega) (by omega)]
      refine ⟨by omega, fun _ x5 e5 x6 e6 => ?_⟩
      cases w
      · rw [if_neg (fun y => y rfl)] at e5 e6
        subst e5
        subst e6
        refine X9_S57_sp hn1 hwf hS (by omega) hr (by omega) (fun z ez => nx z ?_)
        rw [ez]; unfold AE CH; rw [if_neg (show ¬ false = true by decide)]
      · rw [if_pos (by decide)] at e5 e6
        subst e5
        subst e6
        refine X9_S57_sp hn1 hwf hS (by omega) (by omega) hr (fun z ez => nx z ?_)
        rw [ez]; unfold AE CH; rw [if_pos (show true = true from rfl)]
        by_cases q : i < 8
        · rw [if_pos q]
        · rw [if_neg q]
          have e0 : cgI n i r = 0 := by
            unfold cgI
            rw [wf_G0s hwf hr (show ts ≤ i by have := hwf.2.1; omega), wf_T0s hwf hr (show ts ≤ i by have := hwf.2.1; omega)]; rfl
          rw [e0]
  exact ⟨_, key 10 0 (by omega) M (fun j hj => absurd hj (Nat.not_lt_zero _)) (frL_rf _ _ _ M)⟩
theorem X9_layRows_sp {S tp ts : Nat} {n : NN} {w : Bool} {M : Mem} {K : Mem → Prop} (hn : rt M 0 = enc n) (hwf : WF n tp ts) (hS : S < 1024)
    (h : ∀ M', (∀ r, r < 10 → rwL M' 11 10 r (AE n w S r)) → frJ M M' → K M') : f_X9_layRows (bI w) (nI S) M K := by
  unfold f_X9_layRows
  have key : ∀ d r, r + d = 10 → ∀ M1 : Mem, (∀ j, j < r → rwL M1 11 10 j (AE n w S j)) → frJ M M1 → L_X9_layRows_2 (bI w) (nI S) (fun M_7 => K M_7) K (d + 1) (nI r) M1 := by
    intro d
    induction d with
    | zero =>
      intro r hr M1 c1 c2
      rw [L_X9_layRows_2, l_10, nI_LE (by omega) (by omega)]
      exact ⟨fun _ => h M1 (fun j hj => c1 j (by omega)) c2, by omega⟩
    | succ d ih =>
      intro r hr M1 c1 c2
      rw [L_X9_layRows_2, l_10, nI_LE (by omega) (by omega), nI_A1]
      refine ⟨by omega, fun _ => X9_lr11_sp (by rw [rt_1 c2.1]; exact hn) hwf (by omega) hS (fun M2 r2 f2 => ih (r + 1) (by omega) M2 (fun j hj => ?_) (frJ_tr c2 (frJ_L f2)))⟩
      by_cases q : j = r
      · rw [q]; exact r2
      · exact rwL_fr (c1 j (by omega)) f2 q
  exact ⟨_, key 10 0 (by omega) M (fun j hj => absurd hj (Nat.not_lt_zero _)) (frJ_rf M)⟩
/-- all rows -/
def rows (M : Mem) (y : Nat → Nat → Int) : Prop := ∀ r, r < 10 → rwL M 11 10 r (y r)
theorem X9_swaps_sp {a b : Nat} {y : Nat → Nat → Int} {M : Mem} {K : Mem → Prop} (ha : a < 10) (hb : b < 10) (hy : rows M y) (h : ∀ M', rows M' (swp y a b) → frJ M M' → K M') : f_X9_swaps (nI a) (nI b) M K := by
  unfold f_X9_swaps
  have key : ∀ d i, i + d = 10 → ∀ M1 : Mem, (∀ r, r < 10 → ∀ j, j < 10 → M1.2 11 (10 * r + j) = oL (if j < i then swp y a b r j else y r j)) → frJ M M1 → L_X9_swaps_2 (nI a) (nI b) (fun M_4 => K M_4) K (d + 1) (nI i) M1 := by
    intro d
    induction d with
    | zero =>
      intro i hi M1 c1 c2
      rw [L_X9_swaps_2, l_10, nI_LE (by omega) (by omega)]
      exact ⟨fun _ => h M1 (fun r hr j hj => by rw [c1 r hr j hj, if_pos (by omega)]) c2, by omega⟩
    | succ d ih =>
      intro i hi M1 c1 c2
      rw [L_X9_swaps_2, l_10, nI_LE (by omega) (by omega), ix10, ix10, vp_nI (by omega) (by omega), vp_nI (by omega) (by omega), gL, gL, nI_CL (by omega), nI_CL (by omega), nI_A1, c1 a ha i (by omega), c1 b hb i (by omega), if_neg (Nat.lt_irrefl i), if_neg (Nat.lt_irrefl i)]
      refine ⟨by omega, fun _ => ⟨by omega, fun x4 e4 => ⟨by omega, fun M2 e2 M3 e3 => ih (i + 1) (by omega) M3 (fun r hr j hj => ?_) (frJ_tr c2 ⟨by rw [e3, e2]; rfl, fun b hb => by rw [e3, wL_ne hb, e2, wL_ne hb]⟩)⟩⟩⟩
      by_cases q : j = i
      · subst q
        rw [if_pos (Nat.lt_succ_self _)]
        unfold swp
        by_cases qb : r = b
        · rw [e3, qb, wL_at, e4]
          by_cases qa : b = a
          · rw [if_pos qa, qa]
          · rw [if_neg qa, if_pos rfl]
        · rw [e3, wL_no (by omega), e2]
          by_cases qa : r = a
          · rw [qa, wL_at, if_pos rfl]
          · rw [wL_no (by omega), if_neg qa, if_neg qb, c1 r hr j hj, if_neg (Nat.lt_irrefl _)]
      · rw [e3, wL_no (by omega), e2, wL_no (by omega), c1 r hr j hj]
        by_cases z : j < i
        · rw [if_pos z, if_pos (by omega)]
        · rw [if_neg z, if_neg (by omega)]
  exact ⟨_, key 10 0 (by omega) M (fun r hr j hj => by rw [if_neg (Nat.not_lt_zero _)]; exact hy r hr j hj) (frJ_rf M)⟩
theorem X9_el65_sp {n c : Nat} {m : Nat → Nat → Int} {M : Mem} {X : Mem → Prop} {K : Int32 → Mem → Prop} (hn : n < 10) (hc : c < 10) (hb : ∀ r, r < 10 → ∀ i, i < 10 → (m r i).natAbs ≤ 65610000) (hm : rows M m) (h : ∀ M', rows M' (stp m n c) → frJ M M' → X M') : ∃ f, L_X9_eliminates_65 (nI n) (nI c) X K f 0 M := by
  have rgs : ∀ {z : Int}, z.natAbs ≤ 65610000 → rg z := fun hz => by unfold rg; omega
  have key : ∀ d k, k + d = 10 → ∀ M1 : Mem, rows M1 (fun r => if r < k then stp m n c r else m r) → frJ M M1 → L_X9_eliminates_65 (nI n) (nI c) X K (d + 1) (nI k) M1 := by
    intro d
    induction d with
    | zero =>
      intro k hk M1 c1 c2
      rw [L_X9_eliminates_65, l_10, nI_LE (by omega) (by omega)]
      exact ⟨fun _ => h M1 (fun r hr => by have := c1 r hr; dsimp only at this; rw [if_pos (by omega)] at this; exact this) c2, by omega⟩
    | succ d ih =>
      intro k hk M1 c1 c2
      have rk : rwL M1 11 10 k (m k) := by have := c1 k (by omega); dsimp only at this; rw [if_neg (Nat.lt_irrefl _)] at this; exact this
      have rn : rwL M1 11 10 n (m n) := by
        have := c1 n hn
        dsimp only at this
        by_cases q : n < k
        · rw [if_pos q] at this; unfold stp at this; rw [if_pos rfl] at this; exact this
        · rw [if_neg q] at this; exact this
      have nx : ∀ M2 : Mem, rwL M2 11 10 k (stp m n c k) → (∀ r, r < 10 → r ≠ k → ∀ y, rwL M1 11 10 r y → rwL M2 11 10 r y) → frJ M1 M2 → L_X9_eliminates_65 (nI n) (nI c) X K (d + 1) (nI (k + 1)) M2 := fun M2 a1 a2 a3 => ih (k + 1) (by omega) M2 (fun r hr => by
        dsimp only
        by_cases q : r = k
        · rw [q, if_pos (Nat.lt_succ_self _)]; exact a1
        · have := a2 r hr q _ (c1 r hr)
          dsimp only at this
          by_cases z : r < k
          · rw [if_pos z] at this; rw [if_pos (by omega)]; exact this
          · rw [if_neg z] at this; rw [if_neg (by omega)]; exact this) (frJ_tr c2 a3)
      rw [L_X9_eliminates_65, l_10, nI_LE (by omega) (by omega), nI_EQ (by omega) (by omega), ix10, vp_nI (by omega) (by omega), gL, nI_CL (by omega), rk c hc, z_0, oL_EQ (rgs (hb k (by omega) c hc)) rg_0, nI_A1]
      refine ⟨by omega, fun _ => ⟨fun z => nx M1 ?_ (fun _ _ _ _ q => q) (frJ_rf M1), fun z => ⟨by omega, fun y => nx M1 ?_ (fun _ _ _ _ q => q) (frJ_rf M1), fun y => ?_⟩⟩⟩
      · unfold stp; rw [if_pos z, ← z]; exact rk
      · unfold stp clr; rw [if_neg z, if_pos y]; exact rk
      · refine X9_lessens_sp hc (by omega) hn z rk rn (fun i hi => ?_) (fun M2 r2 f2 => nx M2 ?_ (fun r hr hne y hy => rwL_fr hy f2 hne) (frJ_L f2))
        · have h1 := mul_ab (hb k (by omega) i hi) (hb n hn c hc)
          have h2 := mul_ab (hb n hn i hi) (hb k (by omega) c hc)
          generalize m k i * m n c = p at *
          generalize m n i * m k c = q at *
          unfold rg; omega
        · unfold stp clr; rw [if_neg z, if_neg y]; exact r2
  exact ⟨_, key 10 0 (by omega) M (fun r hr => by dsimp only; rw [if_neg (Nat.not_lt_zero _)]; exact hm r hr) (frJ_rf M)⟩
/-- pivots, as the reference has them -/
def PV (M : Mem) (pc : Nat → Nat) (n c : Nat) : Prop := ∀ c', c' < c → (∃ k, k < n ∧ pc k = c' ∧ M.1 13 c' = nI k) ∨ ((∀ k, k < n → pc k ≠ c') ∧ M.1 13 c' = -1)
def frE (M M' : Mem) : Prop := (∀ b, b ≠ 13 → M'.1 b = M.1 b) ∧ ∀ b, b ≠ 11 → M'.2 b = M.2 b
theorem frE_tr {M M1 M2 : Mem} (h : frE M M1) (h' : frE M1 M2) : frE M M2 := ⟨fun b hb => by rw [h'.1 b hb, h.1 b hb], fun b hb => by rw [h'.2 b hb, h.2 b hb]⟩
theorem frE_J {M M' : Mem} (h : frJ M M') : frE M M' := ⟨fun b _ => by rw [h.1], h.2⟩
theorem frE_w {k : Nat} {x : Int32} (M : Mem) : frE M (wI M 13 k x) := ⟨fun b hb => w1_ne hb, fun _ _ => rfl⟩
theorem X9_eliminates_sp {A : Nat → Nat → Int} {M : Mem} {K : Int32 → Mem → Prop} (h3 : ∀ r i, -3 ≤ A r i ∧ A r i ≤ 3) (hz : (∀ r, 8 ≤ r → r < 10 → ∀ i, i < 10 → A r i = 0) ∨ (∀ r, r < 10 → ∀ i, 8 ≤ i → i < 10 → A r i = 0)) (hA : rows M A)
    (h : ∀ M' m R pc n, GJs A m R pc n 10 → rows M' m → PV M' pc n 10 → frE M M' → K (nI n) M') : f_X9_eliminates M K := by
  unfold f_X9_eliminates
  have key : ∀ d c, c + d = 10 → ∀ (M1 : Mem) m R pc n, GJs A m R pc n c → rows M1 m → PV M1 pc n c → frE M M1 → L_X9_eliminates_4 (fun (v1_2 : Int32) (M_8 : Mem) => K v1_2 M_8) K (d + 1) (nI n) (nI c) M1 := by
    intro d
    induction d with
    | zero =>
      intro c hc M1 m R pc n g1 g2 g3 g4
      have : c = 10 := by omega
      subst this
      rw [L_X9_eliminates_4, l_10, nI_LE (by omega) (by omega)]
      exact ⟨fun _ => h M1 m R pc n g1 g2 g3 g4, by omega⟩
    | succ d ih =>
      intro c hc M1 m R pc n g1 g2 g3 g4
      have n8 := g1.2.2.2.2.2.2.1
      rw [L_X9_eliminates_4, l_10, nI_LE (by omega) (by omega), vp_nI (by omega) (by omega), nI_CL (by omega), nI_A1, nI_A1]
      refine ⟨by omega, fun _ => ⟨by omega, fun M2 e2 => ?_⟩⟩
      have r2 : rows M2 m := by rw [e2]; exact g2
      have rgm : ∀ r, n ≤ r → r < 10 → rg (m r c) := fun r r1 r2 => by
        by_cases q : n ≤ 7
        · have := GJ_b g1 (by omega) (Or.inl q) r r2 c (by omega); unfold rg; omega
        · rcases g1.2.2.2.2.2.1 with z | z
          · rw [z r (by omega) r2 c (by omega)]; exact rg_0
          · by_cases q' : c < 8
            · have := g1.2.2.2.2.2.2.2; omega
            · rw [z r r2 c (by omega) (by omega)]; exact rg_0
      have lp : ∀ f r, r + f = 10 → n ≤ r → (∀ r', n ≤ r' → r' < r → m r' c = 0) → L_X9_eliminates_19 (nI n) (nI c) (fun (v3_2 : Int32) (M_3 : Mem) => ((¬ v3_2 = nI 10 → f_X9_swaps v3_2 (nI n) M_3 (fun (M_4 : Mem) => (∃ k65 : Nat, L_X9_eliminates_65 (nI n) (nI c) (fun  (M_6 : Mem) => c < 10 ∧ ∀ M_7 : Mem, M_7 = wI M_6 13 c (nI n) → L_X9_eliminates_4 (fun (v1_2 : Int32) (M_8 : Mem) => K v1_2 M_8) K (d + 1) (nI (n + 1)) (nI (c + 1)) M_7) K k65 (0 : Int32) M_4))) ∧ (v3_2 = nI 10 → L_X9_eliminates_4 (fun (v1_2 : Int32) (M_8 : Mem) => K v1_2 M_8) K (d + 1) (nI n) (nI (c + 1)) M_3))) K (f + 1) (nI r) M2 := by
        intro f
        induction f with
        | zero =>
          intro r hr hnr hr0
          have : r = 10 := by omega
          subst this
          rw [L_X9_eliminates_19, l_10, nI_LE (by omega) (by omega)]
          refine ⟨fun _ => ⟨fun z => absurd rfl z, fun _ => ?_⟩, by omega⟩
          refine ih (c + 1) (by omega) M2 m R pc n (GJ_n g1 (fun r r1 r2 => hr0 r r1 r2)) r2 (fun c' hc' => ?_) (frE_tr g4 (by rw [e2]; exact frE_w M1))
          by_cases q : c' = c
          · right
            rw [e2, q, w1_at]
            exact ⟨fun k hk e => by have := (g1.2.1 k hk).1; omega, rfl⟩
          · rw [e2, w1_no q]; exact g3 c' (by omega)
        | succ f ihf =>
          intro r hr hnr hr0
          rw [L_X9_eliminates_19, l_10, nI_LE (by omega) (by omega), ix10, vp_nI (by omega) (by omega), gL, nI_CL (by omega), r2 r (by omega) c (by omega), z_0, oL_EQ (rgm r hnr (by omega)) rg_0, nI_A1]
          refine ⟨by omega, fun _ => ⟨by omega, fun z => ⟨fun _ => ?_, fun y => ?_⟩, fun z => ihf (r + 1) (by omega) (by omega) (fun r' h1 h2 => ?_)⟩⟩
          · obtain ⟨w1, w2, w3⟩ := GJ_w g1 hnr (by omega) (by omega) z
            refine X9_swaps_sp (by omega) (by omega) r2 (fun M4 r4 f4 => ?_)
            refine X9_el65_sp (by omega) (by omega) (GJ_b w1 (by omega) (Or.inl w2)) r4 (fun M6 r6 f6 => ⟨by omega, fun M7 e7 => ?_⟩)
            refine ih (c + 1) (by omega) M7 _ _ _ (n + 1) (GJ_p w1 (by omega) w2 w3) (by rw [e7]; exact r6) (fun c' hc' => ?_) (frE_tr g4 (frE_tr (M1 := M2) (by rw [e2]; exact frE_w M1) (frE_tr (frE_J f4) (frE_tr (frE_J f6) (by rw [e7]; exact frE_w M6)))))
            have e13 : ∀ j, j ≠ c → M7.1 13 j = M1.1 13 j := fun j hj => by rw [e7, w1_no hj, f6.1, f4.1, e2, w1_no hj]
            by_cases q : c' = c
            · left
              exact ⟨n, by omega, by rw [if_pos rfl, q], by rw [e7, q, w1_at]⟩
            · rcases g3 c' (by omega) with ⟨k, k1, k2, k3⟩ | ⟨k1, k2⟩
              · left
                exact ⟨k, by omega, by rw [if_neg (by omega)]; exact k2, by rw [e13 c' q]; exact k3⟩
              · right
                refine ⟨fun k hk => ?_, by rw [e13 c' q]; exact k2⟩
                by_cases y : k = n
                · rw [if_pos y]; exact fun e => q e.symm
                · rw [if_neg y]; exact k1 k (by omega)
          · rw [nI_EQ (by omega) (by omega)] at y; omega
          · rcases Nat.lt_succ_iff_lt_or_eq.mp h2 with y | y
            · exact hr0 r' h1 y
            · rw [y]; exact z
      have hlp := lp (10 - n) n (by omega) (Nat.le_refl _) (fun r' h1 h2 => absurd h2 (by omega))
      exact ⟨_, hlp⟩
  exact ⟨_, key 10 0 (by omega) M A A (fun _ => 0) 0 (GJ_0 h3 hz _) hA (fun c' hc' => absurd hc' (Nat.not_lt_zero _)) ⟨fun _ _ => rfl, fun _ _ => rfl⟩⟩
