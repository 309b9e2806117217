theorem J7_fill_sp {a N : Nat} {u : Int32} {M : Mem} {K : Mem → Prop} (hN : alen a = N) (hN2 : N < 100000) (h : ∀ M', (∀ i, i < N → M'.1 a i = u) → (∀ i, N ≤ i → M'.1 a i = M.1 a i) → (∀ b, b ≠ a → M'.1 b = M.1 b) → M'.2 = M.2 → K M') : f_J7_fill_53178 a u M K := by
  unfold f_J7_fill_53178
  have key : ∀ d j, j + d = N → ∀ M1 : Mem, (∀ i, i < j → M1.1 a i = u) → (∀ i, j ≤ i → M1.1 a i = M.1 a i) → (∀ b, b ≠ a → M1.1 b = M.1 b) → M1.2 = M.2 → L_J7_fill_53178_5 a u (nI N) (fun M_2 => K M_2) K (d + 1) (nI j) M1 := by
    intro d
    induction d with
    | zero =>
      intro j hj M1 h1 h2 h3 h4
      have : j = N := by omega
      subst this
      rw [L_J7_fill_53178_5, nI_LE (by omega) (by omega)]
      exact ⟨fun _ => h M1 h1 h2 h3 h4, by omega⟩
    | succ d ih =>
      intro j hj M1 h1 h2 h3 h4
      rw [L_J7_fill_53178_5]; simp (disch := omega) only [nI_LE, hN, vp_nI, nI_CL, nI_A1, forall_eq]
      refine ⟨by omega, fun _ => ⟨by omega, ih (j + 1) (by omega) _ (fun i hi => ?_) (fun i hi => by rw [w1_no (by omega)]; exact h2 i (by omega)) (fun b hb => by rw [w1_ne hb, h3 b hb]) (by rw [w1_2, h4])⟩⟩
      by_cases q : i = j
      · subst q; rw [w1_at]
      · rw [w1_no q]; exact h1 i (by omega)
  have := key N 0 (by omega) M (fun i hi => absurd hi (Nat.not_lt_zero i)) (fun _ _ => rfl) (fun _ _ => rfl) rfl
  rw [hN]
  intro x3 e3
  rw [e3]
  exact ⟨_, this⟩
theorem X0_g71_sp {t c tp ts : Nat} {n : NN} {M0 : Mem} {X K : Mem → Prop} (ht : alen (t + 1) = 3010) (hc : c + 3 < t ∨ t + 11 < c) (hn : atC M0 c n tp ts) : ∀ {f i : Nat} {g : GS} {M : Mem}, 301 ≤ f + i → GV g → i ≤ gk g → xok g (8 * i) → cL M t n g i 0 → frC t M0 M → (∀ k, k ≠ 12 → k ≠ 13 → M.1 t k = M0.1 t k) → (∀ M', cL M' t n (lpG n f i g) (gk (lpG n f i g)) 0 → frC t M0 M' → (∀ k, k ≠ 12 → k ≠ 13 → M'.1 t k = M0.1 t k) → X M') → L_X0_grow_71 t c X K f (nI i) M := by
  intro f
  induction f with
  | zero => intro i g M h1 v h2; have := v.1; omega
  | succ f ih =>
    intro i g M h1 v h2 hx hL hf hk h
    have k3 := v.1
    rw [L_X0_grow_71, hL.1.1, l_300, nI_LE (by omega) (by omega), nI_LE (by omega) (by omega), nI_A1]
    rw [lpG] at h
    refine ⟨fun q => ?_, fun q => ⟨by omega, fun _ => ?_⟩⟩
    · rw [if_neg (by omega)] at h
      have : i = gk g := by omega
      subst this
      exact h M hL hf hk
    · rw [if_pos (by omega)] at h
      have hi : i < gk g := by omega
      obtain ⟨a, b, c', _⟩ := stU_v (n := n) v hi hx 8
      exact X0_goFrom_sp ht hc (atC_frC hn hf hc) v hi hx hL (fun M' m1 m2 m3 => ih (by omega) a (by have := b.1; omega) c' m1 (frC_tr hf m2) (fun k h1 h2 => by rw [m3 k h1 h2]; exact hk k h1 h2) h)
/-- the class's graph, grown -/
def cB (M : Mem) (t : Nat) (n : NN) : Prop := cL M t n (bfs n) (gk (bfs n)) 0
theorem X0_grow_sp {t c tp ts : Nat} {n : NN} {u : Int32} {M : Mem} {K : Mem → Prop} (ht : alen (t + 1) = 3010) (ht6 : alen (t + 6) = 1024) (hc : c + 3 < t ∨ t + 11 < c) (hn : atC M c n tp ts) (hs : M.1 t 11 = u → K M)
    (h : ¬ M.1 t 11 = u → ∀ M', cB M' t n → frC t M M' → M'.1 t 11 = u → M'.1 t 15 = 0 → M'.1 t 16 = -1 → M'.1 t 17 = -1 → K M') : f_X0_grow t c u M K := by
  unfold f_X0_grow
  refine ⟨fun hu M2 e2 M3 e3 M4 e4 M5 e5 M6 e6 M7 e7 => ?_, hs⟩
  have n7 : ∀ b, b ≠ t → M7.1 b = M.1 b := fun b hb => by rw [e7, w1_ne hb, e6, w1_ne hb, e5, w1_ne hb, e4, w1_ne hb, e3, w1_ne hb, e2, w1_ne hb]
  have s12 : M7.1 t 12 = 0 := by rw [e7, w1_no (by decide), e6, w1_no (by decide), e5, w1_no (by decide), e4, w1_no (by decide), e3, w1_at]
  have s13 : M7.1 t 13 = 0 := by rw [e7, w1_no (by decide), e6, w1_no (by decide), e5, w1_no (by decide), e4, w1_at]
  have s11 : M7.1 t 11 = u := by rw [e7, w1_no (by decide), e6, w1_no (by decide), e5, w1_no (by decide), e4, w1_no (by decide), e3, w1_no (by decide), e2, w1_at]
  have s15 : M7.1 t 15 = 0 := by rw [e7, w1_no (by decide), e6, w1_no (by decide), e5, w1_at]
  have s16 : M7.1 t 16 = -1 := by rw [e7, w1_no (by decide), e6, w1_at]
  have s17 : M7.1 t 17 = -1 := by rw [e7, w1_at]
  have m7 : M7.2 = M.2 := by rw [e7, w1_2, e6, w1_2, e5, w1_2, e4, w1_2, e3, w1_2, e2, w1_2]
  have f7 : frC t M M7 := ⟨fun b hb => n7 b (by omega), m7⟩
  refine J7_fill_sp ht6 (by omega) (fun M8 a1 a2 a3 a4 M9 e9 => ?_)
  rw [show (0 : Int32).toNatClampNeg = 0 from rfl, show (10 : Int32).toNatClampNeg = 10 from rfl] at e9
  have n9 : ∀ b, b ≠ t + 1 → M9.1 b = M8.1 b := fun b hb => by rw [e9, wC_ne hb]
  have f9 : frC t M M9 := frC_tr f7 ⟨fun b hb => by rw [n9 b (by omega), a3 b (by omega)], by rw [e9, wC_2, a4]⟩
  have t9 : M9.1 t = M7.1 t := by rw [n9 t (by omega), a3 t (by omega)]
  have at7 : atC M7 c n tp ts := atC_frC hn f7 hc
  have w := hn.2.2.2
  have r9 : ∀ p, p < 10 → M9.1 (t + 1) p = nI (nH n p) := fun p hp => by
    rw [e9, wC_eq, cpy0, if_pos hp, a3 _ (by omega)]
    exact ac_H at7 hp
  have g9 : cG M9 t g00 := by
    refine ⟨by rw [t9, s12]; rfl, by rw [t9, s13]; rfl, fun i hi => absurd hi (Nat.not_lt_zero i), fun i hi => absurd hi (Nat.not_lt_zero i), fun a ha => Or.inl (by rw [n9 _ (by omega)]; exact a1 a ha), fun i hi => absurd hi (Nat.not_lt_zero i), ?_⟩
    rw [ctB_cong (d := fun _ => false) (fun j hj => by rw [n9 _ (by omega), a1 j hj]; exact decide_eq_false (fun z => z rfl))]
    have : ∀ n, ctB (fun _ => false) n = 0 := fun n => by
      induction n with
      | zero => rfl
      | succ n ih => rw [ctB_f rfl, ih]
    rw [this]; exact Nat.zero_le _
  have v0 : GV g00 := ⟨by decide, fun e => (by cases e), fun i j hi => absurd hi (Nat.not_lt_zero i), fun i hi => absurd hi (Nat.not_lt_zero i), fun i hi => absurd hi (Nat.not_lt_zero i)⟩
  refine X0_findOrAdd_sp (x := nH n) v0 g9 (fun p hp => ⟨by rw [show 10 * gk g00 + p = p by show 10 * 0 + p = p; omega]; exact r9 p hp, wf_H w p⟩) (fun M10 b1 b2 b3 b4 b5 b6 => ⟨301, ?_⟩)
  obtain ⟨v, k1⟩ := gv_0 n w
  refine X0_g71_sp (M0 := M10) (i := 0) (g := gst n) ht hc (atC_frC hn (frC_tr f9 b2) hc) (by omega) v (Nat.zero_le _) (fun e he => absurd he (by omega)) ⟨b1, fun e he => absurd he (by omega), fun j hj => absurd hj (by omega), fun z => absurd z (by omega)⟩ (frC_rf t M10) (fun _ _ _ => rfl) (fun M' c1 c2 c3 => h hu M' c1 (frC_tr f9 (frC_tr b2 c2)) ?_ ?_ ?_ ?_)
  · rw [c3 11 (by decide) (by decide), b6 11 (by decide) (by decide), t9, s11]
  · rw [c3 15 (by decide) (by decide), b6 15 (by decide) (by decide), t9, s15]
  · rw [c3 16 (by decide) (by decide), b6 16 (by decide) (by decide), t9, s16]
  · rw [c3 17 (by decide) (by decide), b6 17 (by decide) (by decide), t9, s17]
