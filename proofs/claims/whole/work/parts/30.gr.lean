/-! the greatest closed set, the least ones -/
theorem X3_lw16 {t : Nat} {a b : Nat → Nat} {m0 : Nat} {M : Mem} {v3 v4 : Int32} {X K : Int32 → Mem → Prop} (ha : ∀ s, s < 8 → M.1 (t + 1) s = nI (a s) ∧ a s < 1024) (hb : ∀ s, s < 8 → M.1 (t + 2) s = nI (b s) ∧ b s < 1024) (hm0 : m0 < 1024)
    (h : ∀ m, sub m m0 = true → (∀ q, sub q m0 = true → cl a b q = true → sub q m = true) → (m = m0 → cl a b m = true) → X (nI m) M) : ∃ n, L_X3_largestWithin_16 t v3 v4 X K n (nI m0) 0 M := by
  have key : ∀ d j m, j + d = 8 → sub m m0 = true → (∀ q, sub q m0 = true → cl a b q = true → sub q m = true) → (m = m0 → ∀ s, s < j → a s &&& m = 0 ∨ ¬ b s &&& m = 0) → ∃ n, L_X3_largestWithin_16 t v3 v4 X K n (nI m) (nI j) M := by
    intro d
    induction d with
    | zero =>
      intro j m hj h1 h2 h3
      refine ⟨1, ?_⟩
      rw [L_X3_largestWithin_16]
      have e : j = 8 := by omega
      subst e
      exact ⟨fun _ => h m h1 h2 (fun q => cl_iff.mpr (h3 q)), fun q => absurd (by rw [l_8, nI_LE (by omega) (by omega)]; exact Nat.le_refl _) q⟩
    | succ d ih =>
      intro j m hj h1 h2 h3
      have hj8 : j < 8 := by omega
      have hm := sub_le h1
      by_cases c1 : a j &&& m = 0
      · obtain ⟨n, hn⟩ := ih (j + 1) m (by omega) h1 h2 (fun e s hs => by
          rcases Nat.lt_succ_iff_lt_or_eq.mp hs with k | rfl
          · exact h3 e s k
          · exact Or.inl c1)
        refine ⟨n + 1, ?_⟩
        rw [L_X3_largestWithin_16, gI, gI, nI_CL (by omega), (ha j hj8).1, (hb j hj8).1, and_n0 (ha j hj8).2, and_n0 (hb j hj8).2]
        refine ⟨fun q => absurd q (by rw [l_8, nI_LE (by omega) (by omega)]; omega), fun _ => ⟨(vp_nI (by omega) (by omega)).mpr hj8, fun _ => by rw [l_1, nI_add]; exact hn, fun q => absurd c1 q⟩⟩
      · by_cases c2 : b j &&& m = 0
        · have hlt := dif_lt c1
          obtain ⟨n, hn⟩ := ih (j + 1) (dif m (a j)) (by omega) (sub_tr (dif_sub _ _) h1) (fun q hq hc => gr_keep hj8 c2 (h2 q hq hc) hc) (fun e => by omega)
          refine ⟨n + 1, ?_⟩
          rw [L_X3_largestWithin_16, gI, gI, nI_CL (by omega), (ha j hj8).1, (hb j hj8).1, and_n0 (ha j hj8).2, and_n0 (hb j hj8).2]
          refine ⟨fun q => absurd q (by rw [l_8, nI_LE (by omega) (by omega)]; omega), fun _ => ⟨(vp_nI (by omega) (by omega)).mpr hj8, fun q => absurd q c1, fun _ => ⟨fun q => absurd c2 q, fun _ x e => ?_⟩⟩⟩
          rw [e, nI_dif, l_1, nI_add]; exact hn
        · obtain ⟨n, hn⟩ := ih (j + 1) m (by omega) h1 h2 (fun e s hs => by
            rcases Nat.lt_succ_iff_lt_or_eq.mp hs with k | rfl
            · exact h3 e s k
            · exact Or.inr c2)
          refine ⟨n + 1, ?_⟩
          rw [L_X3_largestWithin_16, gI, gI, nI_CL (by omega), (ha j hj8).1, (hb j hj8).1, and_n0 (ha j hj8).2, and_n0 (hb j hj8).2]
          refine ⟨fun q => absurd q (by rw [l_8, nI_LE (by omega) (by omega)]; omega), fun _ => ⟨(vp_nI (by omega) (by omega)).mpr hj8, fun q => absurd q c1, fun _ => ⟨fun _ => by rw [l_1, nI_add]; exact hn, fun q => absurd q c2⟩⟩⟩
  exact key 8 0 m0 (by omega) (sub_rf _) (fun q hq _ => hq) (fun _ s hs => absurd hs (Nat.not_lt_zero s))
/-- how many bits a set has -/
def pop (m : Nat) : Nat := ctB (fun i => m.testBit i) 10
theorem pop_lt {a b : Nat} (hb : b < 1024) (h : sub a b = true) (hne : a ≠ b) : pop a < pop b := by
  have key : ∀ n, (∀ i, i < n → a.testBit i = b.testBit i) ∨ ctB (fun i => a.testBit i) n < ctB (fun i => b.testBit i) n := by
    intro n
    induction n with
    | zero => exact Or.inl (fun i hi => absurd hi (Nat.not_lt_zero i))
    | succ n ih =>
      have hle : ctB (fun i => a.testBit i) n ≤ ctB (fun i => b.testBit i) n := by
        rcases ih with q | q
        · rw [ctB_cong q]; exact Nat.le_refl _
        · omega
      cases h1 : a.testBit n
      · cases h2 : b.testBit n
        · rw [ctB_f (c := fun i => a.testBit i) h1, ctB_f (c := fun i => b.testBit i) h2]
          refine ih.imp (fun q i hi => ?_) (fun q => q)
          rcases Nat.lt_succ_iff_lt_or_eq.mp hi with k | rfl
          · exact q i k
          · rw [h1, h2]
        · rw [ctB_f (c := fun i => a.testBit i) h1, ctB_t (c := fun i => b.testBit i) h2]
          exact Or.inr (by omega)
      · have h2 := sub_iff.mp h n h1
        rw [ctB_t (c := fun i => a.testBit i) h1, ctB_t (c := fun i => b.testBit i) h2]
        refine ih.imp (fun q i hi => ?_) (fun q => by omega)
        rcases Nat.lt_succ_iff_lt_or_eq.mp hi with k | rfl
        · exact q i k
        · rw [h1, h2]
  rcases key 10 with q | q
  · refine absurd (Nat.eq_of_testBit_eq fun i => ?_) hne
    rcases Nat.lt_or_ge i 10 with k | k
    · exact q i k
    · have ha : a < 1024 := Nat.lt_of_le_of_lt (sub_le h) hb
      rw [tb_hi (k := 10) ha k, tb_hi (k := 10) hb k]
  · exact q
theorem pop_le (m : Nat) : pop m ≤ 10 := ctB_le _ 10
theorem X3_largestWithin_sp {t : Nat} {a b : Nat → Nat} {m : Nat} {M : Mem} {K : Int32 → Mem → Prop} (ha : ∀ s, s < 8 → M.1 (t + 1) s = nI (a s) ∧ a s < 1024) (hb : ∀ s, s < 8 → M.1 (t + 2) s = nI (b s) ∧ b s < 1024) (hm : m < 1024)
    (h : ∀ r, isGr a b m r → K (nI r) M) : f_X3_largestWithin t (nI m) M K := by
  have key : ∀ d j r, j + d = 11 → sub r m = true → (∀ q, sub q m = true → cl a b q = true → sub q r = true) → pop r + j ≤ 10 → L_X3_largestWithin_4 t (fun v M => K v M) K d (nI r) (nI j) M := by
    intro d
    induction d with
    | zero => intro j r hj h1 h2 h3; omega
    | succ d ih =>
      intro j r hj h1 h2 h3
      have hr : r < 1024 := Nat.lt_of_le_of_lt (sub_le h1) hm
      rw [L_X3_largestWithin_4]
      refine ⟨fun q => absurd q (by rw [l_10, nI_LT (by omega) (by omega)]; omega), fun _ => X3_lw16 ha hb hr (fun m' q1 q2 q3 => ⟨fun e => ?_, fun e => ?_⟩)⟩
      · rw [l_1, nI_add]
        have hne : m' ≠ r := fun z => e (by rw [z])
        exact ih (j + 1) m' (by omega) (sub_tr q1 h1) (fun q hq hc => q2 q (h2 q hq hc) hc) (by have := pop_lt hr q1 hne; omega)
      · have e2 : m' = r := (nI_eq (by have := Nat.lt_of_le_of_lt (sub_le q1) hr; omega) (by omega)).mp e
        rw [e2]
        exact h r ⟨h1, by rw [← e2]; exact q3 e2, h2⟩
  exact ⟨11, key 11 0 m (by omega) (sub_rf _) (fun q hq _ => hq) (by have := pop_le m; omega)⟩
theorem X9_w23 {b : Bool} {m0 : Nat} {M : Mem} {X : Int32 → Int32 → Mem → Prop} {K : Int32 → Mem → Prop} (hm0 : m0 < 1024)
    (h : ∀ m v, sub m m0 = true → (∀ q, sub q m0 = true → cl (rA M b) (rA M (!b)) q = true → sub q m = true) → (v = 0 ∧ m = m0 ∧ cl (rA M b) (rA M (!b)) m = true ∨ v = 1 ∧ m < m0) → X (nI m) v M) : ∃ n, L_X9_within_23 (bI b) X K n (nI m0) 0 0 M := by
  have key : ∀ d j m v, j + d = 8 → sub m m0 = true → (∀ q, sub q m0 = true → cl (rA M b) (rA M (!b)) q = true → sub q m = true) → (v = 0 ∧ m = m0 ∧ (∀ s, s < j → rA M b s &&& m = 0 ∨ ¬ rA M (!b) s &&& m = 0) ∨ v = 1 ∧ m < m0) → L_X9_within_23 (bI b) X K (d + 1) (nI m) v (nI j) M := by
    intro d
    induction d with
    | zero =>
      intro j m v hj h1 h2 h3
      rw [L_X9_within_23]
      have e : j = 8 := by omega
      subst e
      exact ⟨fun _ => h m v h1 h2 (h3.imp (fun q => ⟨q.1, q.2.1, cl_iff.mpr q.2.2⟩) (fun q => q)), fun q => absurd (by rw [l_8, nI_LE (by omega) (by omega)]; exact Nat.le_refl _) q⟩
    | succ d ih =>
      intro j m v hj h1 h2 h3
      have hj8 : j < 8 := by omega
      have hm := sub_le h1
      rw [L_X9_within_23, w1_bI, w0_bI]
      refine ⟨fun q => absurd q (by rw [l_8, nI_LE (by omega) (by omega)]; omega), fun _ => X9_placesOf_sp hj8 (fun x ex => ?_)⟩
      have nx : (rA M b j &&& m = 0 ∨ ¬ rA M (!b) j &&& m = 0) → L_X9_within_23 (bI b) X K (d + 1) (nI m) v (nI j + 1) M := fun q => by
        rw [l_1, nI_add]
        refine ih (j + 1) m v (by omega) h1 h2 (h3.imp (fun z => ⟨z.1, z.2.1, fun s hs => ?_⟩) (fun z => z))
        rcases Nat.lt_succ_iff_lt_or_eq.mp hs with k | rfl
        · exact z.2.2 s k
        · exact q
      have ex0 : (x = 0) = (rA M b j &&& m = 0) := by rw [ex]; exact and_n0 (aks_lt _ _)
      rw [ex0]
      refine ⟨fun q => nx (Or.inl q), fun q => X9_placesOf_sp hj8 ?_⟩
      rw [and_n0 (aks_lt _ _)]
      refine ⟨fun r => nx (Or.inr r), fun r y ey => ?_⟩
      have ed : nI m &&& (x ^^^ (-1)) = nI (dif m (rA M b j)) := by
        rw [ex, nI_and]
        refine and_cp (fun i => ?_)
        rw [tb_dif, Nat.testBit_and]
        show _ = (m.testBit i && !((rA M b j).testBit i && m.testBit i))
        cases m.testBit i <;> cases (rA M b j).testBit i <;> rfl
      rw [ey, ed, l_1, nI_add]
      exact ih (j + 1) _ _ (by omega) (sub_tr (dif_sub _ _) h1) (fun q' hq hc => gr_keep hj8 r (h2 q' hq hc) hc) (Or.inr ⟨rfl, by have := dif_lt q; omega⟩)
  exact ⟨9, key 8 0 m0 0 (by omega) (sub_rf _) (fun q hq _ => hq) (Or.inl ⟨rfl, rfl, fun s hs => absurd hs (Nat.not_lt_zero s)⟩)⟩
theorem X9_within_sp {b : Bool} {v : Int32} {m : Nat} {M : Mem} {K : Int32 → Mem → Prop} (hm : m < 1024) (hv : v &&& M.1 4 0 = nI m) (h : ∀ r, isGr (rA M b) (rA M (!b)) m r → K (nI r) M) : f_X9_within (bI b) v M K := by
  unfold f_X9_within
  intro x ex
  rw [gI, show (0 : Int32).toNatClampNeg = 0 from rfl, hv] at ex
  subst ex
  have key : ∀ d r v, r < d → sub r m = true → (∀ q, sub q m = true → cl (rA M b) (rA M (!b)) q = true → sub q r = true) → (v = 0 ∧ cl (rA M b) (rA M (!b)) r = true ∨ v = 1) → L_X9_within_12 (bI b) (fun v M => K v M) K (d + 1) (nI r) v M := by
    intro d
    induction d with
    | zero => intro r v hr; omega
    | succ d ih =>
      intro r v hr h1 h2 h3
      rw [L_X9_within_12]
      have hr2 : r < 1024 := Nat.lt_of_le_of_lt (sub_le h1) hm
      refine ⟨fun q => ?_, fun q => X9_w23 hr2 (fun m' v' q1 q2 q3 => ?_)⟩
      · rcases h3 with ⟨-, h4⟩ | h4
        · exact h r ⟨h1, h4, h2⟩
        · rw [h4] at q; exact absurd q (by decide)
      · rcases q3 with ⟨e1, e2, e3⟩ | ⟨e1, e2⟩
        · subst e2
          rw [e1]
          rw [L_X9_within_12]
          exact ⟨fun _ => h m' ⟨h1, e3, h2⟩, fun z => absurd rfl z⟩
        · exact ih m' v' (by omega) (sub_tr q1 h1) (fun q hq hc => q2 q (h2 q hq hc) hc) (Or.inr e1)
  exact ⟨_, key (m + 1) m 1 (by omega) (sub_rf _) (fun q hq _ => hq) (Or.inr rfl)⟩
