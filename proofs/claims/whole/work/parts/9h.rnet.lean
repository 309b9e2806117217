/-! the reference's reader: the lines of a text -/
theorem netLp {tp : Nat → Nat} {L : Nat} {X : Mem → Prop} {K : Int32 → Mem → Prop} : ∀ (f : Nat) (z : PT) (M : Mem), tpR M tp L → TS9 M tp L z.1 → z.1 ≤ L → L - z.1 ≤ f → PRn M z → (∀ M', RdR tp L M' (pNet tp L f z) → frRe M M' → X M') → L_X9_net_102 X K (f + 2) M := by
  intro f
  induction f with
  | zero =>
    intro z M hL hT hp hf hP h
    have t := tst_le (tp := tp) hp
    have k1 : tkd tp L z.1 = 1 := by unfold tkd; rw [if_pos (by omega)]
    show L_X9_net_102 X K (1 + 1) M
    rw [L_X9_net_102]
    exact X9_good_1 hP ⟨fun q => absurd q (by decide), fun _ => ⟨fun _ => h M ⟨hP, hT, hp⟩ (frRe_rf M), fun q => absurd (by rw [hT.2.1, k1]; rfl) q⟩⟩
  | succ f ih =>
    intro z M hL hT hp hf hP h
    have k4 := tkd_le (tp := tp) (L := L) (p := z.1)
    have kr := kR_4 k4
    have zk : (M.1 0 14 = (0 : Int32)) = (tkd tp L z.1 = 1) := by rw [hT.2.1, l_0, nI_EQ (by omega) (by omega)]; exact propext kr.2.2.2.2.2
    show L_X9_net_102 X K ((f + 2) + 1) M
    rw [L_X9_net_102]
    refine X9_good_1 hP ⟨fun q => absurd q (by decide), fun _ => ⟨fun q => ?_, fun q => ?_⟩⟩
    · rw [zk] at q
      exact h M (by rw [pNet, if_pos q]; exact ⟨hP, hT, hp⟩) (frRe_rf M)
    · rw [zk] at q
      rw [pNet, if_neg q] at h
      refine X9_readLine_sp hL hT hp hP (fun M' a g => ?_)
      cases c : pLine tp L z with
      | error e =>
        rw [c] at a h
        show L_X9_net_102 X K ((f + 1) + 1) M'
        rw [L_X9_net_102]
        have a : BR M' e := a
        exact X9_good_0 a ⟨fun _ => h M' a g, fun y => absurd rfl y⟩
      | ok y =>
        rw [c] at a h
        have a : PRn M' y ∧ TS9 M' tp L y.1 ∧ y.1 ≤ L := a
        have o := pLine_on hp q c
        exact ih y M' (tpR_Re hL g) a.2.1 a.2.2 (by omega) a.1 (fun M2 a2 b2 => h M2 a2 (frRe_tr g b2))
