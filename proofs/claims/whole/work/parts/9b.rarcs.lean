/-! the reference's reader: the arcs of a step -/
theorem lineLp {tp : Nat → Nat} {L : Nat} {z : PT} {v2 : Int32} {X : Mem → Prop} {K : Mem → Prop} (hs : z.2.2.1.1 < 8) : ∀ (f : Nat) (y : AT) (M : Mem), tpR M tp L → TS9 M tp L y.1 → y.1 ≤ L → L - y.1 ≤ f → PRn M (lfA z y) → (∀ M', RdR tp L M' (lfX z (pArcs tp L z.2.1.1 z.2.1.2 z.2.2.1.1 f y)) → frRd M M' → X M') → L_X9_readLine_86 v2 X K (f + 2) M := by
  intro f
  induction f with
  | zero =>
    intro y M hL hT hp hf hP h
    have t := tst_le (tp := tp) hp
    have k1 : tkd tp L y.1 = 1 := by unfold tkd; rw [if_pos (by omega)]
    have e : X M := h M ⟨hP, hT, hp⟩ (frRd_rf M)
    show L_X9_readLine_86 v2 X K (1 + 1) M
    rw [L_X9_readLine_86]
    refine X9_good_1 hP ⟨fun q => absurd q (by decide), fun _ => X9_isWord_sp hT kTa_ok k32.2.2.1 ?_⟩
    rw [isW_f (fun x => by omega)]
    refine ⟨fun q => absurd rfl q, fun _ => X9_isWord_sp hT kGi_ok k32.2.2.2 ?_⟩
    rw [isW_f (fun x => by omega)]
    exact ⟨fun _ => e, fun q => absurd rfl q⟩
  | succ f ih =>
    intro y M hL hT hp hf hP h
    have arc : ∀ t : Bool, tkd tp L y.1 = 2 → pArcs tp L z.2.1.1 z.2.1.2 z.2.2.1.1 (f + 1) y = (match pArc tp L z.2.1.1 z.2.1.2 (!t) z.2.2.1.1 y with | .error e => .error e | .ok y' => pArcs tp L z.2.1.1 z.2.1.2 z.2.2.1.1 f y') → f_X9_readArc (bI t) M (fun (M_16 : Mem) => L_X9_readLine_86 v2 X K (f + 2) M_16) := fun t k e => by
      refine X9_readArc_sp (z := lfA z y) hL hT hp hP hs (fun M' a b => ?_)
      have a : RdR tp L M' (lfX (lfA z y) (pArc tp L z.2.1.1 z.2.1.2 (!t) z.2.2.1.1 y)) := a
      rw [e] at h
      cases c : pArc tp L z.2.1.1 z.2.1.2 (!t) z.2.2.1.1 y with
      | error e' =>
        rw [c] at a h
        have a : BR M' e' := a
        show L_X9_readLine_86 v2 X K ((f + 1) + 1) M'
        rw [L_X9_readLine_86]
        exact X9_good_0 a ⟨fun _ => h M' a b, fun q => absurd rfl q⟩
      | ok y' =>
        rw [c] at a h
        have a : PRn M' (lfA z y') ∧ TS9 M' tp L y'.1 ∧ y'.1 ≤ L := a
        have o := pArc_on hp (by omega) c
        exact ih y' M' (tpR_Rd hL b) a.2.1 a.2.2 (by omega) a.1 (fun M2 a2 b2 => h M2 a2 (frRd_tr b b2))
    show L_X9_readLine_86 v2 X K ((f + 2) + 1) M
    rw [L_X9_readLine_86]
    refine X9_good_1 hP ⟨fun q => absurd q (by decide), fun _ => X9_isWord_sp hT kTa_ok k32.2.2.1 ⟨fun q => ?_, fun q => X9_isWord_sp hT kGi_ok k32.2.2.2 ⟨fun q2 => ?_, fun q2 => ?_⟩⟩⟩
    · have q := b_ofn q
      refine X9_isWord_sp hT kTa_ok k32.2.2.1 ?_
      rw [q]
      exact arc true (of_decide_eq_true q).1 (by rw [pArcs, if_pos q]; rfl)
    · have q := b_of0 q
      have q2 := b_of0 q2
      refine h M ?_ (frRd_rf M)
      rw [pArcs, if_neg (by rw [q]; decide), if_neg (by rw [q2]; decide)]
      exact ⟨hP, hT, hp⟩
    · have q := b_of0 q
      have q2 := b_ofn q2
      refine X9_isWord_sp hT kTa_ok k32.2.2.1 ?_
      rw [q]
      exact arc false (of_decide_eq_true q2).1 (by rw [pArcs, if_neg (by rw [q]; decide), if_pos q2]; rfl)
