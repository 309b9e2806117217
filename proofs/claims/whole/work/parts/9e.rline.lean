/-! the reference's reader: a line -/
def thC (tp : Nat → Nat) (L : Nat) (x : Except (Nat × Nat) PT) : Except (Nat × Nat) PT := match x with
  | .error e => .error e
  | .ok y => pClose tp L y
theorem pPlace_c {tp : Nat → Nat} {L : Nat} {z : PT} (hz : z.2.1.1 < 10) : pPlace tp L z = thC tp L (pPlc tp L z) := by
  unfold pPlace pPlc
  rw [if_pos hz]
  cases pNew tp L z (tsp tp L z.1) with
  | some e => rfl
  | none =>
    dsimp only
    split
    · split
      · rfl
      · rfl
    · rfl
theorem clsR {tp : Nat → Nat} {L : Nat} {x : Except (Nat × Nat) PT} {M : Mem} {K : Mem → Prop} (hL : tpR M tp L) (hx : RdR tp L M x) (h : ∀ M', RdR tp L M' (thC tp L x) → frRe M M' → K M') : f_X9_isGood M (fun (r_19 : Int32) (M_25 : Mem) => (S_X9_readLine_148 r_19 (fun  (M_27 : Mem) => f_X9_goesOn  M_27 (fun (M_28 : Mem) => K M_28)) K M_25)) := by
  cases x with
  | error e =>
    have B : BR M e := hx
    refine X9_good_0 B ?_
    unfold S_X9_readLine_148
    exact ⟨fun _ => X9_goesOn_b B (h M B (frRe_rf M)), fun y => absurd rfl y⟩
  | ok z =>
    have hx : PRn M z ∧ TS9 M tp L z.1 ∧ z.1 ≤ L := hx
    have k4 := tkd_le (tp := tp) (L := L) (p := z.1)
    have kr := kR_4 k4
    have zk : (M.1 0 14 = (3 : Int32)) = (tkd tp L z.1 = 4) := by rw [hx.2.1.2.1, l_3, nI_EQ (by omega) (by omega)]; exact propext kr.2.2.2.2.1
    have h : ∀ M', RdR tp L M' (pClose tp L z) → frRe M M' → K M' := h
    unfold pClose at h
    refine X9_good_1 hx.1 ?_
    unfold S_X9_readLine_148
    refine ⟨fun y => absurd y (by decide), fun _ => ⟨fun a => ?_, fun a => ?_⟩⟩
    · rw [zk] at a
      rw [if_pos a] at h
      exact X9_goesOn_sp hL hx.2.1 hx.2.2 hx.1 (fun M' c d => h M' ⟨PRn_f hx.1 d, c, (tsp_le hx.2.2).2⟩ (frRe_0 d))
    · rw [zk] at a
      rw [if_neg a] at h
      exact X9_fails_sp (k := 2) hx.1 hx.2.1 (by omega) (fun M' B _ _ _ g => X9_goesOn_b B (h M' B (frRe_of g)))
