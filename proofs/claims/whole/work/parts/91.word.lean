/-! words, as lists of letters (the last one first) -/
def wl (tp : Nat → Nat) (s : Nat) : Nat → List Nat
  | 0 => []
  | k + 1 => (tp (s + k) - 96) :: wl tp s k
def wcd (b : Nat) : List Nat → Nat
  | [] => 0
  | a :: l => wcd b l * b + a
def lok : List Nat → Prop
  | [] => True
  | a :: l => (1 ≤ a ∧ a ≤ 26) ∧ lok l
def wok (w : List Nat) : Prop := w.length ≤ 6 ∧ lok w
theorem cod_wcd {b : Nat} {tp : Nat → Nat} {s : Nat} : ∀ {k : Nat}, cod b tp s k = wcd b (wl tp s k)
  | 0 => rfl
  | k + 1 => by rw [cod, wl, wcd, cod_wcd (k := k)]
theorem wl_len {tp : Nat → Nat} {s : Nat} : ∀ {k : Nat}, (wl tp s k).length = k
  | 0 => rfl
  | k + 1 => by rw [wl, List.length_cons, wl_len]
theorem wl_lok {tp : Nat → Nat} {s : Nat} : ∀ {k : Nat}, (∀ i, i < k → isLt (tp (s + i)) = true) → lok (wl tp s k)
  | 0, _ => trivial
  | k + 1, h => by
    have q := of_decide_eq_true (h k (by omega))
    exact ⟨⟨by omega, by omega⟩, wl_lok (fun i hi => h i (by omega))⟩
theorem wcd_lt {b : Nat} (hb : 27 ≤ b) : ∀ {w : List Nat}, lok w → wcd b w < b ^ w.length
  | [], _ => by rw [wcd]; exact Nat.one_pos
  | a :: l, h => by
    have i := wcd_lt hb h.2
    rw [wcd, List.length_cons, Nat.pow_succ]
    calc wcd b l * b + a < wcd b l * b + b := by have := h.1.2; omega
      _ = (wcd b l + 1) * b := by rw [Nat.succ_mul]
      _ ≤ b ^ l.length * b := Nat.mul_le_mul_right b i
theorem wcd_27 {w : List Nat} (h : wok w) : wcd 27 w < 2147483648 := by
  have := wcd_lt (b := 27) (by omega) h.2
  have i : 27 ^ w.length ≤ 27 ^ 6 := Nat.pow_le_pow_right (by omega) h.1
  have e : (27 : Nat) ^ 6 = 387420489 := by decide
  omega
theorem wcd_32 {w : List Nat} (h : wok w) : wcd 32 w < 2147483648 := by
  have := wcd_lt (b := 32) (by omega) h.2
  have i : 32 ^ w.length ≤ 32 ^ 6 := Nat.pow_le_pow_right (by omega) h.1
  have e : (32 : Nat) ^ 6 = 1073741824 := by decide
  omega
theorem wcd_inj {b : Nat} (hb : 27 ≤ b) : ∀ {w w' : List Nat}, lok w → lok w' → wcd b w = wcd b w' → w = w'
  | [], [], _, _, _ => rfl
  | [], a :: l, _, h, e => by rw [wcd, wcd] at e; have := h.1.1; omega
  | a :: l, [], h, _, e => by rw [wcd, wcd] at e; have := h.1.1; omega
  | a :: l, a' :: l', h, h', e => by
    rw [wcd, wcd] at e
    have q : a = a' := by
      have := congrArg (· % b) e
      rw [Nat.mul_add_mod', Nat.mul_add_mod', Nat.mod_eq_of_lt (by have := h.1.2; omega), Nat.mod_eq_of_lt (by have := h'.1.2; omega)] at this
      exact this
    rw [q] at e
    rw [q, wcd_inj hb h.2 h'.2 (Nat.eq_of_mul_eq_mul_right (by omega) (Nat.add_right_cancel e))]
theorem e27 {w w' : List Nat} (h : wok w) (h' : wok w') : (nI (wcd 27 w) = nI (wcd 27 w')) = (w = w') := by
  rw [nI_EQ (wcd_27 h) (wcd_27 h')]
  exact propext ⟨wcd_inj (by omega) h.2 h'.2, fun e => by rw [e]⟩
theorem e32 {w w' : List Nat} (h : wok w) (h' : wok w') : (nI (wcd 32 w) = nI (wcd 32 w')) = (w = w') := by
  rw [nI_EQ (wcd_32 h) (wcd_32 h')]
  exact propext ⟨wcd_inj (by omega) h.2 h'.2, fun e => by rw [e]⟩
def kPl : List Nat := [5, 3, 1, 12, 16]
def kSt : List Nat := [16, 5, 20, 19]
def kTa : List Nat := [19, 5, 11, 1, 20]
def kGi : List Nat := [19, 5, 22, 9, 7]
theorem kPl_ok : wok kPl := ⟨by decide, by simp [kPl, lok]⟩
theorem kSt_ok : wok kSt := ⟨by decide, by simp [kSt, lok]⟩
theorem kTa_ok : wok kTa := ⟨by decide, by simp [kTa, lok]⟩
theorem kGi_ok : wok kGi := ⟨by decide, by simp [kGi, lok]⟩
theorem k27 : (8740067 : Int32) = nI (wcd 27 kPl) ∧ (388708 : Int32) = nI (wcd 27 kSt) ∧ (10656676 : Int32) = nI (wcd 27 kTa) ∧ (3913426 : Int32) = nI (wcd 27 kGi) := ⟨by decide, by decide, by decide, by decide⟩
theorem k32 : (17171557 : Int32) = nI (wcd 32 kPl) ∧ (643248 : Int32) = nI (wcd 32 kSt) ∧ (21015731 : Int32) = nI (wcd 32 kTa) ∧ (7657651 : Int32) = nI (wcd 32 kGi) := ⟨by decide, by decide, by decide, by decide⟩
/-- the word of a token -/
def twl (tp : Nat → Nat) (L p : Nat) : List Nat := wl tp (tst tp L p) (tsp tp L p - tst tp L p)
theorem tw_wcd {b : Nat} {tp : Nat → Nat} {L p : Nat} : tw b tp L p = wcd b (twl tp L p) := cod_wcd
theorem twl_ok {tp : Nat → Nat} {L p : Nat} (h : tkd tp L p = 2) : wok (twl tp L p) := by
  unfold tkd at h
  by_cases a : L ≤ tst tp L p
  · rw [if_pos a] at h; cases h
  rw [if_neg a] at h
  by_cases b : isLt (tp (tst tp L p)) = true
  · rw [if_pos b] at h
    by_cases c : tsp tp L p - tst tp L p ≤ 6
    · refine ⟨by unfold twl; rw [wl_len]; exact c, wl_lok (fun i hi => ?_)⟩
      have sp : tsp tp L p = rn isLt tp L (L - tst tp L p) (tst tp L p) := by unfold tsp; rw [if_neg a, if_pos b]
      exact rn_all (c := isLt) (tp := tp) (L := L) (f := L - tst tp L p) (p := tst tp L p) (by omega) (by rw [← sp]; omega)
    · rw [if_neg c] at h; cases h
  · rw [if_neg b] at h
    split at h
    · split at h <;> cases h
    · split at h <;> cases h
/-- is the token this word; is it a name -/
def isW (tp : Nat → Nat) (L p : Nat) (w : List Nat) : Bool := decide (tkd tp L p = 2 ∧ twl tp L p = w)
def isNm (tp : Nat → Nat) (L p : Nat) : Bool := decide (tkd tp L p = 2 ∧ twl tp L p ≠ kPl ∧ twl tp L p ≠ kSt ∧ twl tp L p ≠ kTa ∧ twl tp L p ≠ kGi)
theorem tkd_le {tp : Nat → Nat} {L p : Nat} : tkd tp L p ≤ 4 := by
  unfold tkd
  repeat' split
  all_goals omega
theorem X4_isName_sp {tp : Nat → Nat} {L p : Nat} {M : Mem} {K : Int32 → Mem → Prop} (hT : TS4 M tp L p) (h : K (bI (isNm tp L p)) M) : f_X4_isName M K := by
  have k4 := tkd_le (tp := tp) (L := L) (p := p)
  unfold f_X4_isName
  rw [hT.2.1, l_2, nI_EQ (by omega) (by omega)]
  unfold isNm at h
  refine ⟨fun q => ?_, fun q => ?_⟩
  · rw [decide_eq_false (fun z => q z.1)] at h; exact h
  have o := twl_ok q
  rw [hT.2.2.2.1 q, tw_wcd, k27.1, k27.2.1, k27.2.2.1, k27.2.2.2, e27 o kPl_ok, e27 o kSt_ok, e27 o kTa_ok, e27 o kGi_ok]
  refine ⟨fun a => ?_, fun a => ⟨fun b => ?_, fun b => ⟨fun c => ?_, fun c => ⟨fun d => ?_, fun d => ?_⟩⟩⟩⟩
  · rw [decide_eq_false (fun z => z.2.1 a)] at h; exact h
  · rw [decide_eq_false (fun z => z.2.2.1 b)] at h; exact h
  · rw [decide_eq_false (fun z => z.2.2.2.1 c)] at h; exact h
  · rw [decide_eq_false (fun z => z.2.2.2.2 d)] at h; exact h
  · rw [decide_eq_true ⟨q, a, b, c, d⟩] at h; exact h
/-- where a name stands -/
def nx (pn : Nat → List Nat) (w : List Nat) : Nat → Nat → Nat
  | 0, i => i
  | f + 1, i => if pn i = w then i else nx pn w f (i + 1)
theorem nx_le {pn : Nat → List Nat} {w : List Nat} : ∀ {f i : Nat}, nx pn w f i ≤ i + f
  | 0, i => by rw [nx]; omega
  | f + 1, i => by
    rw [nx]
    split
    · omega
    · have := nx_le (pn := pn) (w := w) (f := f) (i := i + 1); omega
/-- names, as the class and the reference keep them -/
def nms (b c : Nat) (M : Mem) (n : Nat) (pn : Nat → List Nat) : Prop := ∀ i, i < n → M.1 c i = nI (wcd b (pn i)) ∧ wok (pn i)
def ixI (pn : Nat → List Nat) (w : List Nat) (n : Nat) : Int32 := if nx pn w n 0 < n then nI (nx pn w n 0) else (-1 : Int32)
theorem X4_indexOf_sp {c n : Nat} {pn : Nat → List Nat} {w : List Nat} {M : Mem} {K : Int32 → Mem → Prop} (hc : n ≤ alen c ∧ alen c ≤ 10) (hn : nms 27 c M n pn) (hw : wok w) (h9 : M.1 42 9 = nI (wcd 27 w)) (h : K (ixI pn w n) M) : f_X4_indexOf c (nI n) M K := by
  unfold f_X4_indexOf
  unfold ixI at h
  refine up (fun k j => L_X4_indexOf_2 c (nI n) _ K k (nI j) M) (fun j => nx pn w (n - j) j = nx pn w n 0) 0 n (by omega) rfl (fun e k => ?_) (fun j _ hj e k nxt => ?_)
  · rw [Nat.sub_self, nx] at e
    show L_X4_indexOf_2 c (nI n) _ K (k + 1) (nI n) M
    rw [L_X4_indexOf_2]
    rw [← e, if_neg (by omega)] at h
    exact ⟨fun _ => h, fun z => absurd (by rw [nI_LE (by omega) (by omega)]; exact Nat.le_refl _) z⟩
  · show L_X4_indexOf_2 c (nI n) _ K (k + 1) (nI j) M
    rw [show n - j = (n - (j + 1)) + 1 by omega, nx] at e
    rw [L_X4_indexOf_2, nI_LE (by omega) (by omega), nI_LE (by omega) (by omega), vp_nI (by omega) (by omega), gI, nI_CL (by omega), (hn j hj).1, h9, e27 (hn j hj).2 hw, nI_A1]
    refine ⟨by omega, fun _ => ⟨by omega, fun _ => ⟨by omega, fun q => nxt ?_, fun q => ?_⟩⟩⟩
    · rw [if_neg q] at e; exact e
    · rw [if_pos q] at e
      rw [← e, if_pos hj] at h; exact h
