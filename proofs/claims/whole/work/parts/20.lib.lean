/-! numbers -/
theorem li (n : Nat) : (OfNat.ofNat n : Int32) = nI n := rfl
theorem l_0 : (0 : Int32) = nI 0 := rfl
theorem l_1 : (1 : Int32) = nI 1 := rfl
theorem l_2 : (2 : Int32) = nI 2 := rfl
theorem l_3 : (3 : Int32) = nI 3 := rfl
theorem l_4 : (4 : Int32) = nI 4 := rfl
theorem l_5 : (5 : Int32) = nI 5 := rfl
theorem l_6 : (6 : Int32) = nI 6 := rfl
theorem l_7 : (7 : Int32) = nI 7 := rfl
theorem l_8 : (8 : Int32) = nI 8 := rfl
theorem l_9 : (9 : Int32) = nI 9 := rfl
theorem l_10 : (10 : Int32) = nI 10 := rfl
theorem l_11 : (11 : Int32) = nI 11 := rfl
theorem l_12 : (12 : Int32) = nI 12 := rfl
theorem l_13 : (13 : Int32) = nI 13 := rfl
theorem l_14 : (14 : Int32) = nI 14 := rfl
theorem l_15 : (15 : Int32) = nI 15 := rfl
theorem l_16 : (16 : Int32) = nI 16 := rfl
theorem l_17 : (17 : Int32) = nI 17 := rfl
theorem l_18 : (18 : Int32) = nI 18 := rfl
theorem l_19 : (19 : Int32) = nI 19 := rfl
theorem l_20 : (20 : Int32) = nI 20 := rfl
theorem l_21 : (21 : Int32) = nI 21 := rfl
theorem l_22 : (22 : Int32) = nI 22 := rfl
theorem l_23 : (23 : Int32) = nI 23 := rfl
theorem l_24 : (24 : Int32) = nI 24 := rfl
theorem l_25 : (25 : Int32) = nI 25 := rfl
theorem l_26 : (26 : Int32) = nI 26 := rfl
theorem l_27 : (27 : Int32) = nI 27 := rfl
theorem l_28 : (28 : Int32) = nI 28 := rfl
theorem l_29 : (29 : Int32) = nI 29 := rfl
theorem l_30 : (30 : Int32) = nI 30 := rfl
theorem l_31 : (31 : Int32) = nI 31 := rfl
theorem l_32 : (32 : Int32) = nI 32 := rfl
theorem l_48 : (48 : Int32) = nI 48 := rfl
theorem l_57 : (57 : Int32) = nI 57 := rfl
theorem l_59 : (59 : Int32) = nI 59 := rfl
theorem l_63 : (63 : Int32) = nI 63 := rfl
theorem l_80 : (80 : Int32) = nI 80 := rfl
theorem l_96 : (96 : Int32) = nI 96 := rfl
theorem l_97 : (97 : Int32) = nI 97 := rfl
theorem l_99 : (99 : Int32) = nI 99 := rfl
theorem l_122 : (122 : Int32) = nI 122 := rfl
theorem l_128 : (128 : Int32) = nI 128 := rfl
theorem l_160 : (160 : Int32) = nI 160 := rfl
theorem l_170 : (170 : Int32) = nI 170 := rfl
theorem l_171 : (171 : Int32) = nI 171 := rfl
theorem l_172 : (172 : Int32) = nI 172 := rfl
theorem l_200 : (200 : Int32) = nI 200 := rfl
theorem l_240 : (240 : Int32) = nI 240 := rfl
theorem l_255 : (255 : Int32) = nI 255 := rfl
theorem l_256 : (256 : Int32) = nI 256 := rfl
theorem l_260 : (260 : Int32) = nI 260 := rfl
theorem l_300 : (300 : Int32) = nI 300 := rfl
theorem l_900 : (900 : Int32) = nI 900 := rfl
theorem l_999 : (999 : Int32) = nI 999 := rfl
theorem l_1023 : (1023 : Int32) = nI 1023 := rfl
theorem l_1024 : (1024 : Int32) = nI 1024 := rfl
theorem l_1296 : (1296 : Int32) = nI 1296 := rfl
theorem l_2064 : (2064 : Int32) = nI 2064 := rfl
theorem l_2400 : (2400 : Int32) = nI 2400 := rfl
theorem l_3010 : (3010 : Int32) = nI 3010 := rfl
theorem l_4800 : (4800 : Int32) = nI 4800 := rfl
theorem l_6000 : (6000 : Int32) = nI 6000 := rfl
theorem l_600 : (600 : Int32) = nI 600 := rfl
theorem l_10000 : (10000 : Int32) = nI 10000 := rfl
theorem t_0 : (0 : Int32).toInt = 0 := by decide
theorem t_1 : (1 : Int32).toInt = 1 := by decide
theorem t_2 : (2 : Int32).toInt = 2 := by decide
theorem t_3 : (3 : Int32).toInt = 3 := by decide
theorem t_4 : (4 : Int32).toInt = 4 := by decide
theorem t_5 : (5 : Int32).toInt = 5 := by decide
theorem t_6 : (6 : Int32).toInt = 6 := by decide
theorem t_7 : (7 : Int32).toInt = 7 := by decide
theorem t_8 : (8 : Int32).toInt = 8 := by decide
theorem t_9 : (9 : Int32).toInt = 9 := by decide
theorem t_10 : (10 : Int32).toInt = 10 := by decide
theorem t_11 : (11 : Int32).toInt = 11 := by decide
theorem t_12 : (12 : Int32).toInt = 12 := by decide
theorem t_13 : (13 : Int32).toInt = 13 := by decide
theorem t_14 : (14 : Int32).toInt = 14 := by decide
theorem t_15 : (15 : Int32).toInt = 15 := by decide
theorem t_16 : (16 : Int32).toInt = 16 := by decide
theorem t_17 : (17 : Int32).toInt = 17 := by decide
theorem t_18 : (18 : Int32).toInt = 18 := by decide
theorem t_19 : (19 : Int32).toInt = 19 := by decide
theorem t_20 : (20 : Int32).toInt = 20 := by decide
theorem t_21 : (21 : Int32).toInt = 21 := by decide
theorem t_22 : (22 : Int32).toInt = 22 := by decide
theorem t_23 : (23 : Int32).toInt = 23 := by decide
theorem t_24 : (24 : Int32).toInt = 24 := by decide
theorem t_25 : (25 : Int32).toInt = 25 := by decide
theorem t_26 : (26 : Int32).toInt = 26 := by decide
theorem t_27 : (27 : Int32).toInt = 27 := by decide
theorem t_28 : (28 : Int32).toInt = 28 := by decide
theorem t_29 : (29 : Int32).toInt = 29 := by decide
theorem t_30 : (30 : Int32).toInt = 30 := by decide
theorem t_31 : (31 : Int32).toInt = 31 := by decide
theorem t_32 : (32 : Int32).toInt = 32 := by decide
theorem t_48 : (48 : Int32).toInt = 48 := by decide
theorem t_57 : (57 : Int32).toInt = 57 := by decide
theorem t_59 : (59 : Int32).toInt = 59 := by decide
theorem t_63 : (63 : Int32).toInt = 63 := by decide
theorem t_80 : (80 : Int32).toInt = 80 := by decide
theorem t_96 : (96 : Int32).toInt = 96 := by decide
theorem t_97 : (97 : Int32).toInt = 97 := by decide
theorem t_99 : (99 : Int32).toInt = 99 := by decide
theorem t_122 : (122 : Int32).toInt = 122 := by decide
theorem t_128 : (128 : Int32).toInt = 128 := by decide
theorem t_160 : (160 : Int32).toInt = 160 := by decide
theorem t_170 : (170 : Int32).toInt = 170 := by decide
theorem t_171 : (171 : Int32).toInt = 171 := by decide
theorem t_172 : (172 : Int32).toInt = 172 := by decide
theorem t_200 : (200 : Int32).toInt = 200 := by decide
theorem t_240 : (240 : Int32).toInt = 240 := by decide
theorem t_255 : (255 : Int32).toInt = 255 := by decide
theorem t_256 : (256 : Int32).toInt = 256 := by decide
theorem t_260 : (260 : Int32).toInt = 260 := by decide
theorem t_300 : (300 : Int32).toInt = 300 := by decide
theorem t_900 : (900 : Int32).toInt = 900 := by decide
theorem t_999 : (999 : Int32).toInt = 999 := by decide
theorem t_1023 : (1023 : Int32).toInt = 1023 := by decide
theorem t_1024 : (1024 : Int32).toInt = 1024 := by decide
theorem t_1296 : (1296 : Int32).toInt = 1296 := by decide
theorem t_2064 : (2064 : Int32).toInt = 2064 := by decide
theorem t_2400 : (2400 : Int32).toInt = 2400 := by decide
theorem t_3010 : (3010 : Int32).toInt = 3010 := by decide
theorem t_4800 : (4800 : Int32).toInt = 4800 := by decide
theorem t_6000 : (6000 : Int32).toInt = 6000 := by decide
theorem t_600 : (600 : Int32).toInt = 600 := by decide
theorem t_10000 : (10000 : Int32).toInt = 10000 := by decide
theorem i_lt (a b : Int32) : a < b ↔ a.toInt < b.toInt := Int32.lt_iff_toInt_lt
theorem i_le (a b : Int32) : a ≤ b ↔ a.toInt ≤ b.toInt := Int32.le_iff_toInt_le
theorem i_eq (a b : Int32) : a = b ↔ a.toInt = b.toInt := Int32.toInt_inj.symm
theorem i_rng (x : Int32) : -2147483648 ≤ x.toInt ∧ x.toInt < 2147483648 := ⟨Int32.le_toInt x, Int32.toInt_lt x⟩
theorem i_bmod {z : Int} (h1 : -2147483648 ≤ z) (h2 : z < 2147483648) : z.bmod (2 ^ 32) = z := by
  rw [Int.bmod_def]
  have : ((2 ^ 32 : Nat) : Int) = 4294967296 := by decide
  rw [this]
  split <;> omega
theorem i_add {x y : Int32} (h1 : -2147483648 ≤ x.toInt + y.toInt) (h2 : x.toInt + y.toInt < 2147483648) : (x + y).toInt = x.toInt + y.toInt := by
  rw [Int32.toInt_add, i_bmod h1 h2]
theorem i_sub {x y : Int32} (h1 : -2147483648 ≤ x.toInt - y.toInt) (h2 : x.toInt - y.toInt < 2147483648) : (x - y).toInt = x.toInt - y.toInt := by
  rw [Int32.toInt_sub, i_bmod h1 h2]
theorem i_mul {x y : Int32} (h1 : -2147483648 ≤ x.toInt * y.toInt) (h2 : x.toInt * y.toInt < 2147483648) : (x * y).toInt = x.toInt * y.toInt := by
  rw [Int32.toInt_mul, i_bmod h1 h2]
theorem i_lit {n : Nat} (h : n < 2147483648) : (OfNat.ofNat n : Int32).toInt = (n : Int) := nI_toInt h
theorem i_nI {n : Nat} (h : n < 2147483648) : (nI n).toInt = (n : Int) := nI_toInt h
theorem i_m1 : (-1 : Int32).toInt = -1 := by decide
theorem i_m2 : (-2 : Int32).toInt = -2 := by decide
theorem cl_of {x : Int32} (h : 0 ≤ x.toInt) : x = nI x.toInt.toNat := by
  have h2 := (i_rng x).2
  rw [i_eq, i_nI (by omega)]
  omega
theorem cl_eq (x : Int32) : x.toNatClampNeg = x.toInt.toNat := rfl
theorem vp_nI {n N : Nat} (hN : N < 2147483648) (hn : n < 2147483648) : vp_in (nI n) N ↔ n < N := by
  rw [vp_in_iff, i_nI hn]; omega
theorem nI_LE {a b : Nat} (ha : a < 2147483648) (hb : b < 2147483648) : (nI a ≤ nI b) = (a ≤ b) := propext (nI_leI ha hb)
theorem nI_LT {a b : Nat} (ha : a < 2147483648) (hb : b < 2147483648) : (nI a < nI b) = (a < b) := propext (nI_ltI ha hb)
theorem nI_EQ {a b : Nat} (ha : a < 2147483648) (hb : b < 2147483648) : (nI a = nI b) = (a = b) := propext (nI_eq ha hb)
theorem nI_CL {n : Nat} (h : n < 2147483648) : (nI n).toNatClampNeg = n := nI_clamp h
theorem nI_m8 {n : Nat} (h : 8 ≤ n) : nI n + (-8) = nI (n - 8) := by
  have : nI n = nI (n - 8) + nI 8 := by rw [nI_add]; congr 1; omega
  rw [this]
  show nI (n - 8) + 8 + -8 = _
  rw [Int32.add_assoc]
  show nI (n - 8) + (8 + -8) = _
  rw [show (8 : Int32) + -8 = 0 from rfl, Int32.add_zero]
/-! loops: up by one -/
theorem up (W : Nat → Nat → Prop) (I : Nat → Prop) (lo hi : Nat) (hlo : lo ≤ hi) (h0 : I lo) (hx : I hi → ∀ n, W (n + 1) hi) (hs : ∀ j, lo ≤ j → j < hi → I j → ∀ n, (I (j + 1) → W n (j + 1)) → W (n + 1) j) : ∃ n, W n lo := by
  have key : ∀ d j, j + d = hi → lo ≤ j → I j → W (d + 1) j := by
    intro d
    induction d with
    | zero => intro j hj hl hi'; rw [Nat.add_zero] at hj; subst hj; exact hx hi' 0
    | succ d ih => intro j hj hl hi'; exact hs j hl (by omega) hi' (d + 1) (fun q => ih (j + 1) (by omega) (by omega) q)
  exact ⟨_, key (hi - lo) lo (by omega) (Nat.le_refl lo) h0⟩
theorem upT (W : Nat → Nat → Prop) (lo hi : Nat) (hlo : lo ≤ hi) (hx : ∀ n, W (n + 1) hi) (hs : ∀ j, lo ≤ j → j < hi → ∀ n, W n (j + 1) → W (n + 1) j) : ∃ n, W n lo :=
  up W (fun _ => True) lo hi hlo trivial (fun _ => hx) (fun j h1 h2 _ n h => hs j h1 h2 n (h trivial))
/-! the memory -/
theorem w1_ne {M : Mem} {a k b : Nat} {v : Int32} (h : b ≠ a) : (wI M a k v).1 b = M.1 b := if_neg h
theorem w1_eq {M : Mem} {a k : Nat} {v : Int32} : (wI M a k v).1 a = upd (M.1 a) k v := if_pos rfl
theorem w1_at {M : Mem} {a k : Nat} {v : Int32} : (wI M a k v).1 a k = v := by rw [w1_eq]; exact if_pos rfl
theorem w1_no {M : Mem} {a k j : Nat} {v : Int32} (h : j ≠ k) : (wI M a k v).1 a j = M.1 a j := by rw [w1_eq]; exact if_neg h
theorem w1_2 {M : Mem} {a k : Nat} {v : Int32} : (wI M a k v).2 = M.2 := rfl
theorem wL_1 {M : Mem} {a k : Nat} {v : Int64} : (wL M a k v).1 = M.1 := rfl
theorem wL_ne {M : Mem} {a k b : Nat} {v : Int64} (h : b ≠ a) : (wL M a k v).2 b = M.2 b := if_neg h
theorem wL_at {M : Mem} {a k : Nat} {v : Int64} : (wL M a k v).2 a k = v := by
  show (if a = a then vp_updL (M.2 a) k v else M.2 a) k = v
  rw [if_pos rfl]; exact if_pos rfl
theorem wL_no {M : Mem} {a k j : Nat} {v : Int64} (h : j ≠ k) : (wL M a k v).2 a j = M.2 a j := by
  show (if a = a then vp_updL (M.2 a) k v else M.2 a) j = _
  rw [if_pos rfl]; exact if_neg h
theorem wC_ne {M : Mem} {a b i j n c : Nat} (h : c ≠ b) : (wC M a b i j n).1 c = M.1 c := if_neg h
theorem wC_eq {M : Mem} {a b i j n : Nat} : (wC M a b i j n).1 b = va_cpy (M.1 a) (M.1 b) i j n := if_pos rfl
theorem wC_2 {M : Mem} {a b i j n : Nat} : (wC M a b i j n).2 = M.2 := rfl
/-- a memory with one array put in place of another -/
def sA (M : Mem) (a : Nat) (f : Nat → Int32) : Mem := (fun b => if b = a then f else M.1 b, M.2)
theorem sA_ne {M : Mem} {a b : Nat} {f : Nat → Int32} (h : b ≠ a) : (sA M a f).1 b = M.1 b := if_neg h
theorem sA_eq {M : Mem} {a : Nat} {f : Nat → Int32} : (sA M a f).1 a = f := if_pos rfl
theorem sA_2 {M : Mem} {a : Nat} {f : Nat → Int32} : (sA M a f).2 = M.2 := rfl
theorem wI_sA (M : Mem) (a k : Nat) (v : Int32) : wI M a k v = sA M a (upd (M.1 a) k v) := rfl
theorem sA_sA (M : Mem) (a : Nat) (f g : Nat → Int32) : sA (sA M a f) a g = sA M a g := by
  refine Prod.ext (funext fun b => ?_) rfl
  show (if b = a then g else if b = a then f else M.1 b) = if b = a then g else M.1 b
  by_cases h : b = a
  · rw [if_pos h, if_pos h]
  · rw [if_neg h, if_neg h, if_neg h]
theorem wI_of_sA (M : Mem) (a k : Nat) (f : Nat → Int32) (v : Int32) : wI (sA M a f) a k v = sA M a (upd f k v) := by rw [wI_sA, sA_eq, sA_sA]
theorem sA_id (M : Mem) (a : Nat) : sA M a (M.1 a) = M := by
  refine Prod.ext (funext fun b => ?_) rfl
  show (if b = a then M.1 a else M.1 b) = M.1 b
  by_cases h : b = a
  · rw [if_pos h, h]
  · rw [if_neg h]
theorem upd_at {f : Nat → Int32} {k : Nat} {x : Int32} : upd f k x k = x := if_pos rfl
theorem upd_no {f : Nat → Int32} {k j : Nat} {x : Int32} (h : j ≠ k) : upd f k x j = f j := if_neg h
theorem sA_cm (M : Mem) {a b : Nat} (h : a ≠ b) (f g : Nat → Int32) : sA (sA M a f) b g = sA (sA M b g) a f := by
  refine Prod.ext (funext fun c => ?_) rfl
  show (if c = b then g else if c = a then f else M.1 c) = if c = a then f else if c = b then g else M.1 c
  by_cases h1 : c = a
  · subst h1; rw [if_neg h, if_pos rfl, if_pos rfl]
  · rw [if_neg h1, if_neg h1]
/-- bits of a row of conditions -/
def orB (c : Nat → Bool) : Nat → Int32
  | 0 => 0
  | n + 1 => orB c n ||| (if c n then (1 : Int32) <<< (nI n &&& 31) else 0)
theorem orB_cong {c d : Nat → Bool} : ∀ {n : Nat}, (∀ j, j < n → c j = d j) → orB c n = orB d n
  | 0, _ => rfl
  | n + 1, h => by rw [orB, orB, orB_cong (fun j hj => h j (by omega)), h n (by omega)]
theorem or0 (x : Int32) : x ||| 0 = x := by
  apply Int32.toBitVec_inj.mp
  rw [Int32.toBitVec_or]
  exact BitVec.or_zero
theorem orB_out {c : Nat → Bool} {m : Nat} : ∀ {n : Nat}, m ≤ n → (∀ j, m ≤ j → j < n → c j = false) → orB c n = orB c m
  | 0, h, _ => by cases Nat.le_zero.mp h; rfl
  | n + 1, h, hc => by
    rcases Nat.lt_or_ge n m with q | q
    · rw [show m = n + 1 by omega]
    · rw [orB, hc n q (by omega), orB_out q (fun j h1 h2 => hc j h1 (by omega))]
      exact or0 _
/-- all of a row -/
def allB (c : Nat → Bool) : Nat → Bool
  | 0 => true
  | n + 1 => allB c n && c n
theorem allB_iff {c : Nat → Bool} : ∀ {n : Nat}, allB c n = true ↔ ∀ j, j < n → c j = true
  | 0 => ⟨fun _ j hj => absurd hj (Nat.not_lt_zero j), fun _ => rfl⟩
  | n + 1 => by
    rw [allB, Bool.and_eq_true, allB_iff]
    constructor
    · intro ⟨h1, h2⟩ j hj
      rcases Nat.lt_succ_iff_lt_or_eq.mp hj with q | rfl
      · exact h1 j q
      · exact h2
    · intro h
      exact ⟨fun j hj => h j (by omega), h n (by omega)⟩
theorem allB_cong {c d : Nat → Bool} {n : Nat} (h : ∀ j, j < n → c j = d j) : allB c n = allB d n := by
  rw [Bool.eq_iff_iff, allB_iff, allB_iff]
  exact ⟨fun q j hj => by rw [← h j hj]; exact q j hj, fun q j hj => by rw [h j hj]; exact q j hj⟩
theorem allB_f {c : Nat → Bool} {n j : Nat} (hj : j < n) (h : c j = false) : allB c n = false := by
  cases hq : allB c n
  · rfl
  · rw [allB_iff] at hq; rw [hq j hj] at h; cases h
/-- a bool as an int -/
def bI (b : Bool) : Int32 := if b then 1 else 0
theorem bI_t : bI true = 1 := rfl
theorem bI_f : bI false = 0 := rfl
theorem bI_0 {b : Bool} : (bI b = 0) ↔ b = false := by cases b <;> decide
theorem bI_z (b : Bool) : bI b &&& 1 = bI b := by cases b <;> decide
/-- the k-th bit -/
def bit (x : Int32) (k : Nat) : Bool := decide ((x >>> (nI k &&& 31)) &&& 1 = 1)
theorem bit_0 {x k : Int32} : ((x >>> (k &&& 31)) &&& 1 = 0) ↔ ¬ ((x >>> (k &&& 31)) &&& 1 = 1) := by
  generalize x >>> (k &&& 31) = y
  have h : (y &&& 1) = 0 ∨ (y &&& 1) = 1 := by
    have h7 : (y.toBitVec &&& 1#32).toNat = 0 ∨ (y.toBitVec &&& 1#32).toNat = 1 := by
      rw [BitVec.toNat_and]
      show y.toBitVec.toNat &&& 1 = 0 ∨ y.toBitVec.toNat &&& 1 = 1
      rw [Nat.and_one_is_mod]; omega
    rcases h7 with h7 | h7
    · exact Or.inl (Int32.toBitVec_inj.mp (BitVec.eq_of_toNat_eq h7))
    · exact Or.inr (Int32.toBitVec_inj.mp (BitVec.eq_of_toNat_eq h7))
  constructor
  · intro h1 h2; rw [h1] at h2; exact absurd h2 (by decide)
  · intro h1; exact h.resolve_right h1
/-- a wrapping sum -/
def sumN (f : Nat → Int32) : Nat → Int32
  | 0 => 0
  | n + 1 => sumN f n + f n
theorem sumN_cong {f g : Nat → Int32} : ∀ {n : Nat}, (∀ j, j < n → f j = g j) → sumN f n = sumN g n
  | 0, _ => rfl
  | n + 1, h => by rw [sumN, sumN, sumN_cong (fun j hj => h j (by omega)), h n (by omega)]
theorem sumN_out {f : Nat → Int32} {m : Nat} : ∀ {n : Nat}, m ≤ n → (∀ j, m ≤ j → j < n → f j = 0) → sumN f n = sumN f m
  | 0, h, _ => by cases Nat.le_zero.mp h; rfl
  | n + 1, h, hc => by
    rcases Nat.lt_or_ge n m with q | q
    · rw [show m = n + 1 by omega]
    · rw [sumN, hc n q (by omega), sumN_out q (fun j h1 h2 => hc j h1 (by omega)), Int32.add_zero]
theorem k_f {b : Bool} {K : Int32 → Mem → Prop} {M : Mem} (h : K (bI b) M) (e : b = false) : K 0 M := by rw [e] at h; exact h
theorem k_t {b : Bool} {K : Int32 → Mem → Prop} {M : Mem} (h : K (bI b) M) (e : b = true) : K 1 M := by rw [e] at h; exact h
theorem b_of0 {b : Bool} (h : bI b = 0) : b = false := bI_0.mp h
theorem b_ofn {b : Bool} (h : ¬ bI b = 0) : b = true := by cases b; exact absurd rfl h; rfl
