/-- the memory: what the int-like cells hold (arrays of int, byte, boolean; the fields of objects, by their slots), what the arrays of long hold -/
abbrev Mem : Type := (Nat → Nat → Int32) × (Nat → Nat → Int64)
def wI (M : Mem) (a k : Nat) (v : Int32) : Mem := (fun b => if b = a then upd (M.1 a) k v else M.1 b, M.2)
def wL (M : Mem) (a k : Nat) (v : Int64) : Mem := (M.1, fun b => if b = a then vp_updL (M.2 a) k v else M.2 b)
def wC (M : Mem) (a b sp dp n : Nat) : Mem := (fun q => if q = b then va_cpy (M.1 a) (M.1 b) sp dp n else M.1 q, M.2)
def gI (M : Mem) (a : Nat) (i : Int32) : Int32 := M.1 a i.toNatClampNeg
def gL (M : Mem) (a : Nat) (i : Int32) : Int64 := M.2 a i.toNatClampNeg
def cellE (cy : Nat → ClassId) (ad : Nat → Nat) (M : Mem) (k : Nat) (q : Shp) : va_E := match q with
  | .inl (1, n) => .inl (cy 1, n, .inr (.inl (M.2 k)))
  | .inl (4, n) => .inl (cy 4, n, .inr (.inr (.inr (.inr (fun i => some (ad (k + 1 + 4 * i)))))))
  | .inl (t, n) => .inl (cy t, n, .inl (M.1 k))
  | .inr (ci, fl) => .inr (ci, fl.zipIdx.map (fun f => match f.1 with | none => .int (M.1 k f.2) | some j => .ref (ad j)))
def rw_mk (cy : Nat → ClassId) (ad : Nat → Nat) (M : Mem) : va_W := shL.zipIdx.map (fun f => (ad f.2, cellE cy ad M f.2 f.1))
def rw_tys (cy : Nat → ClassId) : List (ClassId × FieldType) := [(cy 0, .int), (cy 1, .long), (cy 2, .byte), (cy 3, .boolean), (cy 4, .object "TokenSums$Net")]
def rw_J (ad : Nat → Nat) : Prop := ∀ i j : Nat, i < NC → j < NC → ad i = ad j → i = j
def rw_A (ad : Nat → Nat) (sz : Nat) : Nat → Prop := fun q => (∃ k : Nat, k < NC ∧ q = ad k) ∨ sz ≤ q
theorem rw_at {cy : Nat → ClassId} {ad : Nat → Nat} {M : Mem} {k : Nat} {q : Shp} (h : shL[k]? = some q) : (rw_mk cy ad M)[k]? = some (ad k, cellE cy ad M k q) := by
  simp [rw_mk, h]
theorem rw_of {cy : Nat → ClassId} {ad : Nat → Nat} {M : Mem} {k : Nat} {x : Nat × va_E} (h : (rw_mk cy ad M)[k]? = some x) : ∃ q, shL[k]? = some q ∧ x = (ad k, cellE cy ad M k q) := by
  cases hq : shL[k]? with
  | none => simp [rw_mk, hq] at h
  | some q => rw [rw_at hq] at h; exact ⟨q, rfl, (Option.some.inj h).symm⟩
theorem rw_lt {k : Nat} {q : Shp} (h : shL[k]? = some q) : k < NC := by
  rw [← rw_len]; exact (List.getElem?_eq_some_iff.mp h).1
theorem rw_D {cy : Nat → ClassId} {ad : Nat → Nat} (M : Mem) (sz : Nat) (h : rw_J ad) : va_D (rw_A ad sz) (rw_mk cy ad M) := by
  refine ⟨fun i j p q hp hq hpq => ?_, fun k q hk => ?_⟩
  · obtain ⟨a, ha, rfl⟩ := rw_of hp
    obtain ⟨b, hb, rfl⟩ := rw_of hq
    exact h i j (rw_lt ha) (rw_lt hb) hpq
  · obtain ⟨a, ha, rfl⟩ := rw_of hk
    exact Or.inl ⟨k, rw_lt ha, rfl⟩
theorem rw_set {cy : Nat → ClassId} {ad : Nat → Nat} {M M' : Mem} {k : Nat} {q : Shp} {x : va_E} (h : shL[k]? = some q) (hx : cellE cy ad M' k q = x) (ho : ∀ j q', j ≠ k → cellE cy ad M' j q' = cellE cy ad M j q') : (rw_mk cy ad M).set k (ad k, x) = rw_mk cy ad M' := by
  apply List.ext_getElem?
  intro j
  by_cases hj : j = k
  · subst hj
    have hlt : j < (rw_mk cy ad M).length := by
      have h0 := rw_at (cy := cy) (ad := ad) (M := M) h
      exact (List.getElem?_eq_some_iff.mp h0).1
    rw [rw_at h, hx, List.getElem?_set_self hlt]
  · rw [List.getElem?_set_ne (Ne.symm hj)]
    cases hq : shL[j]? with
    | none => simp [rw_mk, hq]
    | some q' => rw [rw_at hq, rw_at hq, ho j q' hj]
theorem rw_cellI {cy : Nat → ClassId} {ad : Nat → Nat} {M : Mem} {a i : Nat} {v : Int32} : ∀ j q', j ≠ a → cellE cy ad (wI M a i v) j q' = cellE cy ad M j q' := by
  intro j q' hj
  have e1 : (wI M a i v).1 j = M.1 j := if_neg hj
  have e2 : (wI M a i v).2 = M.2 := rfl
  unfold cellE
  rw [e1, e2]
theorem rw_cellL {cy : Nat → ClassId} {ad : Nat → Nat} {M : Mem} {a i : Nat} {v : Int64} : ∀ j q', j ≠ a → cellE cy ad (wL M a i v) j q' = cellE cy ad M j q' := by
  intro j q' hj
  have e1 : (wL M a i v).2 j = M.2 j := if_neg hj
  have e2 : (wL M a i v).1 = M.1 := rfl
  unfold cellE
  rw [e1, e2]
theorem rw_cellC {cy : Nat → ClassId} {ad : Nat → Nat} {M : Mem} {a b i j0 n : Nat} : ∀ j q', j ≠ b → cellE cy ad (wC M a b i j0 n) j q' = cellE cy ad M j q' := by
  intro j q' hj
  have e1 : (wC M a b i j0 n).1 j = M.1 j := if_neg hj
  have e2 : (wC M a b i j0 n).2 = M.2 := rfl
  unfold cellE
  rw [e1, e2]
/-- an array: of what type, how long -/
def isA (a t n : Nat) : Prop := shL[a]? = some (.inl (t, n))
theorem isA_at {cy : Nat → ClassId} {ad : Nat → Nat} {M : Mem} {a t n : Nat} (h : isA a t n) (h1 : t ≠ 1) (h4 : t ≠ 4) : (rw_mk cy ad M)[a]? = some (ad a, .inl (cy t, n, .inl (M.1 a))) := by
  rw [rw_at h]
  match t, h1, h4 with
  | 0, _, _ => rfl
  | 2, _, _ => rfl
  | 3, _, _ => rfl
  | t + 5, _, _ => rfl
theorem isL_at {cy : Nat → ClassId} {ad : Nat → Nat} {M : Mem} {a n : Nat} (h : isA a 1 n) : (rw_mk cy ad M)[a]? = some (ad a, .inl (cy 1, n, .inr (.inl (M.2 a)))) := by rw [rw_at h]; rfl
theorem isN_at {cy : Nat → ClassId} {ad : Nat → Nat} {M : Mem} {a n : Nat} (h : isA a 4 n) : (rw_mk cy ad M)[a]? = some (ad a, .inl (cy 4, n, .inr (.inr (.inr (.inr (fun i => some (ad (a + 1 + 4 * i)))))))) := by rw [rw_at h]; rfl
theorem rw_putI {cy : Nat → ClassId} {ad : Nat → Nat} {M : Mem} {a t n i : Nat} {v : Int32} (h : isA a t n) (h1 : t ≠ 1) (h4 : t ≠ 4) : (rw_mk cy ad M).set a (ad a, .inl (cy t, n, .inl (upd (M.1 a) i v))) = rw_mk cy ad (wI M a i v) := by
  refine rw_set h ?_ rw_cellI
  have e := isA_at (cy := cy) (ad := ad) (M := wI M a i v) h h1 h4
  rw [rw_at h] at e
  have e2 := congrArg Prod.snd (Option.some.inj e)
  dsimp only at e2
  rw [e2]
  have e1 : (wI M a i v).1 a = upd (M.1 a) i v := if_pos rfl
  rw [e1]
theorem rw_putL {cy : Nat → ClassId} {ad : Nat → Nat} {M : Mem} {a n i : Nat} {v : Int64} (h : isA a 1 n) : (rw_mk cy ad M).set a (ad a, .inl (cy 1, n, .inr (.inl (vp_updL (M.2 a) i v)))) = rw_mk cy ad (wL M a i v) := by
  refine rw_set h ?_ rw_cellL
  have e1 : (wL M a i v).2 a = vp_updL (M.2 a) i v := if_pos rfl
  show (.inl (cy 1, n, .inr (.inl ((wL M a i v).2 a))) : va_E) = _
  rw [e1]
theorem rw_putC {cy : Nat → ClassId} {ad : Nat → Nat} {M : Mem} {a b n i j k : Nat} (h : isA b 0 n) : (rw_mk cy ad M).set b (ad b, .inl (cy 0, n, .inl (va_cpy (M.1 a) (M.1 b) i j k))) = rw_mk cy ad (wC M a b i j k) := by
  refine rw_set h ?_ rw_cellC
  have e1 : (wC M a b i j k).1 b = va_cpy (M.1 a) (M.1 b) i j k := if_pos rfl
  show (.inl (cy 0, n, .inl ((wC M a b i j k).1 b)) : va_E) = _
  rw [e1]
/-- an object: of which class, its slots -/
def isO (a ci : Nat) (fl : List (Option Nat)) : Prop := shL[a]? = some (.inr (ci, fl))
def rw_fs (ad : Nat → Nat) (M : Mem) (a : Nat) (fl : List (Option Nat)) : List Value := fl.zipIdx.map (fun f => match f.1 with | none => .int (M.1 a f.2) | some j => .ref (ad j))
theorem isO_at {cy : Nat → ClassId} {ad : Nat → Nat} {M : Mem} {a ci : Nat} {fl : List (Option Nat)} (h : isO a ci fl) : (rw_mk cy ad M)[a]? = some (ad a, .inr (ci, rw_fs ad M a fl)) := by rw [rw_at h]; rfl
theorem rw_fsI {ad : Nat → Nat} {M : Mem} {a k : Nat} {fl : List (Option Nat)} (h : fl[k]? = some none) : (rw_fs ad M a fl)[k]? = some (.int (M.1 a k)) := by simp [rw_fs, h]
theorem rw_fsR {ad : Nat → Nat} {M : Mem} {a k j : Nat} {fl : List (Option Nat)} (h : fl[k]? = some (some j)) : (rw_fs ad M a fl)[k]? = some (.ref (ad j)) := by simp [rw_fs, h]
theorem rw_putF {cy : Nat → ClassId} {ad : Nat → Nat} {M : Mem} {a ci k : Nat} {fl : List (Option Nat)} {v : Int32} (h : isO a ci fl) (hk : fl[k]? = some none) : (rw_mk cy ad M).set a (ad a, .inr (ci, (rw_fs ad M a fl).set k (.int v))) = rw_mk cy ad (wI M a k v) := by
  refine rw_set h ?_ rw_cellI
  show Sum.inr (ci, rw_fs ad (wI M a k v) a fl) = _
  have e1 : (wI M a k v).1 a = upd (M.1 a) k v := if_pos rfl
  refine congrArg (fun z => Sum.inr (ci, z)) ?_
  apply List.ext_getElem?
  intro j
  have hlt : k < (rw_fs ad M a fl).length := (List.getElem?_eq_some_iff.mp (rw_fsI (ad := ad) (M := M) (a := a) hk)).1
  by_cases hj : j = k
  · subst hj
    rw [List.getElem?_set_self hlt, rw_fsI hk, e1]
    simp [upd]
  · rw [List.getElem?_set_ne (Ne.symm hj)]
    cases hf : fl[j]? with
    | none => simp [rw_fs, hf]
    | some f =>
      cases f with
      | none => rw [rw_fsI hf, rw_fsI hf, e1]; simp [upd, hj]
      | some z => rw [rw_fsR hf, rw_fsR hf]
