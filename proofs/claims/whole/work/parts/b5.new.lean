/-! what is made: constructors -/
def aK (U : State) : Prop := ((Cond.arrayClass .int).before #[] U = true ∧ (Cond.arrayClass .long).before #[] U = true ∧ (Cond.arrayClass .byte).before #[] U = true ∧ (Cond.arrayClass .boolean).before #[] U = true) ∧ va_AO "TokenSums$Net" U
theorem aK.warm {s U : State} (hW : s.WarmedH U.vm) (h : aK s) : aK U := ⟨⟨word_at hW (Or.inr ⟨_, rfl⟩) h.1.1, word_at hW (Or.inr ⟨_, rfl⟩) h.1.2.1, word_at hW (Or.inr ⟨_, rfl⟩) h.1.2.2.1, word_at hW (Or.inr ⟨_, rfl⟩) h.1.2.2.2⟩, va_AO.moved hW.alike h.2⟩
theorem aK.same {s U : State} (hv : s.vm = U.vm) (h : aK s) : aK U := aK.warm (by rw [← hv]; exact State.WarmedH.refl s) h
def n_A (h0 sz : Nat) : Nat → Prop := fun q => q = h0 ∨ sz ≤ q
def n_Pre (D : va_G) (cy : Nat → ClassId) (ci h0 sz : Nat) (fs0 : List Value) (U : State) : Prop := U.heap.size = sz ∧ h0 < sz ∧ va_P D vwCl [(h0, .inr (ci, fs0))] U.heap ∧ rw_K D cy U ∧ aK U
def n_Pst (D : va_G) (cy : Nat → ClassId) (ws : va_W) (A : Nat → Prop) (sz : Nat) (_ : Unit) (t : State) : Prop := va_P D vwCl ws t.heap ∧ va_D A ws ∧ t.heap.size = sz
/-- a constructor: of the object at h0, with fs0 in it, and of cells from sz on -/
def CTn (l : Launch) (y : MethodName) (cc : ByteArray) (maxL : Nat) (rm : Room) (As : List Value) (ci : Nat) (fs0 : List Value) (Wf : (Nat → ClassId) → Nat → Nat → va_W) (mc ms : Nat) : Prop := ∀ (D : va_G) (cy : Nat → ClassId) (h0 sz : Nat), Met l y [.code y cc maxL none] rm (va_Pc (.ref h0 :: As) (n_Pre D cy ci h0 sz fs0)) (va_Qv (fun _ : Unit => True) (n_Pst D cy (Wf cy h0 sz) (n_A h0 sz) (sz + mc)) (n_A h0 sz)) mc ms (n_A h0 sz)
def n_C (p : Program) (s : State) (m : MethodId) (meth : Method) (c : Code) (cc : ByteArray) (nL : Nat) (own : String) (ret : Option FieldType) (D : va_G) (cy : Nat → ClassId) (A : Nat → Prop) : Prop :=
  p.tables.exec = Jvm.exec ∧ c.code = cc ∧ c.maxLocals = nL ∧ s.vm.findClass own = some m.cls ∧ meth.sig.returnType = ret ∧ meth.locks = false ∧ rw_K D cy s ∧ aK s ∧ ∀ q, s.heap.size ≤ q → A q
def n_W (p : Program) (l : Launch) (e : Env) (R : Room) (s : State) (m : MethodId) (args : Array Value) (below : List Frame) (meth : Method) (c : Code) (D : va_G) (A : Nat → Prop) (nL k n : Nat) (Q : State → Prop) (pc : Nat) (lv : List (Nat × Value)) (st : List Value) (ws : va_W) (z : Nat) : Prop :=
  ∀ (ls : Array Slot) (H : Heap) (locs : List Loc), lv_has ls nL lv → va_P D vwCl ws H → va_D A ws → va_S A s.heap H locs → H.size = s.heap.size + z → W p l e R s m args below meth c H locs k n Q (F0 m pc ls st)
theorem arrV_cg {cA : ClassId} {n : Nat} {F G : Nat → Value} (h : ∀ j, j < n → F j = G j) : arrV cA n F = arrV cA n G := by
  unfold arrV
  congr 1
  congr 1
  funext j
  exact h j.1 j.2
theorem aK.useI {A : Array Value} {s : State} (h : aK s) : (Cond.arrayClass (newarray.typeOf .int)).before A s = true := word_at (State.WarmedH.refl s) (Or.inr ⟨_, rfl⟩) h.1.1
theorem aK.useL {A : Array Value} {s : State} (h : aK s) : (Cond.arrayClass (newarray.typeOf .long)).before A s = true := word_at (State.WarmedH.refl s) (Or.inr ⟨_, rfl⟩) h.1.2.1
theorem aK.useB {A : Array Value} {s : State} (h : aK s) : (Cond.arrayClass (newarray.typeOf .byte)).before A s = true := word_at (State.WarmedH.refl s) (Or.inr ⟨_, rfl⟩) h.1.2.2.1
theorem aK.useZ {A : Array Value} {s : State} (h : aK s) : (Cond.arrayClass (newarray.typeOf .boolean)).before A s = true := word_at (State.WarmedH.refl s) (Or.inr ⟨_, rfl⟩) h.1.2.2.2
section NW
variable {p : Program} {l : Launch} {e : Env} {R : Room} {s : State} {m : MethodId} {args : Array Value} {below : List Frame} {meth : Method} {c : Code} {D : va_G} {cy : Nat → ClassId} {A : Nat → Prop} {nL k0 n0 : Nat} {Q : State → Prop} {pc : Nat} {lv : List (Nat × Value)} {st : List Value} {ws : va_W} {z : Nat} {cc : ByteArray} {own : String} {ret : Option FieldType}
theorem n_aload_n (C : n_C p s m meth c cc nL own ret D cy A) {kf : Fin 4} {i : Nat} (j : Nat) {x : Nat} (d : decode cc pc = .ok (.aload_n kf, 1)) (hi : (kf : Nat) = i) (hj : lv[j]? = some (i, .ref x)) (kk : n_W p l e R s m args below meth c D A nL k0 n0 Q (pc + 1) lv (.ref x :: st) ws z) : n_W p l e R s m args below meth c D A nL k0 n0 Q pc lv st ws z := fun ls H locs hl hP hD hS hz => lv_aload_n C.1 C.2.1 d hi (lv_at hl j hj) (kk ls H locs hl hP hD hS hz)
theorem n_iload_n (C : n_C p s m meth c cc nL own ret D cy A) {kf : Fin 4} {i : Nat} (j : Nat) {x : Int32} (d : decode cc pc = .ok (.iload_n kf, 1)) (hi : (kf : Nat) = i) (hj : lv[j]? = some (i, .int x)) (kk : n_W p l e R s m args below meth c D A nL k0 n0 Q (pc + 1) lv (.int x :: st) ws z) : n_W p l e R s m args below meth c D A nL k0 n0 Q pc lv st ws z := fun ls H locs hl hP hD hS hz => lv_iload_n C.1 C.2.1 d hi (lv_at hl j hj) (kk ls H locs hl hP hD hS hz)
theorem n_iconst (C : n_C p s m meth c cc nL own ret D cy A) {v : Int32} {n : Int} (d : decode cc pc = .ok (.iconst n, 1)) (hv : Int32.ofInt n = v) (kk : n_W p l e R s m args below meth c D A nL k0 n0 Q (pc + 1) lv (.int v :: st) ws z) : n_W p l e R s m args below meth c D A nL k0 n0 Q pc lv st ws z := fun ls H locs hl hP hD hS hz => lv_iconst C.1 C.2.1 d hv (kk ls H locs hl hP hD hS hz)
theorem n_bipush (C : n_C p s m meth c cc nL own ret D cy A) {v : Int32} {n : Int} (d : decode cc pc = .ok (.bipush n, 2)) (hv : (Int8.ofInt n).toInt32 = v) (kk : n_W p l e R s m args below meth c D A nL k0 n0 Q (pc + 2) lv (.int v :: st) ws z) : n_W p l e R s m args below meth c D A nL k0 n0 Q pc lv st ws z := fun ls H locs hl hP hD hS hz => lv_bipush C.1 C.2.1 d hv (kk ls H locs hl hP hD hS hz)
theorem n_sipush (C : n_C p s m meth c cc nL own ret D cy A) {v : Int32} {n : Int} (d : decode cc pc = .ok (.sipush n, 3)) (hv : (Int16.ofInt n).toInt32 = v) (kk : n_W p l e R s m args below meth c D A nL k0 n0 Q (pc + 3) lv (.int v :: st) ws z) : n_W p l e R s m args below meth c D A nL k0 n0 Q pc lv st ws z := fun ls H locs hl hP hD hS hz => lv_sipush C.1 C.2.1 d hv (kk ls H locs hl hP hD hS hz)
theorem n_dup (C : n_C p s m meth c cc nL own ret D cy A) {va : Value} (d : decode cc pc = .ok (.dup, 1)) (hva : va.category = 1) (kk : n_W p l e R s m args below meth c D A nL k0 n0 Q (pc + 1) lv (va :: va :: st) ws z) : n_W p l e R s m args below meth c D A nL k0 n0 Q pc lv (va :: st) ws z := fun ls H locs hl hP hD hS hz => lv_dup C.1 C.2.1 d hva (kk ls H locs hl hP hD hS hz)
theorem n_goto (C : n_C p s m meth c cc nL own ret D cy A) {off : Int} (tgt : Nat) (d : decode cc pc = .ok (.goto off, 3)) (ht : (pc : Int) + off = (tgt : Int)) (kk : n_W p l e R s m args below meth c D A nL k0 n0 Q tgt lv st ws z) : n_W p l e R s m args below meth c D A nL k0 n0 Q pc lv st ws z := fun ls H locs hl hP hD hS hz => lv_goto C.1 C.2.1 d ht (kk ls H locs hl hP hD hS hz)
theorem n_icmp_ge (C : n_C p s m meth c cc nL own ret D cy A) {x y : Int32} {off : Int} (tgt : Nat) (d : decode cc pc = .ok (.if_icmp .ge off, 3)) (ht : (pc : Int) + off = (tgt : Int)) (kt : y ≤ x → n_W p l e R s m args below meth c D A nL k0 n0 Q tgt lv st ws z) (kf : ¬ y ≤ x → n_W p l e R s m args below meth c D A nL k0 n0 Q (pc + 3) lv st ws z) : n_W p l e R s m args below meth c D A nL k0 n0 Q pc lv (.int y :: .int x :: st) ws z := fun ls H locs hl hP hD hS hz => lv_icmp_ge C.1 C.2.1 d ht (fun q => kt q ls H locs hl hP hD hS hz) (fun q => kf q ls H locs hl hP hD hS hz)
theorem n_istore_n (C : n_C p s m meth c cc nL own ret D cy A) {kf : Fin 4} {i : Nat} {x : Int32} (lv' : List (Nat × Value)) (d : decode cc pc = .ok (.istore_n kf, 1)) (hi : (kf : Nat) = i) (hn : i < nL) (hl0 : (i, Value.int x) :: lv.filter (fun q => !(q.1 == i) && !(q.1 + 1 == i && q.2.category == 2)) = lv') (kk : n_W p l e R s m args below meth c D A nL k0 n0 Q (pc + 1) lv' st ws z) : n_W p l e R s m args below meth c D A nL k0 n0 Q pc lv (.int x :: st) ws z := fun ls H locs hl hP hD hS hz => lv_istore_n C.1 C.2.1 d hi hl hn hl0 (fun ls' hl' => kk ls' H locs hl' hP hD hS hz)
theorem n_iinc (C : n_C p s m meth c cc nL own ret D cy A) {i : Nat} (j : Nat) {n : Int} {x v : Int32} (lv' : List (Nat × Value)) (d : decode cc pc = .ok (.iinc i n, 3)) (hj : lv[j]? = some (i, .int x)) (hv : x + Int32.ofInt n = v) (hn : i < nL) (hl0 : (i, Value.int v) :: lv.filter (fun q => !(q.1 == i) && !(q.1 + 1 == i && q.2.category == 2)) = lv') (kk : n_W p l e R s m args below meth c D A nL k0 n0 Q (pc + 3) lv' st ws z) : n_W p l e R s m args below meth c D A nL k0 n0 Q pc lv st ws z := fun ls H locs hl hP hD hS hz => lv_iinc C.1 C.2.1 d hl hj hv hn hl0 (fun ls' hl' => kk ls' H locs hl' hP hD hS hz)
theorem n_obj (C : n_C p s m meth c cc nL own ret D cy A) {idx a : Nat} (h1 : (Cond.methodLink own idx Lib.objectInit).before args s = true) (h2 : (Cond.instanceMethod Lib.objectInit).before args s = true) (h3 : (Cond.code Lib.objectInit { data := #[177] } 1 none).before args s = true) (d : decode cc pc = .ok (.invokespecial idx, 3)) (hR : 1 ≤ R.frames ∧ 12 ≤ R.locals) (kk : n_W p l e R s m args below meth c D A nL k0 n0 Q (pc + 3) lv [] ws z) : n_W p l e R s m args below meth c D A nL k0 n0 Q pc lv [.ref a] ws z := fun ls H locs hl hP hD hS hz => W.objInit C.1 C.2.1 C.2.2.2.1 h1 h2 h3 rfl (hl.1.trans C.2.2.1.symm) rfl d hR.1 (by simpa [F0] using hR.2) (kk ls H locs hl hP hD hS hz)
theorem n_newa (C : n_C p s m meth c cc nL own ret D cy A) {atp : ArrayType} {v : Int32} {N t : Nat} (harr : (Cond.arrayClass (newarray.typeOf atp)).before args s = true) (hty : (rw_tys cy)[t]? = some (cy t, newarray.typeOf atp)) (a0 : vp_A) (ha : ∀ cA : ClassId, vp_cell cA a0 = arrV cA N (fun _ => defaultValue (newarray.typeOf atp))) (hn : ¬ v < 0) (hN : v.toNatClampNeg = N) (hbytes : N * componentBytes (newarray.typeOf atp) ≤ 536870912) (hkn : k0 + 1 ≤ R.cells ∧ n0 + N ≤ R.slots) (d : decode cc pc = .ok (.newarray atp, 2))
    (kk : n_W p l e R s m args below meth c D A nL (k0 + 1) (n0 + N) Q (pc + 2) lv (.ref (s.heap.size + z) :: st) (ws ++ [(s.heap.size + z, .inl (cy t, a0))]) (z + 1)) : n_W p l e R s m args below meth c D A nL k0 n0 Q pc lv (.int v :: st) ws z := by
  intro ls H locs hl hP hD hS hz
  refine va_newaK C.1 C.2.1 harr rfl d rfl hn hN hbytes hkn.1 hkn.2 hz fun H1 cA e1 z1 o1 hAr hNm => ?_
  have h1 : va_RA s (cy t) (newarray.typeOf atp) := (C.2.2.2.2.2.2.1.1.2 t _ hty).2
  have h2 : s.vm.findClass ("[" ++ (newarray.typeOf atp).toString) = some (cy t) := by cases atp <;> exact h1
  have hcA : cA = cy t := Option.some.inj (hNm.symm.trans h2)
  subst hcA
  have hk : ∀ (k : Nat) (x : Nat × va_E), ws[k]? = some x → H1[x.1]? = H[x.1]? := fun k x hx => o1 x.1 (by have := (hP k x hx).lt; omega)
  refine kk ls H1 locs hl ((hP.kept hk).app (fun k x hx => ?_)) (hD.push hP hz.symm (C.2.2.2.2.2.2.2.2 _ (Nat.le_add_right _ _))) ⟨by omega, fun x h1 h2 => (o1 x (by omega)).trans (hS.2.1 x h1 h2), hS.2.2⟩ z1
  have hz : k < 1 := (List.getElem?_eq_some_iff.mp hx).1
  rw [show k = 0 by omega] at hx
  cases hx
  show H1[s.heap.size + z]? = some (vp_cell _ _)
  rw [ha]
  exact e1
theorem n_new (C : n_C p s m meth c cc nL own ret D cy A) {T : u_T} {N ci index : Nat} {Cn : String} {fs0 : List Value} (hc : vwCl[ci]? = some (Cn, T, N)) (hin : ∀ w ∈ u_ws Cn T N, w ∈ lw_tbl ∧ gw w = true) (ty0 : Nat → FieldType) (hty : ∀ k, k < N → parseFieldDescriptor (T k).2.2.1 = some (ty0 k)) (hfs : ∀ j, j < N → defaultValue (ty0 j) = vp_V fs0 j) (hcl : (Cond.classLink own index Cn).before args s = true) (hinst : (Cond.instantiable Cn N).before args s = true) (hini : (Cond.initialized Cn).before args s = true) (hkn : k0 + 1 ≤ R.cells ∧ n0 + N ≤ R.slots) (d : decode cc pc = .ok (.new index, 3))
    (kk : n_W p l e R s m args below meth c D A nL (k0 + 1) (n0 + N) Q (pc + 3) lv (.ref (s.heap.size + z) :: st) (ws ++ [(s.heap.size + z, .inr (ci, fs0))]) (z + 1)) : n_W p l e R s m args below meth c D A nL k0 n0 Q pc lv st ws z := by
  intro ls H locs hl hP hD hS hz
  have hKn := C.2.2.2.2.2.2.1.1.1 ci _ hc
  refine W.newcK C.1 C.2.1 C.2.2.2.1 hcl hinst hini rfl d hkn.1 hkn.2 hKn.2.1 hz fun H1 kC hkC e1 z1 o1 => ?_
  have hk : ∀ (k : Nat) (x : Nat × va_E), ws[k]? = some x → H1[x.1]? = H[x.1]? := fun k x hx => o1 x.1 (by have := (hP k x hx).lt; omega)
  refine kk ls H1 locs hl ((hP.kept hk).app (fun k x hx => ?_)) (hD.push hP hz.symm (C.2.2.2.2.2.2.2.2 _ (Nat.le_add_right _ _))) ⟨by omega, fun x h1 h2 => (o1 x (by omega)).trans (hS.2.1 x h1 h2), hS.2.2⟩ z1
  have hz : k < 1 := (List.getElem?_eq_some_iff.mp hx).1
  rw [show k = 0 by omega] at hx
  cases hx
  exact ⟨_, hc, (u_born ty0 (C.2.2.2.2.2.2.1.lays (A := args) hin) (fun _ q => q) hKn hkC e1 hty).to hfs⟩
theorem n_newo (C : n_C p s m meth c cc nL own ret D cy A) {o : Nat × va_E} {atp : ArrayType} {v : Int32} {N t : Nat} (harr : (Cond.arrayClass (newarray.typeOf atp)).before args s = true) (hty : (rw_tys cy)[t]? = some (cy t, newarray.typeOf atp)) (a0 : vp_A) (ha : ∀ cA : ClassId, vp_cell cA a0 = arrV cA N (fun _ => defaultValue (newarray.typeOf atp))) (hn : ¬ v < 0) (hN : v.toNatClampNeg = N) (hbytes : N * componentBytes (newarray.typeOf atp) ≤ 536870912) (hkn : k0 + 1 ≤ R.cells ∧ n0 + N ≤ R.slots) (d : decode cc pc = .ok (.newarray atp, 2)) {k1 n1 z1 : Nat} {ws1 : va_W} (ek : k0 + 1 = k1) (en : n0 + N = n1) (ez : z + 1 = z1) (ew : ws ++ [(s.heap.size + z, .inl (cy t, a0))] = ws1)
    (kk : n_W p l e R s m args below meth c D A nL k1 n1 Q (pc + 2) lv (.ref (s.heap.size + z) :: st) (o :: ws1) z1) : n_W p l e R s m args below meth c D A nL k0 n0 Q pc lv (.int v :: st) (o :: ws) z := by
  subst ek; subst en; subst ez; subst ew
  exact n_newa C harr hty a0 ha hn hN hbytes hkn d kk
theorem n_put (C : n_C p s m meth c cc nL own ret D cy A) (hnm0 : meth.name = "<init>") {T : u_T} {N ci index a : Nat} {fs fs' : List Value} (hc : vwCl[ci]? = some (own, T, N)) (hin : ∀ w ∈ u_ws own T N, w ∈ lw_tbl ∧ gw w = true) (k : Nat) (hk : k < N) (hlink : (Cond.fieldLink own index own (T k).2.1 (T k).2.2.1).before args s = true) (href : (T k).1 = own) (ty0 : Nat → FieldType) (hty : ∀ k, k < N → parseFieldDescriptor (T k).2.2.1 = some (ty0 k)) (hnm : ∀ a, a < N → ∀ b, b < N → a ≠ b → (T a).2.1 ≠ (T b).2.1) {v : Value} {ty : FieldType} (hd : parseFieldDescriptor (T k).2.2.1 = some ty) (hn : narrow ty v = v) (hfit : fits ty v = true) (hlen : k < fs.length) (hfs : fs.set k v = fs') (d : decode cc pc = .ok (.putfield index, 3))
    (kk : n_W p l e R s m args below meth c D A nL k0 n0 Q (pc + 3) lv st ((a, .inr (ci, fs')) :: ws) z) : n_W p l e R s m args below meth c D A nL k0 n0 Q pc lv (v :: .ref a :: st) ((a, .inr (ci, fs)) :: ws) z := by
  intro ls H locs hl hP hD hS hz
  have hKK := C.2.2.2.2.2.2.1
  have hts : ∀ w ∈ u_ws own T N, w.before args s = true := hKK.lays hin
  have hin' : ∀ w ∈ u_ws own T N, w ∈ u_ws own T N := fun _ q => q
  have hap := va_apart (own := own) hts hin' ty0 hty hnm hKK.1 hc
  obtain ⟨r, h1, cell, q1, q2, q3, q4⟩ := hP 0 (a, .inr (ci, fs)) rfl
  have hr : r = (own, T, N) := Option.some.inj (h1.symm.trans hc)
  subst hr
  obtain ⟨hSl, hfc, kC, hkC, hkind⟩ := hKK.1.1 ci _ hc
  obtain ⟨cf, kf, fi, f, hi, hsl⟩ := hSl k hk
  have hst := (u_facts hfc hkC (u_lays hts hin' hk) hi).1
  have fin : ∀ H' : Heap, H'[a]? = some (cell.setSlot f.slot v) → H'.size = H.size → (∀ q : Nat, q ≠ a → H'[q]? = H[q]?) → W p l e R s m args below meth c H' (locs ++ [⟨a, f.slot⟩]) k0 n0 Q (F0 m (pc + 3) ls st) := fun H' e1 e2 e3 => by
    rw [hsl] at e1
    have hat : va_at D vwCl (a, .inr (ci, fs.set k v)) H' := ⟨_, hc, t_OB.to (V := updV (vp_V fs) k v) ⟨_, e1, q2, q3, t_set q4 hap hk v⟩ (fun j _ => vp_updV_set hlen v j)⟩
    have e0 : ((a, .inr (ci, fs)) :: ws : va_W)[0]? = some (a, .inr (ci, fs)) := rfl
    rw [hfs] at hat
    exact kk ls H' _ hl (hP.set hD e0 hat e3) (hD.set e0) (hS.put e2 e3 (hD.2 0 _ e0)) (e2.trans hz)
  have hlay := hts _ (u_in_lay hk)
  unfold u_lay at hlay
  cases hfin : (T k).2.2.2
  · rw [if_neg (by rw [hfin]; decide)] at hlay
    exact W.putK C.1 C.2.1 (f := f) ⟨C.2.2.2.1, hlink, ⟨_, _, _, by rw [← href]; exact hi⟩, hst⟩ (by rw [q2]; exact u_store hfc hkC hkind hlay hi hd hn hfit) q1 q3 (by rw [hsl]; exact k2_hasslot (q4 k hk)) rfl rfl d fin
  · rw [if_pos hfin] at hlay
    have hcf : m.cls = cf := by
      obtain ⟨_, _, c', _, _, _, -, -, hf', -, -, -, hown2, -⟩ := Cond.laysFinal_spec hlay
      have e1 : c' = cf := by have := hi.symm.trans hf'; simp at this; exact this.1.symm
      rw [href] at hown2
      rw [← e1]; exact Option.some.inj (C.2.2.2.1.symm.trans hown2)
    exact W.putFinK C.1 C.2.1 C.2.2.2.1 hlink (by rw [← href]; exact hi) hst hcf hnm0 (by rw [q2]; exact u_fits hfc hkC hkind (Or.inr hlay) hi hd hn hfit) q1 q3 (by rw [hsl]; exact k2_hasslot (q4 k hk)) rfl rfl d fin
theorem n_init (C : n_C p s m meth c cc nL own ret D cy A) {y : MethodName} {bytes : ByteArray} {maxL index ci h mc ms : Nat} {rm : Room} {As fs0 : List Value} {Wf : (Nat → ClassId) → Nat → Nat → va_W} (hM : CTn l y bytes maxL rm As ci fs0 Wf mc ms) (hname : y.name = "<init>") (hcode : (Cond.code y bytes maxL none).before args s = true) (hini : (Cond.initialized y.cls).before args s = true) (hlink : (Cond.methodLink own index y).before args s = true ∨ ∃ host, (Cond.methodLinkNest own index y host).before args s = true) (hinst : (Cond.instanceMethod y).before args s = true) (hd : (y.cls ≠ "java/lang/invoke/MethodHandle" ∧ y.cls ≠ "java/lang/invoke/VarHandle") ∧ (parseMethodDescriptor y.desc).map (fun d => d.parameters.length) = some As.length) (hR : rm.cells = mc ∧ rm.slots = ms ∧ rm.frames + 1 ≤ R.frames ∧ 8 + (maxL + 11) + rm.locals ≤ R.locals) {st0 : List Value} (hst : st0 = As.reverse ++ .ref h :: st) (hcat : (st.map fun v => v.category).sum ≤ 8) (hkn : k0 + mc ≤ R.cells ∧ n0 + ms ≤ R.slots) (d : decode cc pc = .ok (.invokespecial index, 3))
    (kk : n_W p l e R s m args below meth c D A nL (k0 + mc) (n0 + ms) Q (pc + 3) lv st (ws ++ Wf cy h (s.heap.size + z)) (z + mc)) : n_W p l e R s m args below meth c D A nL k0 n0 Q pc lv st0 (ws ++ [(h, .inr (ci, fs0))]) z := by
  intro ls H locs hl hP hD hS hz
  subst hst
  have hKK := C.2.2.2.2.2.2.1
  have hlast : (ws ++ [(h, .inr (ci, fs0))] : va_W)[ws.length]? = some (h, .inr (ci, fs0)) := by simp
  have hhz : h < H.size := (hP _ _ hlast).lt
  have hAh : A h := hD.2 _ _ hlast
  have hP0 : va_P D vwCl [(h, .inr (ci, fs0))] H := fun k x hx => by
    have hz : k < 1 := (List.getElem?_eq_some_iff.mp hx).1
    rw [show k = 0 by omega] at hx
    cases hx
    exact hP _ _ hlast
  have hF : ∀ q, n_A h H.size q → A q := fun q hq => by
    rcases hq with e | e
    · rw [e]; exact hAh
    · exact C.2.2.2.2.2.2.2.2 q (Nat.le_trans hS.1 e)
  have hMt := hM D cy h H.size
  have hpre : PreS s H (va_Pc (.ref h :: As) (n_Pre D cy ci h H.size fs0)) (.ref h :: As) := ⟨fun _ U g mk q => ⟨q.1, q.2.1, q.2.2.1, q.2.2.2.1, rw_K.same (s := U) rfl q.2.2.2.2.1, aK.same (s := U) rfl q.2.2.2.2.2⟩, fun U hU hW => ⟨rfl, by rw [hU], by first | exact hhz | (rw [hU]; exact hhz), by rw [hU]; exact hP0, hKK.warm hW, C.2.2.2.2.2.2.2.1.warm hW⟩⟩
  have hcw : ∀ w ∈ [Cond.code y bytes maxL none], ∀ (a' : Array Value) (U : State), s.WarmedH U.vm → w.before a' U = true := fun w hw a' U hW => by cases List.mem_singleton.mp hw; exact word_at hW (Or.inl rfl) hcode
  have hdd : ∀ sig : MethodDescriptor, parseMethodDescriptor y.desc = some sig → As.length = sig.parameters.length := fun sig h => by have h2 := hd.2; rw [h] at h2; exact (Option.some.inj h2).symm
  have hrun : va_Run p l e R s m args below meth c H locs k0 n0 mc ms (F0 m pc ls (As.reverse ++ .ref h :: st)) st (va_Qv (fun _ : Unit => True) (n_Pst D cy (Wf cy h H.size) (n_A h H.size) (H.size + mc)) (n_A h H.size) (Value.ref h :: As).toArray) (n_A h H.size) := by
    rcases hlink with hlk | ⟨host, hlk⟩
    · exact va_runI (As := As) (rest := st) (Ts := []) ⟨C.1, C.2.1, C.2.2.1, C.2.2.2.1, fun _ h => absurd h List.not_mem_nil⟩ hMt ⟨⟨hR.1, hR.2.1, hR.2.2.1, hR.2.2.2, hcw, List.mem_singleton.mpr rfl, hcode, hini, hd.1, hdd, hlk⟩, hname, hinst⟩ hpre rfl rfl hl.1 rfl (lv_room hcat) d ⟨hkn.1, hkn.2⟩
    · exact va_runIN (As := As) (rest := st) (Ts := []) ⟨C.1, C.2.1, C.2.2.1, C.2.2.2.1, fun _ h => absurd h List.not_mem_nil⟩ hMt ⟨⟨⟨hR.1, hR.2.1, hR.2.2.1, hR.2.2.2, hcw, List.mem_singleton.mpr rfl⟩, hcode, hini, hd.1, hdd, hlk⟩, hname, hinst⟩ hpre rfl rfl hl.1 rfl (lv_room hcat) d ⟨hkn.1, hkn.2⟩
  refine va_callv hrun hS (fun q _ hq => hF q hq) hF (fun u t H1 locs1 ht hvm hw hB hz1 hk1 hS1 => ?_)
  obtain ⟨hPw, hDw, hsw⟩ := hB
  rw [ht] at hPw hsw
  have hws : ∀ (k : Nat) (x : Nat × va_E), ws[k]? = some x → x.1 < H.size ∧ ¬ n_A h H.size x.1 := fun k x hx => by
    have hlt : k < ws.length := (List.getElem?_eq_some_iff.mp hx).1
    have hx' : (ws ++ [(h, .inr (ci, fs0))] : va_W)[k]? = some x := by rw [List.getElem?_append_left hlt]; exact hx
    have h1 := (hP _ _ hx').lt
    refine ⟨h1, fun hq => ?_⟩
    rcases hq with e | e
    · have := hD.1 _ _ _ _ hx' hlast e
      omega
    · omega
  have hP1 : va_P D vwCl ws H1 := fun k x hx => by
    have hlt : k < ws.length := (List.getElem?_eq_some_iff.mp hx).1
    have hx' : (ws ++ [(h, .inr (ci, fs0))] : va_W)[k]? = some x := by rw [List.getElem?_append_left hlt]; exact hx
    exact (hP _ _ hx').kept (hk1 x.1 (hws k x hx).1 (hws k x hx).2)
  have hD1 : va_D A ws := ⟨fun i j x y hx hy hxy => hD.1 i j x y (by rw [List.getElem?_append_left (List.getElem?_eq_some_iff.mp hx).1]; exact hx) (by rw [List.getElem?_append_left (List.getElem?_eq_some_iff.mp hy).1]; exact hy) hxy, fun k x hx => hD.2 k x (by rw [List.getElem?_append_left (List.getElem?_eq_some_iff.mp hx).1]; exact hx)⟩
  refine kk ls H1 locs1 hl ?_ ?_ hS1 ?_
  · rw [← hz]; exact hP1.app hPw
  · rw [← hz]; exact va_D.app hD1 (hDw.weaken (fun k q _ h => hF q.1 h)) (fun i j x y hx hy hxy => (hws i x hx).2 (by rw [hxy]; exact hDw.2 j y hy))
  · omega
theorem n_vret (C : n_C p s m meth c cc nL own none D cy A) {W0 : va_W} {zz : Nat} (hw : ws = W0) (hzz : s.heap.size + z = zz) (d : decode cc pc = .ok (.return_, 1)) : n_W p l e R s m args below meth c D A nL k0 n0 (MQ below (va_Qv (fun _ : Unit => True) (n_Pst D cy W0 A zz) A) args s k0 n0 A) pc lv [] ws z := fun ls H locs hl hP hD hS hz => W.vret C.1 C.2.1 C.2.2.2.2.1 (fun t ht hW => ⟨⟨(), rfl, trivial, by rw [ht, ← hw]; exact hP, by rw [← hw]; exact hD, by rw [ht, ← hzz]; exact hz⟩, hS.F ht⟩) hS.2.2 d C.2.2.2.2.2.1
theorem n_ent {y : MethodName} {maxL ci mc ms : Nat} {rm : Room} {As fs0 : List Value} {Wf : (Nat → ClassId) → Nat → Nat → va_W} (hy : plainName y.cls = true) (hname : y.name = "<init>") (hlen : ∀ h0, (lg_sl (Value.ref h0 :: As)).length ≤ maxL)
    (h : ∀ (p : Program) (e : Env) (s : State) (m : MethodId) (args : Array Value) (below : List Frame) (meth : Method) (c : Code) (D : va_G) (cy : Nat → ClassId) (h0 : Nat), n_C p s m meth c cc maxL y.cls none D cy (n_A h0 s.heap.size) → meth.name = "<init>" → n_W p l e rm s m args below meth c D (n_A h0 s.heap.size) maxL 0 0 (MQ below (va_Qv (fun _ : Unit => True) (n_Pst D cy (Wf cy h0 s.heap.size) (n_A h0 s.heap.size) (s.heap.size + mc)) (n_A h0 s.heap.size)) args s mc ms (n_A h0 s.heap.size)) 0 (lv_args 0 (.ref h0 :: As)) [] [(h0, .inr (ci, fs0))] 0) : CTn l y cc maxL rm As ci fs0 Wf mc ms := by
  intro D cy h0 sz
  refine Met.ofW (cc := cc) (maxL := maxL) (ret := none) hy rfl ?_
  intro p e s m args below meth c s₁ B hml hv
  obtain ⟨rfl, hsz, hlt, hP, hK, ha⟩ := hv
  subst hsz
  rw [lg_entry_eq]
  exact h p e s m _ below meth c D cy h0 ⟨B.exec, B.bytes, hml, findClass_of_methodNamed B.named, B.returns, B.notSynchronized, hK, ha, fun q hq => Or.inr hq⟩ ((name_of_methodNamed B.named B.method).1.trans hname) _ s.heap [] (lv_entry _ (hlen h0)) hP ⟨fun i j x y hx hy _ => by have h1 : i < 1 := (List.getElem?_eq_some_iff.mp hx).1; have h2 : j < 1 := (List.getElem?_eq_some_iff.mp hy).1; omega, fun k x hx => by have h1 : k < 1 := (List.getElem?_eq_some_iff.mp hx).1; rw [show k = 0 by omega] at hx; cases hx; exact Or.inl rfl⟩ va_S.rf rfl
end NW
