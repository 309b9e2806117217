/-! the law's own two methods, that catch -/
/-- a method with handlers that answers an int -/
def CTw (l : Launch) (y : MethodName) (cc : ByteArray) (maxL : Nat) (ret : Option FieldType) (hh : List (Nat × Nat × Nat × Nat)) (rm : Room) (av : (Nat → Nat) → List Value) (M : Mem) (K : Int32 → Mem → Prop) : Prop := ∀ (D : va_G) (cy : Nat → ClassId) (ad : Nat → Nat) (sz : Nat), rw_J ad → Met l y [.codeWith y cc maxL ret hh] rm (va_Pc (av ad) (fun U => rw_Pre D cy ad M sz U ∧ xK (rw_A ad sz) U)) (va_Qi K (rw_Pst D cy ad) (rw_A ad sz)) 1 6 (rw_A ad sz)
theorem xK_same {A : Nat → Prop} {s U : State} (hv : s.vm = U.vm) (hh : U.heap = s.heap) (h : xK A s) : xK A U := by
  have hW : s.WarmedH U.vm := by rw [← hv]; exact State.WarmedH.refl s
  exact xK_mv (H := s.heap) (locs := []) h hW hh va_S.rf (fun _ q => q)
theorem rw_blindX {D : va_G} {cy : Nat → ClassId} {ad : Nat → Nat} {M : Mem} {sz : Nat} {av : List Value} : FrameBlind (va_Pc av (fun U => rw_Pre D cy ad M sz U ∧ xK (rw_A ad sz) U)) := fun _ U g mk q => ⟨q.1, ⟨q.2.1.1, q.2.1.2.1, rw_K.same (s := U) rfl q.2.1.2.2⟩, xK_same (s := U) rfl rfl q.2.2⟩
theorem rw_preX {D : va_G} {cy : Nat → ClassId} {ad : Nat → Nat} {M : Mem} {H : Heap} {s : State} {av : List Value} {locs : List Loc} (hK : rw_K D cy s) (hx : xK (rw_A ad s.heap.size) s) (hP : va_P D vwCl (rw_mk cy ad M) H) (hS : va_S (rw_A ad s.heap.size) s.heap H locs) : ∀ U : State, U.heap = H → s.WarmedH U.vm → va_Pc av (fun U => rw_Pre D cy ad M H.size U ∧ xK (rw_A ad H.size) U) av.toArray U := fun U hU hW => ⟨rfl, ⟨by rw [hU], by rw [hU]; exact hP, hK.warm hW⟩, xK_mv hx hW hU hS (rw_AA hS.1)⟩
section RXL
variable {p : Program} {l : Launch} {e : Env} {R : Room} {s : State} {m : MethodId} {args : Array Value} {below : List Frame} {meth : Method} {c : Code} {D : va_G} {cy : Nat → ClassId} {ad : Nat → Nat} {nL k0 n0 : Nat} {Q : State → Prop} {pc : Nat} {lv : List (Nat × Value)} {st : List Value} {M : Mem} {cc : ByteArray} {own : String} {ret : Option FieldType}
/-- a call of a method that may throw, with a handler for it -/
theorem r_cVx (C : rw_C p s m meth c cc nL own ret D cy ad) (hx : xK (rw_A ad s.heap.size) s) {y : MethodName} {bytes : ByteArray} {maxL index : Nat} {ret2 : Option FieldType} {rm : Room} {av : (Nat → Nat) → List Value} {K : Int32 → Mem → Prop} {Kx : Mem → Prop} (hM : CTx l y bytes maxL ret2 rm av M K Kx) {t ci : Nat} {fl : List (Option Nat)} {T : u_T} {N : Nat} {Cn : String} (ht : isO t ci fl) (hc : vwCl[ci]? = some (Cn, T, N)) (As rest : List Value) (hav : av ad = .ref (ad t) :: As) (hst : st = As.reverse ++ .ref (ad t) :: rest) (hcode : (Cond.code y bytes maxL ret2).before args s = true) (hini : (Cond.initialized y.cls).before args s = true) (hlink : (Cond.methodLink own index y).before args s = true) (hinst : (Cond.instanceMethod y).before args s = true) (hsel : (Cond.selects Cn y y).before args s = true) (hd : (y.cls ≠ "java/lang/invoke/MethodHandle" ∧ y.cls ≠ "java/lang/invoke/VarHandle") ∧ (parseMethodDescriptor y.desc).map (fun d => d.parameters.length) = some As.length) (hR : rm.cells = 1 ∧ rm.slots = 6 ∧ rm.frames + 1 ≤ R.frames ∧ 8 + (maxL + 11) + rm.locals ≤ R.locals) (hcat : (rest.map fun v => v.category).sum ≤ 8) (hkn : k0 + 1 ≤ R.cells ∧ n0 + 6 ≤ R.slots) (d : decode cc pc = .ok (.invokevirtual index, 3))
    (x : ExceptionTableEntry) (htb : c.exceptionTable.toList = [x]) (hcov : covers x pc = true) (hct : x.catchType ≠ 0) (hcl : (Cond.classLink own x.catchType nseN).before args s = true)
    (kx : ∀ (q : Nat) (M' : Mem), Kx M' → rw_W p l e R s m args below meth c D cy ad nL (k0 + 1) (n0 + 6) Q x.handlerPc lv [.ref q] M')
    (kk : ∀ (r : Int32) (M' : Mem), K r M' → rw_W p l e R s m args below meth c D cy ad nL (k0 + 1) (n0 + 6) Q (pc + 3) lv (.int r :: rest) M') : rw_W p l e R s m args below meth c D cy ad nL k0 n0 Q pc lv st M := by
  intro ls H locs hl hP hS
  subst hst
  have hMt := hM D cy ad H.size C.2.2.2.2.2.2.2
  refine vx_calli (vx_runV (As := As) (rest := rest) (Ts := []) ⟨C.1, C.2.1, C.2.2.1, C.2.2.2.1, fun _ h => absurd h List.not_mem_nil⟩ hMt ⟨⟨hR.1, hR.2.1, hR.2.2.1, hR.2.2.2, (fun w hw a' U hW => by cases List.mem_singleton.mp hw; exact word_at hW (Or.inl rfl) hcode), List.mem_singleton.mpr rfl, hcode, hini, hd.1, (fun sig h => by have h2 := hd.2; rw [h] at h2; exact (Option.some.inj h2).symm), hlink⟩, hinst, hsel⟩ ⟨rw_blindX, va_recv C.2.2.2.2.2.2.1.1 hP hc (isO_at ht), by rw [hav]; exact rw_preX C.2.2.2.2.2.2.1 hx hP hS⟩ rfl rfl hl.1 rfl (lv_room hcat) d ⟨hkn.1, hkn.2⟩) hS (fun q _ h => rw_AA hS.1 q h) (fun q h => rw_AA hS.1 q h) (fun q _ h => rw_AA hS.1 q h) ?_ ?_
  · intro E ce q9 u t H1 locs1 ht1 hvm hK hB hz hk1 hS1 hce hcv hcls
    obtain ⟨rfl, hB⟩ := hB
    refine vx_catch (name := nseN) C.2.2.2.1 [] x [] htb (fun z hz => absurd hz List.not_mem_nil) hcov hct hcl (va_Nw.use rfl hx.1.2.2.2) hce hcv hcls ?_
    exact kx q9 u hK ls H1 locs1 hl (by rw [← ht1]; exact hB.1) hS1
  · intro r u t H1 locs1 ht1 hvm hK hB hz hk1 hS1
    exact kk r u hK ls H1 locs1 hl (by rw [← ht1]; exact hB.1) hS1
/-- a static call of a method with handlers -/
theorem r_cSw (C : rw_C p s m meth c cc nL own ret D cy ad) (hx : xK (rw_A ad s.heap.size) s) {y : MethodName} {bytes : ByteArray} {maxL index : Nat} {ret2 : Option FieldType} {hh : List (Nat × Nat × Nat × Nat)} {rm : Room} {av : (Nat → Nat) → List Value} {K : Int32 → Mem → Prop} (hM : CTw l y bytes maxL ret2 hh rm av M K) (As rest : List Value) (hav : av ad = As) (hst : st = As.reverse ++ rest) (hcode : (Cond.codeWith y bytes maxL ret2 hh).before args s = true) (hini : (Cond.initialized y.cls).before args s = true) (hlink : (Cond.methodLink own index y).before args s = true) (hstat : (Cond.static y).before args s = true) (hd : (y.cls ≠ "java/lang/invoke/MethodHandle" ∧ y.cls ≠ "java/lang/invoke/VarHandle") ∧ (parseMethodDescriptor y.desc).map (fun d => d.parameters.length) = some As.length) (hR : rm.cells = 1 ∧ rm.slots = 6 ∧ rm.frames + 1 ≤ R.frames ∧ 8 + (maxL + 11) + rm.locals ≤ R.locals) (hcat : (rest.map fun v => v.category).sum ≤ 8) (hkn : k0 + 1 ≤ R.cells ∧ n0 + 6 ≤ R.slots) (d : decode cc pc = .ok (.invokestatic index, 3)) (kk : ∀ (r : Int32) (M' : Mem), K r M' → rw_W p l e R s m args below meth c D cy ad nL (k0 + 1) (n0 + 6) Q (pc + 3) lv (.int r :: rest) M') : rw_W p l e R s m args below meth c D cy ad nL k0 n0 Q pc lv st M := by
  intro ls H locs hl hP hS
  subst hst
  have hMt := hM D cy ad H.size C.2.2.2.2.2.2.2
  refine va_calli (vx_runSW (As := As) (rest := rest) (Ts := []) (hh := hh) (bytes := bytes) (maxL := maxL) (ret := ret2) ⟨C.1, C.2.1, C.2.2.1, C.2.2.2.1, fun _ h => absurd h List.not_mem_nil⟩ hMt ⟨⟨hR.1, hR.2.1, hR.2.2.1, hR.2.2.2, (fun w hw a' U hW => by cases List.mem_singleton.mp hw; exact word_at hW (Or.inl rfl) hcode), List.mem_singleton.mpr rfl⟩, hcode, hini, hd.1, (fun sig h => by have h2 := hd.2; rw [h] at h2; exact (Option.some.inj h2).symm), hlink, hstat⟩ ⟨rw_blindX, by rw [hav]; exact rw_preX C.2.2.2.2.2.2.1 hx hP hS⟩ rfl rfl hl.1 rfl (lv_room hcat) d ⟨hkn.1, hkn.2⟩) hS (fun q _ h => rw_AA hS.1 q h) (fun q h => rw_AA hS.1 q h) ?_
  intro r u t H1 locs1 ht1 hvm hK hB hz hk1 hS1
  exact kk r u hK ls H1 locs1 hl (by rw [← ht1]; exact hB.1) hS1
theorem r_iret1 (C : rw_C p s m meth c cc nL own (some .int) D cy ad) {v : Int32} {K : Int32 → Mem → Prop} (d : decode cc pc = .ok (.ireturn, 1)) (hK : K v M) : rw_W p l e R s m args below meth c D cy ad nL 1 6 (MQ below (va_Qi K (rw_Pst D cy ad) (rw_A ad s.heap.size)) args s 1 6 (rw_A ad s.heap.size)) pc lv ([.int v]) M := fun ls H locs hl hP hS => W.iret C.1 C.2.1 C.2.2.2.2.1 (fun t ht hW => ⟨⟨v, M, rfl, hK, by rw [ht]; exact hP, C.2.2.2.2.2.2.1.warm hW⟩, hS.F ht⟩) hS.2.2 d C.2.2.2.2.2.1
theorem rw_entw {y : MethodName} {maxL : Nat} {hh : List (Nat × Nat × Nat × Nat)} {rm : Room} {av : (Nat → Nat) → List Value} {K : Int32 → Mem → Prop} (hy : plainName y.cls = true) (hlen : ∀ ad, (lg_sl (av ad)).length ≤ maxL)
    (h : ∀ (p : Program) (e : Env) (s : State) (m : MethodId) (args : Array Value) (below : List Frame) (meth : Method) (c : Code) (D : va_G) (cy : Nat → ClassId) (ad : Nat → Nat), rw_C p s m meth c cc maxL y.cls ret D cy ad → xK (rw_A ad s.heap.size) s → c.exceptionTable.toList = tableOf hh → rw_W p l e rm s m args below meth c D cy ad maxL 0 0 (MQ below (va_Qi K (rw_Pst D cy ad) (rw_A ad s.heap.size)) args s 1 6 (rw_A ad s.heap.size)) 0 (lv_args 0 (av ad)) [] M) : CTw l y cc maxL ret hh rm av M K := by
  intro D cy ad sz hJ
  refine va_MetW (cc := cc) (maxL := maxL) (ret := ret) (hh := hh) hy rfl ?_
  intro p e s m args below meth c s₁ B hml hv
  obtain ⟨rfl, ⟨hsz, hP, hK⟩, hx⟩ := hv
  subst hsz
  rw [lg_entry_eq]
  have ht := vx_table (x := y) B (atoms_spec (ws := [.codeWith y cc maxL ret hh]) B.pre _ List.mem_cons_self)
  exact h p e s m _ below meth c D cy ad ⟨B.exec, B.bytes, hml, findClass_of_methodNamed B.named, B.returns, B.notSynchronized, hK, hJ⟩ hx ht _ s.heap [] (lv_entry (av ad) (hlen ad)) hP va_S.rf
end RXL
abbrev hhL : List (Nat × Nat × Nat × Nat) := [(0, 10, 13, 13)]
abbrev rm_Ls : Room := { frames := 32, cells := 1, slots := 6, locals := 740 }
theorem m_L_support (l : Launch) (hl : l.stackTraces = false) {v1 v2 : Int32} {M : Mem} {K : Int32 → Mem → Prop} (h : f_X8_support v1 v2 M (fun r M1 => K 0 (wL M1 40 0 r.toInt64)) (fun M1 => K 1 M1)) : CTw l yL_support cL_support 5 (some .int) hhL rm_Ls (fun ad => [.ref (ad 41), .int v1, .int v2, .ref (ad 40)]) M K := by
  refine rw_entw (by decide +kernel) (fun ad => Nat.le_of_ble_eq_true rfl) (fun p e s m args below meth c D cy ad C hx ho => ?_)
  change rw_W p l e _ s m args below meth c D cy ad 5 0 0 _ 0 [(0, .ref (ad 41)), (1, .int v1), (2, .int v2), (3, .ref (ad 40))] [] M
  refine r_aload_n C 3 dL_support_0 rfl rfl ?_
  refine r_iconst (v := (0 : Int32)) C dL_support_1 rfl ?_
  refine r_aload_n C 0 dL_support_2 rfl rfl ?_
  refine r_iload_n C 1 dL_support_3 rfl rfl ?_
  refine r_iload_n C 2 dL_support_4 rfl rfl ?_
  refine r_cVx C hx (m_X8_support l hl h) sh_41 rfl [.int v1, .int v2] [.int 0, .ref (ad 40)] rfl rfl (rw_K.word (w := Cond.code yX8_support cX8_support 4 (some .int)) C.2.2.2.2.2.2.1 1313 (by decide +kernel) (by decide +kernel)) (rw_K.word (w := Cond.initialized RX8) C.2.2.2.2.2.2.1 191 (by decide +kernel) (by decide +kernel)) (rw_K.word (w := Cond.methodLink RL 7 yX8_support) C.2.2.2.2.2.2.1 1310 (by decide +kernel) (by decide +kernel)) (rw_K.word (w := Cond.instanceMethod yX8_support) C.2.2.2.2.2.2.1 1311 (by decide +kernel) (by decide +kernel)) (rw_K.word (w := Cond.selects RX8 yX8_support yX8_support) C.2.2.2.2.2.2.1 1312 (by decide +kernel) (by decide +kernel)) ⟨⟨by decide +kernel, by decide +kernel⟩, (show (parseMethodDescriptor yX8_support.desc).map (fun d => d.parameters.length) = some 2 from by decide +kernel)⟩ ⟨rfl, rfl, Nat.le_of_ble_eq_true rfl, Nat.le_of_ble_eq_true rfl⟩ (Nat.le_of_ble_eq_true rfl) ⟨Nat.le_of_ble_eq_true rfl, Nat.le_of_ble_eq_true rfl⟩ dL_support_5 ⟨0, 10, 13, 13⟩ ho rfl (by decide) (rw_K.word (w := Cond.classLink RL 13 nseN) C.2.2.2.2.2.2.1 1309 (by decide +kernel) (by decide +kernel)) (fun q M1 h => ?_) (fun r M1 h => ?_)
  · refine r_astore C [(4, .ref q), (0, .ref (ad 41)), (1, .int v1), (2, .int v2), (3, .ref (ad 40))] dL_support_13 (by decide) rfl ?_
    refine r_iconst (v := (1 : Int32)) C dL_support_15 rfl ?_
    exact r_iret1 C dL_support_16 h
  · refine r_i2l C dL_support_8 ?_
    refine r_last C sh_40 (vpd (by decide)) dL_support_9 ?_
    refine r_goto C 17 dL_support_10 (by decide) ?_
    refine r_iconst (v := (0 : Int32)) C dL_support_17 rfl ?_
    exact r_iret1 C dL_support_18 h
theorem m_L_siphon (l : Launch) (hl : l.stackTraces = false) {v1 v2 : Int32} {M : Mem} {K : Int32 → Mem → Prop} (h : f_X8_siphon v1 v2 M (fun r M1 => K 0 (wL M1 40 0 r.toInt64)) (fun M1 => K 1 M1)) : CTw l yL_siphon cL_siphon 5 (some .int) hhL rm_Ls (fun ad => [.ref (ad 41), .int v1, .int v2, .ref (ad 40)]) M K := by
  refine rw_entw (by decide +kernel) (fun ad => Nat.le_of_ble_eq_true rfl) (fun p e s m args below meth c D cy ad C hx ho => ?_)
  change rw_W p l e _ s m args below meth c D cy ad 5 0 0 _ 0 [(0, .ref (ad 41)), (1, .int v1), (2, .int v2), (3, .ref (ad 40))] [] M
  refine r_aload_n C 3 dL_siphon_0 rfl rfl ?_
  refine r_iconst (v := (0 : Int32)) C dL_siphon_1 rfl ?_
  refine r_aload_n C 0 dL_siphon_2 rfl rfl ?_
  refine r_iload_n C 1 dL_siphon_3 rfl rfl ?_
  refine r_iload_n C 2 dL_siphon_4 rfl rfl ?_
  refine r_cVx C hx (m_X8_siphon l hl h) sh_41 rfl [.int v1, .int v2] [.int 0, .ref (ad 40)] rfl rfl (rw_K.word (w := Cond.code yX8_siphon cX8_siphon 4 (some .int)) C.2.2.2.2.2.2.1 1386 (by decide +kernel) (by decide +kernel)) (rw_K.word (w := Cond.initialized RX8) C.2.2.2.2.2.2.1 191 (by decide +kernel) (by decide +kernel)) (rw_K.word (w := Cond.methodLink RL 15 yX8_siphon) C.2.2.2.2.2.2.1 1383 (by decide +kernel) (by decide +kernel)) (rw_K.word (w := Cond.instanceMethod yX8_siphon) C.2.2.2.2.2.2.1 1384 (by decide +kernel) (by decide +kernel)) (rw_K.word (w := Cond.selects RX8 yX8_siphon yX8_siphon) C.2.2.2.2.2.2.1 1385 (by decide +kernel) (by decide +kernel)) ⟨⟨by decide +kernel, by decide +kernel⟩, (show (parseMethodDescriptor yX8_siphon.desc).map (fun d => d.parameters.length) = some 2 from by decide +kernel)⟩ ⟨rfl, rfl, Nat.le_of_ble_eq_true rfl, Nat.le_of_ble_eq_true rfl⟩ (Nat.le_of_ble_eq_true rfl) ⟨Nat.le_of_ble_eq_true rfl, Nat.le_of_ble_eq_true rfl⟩ dL_siphon_5 ⟨0, 10, 13, 13⟩ ho rfl (by decide) (rw_K.word (w := Cond.classLink RL 13 nseN) C.2.2.2.2.2.2.1 1309 (by decide +kernel) (by decide +kernel)) (fun q M1 h => ?_) (fun r M1 h => ?_)
  · refine r_astore C [(4, .ref q), (0, .ref (ad 41)), (1, .int v1), (2, .int v2), (3, .ref (ad 40))] dL_siphon_13 (by decide) rfl ?_
    refine r_iconst (v := (1 : Int32)) C dL_siphon_15 rfl ?_
    exact r_iret1 C dL_siphon_16 h
  · refine r_i2l C dL_siphon_8 ?_
    refine r_last C sh_40 (vpd (by decide)) dL_siphon_9 ?_
    refine r_goto C 17 dL_siphon_10 (by decide) ?_
    refine r_iconst (v := (0 : Int32)) C dL_siphon_17 rfl ?_
    exact r_iret1 C dL_siphon_18 h
