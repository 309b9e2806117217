/-! a method that throws: what it needs of the machine -/
def nseAx (own : String) (ic : Nat) : List Cond := (nseAt own ic).filter vx_no
/-- what the throwing needs of the state: declarations, statics, texts -/
def xK (A : Nat → Prop) (U : State) : Prop :=
  (va_Nw (.declares (Bundle.initS nseR)) U ∧ va_Nw (.declares (Bundle.initS nseE)) U ∧ va_Nw (.declares (Bundle.initS Bundle.tN)) U ∧ va_Nw (.castable nseN nseN) U) ∧
  vx_Zq Bundle.tN "UNASSIGNED_STACK" Bundle.steD A U U.heap ∧ vx_Zq Bundle.tN "SUPPRESSED_SENTINEL" Bundle.listD A U U.heap ∧
  (∃ sa, vk_R RX8 214 "what is 0 or 1" sa U) ∧ (∃ sa, vk_R RX8 219 "there is no such sum or row" sa U) ∧ ∃ sa, vk_R RX8 241 "there is no such siphon or trap" sa U
theorem xK_mv {A B : Nat → Prop} {s U : State} {H : Heap} {locs : List Loc} (h : xK A s) (hW : s.WarmedH U.vm) (hU : U.heap = H) (hS : va_S A s.heap H locs) (hAB : ∀ q, B q → A q) : xK B U := by
  obtain ⟨⟨d1, d2, d3, d4⟩, z1, z2, ⟨a1, k1⟩, ⟨a2, k2⟩, ⟨a3, k3⟩⟩ := h
  refine ⟨⟨va_Nw.warmD hW d1, va_Nw.warmD hW d2, va_Nw.warmD hW d3, va_Nw.warmC hW d4⟩, ?_, ?_, ⟨a1, vk_R.warm hW k1⟩, ⟨a2, vk_R.warm hW k2⟩, ⟨a3, vk_R.warm hW k3⟩⟩
  · rw [hU]; exact vx_Zq.moved hW.alike ((z1.kept hS.2.1).narrow hAB)
  · rw [hU]; exact vx_Zq.moved hW.alike ((z2.kept hS.2.1).narrow hAB)
set_option maxRecDepth 20000 in
theorem nseAx_mem : ∀ w ∈ nseAx RX8 216, (w = .declares (Bundle.initS nseR) ∨ w = .declares (Bundle.initS nseE) ∨ w = .declares (Bundle.initS Bundle.tN)) ∨ (w ∈ lw_tbl ∧ gw w = true) := by
  have h : (nseAx RX8 216).all (fun w => decide (w = .declares (Bundle.initS nseR)) || decide (w = .declares (Bundle.initS nseE)) || decide (w = .declares (Bundle.initS Bundle.tN)) || (lw_tbl.contains w && gw w)) = true := by decide +kernel
  intro w hw
  have := List.all_eq_true.mp h w hw
  simp only [Bool.or_eq_true, decide_eq_true_eq, Bool.and_eq_true, List.contains_iff_mem] at this
  rcases this with ((a | a) | a) | a
  · exact Or.inl (Or.inl a)
  · exact Or.inl (Or.inr (Or.inl a))
  · exact Or.inl (Or.inr (Or.inr a))
  · exact Or.inr a
theorem nse_words {D : va_G} {cy : Nat → ClassId} {A : Nat → Prop} {s : State} {args : Array Value} (hK : rw_K D cy s) (hx : xK A s) : ∀ w ∈ nseAx RX8 216, w.before args s = true := fun w hw => by
  rcases nseAx_mem w hw with (e | e | e) | ⟨h1, h2⟩
  · rw [e]; exact va_Nw.use rfl hx.1.1
  · rw [e]; exact va_Nw.use rfl hx.1.2.1
  · rw [e]; exact va_Nw.use rfl hx.1.2.2.1
  · exact gw_tab h2 rfl (hK.2 w h1 h2)
theorem nse_ot : ∀ w ∈ Cond.classLink RX8 212 nseN :: Cond.initialized nseN :: nseAx RX8 216, vx_ot w = true := by
  have h : (Cond.classLink RX8 212 nseN :: Cond.initialized nseN :: nseAx RX8 216).all vx_ot = true := by decide +kernel
  exact fun w hw => List.all_eq_true.mp h w hw
section NSW
variable {p : Program} {l : Launch} {e : Env} {R : Room} {s : State} {m : MethodId} {args : Array Value} {below : List Frame} {meth : Method} {c : Code} {H : Heap} {locs : List Loc} {cells slots : Nat} {ls : Array Slot} {rest : List Value} {Qc : Array Value → State → Outcome → State → Prop} {XC : String → State → State → Prop} {free : Addr → Prop}
theorem nse_throw {cc : ByteArray} {pc : Nat} (hexec : p.tables.exec = Jvm.exec) (hb : c.code = cc) (hl : l.stackTraces = false) {text : String} {is mc ms sa : Nat} {A : Nat → Prop}
    (hown : s.vm.findClass RX8 = some m.cls)
    (hk : (Cond.classLink RX8 212 nseN).before args s = true) (hini : (Cond.initialized nseN).before args s = true) (hstr : vk_R RX8 is text sa s) (hat : ∀ w ∈ nseAx RX8 216, w.before args s = true)
    (hU : vx_Zq Bundle.tN "UNASSIGNED_STACK" Bundle.steD A s s.heap) (hN : vx_Zq Bundle.tN "SUPPRESSED_SENTINEL" Bundle.listD A s s.heap) (hS : va_S A s.heap H locs) (hsize : ls.size = c.maxLocals)
    (d0 : decode cc pc = .ok (.new 212, 3)) (d3 : decode cc (pc + 3) = .ok (.dup, 1)) (d4 : decode cc (pc + 4) = .ok (.ldc is, 2)) (d6 : decode cc (pc + 6) = .ok (.invokespecial 216, 3)) (d9 : decode cc (pc + 9) = .ok (.athrow, 1))
    (hout : ∀ x ∈ c.exceptionTable.toList, covers x (pc + 9) = false)
    (hRframes : 5 < R.frames) (hRlocals : (rest.map fun v => v.category).sum + 82 ≤ R.locals) (hRcells : cells + 1 ≤ R.cells) (hRslots : slots + 6 ≤ R.slots) (hlocks : meth.locks = false)
    (hx : ∀ t : State, s.WarmedH t.vm → H.size ≤ t.heap.size → (∀ q : Nat, q < H.size → t.heap[q]? = H[q]?) → XC nseN s t)
    (hf : ∀ z ∈ locs, free z.base) (hc : cells + 1 ≤ mc) (hs : slots + 6 ≤ ms) :
    W p l e R s m args below meth c H locs cells slots (vx_MQ below Qc XC args s mc ms free) (F0 m pc ls rest) := by
  intro T hT X
  have htr : e.platform.stackTraces = false := (show e.platform.stackTraces = l.stackTraces by rw [X.admits.platform]).trans hl
  have Y := vx_rebase X (R' := { frames := R.frames, locals := R.locals, cells := 1, slots := 6 }) (Nat.le_refl _) (Nat.le_refl _) hRcells hRslots
  obtain ⟨s', hA⟩ : ∃ z, z = (T.setVm s.vm).setFrames (.invoking m args :: below) := ⟨_, rfl⟩
  rw [← hA] at Y
  have hvm : s'.vm = s.vm := by rw [hA]; rfl
  have hhp : s'.heap = H := by rw [hA]; exact hT
  have hW0 : s.WarmedH s'.vm := by rw [hvm]; exact State.WarmedH.refl s
  have hat' : ∀ w ∈ nseAx RX8 216, w.before args s' = true := fun w hw => vx_ot_at hW0 hvm.symm (nse_ot w (List.mem_cons_of_mem _ (List.mem_cons_of_mem _ hw))) (hat w hw)
  have hk' : (Cond.classLink RX8 212 nseN).before args s' = true := vx_ot_at hW0 hvm.symm (nse_ot _ List.mem_cons_self) hk
  have hini' : (Cond.initialized nseN).before args s' = true := vx_ot_at hW0 hvm.symm (nse_ot _ (List.mem_cons_of_mem _ List.mem_cons_self)) hini
  have hU' : vx_Zq Bundle.tN "UNASSIGNED_STACK" Bundle.steD A s' s'.heap := by rw [hhp]; exact vx_Zq.moved hW0.alike (hU.kept hS.2.1)
  have hN' : vx_Zq Bundle.tN "SUPPRESSED_SENTINEL" Bundle.listD A s' s'.heap := by rw [hhp]; exact vx_Zq.moved hW0.alike (hN.kept hS.2.1)
  have h : ∀ w ∈ nseAt RX8 216, w.before args s' = true := vx_own hat' (vx_isRefq hU'.1) (vx_isRefq hN'.1) hU'.2.word hN'.2.word
  have hown' : s'.vm.findClass RX8 = some m.cls := by rw [hvm]; exact hown
  have hins : (Cond.instantiable nseN 6).before args s' = true := h _ (by simp [nseAt])
  obtain ⟨vm₁, cX, kX, hfX, hkX, -, -, X₁, st1⟩ := Y.newCold hexec (own := RX8) (C := nseN) (index := 212) (n := 6) hown' hk' hins hini'
    (g := F0 m pc ls rest) rfl (by rw [hb]; exact d0) (Nat.le_refl _) (Nat.le_refl _)
  generalize hT1 : (T.setVm vm₁).pushCell { cls := cX, slots := kX.instanceTypes.map defaultValue, vm := .none } = T1 at X₁ st1
  have hcat : (Value.ref T.heap.size).category = 1 := rfl
  have hcellA : T1.heap[T.heap.size]? = some (freshCell cX kX) := by rw [← hT1]; exact State.heap_pushCell_size _ _
  have d3' : decode c.code (pc + 3) = .ok (.dup, 1) := by rw [hb]; exact d3
  have d4' : decode c.code (pc + 4) = .ok (.ldc is, 2) := by rw [hb]; exact d4
  have hstr' : vk_R RX8 is text sa s' := vk_R.warm hW0 hstr
  obtain ⟨U, hsteps, hrun, hend, hW, hsame, ce, hce, hcv, hcl0⟩ := nse_ctor X₁ hexec htr (own := RX8) (ic := 216) hown' h (fun x hx => nomatch hx) hfX hkX hcellA (by rw [hhp, hT]; exact Nat.le_refl _) (msg := .ref sa) rfl
    (g := { method := m, pc := pc + 6, locals := ls, stack := .ref sa :: .ref T.heap.size :: .ref T.heap.size :: rest, locked := none }) rfl hsize rfl rfl (rest := rest) rfl
    (by rw [hb]; exact d6) (by rw [hb]; exact d9) hout hRframes (by simp only [List.map_cons, List.sum_cons, hcat]; show 2 * 0 + _ + 81 ≤ _; omega) hlocks
  obtain ⟨f1, f2⟩ := vx_frame hsame
  rw [hhp] at f1 f2
  have hWs : s.WarmedH U.vm := State.WarmedH.trans hW0 hW
  have hcl : s.vm.findClass nseN = some ce.cls := by
    rw [hvm] at hcl0
    exact hcl0
  have hall : s.sameButNew ({ U with vm := s.vm } : State) locs mc ms := by
    subst hA
    obtain ⟨e1, e2⟩ := hsame
    rw [State.setFrames_setFrames] at e1
    have h2 : (T.setVm s.vm).sameButNew ({ U with vm := s.vm } : State) [] (0 + 1) (0 + 6) := ⟨e1, e2⟩
    have h3 := X.same.trans h2
    rw [List.append_nil] at h3
    exact h3.mono hc hs
  refine ⟨U, ?_, .threw T.heap.size, hrun, hend, Or.inr ⟨T.heap.size, rfl, nseN, ce, locs, hx U hWs f1 (fun q hq => f2 q hq (fun z hz => nomatch hz)), hce, hcv, hcl, hWs, hall, hf⟩⟩
  refine st1 _ ?_
  show Steps p.tables e below (T1.setTop { method := m, pc := pc + 3, locals := ls, stack := .ref T.heap.size :: rest, locked := none }) _
  jvm_step X₁.here [X₁.here.top, hexec, d3', Value.category]
  exact X₁.ldcString hexec (own := RX8) (text := text) (index := is) (a := sa) hown' hstr'.1 hstr'.2
    (g := { method := m, pc := pc + 4, locals := ls, stack := .ref T.heap.size :: .ref T.heap.size :: rest, locked := none }) rfl d4' _ hsteps
end NSW
/-- a method that answers an int or throws -/
def xX (Kx : Mem → Prop) (D : va_G) (cy : Nat → ClassId) (ad : Nat → Nat) (A : Nat → Prop) : String → State → State → Prop := vx_X Kx (fun E M' t => E = nseN ∧ rw_Pst D cy ad M' t) A
def CTx (l : Launch) (y : MethodName) (cc : ByteArray) (maxL : Nat) (ret : Option FieldType) (rm : Room) (av : (Nat → Nat) → List Value) (M : Mem) (K : Int32 → Mem → Prop) (Kx : Mem → Prop) : Prop := ∀ (D : va_G) (cy : Nat → ClassId) (ad : Nat → Nat) (sz : Nat), rw_J ad → vx_Met l y [.code y cc maxL ret] rm (va_Pc (av ad) (fun U => rw_Pre D cy ad M sz U ∧ xK (rw_A ad sz) U)) (va_Qi K (rw_Pst D cy ad) (rw_A ad sz)) (xX Kx D cy ad (rw_A ad sz)) 1 6 (rw_A ad sz)
abbrev rw_Qx (below : List Frame) (args : Array Value) (s : State) (D : va_G) (cy : Nat → ClassId) (ad : Nat → Nat) (K : Int32 → Mem → Prop) (Kx : Mem → Prop) : State → Prop := vx_MQ below (va_Qi K (rw_Pst D cy ad) (rw_A ad s.heap.size)) (xX Kx D cy ad (rw_A ad s.heap.size)) args s 1 6 (rw_A ad s.heap.size)
section RX
variable {p : Program} {l : Launch} {e : Env} {R : Room} {s : State} {m : MethodId} {args : Array Value} {below : List Frame} {meth : Method} {c : Code} {D : va_G} {cy : Nat → ClassId} {ad : Nat → Nat} {nL : Nat} {pc : Nat} {lv : List (Nat × Value)} {st : List Value} {M : Mem} {cc : ByteArray} {own : String} {ret : Option FieldType}
theorem r_iretX (C : rw_C p s m meth c cc nL own (some .int) D cy ad) {v : Int32} {K : Int32 → Mem → Prop} {Kx : Mem → Prop} (d : decode cc pc = .ok (.ireturn, 1)) (hK : K v M) : rw_W p l e R s m args below meth c D cy ad nL 0 0 (rw_Qx below args s D cy ad K Kx) pc lv ([.int v]) M := fun ls H locs hl hP hS => vx_ret (W.widen (k := 1) (n := 6) (Nat.zero_le _) (Nat.zero_le _) (W.iret C.1 C.2.1 C.2.2.2.2.1 (fun t ht hW => ⟨⟨v, M, rfl, hK, by rw [ht]; exact hP, C.2.2.2.2.2.2.1.warm hW⟩, hS.F ht⟩) hS.2.2 d C.2.2.2.2.2.1))
theorem r_nse (C : rw_C p s m meth c cc nL RX8 ret D cy ad) (hl : l.stackTraces = false) (hx : xK (rw_A ad s.heap.size) s) (ho : ∀ x ∈ c.exceptionTable.toList, False) {K : Int32 → Mem → Prop} {Kx : Mem → Prop} {is : Nat} {text : String} (hstr : ∃ sa, vk_R RX8 is text sa s) (d0 : decode cc pc = .ok (.new 212, 3)) (d3 : decode cc (pc + 3) = .ok (.dup, 1)) (d4 : decode cc (pc + 4) = .ok (.ldc is, 2)) (d6 : decode cc (pc + 6) = .ok (.invokespecial 216, 3)) (d9 : decode cc (pc + 9) = .ok (.athrow, 1)) (hR : 5 < R.frames ∧ 82 ≤ R.locals ∧ 1 ≤ R.cells ∧ 6 ≤ R.slots) (hK : Kx M) : rw_W p l e R s m args below meth c D cy ad nL 0 0 (rw_Qx below args s D cy ad K Kx) pc lv [] M := fun ls H locs hl' hP hS => by
  obtain ⟨sa, hsa⟩ := hstr
  have hKK := C.2.2.2.2.2.2.1
  refine nse_throw C.1 C.2.1 hl (is := is) (text := text) (sa := sa) (A := rw_A ad s.heap.size) C.2.2.2.1 (rw_K.word (w := Cond.classLink RX8 212 nseN) hKK 1314 (by decide +kernel) (by decide +kernel)) (rw_K.word (w := Cond.initialized nseN) hKK 208 (by decide +kernel) (by decide +kernel)) hsa (nse_words hKK hx) hx.2.1 hx.2.2.1 hS (hl'.1.trans C.2.2.1.symm) d0 d3 d4 d6 d9 (fun x hx => (ho x hx).elim) hR.1 (by simpa using hR.2.1) hR.2.2.1 hR.2.2.2 C.2.2.2.2.2.1 (fun t hW f1 f2 => ?_) (fun z hz => hS.2.2 z hz) (Nat.le_refl _) (Nat.le_refl _)
  refine ⟨M, hK, ⟨rfl, hP.kept (fun k x hk => f2 x.1 ((hP k x hk).lt)), hKK.warm hW⟩, ?_⟩
  exact ⟨Nat.le_trans hS.1 f1, fun q h1 h2 => (f2 q (Nat.lt_of_lt_of_le h1 hS.1)).trans (hS.2.1 q h1 h2)⟩
theorem rw_entx {y : MethodName} {maxL : Nat} {rm : Room} {av : (Nat → Nat) → List Value} {K : Int32 → Mem → Prop} {Kx : Mem → Prop} (hy : plainName y.cls = true) (hlen : ∀ ad, (lg_sl (av ad)).length ≤ maxL)
    (h : ∀ (p : Program) (e : Env) (s : State) (m : MethodId) (args : Array Value) (below : List Frame) (meth : Method) (c : Code) (D : va_G) (cy : Nat → ClassId) (ad : Nat → Nat), rw_C p s m meth c cc maxL y.cls ret D cy ad → xK (rw_A ad s.heap.size) s → (∀ x ∈ c.exceptionTable.toList, False) → rw_W p l e rm s m args below meth c D cy ad maxL 0 0 (rw_Qx below args s D cy ad K Kx) 0 (lv_args 0 (av ad)) [] M) : CTx l y cc maxL ret rm av M K Kx := by
  intro D cy ad sz hJ
  refine vx_ofW (cc := cc) (maxL := maxL) (ret := ret) hy rfl ?_
  intro p e s m args below meth c s₁ B hml ho hv
  obtain ⟨rfl, ⟨hsz, hP, hK⟩, hx⟩ := hv
  subst hsz
  rw [lg_entry_eq]
  exact h p e s m _ below meth c D cy ad ⟨B.exec, B.bytes, hml, findClass_of_methodNamed B.named, B.returns, B.notSynchronized, hK, hJ⟩ hx ho _ s.heap [] (lv_entry (av ad) (hlen ad)) hP va_S.rf
end RX
