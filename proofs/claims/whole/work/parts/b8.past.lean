/-! the past made: twelve nets -/
section NW2
variable {p : Program} {l : Launch} {e : Env} {R : Room} {s : State} {m : MethodId} {args : Array Value} {below : List Frame} {meth : Method} {c : Code} {D : va_G} {cy : Nat → ClassId} {A : Nat → Prop} {nL k0 n0 : Nat} {Q : State → Prop} {pc : Nat} {lv : List (Nat × Value)} {st : List Value} {ws : va_W} {z : Nat} {cc : ByteArray} {own : String} {ret : Option FieldType}
theorem n_cast {k1 n1 z1 : Nat} {ws1 : va_W} (ek : k0 = k1) (en : n0 = n1) (ez : z = z1) (ew : ws = ws1) (kk : n_W p l e R s m args below meth c D A nL k1 n1 Q pc lv st ws1 z1) : n_W p l e R s m args below meth c D A nL k0 n0 Q pc lv st ws z := by
  subst ek; subst en; subst ez; subst ew; exact kk
theorem n_anew (C : n_C p s m meth c cc nL own ret D cy A) {index : Nat} (hcl : (Cond.classLink own index "TokenSums$Net").before args s = true) {v : Int32} {N : Nat} (hn : ¬ v < 0) (hN : v.toNatClampNeg = N) (hbytes : N * 4 ≤ 536870912) (hkn : k0 + 1 ≤ R.cells ∧ n0 + N ≤ R.slots) (d : decode cc pc = .ok (.anewarray index, 3))
    (kk : n_W p l e R s m args below meth c D A nL (k0 + 1) (n0 + N) Q (pc + 3) lv (.ref (s.heap.size + z) :: st) (ws ++ [(s.heap.size + z, .inl (cy 4, N, .inr (.inr (.inr (.inr (fun _ => none))))))]) (z + 1)) : n_W p l e R s m args below meth c D A nL k0 n0 Q pc lv (.int v :: st) ws z := by
  intro ls H locs hl hP hD hS hz
  subst hN
  refine W.anew C.1 C.2.1 C.2.2.2.1 hcl (va_AO.use C.2.2.2.2.2.2.2.1.2) rfl d rfl hn hbytes hkn.1 hkn.2 fun cA kA comp f1 f2 f3 f4 => ?_
  have h1 : va_RA s (cy 4) (.object "TokenSums$Net") := (C.2.2.2.2.2.2.1.1.2 4 _ rfl).2
  obtain ⟨kA', comp', -, -, -, h2⟩ := h1
  have hcA : cA = cy 4 := Option.some.inj (f1.symm.trans h2)
  subst hcA
  have hk : ∀ (H1 : Heap), H1 = H.push ({ cls := cy 4, slots := Array.replicate v.toNatClampNeg .null } : Cell) → W p l e R s m args below meth c H1 locs (k0 + 1) (n0 + v.toNatClampNeg) Q (F0 m (pc + 3) ls (.ref H.size :: st)) := fun H1 hH1 => by
    have z1 : H1.size = H.size + 1 := by rw [hH1, Array.size_push]
    have e1 : H1[H.size]? = some (arrV (cy 4) v.toNatClampNeg (fun _ => .null)) := by rw [hH1, Array.getElem?_push_size, ← arrV_new]
    have o1 : ∀ q : Nat, q < H.size → H1[q]? = H[q]? := fun q hq => by rw [hH1, Array.getElem?_push, if_neg (Nat.ne_of_lt hq)]
    have hk : ∀ (k : Nat) (x : Nat × va_E), ws[k]? = some x → H1[x.1]? = H[x.1]? := fun k x hx => o1 x.1 ((hP k x hx).lt)
    rw [hz] at e1 ⊢
    refine kk ls H1 locs hl ((hP.kept hk).app (fun k x hx => ?_)) (hD.push hP hz.symm (C.2.2.2.2.2.2.2.2 _ (Nat.le_add_right _ _))) ⟨by omega, fun x h1 h2 => (o1 x (by omega)).trans (hS.2.1 x h1 h2), hS.2.2⟩ (by omega)
    have hz : k < 1 := (List.getElem?_eq_some_iff.mp hx).1
    rw [show k = 0 by omega] at hx
    cases hx
    show H1[s.heap.size + z]? = some (vp_cell _ _)
    rw [vp_cell_q]
    exact e1
  exact hk _ rfl
theorem n_get (C : n_C p s m meth c cc nL own ret D cy A) {T : u_T} {N ci index a : Nat} {fs : List Value} (hc : vwCl[ci]? = some (own, T, N)) (hin : ∀ w ∈ u_ws own T N, w ∈ lw_tbl ∧ gw w = true) (k : Nat) (hk : k < N) (hlink : (Cond.fieldLink own index own (T k).2.1 (T k).2.2.1).before args s = true) (href : own = (T k).1) {v : Value} (hv : fs[k]? = some v) (d : decode cc pc = .ok (.getfield index, 3))
    (kk : n_W p l e R s m args below meth c D A nL k0 n0 Q (pc + 3) lv (v :: st) ((a, .inr (ci, fs)) :: ws) z) : n_W p l e R s m args below meth c D A nL k0 n0 Q pc lv (.ref a :: st) ((a, .inr (ci, fs)) :: ws) z := fun ls H locs hl hP hD hS hz => va_get (D := D) (cl := vwCl) (tys := rw_tys cy) (ws := (a, .inr (ci, fs)) :: ws) C.1 C.2.1 (Ts := u_ws own T N) (C.2.2.2.2.2.2.1.lays hin) (fun _ q => q) C.2.2.2.1 C.2.2.2.2.2.2.1.1 hP 0 rfl hc k hk hlink (fun x q => by rw [href]; exact q) hv d (kk ls H locs hl hP hD hS hz)
theorem n_conv {o : Nat × va_E} {a n : Nat} {cA : ClassId} {f f' : Nat → Option Nat} (hf : ∀ j, j < n → f' j = f j) (kk : n_W p l e R s m args below meth c D A nL k0 n0 Q pc lv st (o :: (a, .inl (cA, n, .inr (.inr (.inr (.inr f'))))) :: ws) z) : n_W p l e R s m args below meth c D A nL k0 n0 Q pc lv st (o :: (a, .inl (cA, n, .inr (.inr (.inr (.inr f))))) :: ws) z := by
  intro ls H locs hl hP hD hS hz
  have e0 : (o :: (a, .inl (cA, n, .inr (.inr (.inr (.inr f))))) :: ws : va_W)[1]? = some (a, .inl (cA, n, .inr (.inr (.inr (.inr f))))) := rfl
  have hat : va_at D vwCl (a, .inl (cA, n, .inr (.inr (.inr (.inr f'))))) H := by
    have h1 : H[a]? = some (vp_cell cA (n, .inr (.inr (.inr (.inr f))))) := hP 1 _ e0
    show H[a]? = some (vp_cell cA (n, .inr (.inr (.inr (.inr f')))))
    rw [h1, vp_cell_q, vp_cell_q]
    exact congrArg some (arrV_cg (fun j hj => by rw [hf j hj]))
  exact kk ls H locs hl (hP.set hD e0 hat (fun _ _ => rfl)) (hD.set e0) hS hz
theorem n_aast (C : n_C p s m meth c cc nL own ret D cy A) {o : Nat × va_E} {a n v : Nat} {f f' : Nat → Option Nat} {vs : List Value} (hv : (v, .inr (1, vs)) ∈ ws) {i : Int32} (hin : vp_in i n) (hf : ∀ j, j < n → f' j = va_up f i.toNatClampNeg (some v) j) (d : decode cc pc = .ok (.aastore, 1))
    (kk : n_W p l e R s m args below meth c D A nL k0 n0 Q (pc + 1) lv st (o :: (a, .inl (cy 4, n, .inr (.inr (.inr (.inr f'))))) :: ws) z) : n_W p l e R s m args below meth c D A nL k0 n0 Q pc lv (.ref v :: .int i :: .ref a :: st) (o :: (a, .inl (cy 4, n, .inr (.inr (.inr (.inr f))))) :: ws) z := by
  intro ls H locs hl hP hD hS hz
  have hK := C.2.2.2.2.2.2.1.1
  have e0 : (o :: (a, .inl (cy 4, n, .inr (.inr (.inr (.inr f))))) :: ws : va_W)[1]? = some (a, .inl (cy 4, n, .inr (.inr (.inr (.inr f))))) := rfl
  obtain ⟨k, hk⟩ := List.getElem?_of_mem hv
  obtain ⟨r', hr', cellV, g1, g2, g3, -⟩ := hP (k + 2) (v, .inr (1, vs)) hk
  have hlt : i.toNatClampNeg < n := Nat.not_le.mp fun q => hin (Or.inr q)
  have h0 : ¬ i < 0 := fun q => hin (Or.inl q)
  have hcls := (hK.1 1 (RX1, TX1, 9) rfl).2
  obtain ⟨kA, comp, k1, k2, k3, -⟩ := (hK.2 4 (cy 4, .object "TokenSums$Net") rfl).2
  have hcomp : comp = D.1 1 := Option.some.inj (k3.symm.trans hcls.1)
  subst hcomp
  obtain ⟨kC, hkC, -⟩ := hcls.2
  have hA : H[a]? = some (vp_cell (cy 4) (n, .inr (.inr (.inr (.inr f))))) := hP 1 _ e0
  refine W.aast C.1 C.2.1 hA (fun q h => by cases h) (fun h => by cases h) k1 k2 rfl hkC ⟨h0, by rw [vp_cell_q, arrV_size]; exact hlt⟩ g1 (fun q h => by rw [g3] at h; cases h) (by rw [g2]; exact hkC) (by rw [g2]; exact va_assign hcls) rfl rfl d fun H1 e1 z1 oq => ?_
  have hat : va_at D vwCl (a, .inl (cy 4, n, .inr (.inr (.inr (.inr f'))))) H1 := by
    show H1[a]? = some (vp_cell (cy 4) (n, .inr (.inr (.inr (.inr f')))))
    rw [e1, vp_cell_q, vp_cell_q, arrV_store]
    refine congrArg some (arrV_cg (fun j hj => ?_))
    rw [hf j hj]
    by_cases hq : j = i.toNatClampNeg
    · subst hq
      simp [updV, va_up, va_rf]
    · simp [updV, va_up, hq]
  exact kk ls H1 _ hl (hP.set hD e0 hat oq) (hD.set e0) (hS.put z1 oq (hD.2 1 _ e0)) (z1.trans hz)
end NW2
def nets (cy : Nat → ClassId) (sz : Nat) : Nat → va_W
  | 0 => []
  | i + 1 => nets cy sz i ++ wX1 cy (sz + (1 + 4 * i)) (sz + (1 + 4 * i + 1))
def pastF (sz i : Nat) : Nat → Option Nat := fun j => if j < i then some (sz + (1 + 4 * j)) else none
def wX2 (f : Nat → Nat → Option Nat) (cy : Nat → ClassId) (h0 sz : Nat) : va_W := (h0, .inr (2, [.ref sz, .int 0, .int 0])) :: (sz, .inl (cy 4, 12, .inr (.inr (.inr (.inr (f sz)))))) :: nets cy sz 12
abbrev rm_X2_init : Room := { frames := 2, cells := 49, slots := 2160, locals := 64 }
set_option maxHeartbeats 4000000 in
theorem past_loop {p : Program} {l : Launch} {e : Env} {s : State} {m : MethodId} {args : Array Value} {below : List Frame} {meth : Method} {c : Code} {D : va_G} {cy : Nat → ClassId} {h0 : Nat} {Q : State → Prop} (C : n_C p s m meth c cX2_init 2 RX2 none D cy (n_A h0 s.heap.size))
    (hend : n_W p l e rm_X2_init s m args below meth c D (n_A h0 s.heap.size) 2 49 2160 Q 50 [(1, .int (nI 12)), (0, .ref h0)] [] ((h0, .inr (2, [.ref s.heap.size, .int 0, .int 0])) :: (s.heap.size, .inl (cy 4, 12, .inr (.inr (.inr (.inr (pastF s.heap.size 12)))))) :: nets cy s.heap.size 12) 49) :
    ∀ (d i : Nat), i + d = 12 → n_W p l e rm_X2_init s m args below meth c D (n_A h0 s.heap.size) 2 (1 + 4 * i) (12 + 179 * i) Q 25 [(1, .int (nI i)), (0, .ref h0)] [] ((h0, .inr (2, [.ref s.heap.size, .int 0, .int 0])) :: (s.heap.size, .inl (cy 4, 12, .inr (.inr (.inr (.inr (pastF s.heap.size i)))))) :: nets cy s.heap.size i) (1 + 4 * i) := by
  intro d
  induction d with
  | zero =>
    intro i hi
    have hi : i = 12 := by omega
    subst hi
    exact n_iload_n C 0 dX2_init_25 rfl rfl (n_bipush (v := (12 : Int32)) C dX2_init_26 (by decide +kernel) (n_icmp_ge C 50 dX2_init_28 (by decide) (fun _ => hend) (fun q => absurd (by decide) q)))
  | succ d ih =>
    intro i hi
    refine n_iload_n C 0 dX2_init_25 rfl rfl (n_bipush (v := nI 12) C dX2_init_26 (by decide +kernel) (n_icmp_ge C 50 dX2_init_28 (by decide) (fun q => absurd ((nI_leI (by omega) (by omega)).mp q) (by omega)) (fun _ => ?_)))
    refine n_aload_n C 1 dX2_init_31 rfl rfl ?_
    refine n_get (ci := 2) (a := h0) C rfl inX2 0 (by decide) (rw_K.word (w := Cond.fieldLink RX2 11 RX2 "nets" "[LTokenSums$Net;") C.2.2.2.2.2.2.1 329 (by decide +kernel) (by decide +kernel)) rfl (v := .ref s.heap.size) rfl dX2_init_32 ?_
    refine n_iload_n C 0 dX2_init_35 rfl rfl ?_
    refine n_new (ci := 1) (fs0 := [.null, .null, .null, .int 0, .int 0, .int 0, .int 0, .int 0, .int 0]) C rfl inX1 tyX1 tyX1_ok (by decide +kernel) (rw_K.word (w := Cond.classLink RX2 9 RX1) C.2.2.2.2.2.2.1 326 (by decide +kernel) (by decide +kernel)) (rw_K.word (w := Cond.instantiable RX1 9) C.2.2.2.2.2.2.1 262 (by decide +kernel) (by decide +kernel)) (rw_K.word (w := Cond.initialized RX1) C.2.2.2.2.2.2.1 193 (by decide +kernel) (by decide +kernel)) ⟨by show _ ≤ 49; omega, by show _ ≤ 2160; omega⟩ dX2_init_36 ?_
    refine n_dup C dX2_init_39 rfl ?_
    refine n_init (h := s.heap.size + (1 + 4 * i)) (As := []) C (c_X1_init l) rfl (rw_K.word (w := Cond.code yX1_init cX1_init 1 none) C.2.2.2.2.2.2.1 265 (by decide +kernel) (by decide +kernel)) (rw_K.word (w := Cond.initialized RX1) C.2.2.2.2.2.2.1 193 (by decide +kernel) (by decide +kernel)) (Or.inr ⟨"TokenSums", (rw_K.word (w := Cond.methodLinkNest RX2 24 yX1_init "TokenSums") C.2.2.2.2.2.2.1 328 (by decide +kernel) (by decide +kernel))⟩) (rw_K.word (w := Cond.instanceMethod yX1_init) C.2.2.2.2.2.2.1 264 (by decide +kernel) (by decide +kernel)) ⟨⟨by decide +kernel, by decide +kernel⟩, by decide +kernel⟩ ⟨rfl, rfl, Nat.le_of_ble_eq_true rfl, Nat.le_of_ble_eq_true rfl⟩ rfl (Nat.le_of_ble_eq_true rfl) ⟨by show _ ≤ 49; omega, by show _ ≤ 2160; omega⟩ dX2_init_40 ?_
    refine n_cast (k1 := 1 + 4 * (i + 1)) (n1 := 12 + 179 * (i + 1)) (z1 := 1 + 4 * (i + 1)) (ws1 := (h0, .inr (2, [.ref s.heap.size, .int 0, .int 0])) :: (s.heap.size, .inl (cy 4, 12, .inr (.inr (.inr (.inr (pastF s.heap.size i)))))) :: nets cy s.heap.size (i + 1)) (by omega) (by omega) (by omega) rfl ?_
    refine n_aast (vs := [.ref (s.heap.size + (1 + 4 * i + 1) + 0), .ref (s.heap.size + (1 + 4 * i + 1) + 1), .ref (s.heap.size + (1 + 4 * i + 1) + 2), .int 0, .int 0, .int 0, .int 0, .int 0, .int 0]) (f' := pastF s.heap.size (i + 1)) C (List.mem_append_right _ List.mem_cons_self) ((vp_nI (by omega) (by omega)).mpr (by omega)) (fun j hj => ?_) dX2_init_43 ?_
    · rw [nI_CL (by omega)]
      unfold pastF va_up
      by_cases e1 : j = i
      · subst e1; simp
      · rw [if_neg e1]; dsimp only
        by_cases e2 : j < i
        · rw [if_pos e2, if_pos (by omega)]
        · rw [if_neg e2, if_neg (by omega)]
    refine n_iinc C 0 [(1, .int (nI (i + 1))), (0, .ref h0)] dX2_init_44 rfl (show nI i + nI 1 = _ from nI_add _ _) (by decide) rfl ?_
    exact n_goto C 25 dX2_init_47 (by decide) (ih (i + 1) (by omega))
set_option maxHeartbeats 4000000 in
theorem c_X2_init (l : Launch) {f : Nat → Nat → Option Nat} (hf : ∀ sz j, j < 12 → f sz j = some (sz + (1 + 4 * j))) : CTn l yX2_init cX2_init 2 rm_X2_init [] 2 [.null, .int 0, .int 0] (wX2 f) 49 2160 := by
  refine n_ent (by decide +kernel) rfl (fun h0 => Nat.le_of_ble_eq_true rfl) (fun p e s m args below meth c D cy h0 C hnm => ?_)
  have C : n_C p s m meth c cX2_init 2 RX2 none D cy (n_A h0 s.heap.size) := C
  change n_W p l e rm_X2_init s m args below meth c D (n_A h0 s.heap.size) 2 0 0 _ 0 [(0, .ref h0)] [] [(h0, .inr (2, [.null, .int 0, .int 0]))] 0
  refine n_aload_n C 0 dX2_init_0 rfl rfl ?_
  refine n_obj (R := rm_X2_init) C (rw_K.word (w := Cond.methodLink RX2 3 Lib.objectInit) C.2.2.2.2.2.2.1 325 (by decide +kernel) (by decide +kernel)) (rw_K.word (w := Cond.instanceMethod Lib.objectInit) C.2.2.2.2.2.2.1 215 (by decide +kernel) (by decide +kernel)) (rw_K.word (w := Cond.code Lib.objectInit { data := #[177] } 1 none) C.2.2.2.2.2.2.1 216 (by decide +kernel) (by decide +kernel)) dX2_init_1 ⟨Nat.le_of_ble_eq_true rfl, Nat.le_of_ble_eq_true rfl⟩ ?_
  refine n_aload_n C 0 dX2_init_4 rfl rfl ?_
  refine n_bipush (v := (12 : Int32)) C dX2_init_5 (by decide +kernel) ?_
  refine n_anew (N := 12) C (rw_K.word (w := Cond.classLink RX2 9 RX1) C.2.2.2.2.2.2.1 326 (by decide +kernel) (by decide +kernel)) (by decide +kernel) (by decide +kernel) (by decide +kernel) ⟨Nat.le_of_ble_eq_true rfl, Nat.le_of_ble_eq_true rfl⟩ dX2_init_7 ?_
  refine n_put (ci := 2) (a := h0) (v := .ref s.heap.size) (ty := (.array (.object "TokenSums$Net"))) (fs' := [.ref s.heap.size, .int 0, .int 0]) (ws := [(s.heap.size, .inl (cy 4, 12, .inr (.inr (.inr (.inr (fun _ => none))))))]) C hnm rfl inX2 0 (by decide) (rw_K.word (w := Cond.fieldLink RX2 11 RX2 "nets" "[LTokenSums$Net;") C.2.2.2.2.2.2.1 329 (by decide +kernel) (by decide +kernel)) rfl tyX2 tyX2_ok nmX2 (by decide +kernel) rfl rfl (Nat.le_of_ble_eq_true rfl) rfl dX2_init_10 ?_
  refine n_aload_n C 0 dX2_init_13 rfl rfl ?_
  refine n_iconst (v := (0 : Int32)) C dX2_init_14 (by decide +kernel) ?_
  refine n_put (ci := 2) (a := h0) (v := .int 0) (ty := .int) (fs' := [.ref s.heap.size, .int 0, .int 0]) C hnm rfl inX2 1 (by decide) (rw_K.word (w := Cond.fieldLink RX2 17 RX2 "first" "I") C.2.2.2.2.2.2.1 330 (by decide +kernel) (by decide +kernel)) rfl tyX2 tyX2_ok nmX2 (by decide +kernel) rfl rfl (Nat.le_of_ble_eq_true rfl) rfl dX2_init_15 ?_
  refine n_aload_n C 0 dX2_init_18 rfl rfl ?_
  refine n_iconst (v := (0 : Int32)) C dX2_init_19 (by decide +kernel) ?_
  refine n_put (ci := 2) (a := h0) (v := .int 0) (ty := .int) (fs' := [.ref s.heap.size, .int 0, .int 0]) C hnm rfl inX2 2 (by decide) (rw_K.word (w := Cond.fieldLink RX2 21 RX2 "kept" "I") C.2.2.2.2.2.2.1 331 (by decide +kernel) (by decide +kernel)) rfl tyX2 tyX2_ok nmX2 (by decide +kernel) rfl rfl (Nat.le_of_ble_eq_true rfl) rfl dX2_init_20 ?_
  refine n_iconst (v := nI 0) C dX2_init_23 (by decide +kernel) ?_
  refine n_istore_n C [(1, .int (nI 0)), (0, .ref h0)] dX2_init_24 rfl (by decide) rfl ?_
  refine n_conv (f' := pastF s.heap.size 0) (fun j _ => by simp [pastF]) ?_
  refine past_loop C ?_ 12 0 rfl
  refine n_conv (f' := f s.heap.size) (fun j hj => by rw [hf _ _ hj]; unfold pastF; rw [if_pos hj]) ?_
  exact n_vret (W0 := wX2 f cy h0 s.heap.size) C rfl rfl dX2_init_50
