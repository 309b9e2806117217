section LST
variable {p : Program} {l : Launch} {e : Env} {R : Room} {s : State} {m : MethodId} {args : Array Value} {below : List Frame} {meth : Method} {c : Code} {D : va_G} {cy : Nat → ClassId} {A : Nat → Prop} {nL k0 n0 : Nat} {Q : State → Prop} {pc : Nat} {lv : List (Nat × Value)} {st : List Value} {ws : va_W} {z : Nat} {cc : ByteArray} {own : String} {ret : Option FieldType}
theorem n_astore_n (C : n_C p s m meth c cc nL own ret D cy A) {kf : Fin 4} {i : Nat} {x : Nat} (lv' : List (Nat × Value)) (d : decode cc pc = .ok (.astore_n kf, 1)) (hi : (kf : Nat) = i) (hn : i < nL) (hl0 : (i, Value.ref x) :: lv.filter (fun q => !(q.1 == i) && !(q.1 + 1 == i && q.2.category == 2)) = lv') (kk : n_W p l e R s m args below meth c D A nL k0 n0 Q (pc + 1) lv' st ws z) : n_W p l e R s m args below meth c D A nL k0 n0 Q pc lv (.ref x :: st) ws z := fun ls H locs hl hP hD hS hz => lv_astore_n C.1 C.2.1 d hi hl hn hl0 (fun ls' hl' => kk ls' H locs hl' hP hD hS hz)
theorem n_istore (C : n_C p s m meth c cc nL own ret D cy A) {i : Nat} {x : Int32} (lv' : List (Nat × Value)) (d : decode cc pc = .ok (.istore i, 2)) (hn : i < nL) (hl0 : (i, Value.int x) :: lv.filter (fun q => !(q.1 == i) && !(q.1 + 1 == i && q.2.category == 2)) = lv') (kk : n_W p l e R s m args below meth c D A nL k0 n0 Q (pc + 2) lv' st ws z) : n_W p l e R s m args below meth c D A nL k0 n0 Q pc lv (.int x :: st) ws z := fun ls H locs hl hP hD hS hz => lv_istore C.1 C.2.1 d hl hn hl0 (fun ls' hl' => kk ls' H locs hl' hP hD hS hz)
end LST
theorem adF_nA {s0 q : Nat} (h : rw_A (adF s0) s0 q) : s0 ≤ q := by
  rcases h with ⟨k, _, e⟩ | h
  · rw [e]; exact adF_ge s0 k
  · exact h
set_option maxHeartbeats 4000000 in
theorem law_begin {p : Program} {l : Launch} {e : Env} {s : State} {m : MethodId} {below : List Frame} {meth : Method} {c : Code} {D : va_G} {cy : Nat → ClassId} {b L : Nat} {xs : Nat → Int32} (C : n_C p s m meth c cL_law 7 RL (some .boolean) D cy (fun q => s.heap.size ≤ q)) (hX : va_X b L xs s s.heap) (hb : b < s.heap.size) (hL : L ≤ 3072) (hlt : l.stackTraces = false) (hx : xK (rw_A (adF s.heap.size) s.heap.size) s) : n_W p l e room_1 s m #[Value.ref b] below meth c D (fun q => s.heap.size ≤ q) 7 0 0 (lw_Z below #[Value.ref b] s) 0 [(0, .ref b)] [] [] 0 := by
  obtain ⟨f, hfe⟩ : ∃ f : Nat → Nat → Option Nat, f = fun sz => if sz = s.heap.size + 14 then (fun i => some (adF s.heap.size (55 + 1 + 4 * i))) else fun j => some (sz + (1 + 4 * j)) := ⟨_, rfl⟩
  have hf : ∀ sz j, j < 12 → f sz j = some (sz + (1 + 4 * j)) := fun sz j hj => by
    rw [hfe]
    dsimp only
    by_cases h : sz = s.heap.size + 14
    · rw [if_pos h, adF_hi (by omega), h]
      exact congrArg some (by omega)
    · rw [if_neg h]
  have hfg : f (s.heap.size + 14) = fun i => some (adF s.heap.size (55 + 1 + 4 * i)) := by rw [hfe]; exact if_pos rfl
  refine n_new (ci := 8) (fs0 := [.null, .null, .null, .null, .null, .null, .null, .null, .null, .null, .null, .null, .int 0]) (z := 0) C rfl inX8 tyX8 tyX8_ok (by decide +kernel) (rw_K.word (w := Cond.classLink RL 8 RX8) C.2.2.2.2.2.2.1 209 (by decide +kernel) (by decide +kernel)) (rw_K.word (w := Cond.instantiable RX8 13) C.2.2.2.2.2.2.1 210 (by decide +kernel) (by decide +kernel)) (rw_K.word (w := Cond.initialized RX8) C.2.2.2.2.2.2.1 191 (by decide +kernel) (by decide +kernel)) ⟨Nat.le_of_ble_eq_true rfl, Nat.le_of_ble_eq_true rfl⟩ dL_law_0 ?_
  refine n_dup C dL_law_3 rfl ?_
  refine n_init (ws := []) (h := s.heap.size + 0) (z := 1) (As := []) C (c_X8_init l hf) rfl (rw_K.word (w := Cond.code yX8_init cX8_init 1 none) C.2.2.2.2.2.2.1 213 (by decide +kernel) (by decide +kernel)) (rw_K.word (w := Cond.initialized RX8) C.2.2.2.2.2.2.1 191 (by decide +kernel) (by decide +kernel)) (Or.inl (rw_K.word (w := Cond.methodLink RL 18 yX8_init) C.2.2.2.2.2.2.1 211 (by decide +kernel) (by decide +kernel))) (rw_K.word (w := Cond.instanceMethod yX8_init) C.2.2.2.2.2.2.1 212 (by decide +kernel) (by decide +kernel)) ⟨⟨by decide +kernel, by decide +kernel⟩, by decide +kernel⟩ ⟨rfl, rfl, Nat.le_of_ble_eq_true rfl, Nat.le_of_ble_eq_true rfl⟩ rfl (Nat.le_of_ble_eq_true rfl) ⟨Nat.le_of_ble_eq_true rfl, Nat.le_of_ble_eq_true rfl⟩ dL_law_4 ?_
  refine n_cast (k1 := 125) (n1 := 35911) (z1 := 125) (ws1 := wX8 f cy s.heap.size (s.heap.size + 1)) rfl rfl rfl rfl ?_
  refine n_astore_n C [(1, .ref (s.heap.size + 0)), (0, .ref b)] dL_law_7 rfl (by decide) rfl ?_
  refine n_new (ci := 9) (fs0 := [.int 0, .null, .null, .null, .null, .null, .null, .null, .null, .null, .int 0, .int 0, .int 0, .int 0, .int 0, .int 0, .int 0, .int 0, .int 0, .int 0, .int 0, .int 0, .int 0, .int 0, .int 0, .null, .int 0, .null, .null, .null, .null, .null, .null, .null, .null, .null, .null, .null, .null, .null, .int 0, .int 0, .null, .null, .null, .null, .null, .null, .null, .null, .null, .null, .null, .null, .null, .null, .null, .null, .int 0]) (z := 125) C rfl inX9 tyX9 tyX9_ok (by decide +kernel) (rw_K.word (w := Cond.classLink RL 19 RX9) C.2.2.2.2.2.2.1 1388 (by decide +kernel) (by decide +kernel)) (rw_K.word (w := Cond.instantiable RX9 59) C.2.2.2.2.2.2.1 1389 (by decide +kernel) (by decide +kernel)) (rw_K.word (w := Cond.initialized RX9) C.2.2.2.2.2.2.1 200 (by decide +kernel) (by decide +kernel)) ⟨Nat.le_of_ble_eq_true rfl, Nat.le_of_ble_eq_true rfl⟩ dL_law_8 ?_
  refine n_dup C dL_law_11 rfl ?_
  refine n_init (h := s.heap.size + 125) (z := 126) (As := []) C (c_X9_init l) rfl (rw_K.word (w := Cond.code yX9_init cX9_init 1 none) C.2.2.2.2.2.2.1 1392 (by decide +kernel) (by decide +kernel)) (rw_K.word (w := Cond.initialized RX9) C.2.2.2.2.2.2.1 200 (by decide +kernel) (by decide +kernel)) (Or.inl (rw_K.word (w := Cond.methodLink RL 21 yX9_init) C.2.2.2.2.2.2.1 1390 (by decide +kernel) (by decide +kernel))) (rw_K.word (w := Cond.instanceMethod yX9_init) C.2.2.2.2.2.2.1 1391 (by decide +kernel) (by decide +kernel)) ⟨⟨by decide +kernel, by decide +kernel⟩, by decide +kernel⟩ ⟨rfl, rfl, Nat.le_of_ble_eq_true rfl, Nat.le_of_ble_eq_true rfl⟩ rfl (Nat.le_of_ble_eq_true rfl) ⟨Nat.le_of_ble_eq_true rfl, Nat.le_of_ble_eq_true rfl⟩ dL_law_12 ?_
  refine n_cast (k1 := 165) (n1 := 61650) (z1 := 165) (ws1 := wX8 f cy s.heap.size (s.heap.size + 1) ++ wX9 cy (s.heap.size + 125) (s.heap.size + 126)) rfl rfl rfl rfl ?_
  refine n_astore_n C [(2, .ref (s.heap.size + 125)), (1, .ref (s.heap.size + 0)), (0, .ref b)] dL_law_15 rfl (by decide) rfl ?_
  refine n_iconst (v := (1 : Int32)) C dL_law_16 (by decide +kernel) ?_
  refine n_newa (atp := .long) (N := 1) (t := 1) C (aK.useL C.2.2.2.2.2.2.2.1) rfl (1, .inr (.inl (fun _ => 0))) (fun _ => rfl) (by decide +kernel) (by decide +kernel) (by decide +kernel) ⟨Nat.le_of_ble_eq_true rfl, Nat.le_of_ble_eq_true rfl⟩ dL_law_17 ?_
  refine n_astore_n C [(3, .ref (s.heap.size + 165)), (2, .ref (s.heap.size + 125)), (1, .ref (s.heap.size + 0)), (0, .ref b)] dL_law_19 rfl (by decide) rfl ?_
  refine n_iconst (v := nI (6 * 0)) C dL_law_20 (by decide +kernel) ?_
  refine n_istore C [(4, .int (nI (6 * 0))), (3, .ref (s.heap.size + 165)), (2, .ref (s.heap.size + 125)), (1, .ref (s.heap.size + 0)), (0, .ref b)] dL_law_21 (by decide) rfl ?_
  intro ls H locs hl hP hD hS hz
  have CL : rw_C p s m meth c cL_law 7 RL (some .boolean) D cy (adF s.heap.size) := ⟨C.1, C.2.1, C.2.2.1, C.2.2.2.1, C.2.2.2.2.1, C.2.2.2.2.2.1, C.2.2.2.2.2.2.1, adF_J _⟩
  have XL : lawC p s m meth c D cy (adF s.heap.size) b L xs := ⟨CL, hX, hb, fun k _ => adF_ge _ k, hL⟩
  have hl' : lv_has ls 7 [(4, .int (nI (6 * 0))), (3, .ref (adF s.heap.size 40)), (2, .ref (adF s.heap.size 0)), (1, .ref (adF s.heap.size 41)), (0, .ref b)] := hl
  exact law_loop (k0 := 166) (n0 := 61651) XL hlt hx (by decide) (by decide) 513 0 M0 (by omega) (by omega) Inv_0 ls H locs hl' (start_P hfg hP) ⟨hS.1, fun q h1 h2 => hS.2.1 q h1 (fun h => h2 (Or.inr h)), fun q hq => Or.inr (hS.2.2 q hq)⟩
