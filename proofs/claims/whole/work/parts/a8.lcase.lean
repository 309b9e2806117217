/-! the law: its cases -/
/-- what holds all through the law -/
def lawC (p : Program) (s : State) (m : MethodId) (meth : Method) (c : Code) (D : va_G) (cy : Nat → ClassId) (ad : Nat → Nat) (b L : Nat) (xs : Nat → Int32) : Prop := rw_C p s m meth c cL_law 7 RL (some .boolean) D cy ad ∧ va_X b L xs s s.heap ∧ b < s.heap.size ∧ (∀ k, k < NC → s.heap.size ≤ ad k) ∧ L ≤ 3072
section LAW
variable {p : Program} {l : Launch} {e : Env} {s : State} {m : MethodId} {below : List Frame} {meth : Method} {c : Code} {D : va_G} {cy : Nat → ClassId} {ad : Nat → Nat} {b L k0 n0 : Nat} {xs : Nat → Int32} {Q : State → Prop} {pc : Nat} {lv : List (Nat × Value)} {st : List Value} {M : Mem} {R : Room}
theorem law_nA (X : lawC p s m meth c D cy ad b L xs) : ¬ rw_A ad s.heap.size b := by
  rintro (⟨k, hk, e⟩ | h)
  · have := X.2.2.2.1 k hk
    have := X.2.2.1
    omega
  · have := X.2.2.1
    omega
theorem r_sld (X : lawC p s m meth c D cy ad b L xs) {i : Int32} (hin : vp_in i L) (d : decode cL_law pc = .ok (.iaload, 1)) (kk : rw_W p l e R s m #[Value.ref b] below meth c D cy ad 7 k0 n0 Q (pc + 1) lv (.int (xs i.toNatClampNeg) :: st) M) : rw_W p l e R s m #[Value.ref b] below meth c D cy ad 7 k0 n0 Q pc lv (.int i :: .ref b :: st) M := fun ls H locs hl hP hS => va_sld X.1.1 X.1.2.1 X.2.1 X.2.2.1 (law_nA X) hS hin d (kk ls H locs hl hP hS)
theorem r_slen (X : lawC p s m meth c D cy ad b L xs) (d : decode cL_law pc = .ok (.arraylength, 1)) (kk : rw_W p l e R s m #[Value.ref b] below meth c D cy ad 7 k0 n0 Q (pc + 1) lv (.int (nI L) :: st) M) : rw_W p l e R s m #[Value.ref b] below meth c D cy ad 7 k0 n0 Q pc lv (.ref b :: st) M := fun ls H locs hl hP hS => va_slen X.1.1 X.1.2.1 X.2.1 X.2.2.1 (law_nA X) hS d (kk ls H locs hl hP hS)
theorem vp_ik {i k L : Nat} (hL : L ≤ 3072) (h : i + k < L) : vp_in (nI i + nI k) L := by
  rw [nI_add]; exact (vp_nI (by omega) (by omega)).mpr h
theorem lg_self (x : Int64) : lg_cmp x x = 0 := by unfold lg_cmp; simp
theorem Inv_up {c c' : Nat} {M : Mem} (h : Inv c M) (hc : c ≤ c') : Inv c' M := by
  obtain ⟨z, a, b⟩ := h
  exact ⟨z, IvC_up a hc, b⟩

set_option maxHeartbeats 1000000 in
theorem law_0 (X : lawC p s m meth c D cy ad b L xs) {i cn : Nat} (hi : i + 6 ≤ L) (hc : cn < 100000) (hkn : k0 ≤ room_1.cells ∧ n0 ≤ room_1.slots) (H : Inv cn M) (k : ∀ M', Inv (cn + 1) M' → rw_W p l e room_1 s m #[Value.ref b] below meth c D cy ad 7 k0 n0 (lw_Z below #[Value.ref b] s) (1354) [(4, .int (nI i)), (3, .ref (ad 40)), (2, .ref (ad 0)), (1, .ref (ad 41)), (0, .ref b)] [] M') : rw_W p l e room_1 s m #[Value.ref b] below meth c D cy ad 7 k0 n0 (lw_Z below #[Value.ref b] s) (208) [(4, .int (nI i)), (3, .ref (ad 40)), (2, .ref (ad 0)), (1, .ref (ad 41)), (0, .ref b)] [] M := by
  refine r_aload_n X.1 3 dL_law_208 rfl rfl ?_
  refine r_aload_n X.1 4 dL_law_209 rfl rfl ?_
  refine r_iload X.1 0 dL_law_210 rfl ?_
  refine r_iconst (v := (1 : Int32)) X.1 dL_law_212 rfl ?_
  refine r_iadd X.1 dL_law_213 ?_
  refine r_sld X (vp_ik (k := 1) X.2.2.2.2 (by omega)) dL_law_214 ?_
  refine r_aload_n X.1 4 dL_law_215 rfl rfl ?_
  refine r_iload X.1 0 dL_law_216 rfl ?_
  refine r_iconst (v := (2 : Int32)) X.1 dL_law_218 rfl ?_
  refine r_iadd X.1 dL_law_219 ?_
  refine r_sld X (vp_ik (k := 2) X.2.2.2.2 (by omega)) dL_law_220 ?_
  refine r_aload_n X.1 4 dL_law_221 rfl rfl ?_
  refine r_iload X.1 0 dL_law_222 rfl ?_
  refine r_iconst (v := (3 : Int32)) X.1 dL_law_224 rfl ?_
  refine r_iadd X.1 dL_law_225 ?_
  refine r_sld X (vp_ik (k := 3) X.2.2.2.2 (by omega)) dL_law_226 ?_
  refine r_aload_n X.1 4 dL_law_227 rfl rfl ?_
  refine r_iload X.1 0 dL_law_228 rfl ?_
  refine r_iconst (v := (4 : Int32)) X.1 dL_law_230 rfl ?_
  refine r_iadd X.1 dL_law_231 ?_
  refine r_sld X (vp_ik (k := 4) X.2.2.2.2 (by omega)) dL_law_232 ?_
  refine r_aload_n X.1 4 dL_law_233 rfl rfl ?_
  refine r_iload X.1 0 dL_law_234 rfl ?_
  refine r_iconst (v := (5 : Int32)) X.1 dL_law_236 rfl ?_
  refine r_iadd X.1 dL_law_237 ?_
  refine r_sld X (vp_ik (k := 5) X.2.2.2.2 (by omega)) dL_law_238 ?_
  have h := P_feed (v1 := xs (nI i + nI 1).toNatClampNeg) (v2 := xs (nI i + nI 2).toNatClampNeg) (v3 := xs (nI i + nI 3).toNatClampNeg) (v4 := xs (nI i + nI 4).toNatClampNeg) (v5 := xs (nI i + nI 5).toNatClampNeg) (c := cn) (M := M) hc H
  refine cL_22 X.1 (m_X8_feed l h) ⟨Nat.le_of_ble_eq_true rfl, Nat.le_of_ble_eq_true rfl⟩ (Nat.le_of_ble_eq_true rfl) hkn dL_law_239 (fun r1 M1 h => ?_)
  refine r_aload_n X.1 2 dL_law_242 rfl rfl ?_
  refine r_aload_n X.1 4 dL_law_243 rfl rfl ?_
  refine r_iload X.1 0 dL_law_244 rfl ?_
  refine r_iconst (v := (1 : Int32)) X.1 dL_law_246 rfl ?_
  refine r_iadd X.1 dL_law_247 ?_
  refine r_sld X (vp_ik (k := 1) X.2.2.2.2 (by omega)) dL_law_248 ?_
  refine r_aload_n X.1 4 dL_law_249 rfl rfl ?_
  refine r_iload X.1 0 dL_law_250 rfl ?_
  refine r_iconst (v := (2 : Int32)) X.1 dL_law_252 rfl ?_
  refine r_iadd X.1 dL_law_253 ?_
  refine r_sld X (vp_ik (k := 2) X.2.2.2.2 (by omega)) dL_law_254 ?_
  refine r_aload_n X.1 4 dL_law_255 rfl rfl ?_
  refine r_iload X.1 0 dL_law_256 rfl ?_
  refine r_iconst (v := (3 : Int32)) X.1 dL_law_258 rfl ?_
  refine r_iadd X.1 dL_law_259 ?_
  refine r_sld X (vp_ik (k := 3) X.2.2.2.2 (by omega)) dL_law_260 ?_
  refine r_aload_n X.1 4 dL_law_261 rfl rfl ?_
  refine r_iload X.1 0 dL_law_262 rfl ?_
  refine r_iconst (v := (4 : Int32)) X.1 dL_law_264 rfl ?_
  refine r_iadd X.1 dL_law_265 ?_
  refine r_sld X (vp_ik (k := 4) X.2.2.2.2 (by omega)) dL_law_266 ?_
  refine r_aload_n X.1 4 dL_law_267 rfl rfl ?_
  refine r_iload X.1 0 dL_law_268 rfl ?_
  refine r_iconst (v := (5 : Int32)) X.1 dL_law_270 rfl ?_
  refine r_iadd X.1 dL_law_271 ?_
  refine r_sld X (vp_ik (k := 5) X.2.2.2.2 (by omega)) dL_law_272 ?_
  refine cL_26 X.1 (m_X9_feed l h) ⟨Nat.le_of_ble_eq_true rfl, Nat.le_of_ble_eq_true rfl⟩ (Nat.le_of_ble_eq_true rfl) hkn dL_law_273 (fun r2 M2 h => ?_)
  exact r_icmp_eq X.1 1354 dL_law_276 (by decide) (fun _ => k M2 h.2) (fun q => absurd h.1 q)
set_option maxHeartbeats 1000000 in
theorem law_1 (X : lawC p s m meth c D cy ad b L xs) {i cn : Nat} (hi : i + 6 ≤ L) (hc : cn < 100000) (hkn : k0 ≤ room_1.cells ∧ n0 ≤ room_1.slots) (H : Inv cn M) (k : ∀ M', Inv (cn + 1) M' → rw_W p l e room_1 s m #[Value.ref b] below meth c D cy ad 7 k0 n0 (lw_Z below #[Value.ref b] s) (1354) [(4, .int (nI i)), (3, .ref (ad 40)), (2, .ref (ad 0)), (1, .ref (ad 41)), (0, .ref b)] [] M') : rw_W p l e room_1 s m #[Value.ref b] below meth c D cy ad 7 k0 n0 (lw_Z below #[Value.ref b] s) (281) [(4, .int (nI i)), (3, .ref (ad 40)), (2, .ref (ad 0)), (1, .ref (ad 41)), (0, .ref b)] [] M := by
  refine r_aload_n X.1 3 dL_law_281 rfl rfl ?_
  refine r_aload_n X.1 4 dL_law_282 rfl rfl ?_
  refine r_iload X.1 0 dL_law_283 rfl ?_
  refine r_iconst (v := (1 : Int32)) X.1 dL_law_285 rfl ?_
  refine r_iadd X.1 dL_law_286 ?_
  refine r_sld X (vp_ik (k := 1) X.2.2.2.2 (by omega)) dL_law_287 ?_
  have h := P_end (v1 := xs (nI i + nI 1).toNatClampNeg) (c := cn) (M := M) hc H
  refine cL_27 X.1 (m_X8_end l h) ⟨Nat.le_of_ble_eq_true rfl, Nat.le_of_ble_eq_true rfl⟩ (Nat.le_of_ble_eq_true rfl) hkn dL_law_288 (fun r1 M1 h => ?_)
  refine r_aload_n X.1 2 dL_law_291 rfl rfl ?_
  refine r_aload_n X.1 4 dL_law_292 rfl rfl ?_
  refine r_iload X.1 0 dL_law_293 rfl ?_
  refine r_iconst (v := (1 : Int32)) X.1 dL_law_295 rfl ?_
  refine r_iadd X.1 dL_law_296 ?_
  refine r_sld X (vp_ik (k := 1) X.2.2.2.2 (by omega)) dL_law_297 ?_
  refine cL_31 X.1 (m_X9_end l h) ⟨Nat.le_of_ble_eq_true rfl, Nat.le_of_ble_eq_true rfl⟩ (Nat.le_of_ble_eq_true rfl) hkn dL_law_298 (fun r2 M2 h => ?_)
  exact r_icmp_eq X.1 1354 dL_law_301 (by decide) (fun _ => k M2 h.2) (fun q => absurd h.1 q)
set_option maxHeartbeats 1000000 in
theorem law_2 (X : lawC p s m meth c D cy ad b L xs) {i cn : Nat} (hi : i + 6 ≤ L) (hc : cn < 100000) (hkn : k0 ≤ room_1.cells ∧ n0 ≤ room_1.slots) (H : Inv cn M) (k : ∀ M', Inv (cn + 1) M' → rw_W p l e room_1 s m #[Value.ref b] below meth c D cy ad 7 k0 n0 (lw_Z below #[Value.ref b] s) (1354) [(4, .int (nI i)), (3, .ref (ad 40)), (2, .ref (ad 0)), (1, .ref (ad 41)), (0, .ref b)] [] M') : rw_W p l e room_1 s m #[Value.ref b] below meth c D cy ad 7 k0 n0 (lw_Z below #[Value.ref b] s) (306) [(4, .int (nI i)), (3, .ref (ad 40)), (2, .ref (ad 0)), (1, .ref (ad 41)), (0, .ref b)] [] M := by
  refine r_aload_n X.1 3 dL_law_306 rfl rfl ?_
  have h := P_net (c := cn) (M := M) hc H
  refine cL_32 X.1 (m_X8_net l h) ⟨Nat.le_of_ble_eq_true rfl, Nat.le_of_ble_eq_true rfl⟩ (Nat.le_of_ble_eq_true rfl) hkn dL_law_307 (fun r1 M1 h => ?_)
  refine r_aload_n X.1 2 dL_law_310 rfl rfl ?_
  refine cL_36 X.1 (m_X9_net l h) ⟨Nat.le_of_ble_eq_true rfl, Nat.le_of_ble_eq_true rfl⟩ (Nat.le_of_ble_eq_true rfl) hkn dL_law_311 (fun r2 M2 h => ?_)
  exact r_icmp_eq X.1 1354 dL_law_314 (by decide) (fun _ => k M2 h.2) (fun q => absurd h.1 q)
set_option maxHeartbeats 1000000 in
theorem law_3 (X : lawC p s m meth c D cy ad b L xs) {i cn : Nat} (hi : i + 6 ≤ L) (hc : cn < 100000) (hkn : k0 ≤ room_1.cells ∧ n0 ≤ room_1.slots) (H : Inv cn M) (k : ∀ M', Inv (cn + 1) M' → rw_W p l e room_1 s m #[Value.ref b] below meth c D cy ad 7 k0 n0 (lw_Z below #[Value.ref b] s) (1354) [(4, .int (nI i)), (3, .ref (ad 40)), (2, .ref (ad 0)), (1, .ref (ad 41)), (0, .ref b)] [] M') : rw_W p l e room_1 s m #[Value.ref b] below meth c D cy ad 7 k0 n0 (lw_Z below #[Value.ref b] s) (319) [(4, .int (nI i)), (3, .ref (ad 40)), (2, .ref (ad 0)), (1, .ref (ad 41)), (0, .ref b)] [] M := by
  refine r_aload_n X.1 3 dL_law_319 rfl rfl ?_
  refine r_aload_n X.1 4 dL_law_320 rfl rfl ?_
  refine r_iload X.1 0 dL_law_321 rfl ?_
  refine r_iconst (v := (1 : Int32)) X.1 dL_law_323 rfl ?_
  refine r_iadd X.1 dL_law_324 ?_
  refine r_sld X (vp_ik (k := 1) X.2.2.2.2 (by omega)) dL_law_325 ?_
  have h := P_fault (v1 := xs (nI i + nI 1).toNatClampNeg) (c := cn) (M := M) hc H
  refine cL_37 X.1 (m_X8_fault l h) ⟨Nat.le_of_ble_eq_true rfl, Nat.le_of_ble_eq_true rfl⟩ (Nat.le_of_ble_eq_true rfl) hkn dL_law_326 (fun r1 M1 h => ?_)
  refine r_aload_n X.1 2 dL_law_329 rfl rfl ?_
  refine r_aload_n X.1 4 dL_law_330 rfl rfl ?_
  refine r_iload X.1 0 dL_law_331 rfl ?_
  refine r_iconst (v := (1 : Int32)) X.1 dL_law_333 rfl ?_
  refine r_iadd X.1 dL_law_334 ?_
  refine r_sld X (vp_ik (k := 1) X.2.2.2.2 (by omega)) dL_law_335 ?_
  refine cL_40 X.1 (m_X9_fault l h) ⟨Nat.le_of_ble_eq_true rfl, Nat.le_of_ble_eq_true rfl⟩ (Nat.le_of_ble_eq_true rfl) hkn dL_law_336 (fun r2 M2 h => ?_)
  exact r_icmp_eq X.1 1354 dL_law_339 (by decide) (fun _ => k M2 h.2) (fun q => absurd h.1 q)
set_option maxHeartbeats 1000000 in
theorem law_4 (X : lawC p s m meth c D cy ad b L xs) {i cn : Nat} (hi : i + 6 ≤ L) (hc : cn < 100000) (hkn : k0 ≤ room_1.cells ∧ n0 ≤ room_1.slots) (H : Inv cn M) (k : ∀ M', Inv (cn + 1) M' → rw_W p l e room_1 s m #[Value.ref b] below meth c D cy ad 7 k0 n0 (lw_Z below #[Value.ref b] s) (1354) [(4, .int (nI i)), (3, .ref (ad 40)), (2, .ref (ad 0)), (1, .ref (ad 41)), (0, .ref b)] [] M') : rw_W p l e room_1 s m #[Value.ref b] below meth c D cy ad 7 k0 n0 (lw_Z below #[Value.ref b] s) (344) [(4, .int (nI i)), (3, .ref (ad 40)), (2, .ref (ad 0)), (1, .ref (ad 41)), (0, .ref b)] [] M := by
  refine r_aload_n X.1 3 dL_law_344 rfl rfl ?_
  refine r_aload_n X.1 4 dL_law_345 rfl rfl ?_
  refine r_iload X.1 0 dL_law_346 rfl ?_
  refine r_iconst (v := (1 : Int32)) X.1 dL_law_348 rfl ?_
  refine r_iadd X.1 dL_law_349 ?_
  refine r_sld X (vp_ik (k := 1) X.2.2.2.2 (by omega)) dL_law_350 ?_
  have h := P_about (v1 := xs (nI i + nI 1).toNatClampNeg) (c := cn) (M := M) hc H
  refine cL_41 X.1 (m_X8_about l h) ⟨Nat.le_of_ble_eq_true rfl, Nat.le_of_ble_eq_true rfl⟩ (Nat.le_of_ble_eq_true rfl) hkn dL_law_351 (fun r1 M1 h => ?_)
  refine r_aload_n X.1 2 dL_law_354 rfl rfl ?_
  refine r_aload_n X.1 4 dL_law_355 rfl rfl ?_
  refine r_iload X.1 0 dL_law_356 rfl ?_
  refine r_iconst (v := (1 : Int32)) X.1 dL_law_358 rfl ?_
  refine r_iadd X.1 dL_law_359 ?_
  refine r_sld X (vp_ik (k := 1) X.2.2.2.2 (by omega)) dL_law_360 ?_
  refine cL_44 X.1 (m_X9_about l h) ⟨Nat.le_of_ble_eq_true rfl, Nat.le_of_ble_eq_true rfl⟩ (Nat.le_of_ble_eq_true rfl) hkn dL_law_361 (fun r2 M2 h => ?_)
  exact r_icmp_eq X.1 1354 dL_law_364 (by decide) (fun _ => k M2 h.2) (fun q => absurd h.1 q)
set_option maxHeartbeats 1000000 in
theorem law_5 (X : lawC p s m meth c D cy ad b L xs) {i cn : Nat} (hi : i + 6 ≤ L) (hc : cn < 100000) (hkn : k0 ≤ room_1.cells ∧ n0 ≤ room_1.slots) (H : Inv cn M) (k : ∀ M', Inv (cn + 1) M' → rw_W p l e room_1 s m #[Value.ref b] below meth c D cy ad 7 k0 n0 (lw_Z below #[Value.ref b] s) (1354) [(4, .int (nI i)), (3, .ref (ad 40)), (2, .ref (ad 0)), (1, .ref (ad 41)), (0, .ref b)] [] M') : rw_W p l e room_1 s m #[Value.ref b] below meth c D cy ad 7 k0 n0 (lw_Z below #[Value.ref b] s) (369) [(4, .int (nI i)), (3, .ref (ad 40)), (2, .ref (ad 0)), (1, .ref (ad 41)), (0, .ref b)] [] M := by
  refine r_aload_n X.1 3 dL_law_369 rfl rfl ?_
  refine r_aload_n X.1 4 dL_law_370 rfl rfl ?_
  refine r_iload X.1 0 dL_law_371 rfl ?_
  refine r_iconst (v := (1 : Int32)) X.1 dL_law_373 rfl ?_
  refine r_iadd X.1 dL_law_374 ?_
  refine r_sld X (vp_ik (k := 1) X.2.2.2.2 (by omega)) dL_law_375 ?_
  refine r_aload_n X.1 4 dL_law_376 rfl rfl ?_
  refine r_iload X.1 0 dL_law_377 rfl ?_
  refine r_iconst (v := (2 : Int32)) X.1 dL_law_379 rfl ?_
  refine r_iadd X.1 dL_law_380 ?_
  refine r_sld X (vp_ik (k := 2) X.2.2.2.2 (by omega)) dL_law_381 ?_
  refine r_aload_n X.1 4 dL_law_382 rfl rfl ?_
  refine r_iload X.1 0 dL_law_383 rfl ?_
  refine r_iconst (v := (3 : Int32)) X.1 dL_law_385 rfl ?_
  refine r_iadd X.1 dL_law_386 ?_
  refine r_sld X (vp_ik (k := 3) X.2.2.2.2 (by omega)) dL_law_387 ?_
  have h := P_arc (v1 := xs (nI i + nI 1).toNatClampNeg) (v2 := xs (nI i + nI 2).toNatClampNeg) (v3 := xs (nI i + nI 3).toNatClampNeg) (c := cn) (M := M) hc H
  refine cL_45 X.1 (m_X8_arc l h) ⟨Nat.le_of_ble_eq_true rfl, Nat.le_of_ble_eq_true rfl⟩ (Nat.le_of_ble_eq_true rfl) hkn dL_law_388 (fun r1 M1 h => ?_)
  refine r_aload_n X.1 2 dL_law_391 rfl rfl ?_
  refine r_aload_n X.1 4 dL_law_392 rfl rfl ?_
  refine r_iload X.1 0 dL_law_393 rfl ?_
  refine r_iconst (v := (1 : Int32)) X.1 dL_law_395 rfl ?_
  refine r_iadd X.1 dL_law_396 ?_
  refine r_sld X (vp_ik (k := 1) X.2.2.2.2 (by omega)) dL_law_397 ?_
  refine r_aload_n X.1 4 dL_law_398 rfl rfl ?_
  refine r_iload X.1 0 dL_law_399 rfl ?_
  refine r_iconst (v := (2 : Int32)) X.1 dL_law_401 rfl ?_
  refine r_iadd X.1 dL_law_402 ?_
  refine r_sld X (vp_ik (k := 2) X.2.2.2.2 (by omega)) dL_law_403 ?_
  refine r_aload_n X.1 4 dL_law_404 rfl rfl ?_
  refine r_iload X.1 0 dL_law_405 rfl ?_
  refine r_iconst (v := (3 : Int32)) X.1 dL_law_407 rfl ?_
  refine r_iadd X.1 dL_law_408 ?_
  refine r_sld X (vp_ik (k := 3) X.2.2.2.2 (by omega)) dL_law_409 ?_
  refine cL_49 X.1 (m_X9_arc l h) ⟨Nat.le_of_ble_eq_true rfl, Nat.le_of_ble_eq_true rfl⟩ (Nat.le_of_ble_eq_true rfl) hkn dL_law_410 (fun r2 M2 h => ?_)
  exact r_icmp_eq X.1 1354 dL_law_413 (by decide) (fun _ => k M2 h.2) (fun q => absurd h.1 q)
set_option maxHeartbeats 1000000 in
theorem law_6 (X : lawC p s m meth c D cy ad b L xs) {i cn : Nat} (hi : i + 6 ≤ L) (hc : cn < 100000) (hkn : k0 ≤ room_1.cells ∧ n0 ≤ room_1.slots) (H : Inv cn M) (k : ∀ M', Inv (cn + 1) M' → rw_W p l e room_1 s m #[Value.ref b] below meth c D cy ad 7 k0 n0 (lw_Z below #[Value.ref b] s) (1354) [(4, .int (nI i)), (3, .ref (ad 40)), (2, .ref (ad 0)), (1, .ref (ad 41)), (0, .ref b)] [] M') : rw_W p l e room_1 s m #[Value.ref b] below meth c D cy ad 7 k0 n0 (lw_Z below #[Value.ref b] s) (418) [(4, .int (nI i)), (3, .ref (ad 40)), (2, .ref (ad 0)), (1, .ref (ad 41)), (0, .ref b)] [] M := by
  refine r_aload_n X.1 3 dL_law_418 rfl rfl ?_
  refine r_aload_n X.1 4 dL_law_419 rfl rfl ?_
  refine r_iload X.1 0 dL_law_420 rfl ?_
  refine r_iconst (v := (1 : Int32)) X.1 dL_law_422 rfl ?_
  refine r_iadd X.1 dL_law_423 ?_
  refine r_sld X (vp_ik (k := 1) X.2.2.2.2 (by omega)) dL_law_424 ?_
  have h := P_tokens (v1 := xs (nI i + nI 1).toNatClampNeg) (c := cn) (M := M) hc H
  refine cL_50 X.1 (m_X8_tokens l h) ⟨Nat.le_of_ble_eq_true rfl, Nat.le_of_ble_eq_true rfl⟩ (Nat.le_of_ble_eq_true rfl) hkn dL_law_425 (fun r1 M1 h => ?_)
  refine r_aload_n X.1 2 dL_law_428 rfl rfl ?_
  refine r_aload_n X.1 4 dL_law_429 rfl rfl ?_
  refine r_iload X.1 0 dL_law_430 rfl ?_
  refine r_iconst (v := (1 : Int32)) X.1 dL_law_432 rfl ?_
  refine r_iadd X.1 dL_law_433 ?_
  refine r_sld X (vp_ik (k := 1) X.2.2.2.2 (by omega)) dL_law_434 ?_
  refine cL_53 X.1 (m_X9_tokens l h) ⟨Nat.le_of_ble_eq_true rfl, Nat.le_of_ble_eq_true rfl⟩ (Nat.le_of_ble_eq_true rfl) hkn dL_law_435 (fun r2 M2 h => ?_)
  exact r_icmp_eq X.1 1354 dL_law_438 (by decide) (fun _ => k M2 h.2) (fun q => absurd h.1 q)
set_option maxHeartbeats 1000000 in
theorem law_7 (X : lawC p s m meth c D cy ad b L xs) {i cn : Nat} (hi : i + 6 ≤ L) (hc : cn < 100000) (hkn : k0 ≤ room_1.cells ∧ n0 ≤ room_1.slots) (H : Inv cn M) (k : ∀ M', Inv (cn + 1) M' → rw_W p l e room_1 s m #[Value.ref b] below meth c D cy ad 7 k0 n0 (lw_Z below #[Value.ref b] s) (1354) [(4, .int (nI i)), (3, .ref (ad 40)), (2, .ref (ad 0)), (1, .ref (ad 41)), (0, .ref b)] [] M') : rw_W p l e room_1 s m #[Value.ref b] below meth c D cy ad 7 k0 n0 (lw_Z below #[Value.ref b] s) (443) [(4, .int (nI i)), (3, .ref (ad 40)), (2, .ref (ad 0)), (1, .ref (ad 41)), (0, .ref b)] [] M := by
  refine r_aload_n X.1 3 dL_law_443 rfl rfl ?_
  refine r_aload_n X.1 4 dL_law_444 rfl rfl ?_
  refine r_iload X.1 0 dL_law_445 rfl ?_
  refine r_iconst (v := (1 : Int32)) X.1 dL_law_447 rfl ?_
  refine r_iadd X.1 dL_law_448 ?_
  refine r_sld X (vp_ik (k := 1) X.2.2.2.2 (by omega)) dL_law_449 ?_
  have h := P_kind (v1 := xs (nI i + nI 1).toNatClampNeg) (c := cn) (M := M) hc H
  refine cL_54 X.1 (m_X8_kind l h) ⟨Nat.le_of_ble_eq_true rfl, Nat.le_of_ble_eq_true rfl⟩ (Nat.le_of_ble_eq_true rfl) hkn dL_law_450 (fun r1 M1 h => ?_)
  refine r_aload_n X.1 2 dL_law_453 rfl rfl ?_
  refine r_aload_n X.1 4 dL_law_454 rfl rfl ?_
  refine r_iload X.1 0 dL_law_455 rfl ?_
  refine r_iconst (v := (1 : Int32)) X.1 dL_law_457 rfl ?_
  refine r_iadd X.1 dL_law_458 ?_
  refine r_sld X (vp_ik (k := 1) X.2.2.2.2 (by omega)) dL_law_459 ?_
  refine cL_57 X.1 (m_X9_kind l h) ⟨Nat.le_of_ble_eq_true rfl, Nat.le_of_ble_eq_true rfl⟩ (Nat.le_of_ble_eq_true rfl) hkn dL_law_460 (fun r2 M2 h => ?_)
  exact r_icmp_eq X.1 1354 dL_law_463 (by decide) (fun _ => k M2 h.2) (fun q => absurd h.1 q)
set_option maxHeartbeats 1000000 in
theorem law_8 (X : lawC p s m meth c D cy ad b L xs) {i cn : Nat} (hi : i + 6 ≤ L) (hc : cn < 100000) (hkn : k0 ≤ room_1.cells ∧ n0 ≤ room_1.slots) (H : Inv cn M) (k : ∀ M', Inv (cn + 1) M' → rw_W p l e room_1 s m #[Value.ref b] below meth c D cy ad 7 k0 n0 (lw_Z below #[Value.ref b] s) (1354) [(4, .int (nI i)), (3, .ref (ad 40)), (2, .ref (ad 0)), (1, .ref (ad 41)), (0, .ref b)] [] M') : rw_W p l e room_1 s m #[Value.ref b] below meth c D cy ad 7 k0 n0 (lw_Z below #[Value.ref b] s) (468) [(4, .int (nI i)), (3, .ref (ad 40)), (2, .ref (ad 0)), (1, .ref (ad 41)), (0, .ref b)] [] M := by
  refine r_aload_n X.1 3 dL_law_468 rfl rfl ?_
  refine r_aload_n X.1 4 dL_law_469 rfl rfl ?_
  refine r_iload X.1 0 dL_law_470 rfl ?_
  refine r_iconst (v := (1 : Int32)) X.1 dL_law_472 rfl ?_
  refine r_iadd X.1 dL_law_473 ?_
  refine r_sld X (vp_ik (k := 1) X.2.2.2.2 (by omega)) dL_law_474 ?_
  have h := P_fire (v1 := xs (nI i + nI 1).toNatClampNeg) (c := cn) (M := M) hc H
  refine cL_58 X.1 (m_X8_fire l h) ⟨Nat.le_of_ble_eq_true rfl, Nat.le_of_ble_eq_true rfl⟩ (Nat.le_of_ble_eq_true rfl) hkn dL_law_475 (fun r1 M1 h => ?_)
  refine r_aload_n X.1 2 dL_law_478 rfl rfl ?_
  refine r_aload_n X.1 4 dL_law_479 rfl rfl ?_
  refine r_iload X.1 0 dL_law_480 rfl ?_
  refine r_iconst (v := (1 : Int32)) X.1 dL_law_482 rfl ?_
  refine r_iadd X.1 dL_law_483 ?_
  refine r_sld X (vp_ik (k := 1) X.2.2.2.2 (by omega)) dL_law_484 ?_
  refine cL_61 X.1 (m_X9_fire l h) ⟨Nat.le_of_ble_eq_true rfl, Nat.le_of_ble_eq_true rfl⟩ (Nat.le_of_ble_eq_true rfl) hkn dL_law_485 (fun r2 M2 h => ?_)
  exact r_icmp_eq X.1 1354 dL_law_488 (by decide) (fun _ => k M2 h.2) (fun q => absurd h.1 q)
set_option maxHeartbeats 1000000 in
theorem law_9 (X : lawC p s m meth c D cy ad b L xs) {i cn : Nat} (hi : i + 6 ≤ L) (hc : cn < 100000) (hkn : k0 ≤ room_1.cells ∧ n0 ≤ room_1.slots) (H : Inv cn M) (k : ∀ M', Inv (cn + 1) M' → rw_W p l e room_1 s m #[Value.ref b] below meth c D cy ad 7 k0 n0 (lw_Z below #[Value.ref b] s) (1354) [(4, .int (nI i)), (3, .ref (ad 40)), (2, .ref (ad 0)), (1, .ref (ad 41)), (0, .ref b)] [] M') : rw_W p l e room_1 s m #[Value.ref b] below meth c D cy ad 7 k0 n0 (lw_Z below #[Value.ref b] s) (493) [(4, .int (nI i)), (3, .ref (ad 40)), (2, .ref (ad 0)), (1, .ref (ad 41)), (0, .ref b)] [] M := by
  refine r_aload_n X.1 3 dL_law_493 rfl rfl ?_
  refine r_aload_n X.1 4 dL_law_494 rfl rfl ?_
  refine r_iload X.1 0 dL_law_495 rfl ?_
  refine r_iconst (v := (1 : Int32)) X.1 dL_law_497 rfl ?_
  refine r_iadd X.1 dL_law_498 ?_
  refine r_sld X (vp_ik (k := 1) X.2.2.2.2 (by omega)) dL_law_499 ?_
  refine r_aload_n X.1 4 dL_law_500 rfl rfl ?_
  refine r_iload X.1 0 dL_law_501 rfl ?_
  refine r_iconst (v := (2 : Int32)) X.1 dL_law_503 rfl ?_
  refine r_iadd X.1 dL_law_504 ?_
  refine r_sld X (vp_ik (k := 2) X.2.2.2.2 (by omega)) dL_law_505 ?_
  have h := P_set (v1 := xs (nI i + nI 1).toNatClampNeg) (v2 := xs (nI i + nI 2).toNatClampNeg) (c := cn) (M := M) hc H
  refine cL_62 X.1 (m_X8_set l h) ⟨Nat.le_of_ble_eq_true rfl, Nat.le_of_ble_eq_true rfl⟩ (Nat.le_of_ble_eq_true rfl) hkn dL_law_506 (fun r1 M1 h => ?_)
  refine r_aload_n X.1 2 dL_law_509 rfl rfl ?_
  refine r_aload_n X.1 4 dL_law_510 rfl rfl ?_
  refine r_iload X.1 0 dL_law_511 rfl ?_
  refine r_iconst (v := (1 : Int32)) X.1 dL_law_513 rfl ?_
  refine r_iadd X.1 dL_law_514 ?_
  refine r_sld X (vp_ik (k := 1) X.2.2.2.2 (by omega)) dL_law_515 ?_
  refine r_aload_n X.1 4 dL_law_516 rfl rfl ?_
  refine r_iload X.1 0 dL_law_517 rfl ?_
  refine r_iconst (v := (2 : Int32)) X.1 dL_law_519 rfl ?_
  refine r_iadd X.1 dL_law_520 ?_
  refine r_sld X (vp_ik (k := 2) X.2.2.2.2 (by omega)) dL_law_521 ?_
  refine cL_65 X.1 (m_X9_set l h) ⟨Nat.le_of_ble_eq_true rfl, Nat.le_of_ble_eq_true rfl⟩ (Nat.le_of_ble_eq_true rfl) hkn dL_law_522 (fun r2 M2 h => ?_)
  exact r_icmp_eq X.1 1354 dL_law_525 (by decide) (fun _ => k M2 h.2) (fun q => absurd h.1 q)
set_option maxHeartbeats 1000000 in
theorem law_10 (X : lawC p s m meth c D cy ad b L xs) {i cn : Nat} (hi : i + 6 ≤ L) (hc : cn < 100000) (hkn : k0 ≤ room_1.cells ∧ n0 ≤ room_1.slots) (H : Inv cn M) (k : ∀ M', Inv (cn + 1) M' → rw_W p l e room_1 s m #[Value.ref b] below meth c D cy ad 7 k0 n0 (lw_Z below #[Value.ref b] s) (1354) [(4, .int (nI i)), (3, .ref (ad 40)), (2, .ref (ad 0)), (1, .ref (ad 41)), (0, .ref b)] [] M') : rw_W p l e room_1 s m #[Value.ref b] below meth c D cy ad 7 k0 n0 (lw_Z below #[Value.ref b] s) (530) [(4, .int (nI i)), (3, .ref (ad 40)), (2, .ref (ad 0)), (1, .ref (ad 41)), (0, .ref b)] [] M := by
  refine r_aload_n X.1 3 dL_law_530 rfl rfl ?_
  refine r_aload_n X.1 4 dL_law_531 rfl rfl ?_
  refine r_iload X.1 0 dL_law_532 rfl ?_
  refine r_iconst (v := (1 : Int32)) X.1 dL_law_534 rfl ?_
  refine r_iadd X.1 dL_law_535 ?_
  refine r_sld X (vp_ik (k := 1) X.2.2.2.2 (by omega)) dL_law_536 ?_
  refine r_aload_n X.1 4 dL_law_537 rfl rfl ?_
  refine r_iload X.1 0 dL_law_538 rfl ?_
  refine r_iconst (v := (2 : Int32)) X.1 dL_law_540 rfl ?_
  refine r_iadd X.1 dL_law_541 ?_
  refine r_sld X (vp_ik (k := 2) X.2.2.2.2 (by omega)) dL_law_542 ?_
  have h := P_run (v1 := xs (nI i + nI 1).toNatClampNeg) (v2 := xs (nI i + nI 2).toNatClampNeg) (c := cn) (M := M) hc H
  refine cL_66 X.1 (m_X8_run l h) ⟨Nat.le_of_ble_eq_true rfl, Nat.le_of_ble_eq_true rfl⟩ (Nat.le_of_ble_eq_true rfl) hkn dL_law_543 (fun r1 M1 h => ?_)
  refine r_aload_n X.1 2 dL_law_546 rfl rfl ?_
  refine r_aload_n X.1 4 dL_law_547 rfl rfl ?_
  refine r_iload X.1 0 dL_law_548 rfl ?_
  refine r_iconst (v := (1 : Int32)) X.1 dL_law_550 rfl ?_
  refine r_iadd X.1 dL_law_551 ?_
  refine r_sld X (vp_ik (k := 1) X.2.2.2.2 (by omega)) dL_law_552 ?_
  refine r_aload_n X.1 4 dL_law_553 rfl rfl ?_
  refine r_iload X.1 0 dL_law_554 rfl ?_
  refine r_iconst (v := (2 : Int32)) X.1 dL_law_556 rfl ?_
  refine r_iadd X.1 dL_law_557 ?_
  refine r_sld X (vp_ik (k := 2) X.2.2.2.2 (by omega)) dL_law_558 ?_
  refine cL_69 X.1 (m_X9_run l h) ⟨Nat.le_of_ble_eq_true rfl, Nat.le_of_ble_eq_true rfl⟩ (Nat.le_of_ble_eq_true rfl) hkn dL_law_559 (fun r2 M2 h => ?_)
  exact r_icmp_eq X.1 1354 dL_law_562 (by decide) (fun _ => k M2 h.2) (fun q => absurd h.1 q)
set_option maxHeartbeats 1000000 in
theorem law_11 (X : lawC p s m meth c D cy ad b L xs) {i cn : Nat} (hi : i + 6 ≤ L) (hc : cn < 100000) (hkn : k0 ≤ room_1.cells ∧ n0 ≤ room_1.slots) (H : Inv cn M) (k : ∀ M', Inv (cn + 1) M' → rw_W p l e room_1 s m #[Value.ref b] below meth c D cy ad 7 k0 n0 (lw_Z below #[Value.ref b] s) (1354) [(4, .int (nI i)), (3, .ref (ad 40)), (2, .ref (ad 0)), (1, .ref (ad 41)), (0, .ref b)] [] M') : rw_W p l e room_1 s m #[Value.ref b] below meth c D cy ad 7 k0 n0 (lw_Z below #[Value.ref b] s) (567) [(4, .int (nI i)), (3, .ref (ad 40)), (2, .ref (ad 0)), (1, .ref (ad 41)), (0, .ref b)] [] M := by
  refine r_aload_n X.1 3 dL_law_567 rfl rfl ?_
  have h := P_can (c := cn) (M := M) hc H
  refine cL_70 X.1 (m_X8_can l h) ⟨Nat.le_of_ble_eq_true rfl, Nat.le_of_ble_eq_true rfl⟩ (Nat.le_of_ble_eq_true rfl) hkn dL_law_568 (fun r1 M1 h => ?_)
  refine r_aload_n X.1 2 dL_law_571 rfl rfl ?_
  refine cL_73 X.1 (m_X9_can l h) ⟨Nat.le_of_ble_eq_true rfl, Nat.le_of_ble_eq_true rfl⟩ (Nat.le_of_ble_eq_true rfl) hkn dL_law_572 (fun r2 M2 h => ?_)
  exact r_icmp_eq X.1 1354 dL_law_575 (by decide) (fun _ => k M2 h.2) (fun q => absurd h.1 q)
set_option maxHeartbeats 1000000 in
theorem law_12 (X : lawC p s m meth c D cy ad b L xs) {i cn : Nat} (hi : i + 6 ≤ L) (hc : cn < 100000) (hkn : k0 ≤ room_1.cells ∧ n0 ≤ room_1.slots) (H : Inv cn M) (k : ∀ M', Inv (cn + 1) M' → rw_W p l e room_1 s m #[Value.ref b] below meth c D cy ad 7 k0 n0 (lw_Z below #[Value.ref b] s) (1354) [(4, .int (nI i)), (3, .ref (ad 40)), (2, .ref (ad 0)), (1, .ref (ad 41)), (0, .ref b)] [] M') : rw_W p l e room_1 s m #[Value.ref b] below meth c D cy ad 7 k0 n0 (lw_Z below #[Value.ref b] s) (580) [(4, .int (nI i)), (3, .ref (ad 40)), (2, .ref (ad 0)), (1, .ref (ad 41)), (0, .ref b)] [] M := by
  refine r_aload_n X.1 3 dL_law_580 rfl rfl ?_
  have h := P_undo (c := cn) (M := M) hc H
  refine cL_74 X.1 (m_X8_undo l h) ⟨Nat.le_of_ble_eq_true rfl, Nat.le_of_ble_eq_true rfl⟩ (Nat.le_of_ble_eq_true rfl) hkn dL_law_581 (fun r1 M1 h => ?_)
  refine r_aload_n X.1 2 dL_law_584 rfl rfl ?_
  refine cL_78 X.1 (m_X9_undo l h) ⟨Nat.le_of_ble_eq_true rfl, Nat.le_of_ble_eq_true rfl⟩ (Nat.le_of_ble_eq_true rfl) hkn dL_law_585 (fun r2 M2 h => ?_)
  exact r_icmp_eq X.1 1354 dL_law_588 (by decide) (fun _ => k M2 h.2) (fun q => absurd h.1 q)
set_option maxHeartbeats 1000000 in
theorem law_13 (X : lawC p s m meth c D cy ad b L xs) {i cn : Nat} (hi : i + 6 ≤ L) (hc : cn < 100000) (hkn : k0 ≤ room_1.cells ∧ n0 ≤ room_1.slots) (H : Inv cn M) (k : ∀ M', Inv (cn + 1) M' → rw_W p l e room_1 s m #[Value.ref b] below meth c D cy ad 7 k0 n0 (lw_Z below #[Value.ref b] s) (1354) [(4, .int (nI i)), (3, .ref (ad 40)), (2, .ref (ad 0)), (1, .ref (ad 41)), (0, .ref b)] [] M') : rw_W p l e room_1 s m #[Value.ref b] below meth c D cy ad 7 k0 n0 (lw_Z below #[Value.ref b] s) (593) [(4, .int (nI i)), (3, .ref (ad 40)), (2, .ref (ad 0)), (1, .ref (ad 41)), (0, .ref b)] [] M := by
  refine r_aload_n X.1 3 dL_law_593 rfl rfl ?_
  refine r_aload_n X.1 4 dL_law_594 rfl rfl ?_
  refine r_iload X.1 0 dL_law_595 rfl ?_
  refine r_iconst (v := (1 : Int32)) X.1 dL_law_597 rfl ?_
  refine r_iadd X.1 dL_law_598 ?_
  refine r_sld X (vp_ik (k := 1) X.2.2.2.2 (by omega)) dL_law_599 ?_
  have h := P_sums (v1 := xs (nI i + nI 1).toNatClampNeg) (c := cn) (M := M) hc H
  refine cL_79 X.1 (m_X8_sums l h) ⟨Nat.le_of_ble_eq_true rfl, Nat.le_of_ble_eq_true rfl⟩ (Nat.le_of_ble_eq_true rfl) hkn dL_law_600 (fun r1 M1 h => ?_)
  refine r_aload_n X.1 2 dL_law_603 rfl rfl ?_
  refine r_aload_n X.1 4 dL_law_604 rfl rfl ?_
  refine r_iload X.1 0 dL_law_605 rfl ?_
  refine r_iconst (v := (1 : Int32)) X.1 dL_law_607 rfl ?_
  refine r_iadd X.1 dL_law_608 ?_
  refine r_sld X (vp_ik (k := 1) X.2.2.2.2 (by omega)) dL_law_609 ?_
  refine cL_82 X.1 (m_X9_sums l h) ⟨Nat.le_of_ble_eq_true rfl, Nat.le_of_ble_eq_true rfl⟩ (Nat.le_of_ble_eq_true rfl) hkn dL_law_610 (fun r2 M2 h => ?_)
  exact r_icmp_eq X.1 1354 dL_law_613 (by decide) (fun _ => k M2 h.2) (fun q => absurd h.1 q)
set_option maxHeartbeats 1000000 in
theorem law_14 (X : lawC p s m meth c D cy ad b L xs) {i cn : Nat} (hi : i + 6 ≤ L) (hc : cn < 100000) (hkn : k0 ≤ room_1.cells ∧ n0 ≤ room_1.slots) (H : Inv cn M) (k : ∀ M', Inv (cn + 1) M' → rw_W p l e room_1 s m #[Value.ref b] below meth c D cy ad 7 k0 n0 (lw_Z below #[Value.ref b] s) (1354) [(4, .int (nI i)), (3, .ref (ad 40)), (2, .ref (ad 0)), (1, .ref (ad 41)), (0, .ref b)] [] M') : rw_W p l e room_1 s m #[Value.ref b] below meth c D cy ad 7 k0 n0 (lw_Z below #[Value.ref b] s) (618) [(4, .int (nI i)), (3, .ref (ad 40)), (2, .ref (ad 0)), (1, .ref (ad 41)), (0, .ref b)] [] M := by
  refine r_aload_n X.1 3 dL_law_618 rfl rfl ?_
  refine r_aload_n X.1 4 dL_law_619 rfl rfl ?_
  refine r_iload X.1 0 dL_law_620 rfl ?_
  refine r_iconst (v := (1 : Int32)) X.1 dL_law_622 rfl ?_
  refine r_iadd X.1 dL_law_623 ?_
  refine r_sld X (vp_ik (k := 1) X.2.2.2.2 (by omega)) dL_law_624 ?_
  refine r_aload_n X.1 4 dL_law_625 rfl rfl ?_
  refine r_iload X.1 0 dL_law_626 rfl ?_
  refine r_iconst (v := (2 : Int32)) X.1 dL_law_628 rfl ?_
  refine r_iadd X.1 dL_law_629 ?_
  refine r_sld X (vp_ik (k := 2) X.2.2.2.2 (by omega)) dL_law_630 ?_
  refine r_aload_n X.1 4 dL_law_631 rfl rfl ?_
  refine r_iload X.1 0 dL_law_632 rfl ?_
  refine r_iconst (v := (3 : Int32)) X.1 dL_law_634 rfl ?_
  refine r_iadd X.1 dL_law_635 ?_
  refine r_sld X (vp_ik (k := 3) X.2.2.2.2 (by omega)) dL_law_636 ?_
  have h := P_sum (v1 := xs (nI i + nI 1).toNatClampNeg) (v2 := xs (nI i + nI 2).toNatClampNeg) (v3 := xs (nI i + nI 3).toNatClampNeg) (c := cn) (M := M) hc H
  refine cL_83 X.1 (m_X8_sum l h) ⟨Nat.le_of_ble_eq_true rfl, Nat.le_of_ble_eq_true rfl⟩ (Nat.le_of_ble_eq_true rfl) hkn dL_law_637 (fun r1 M1 h => ?_)
  refine r_aload_n X.1 2 dL_law_640 rfl rfl ?_
  refine r_aload_n X.1 4 dL_law_641 rfl rfl ?_
  refine r_iload X.1 0 dL_law_642 rfl ?_
  refine r_iconst (v := (1 : Int32)) X.1 dL_law_644 rfl ?_
  refine r_iadd X.1 dL_law_645 ?_
  refine r_sld X (vp_ik (k := 1) X.2.2.2.2 (by omega)) dL_law_646 ?_
  refine r_aload_n X.1 4 dL_law_647 rfl rfl ?_
  refine r_iload X.1 0 dL_law_648 rfl ?_
  refine r_iconst (v := (2 : Int32)) X.1 dL_law_650 rfl ?_
  refine r_iadd X.1 dL_law_651 ?_
  refine r_sld X (vp_ik (k := 2) X.2.2.2.2 (by omega)) dL_law_652 ?_
  refine r_aload_n X.1 4 dL_law_653 rfl rfl ?_
  refine r_iload X.1 0 dL_law_654 rfl ?_
  refine r_iconst (v := (3 : Int32)) X.1 dL_law_656 rfl ?_
  refine r_iadd X.1 dL_law_657 ?_
  refine r_sld X (vp_ik (k := 3) X.2.2.2.2 (by omega)) dL_law_658 ?_
  refine cL_86 X.1 (m_X9_sum l h) ⟨Nat.le_of_ble_eq_true rfl, Nat.le_of_ble_eq_true rfl⟩ (Nat.le_of_ble_eq_true rfl) hkn dL_law_659 (fun r2 M2 h => ?_)
  exact r_icmp_eq X.1 1354 dL_law_662 (by decide) (fun _ => k M2 h.2) (fun q => absurd h.1 q)
set_option maxHeartbeats 1000000 in
theorem law_16 (X : lawC p s m meth c D cy ad b L xs) {i cn : Nat} (hi : i + 6 ≤ L) (hc : cn < 100000) (hkn : k0 ≤ room_1.cells ∧ n0 ≤ room_1.slots) (H : Inv cn M) (k : ∀ M', Inv (cn + 1) M' → rw_W p l e room_1 s m #[Value.ref b] below meth c D cy ad 7 k0 n0 (lw_Z below #[Value.ref b] s) (1354) [(4, .int (nI i)), (3, .ref (ad 40)), (2, .ref (ad 0)), (1, .ref (ad 41)), (0, .ref b)] [] M') : rw_W p l e room_1 s m #[Value.ref b] below meth c D cy ad 7 k0 n0 (lw_Z below #[Value.ref b] s) (735) [(4, .int (nI i)), (3, .ref (ad 40)), (2, .ref (ad 0)), (1, .ref (ad 41)), (0, .ref b)] [] M := by
  refine r_aload_n X.1 3 dL_law_735 rfl rfl ?_
  refine r_aload_n X.1 4 dL_law_736 rfl rfl ?_
  refine r_iload X.1 0 dL_law_737 rfl ?_
  refine r_iconst (v := (1 : Int32)) X.1 dL_law_739 rfl ?_
  refine r_iadd X.1 dL_law_740 ?_
  refine r_sld X (vp_ik (k := 1) X.2.2.2.2 (by omega)) dL_law_741 ?_
  have h := P_covered (v1 := xs (nI i + nI 1).toNatClampNeg) (c := cn) (M := M) hc H
  refine cL_96 X.1 (m_X8_covered l h) ⟨Nat.le_of_ble_eq_true rfl, Nat.le_of_ble_eq_true rfl⟩ (Nat.le_of_ble_eq_true rfl) hkn dL_law_742 (fun r1 M1 h => ?_)
  refine r_aload_n X.1 2 dL_law_745 rfl rfl ?_
  refine r_aload_n X.1 4 dL_law_746 rfl rfl ?_
  refine r_iload X.1 0 dL_law_747 rfl ?_
  refine r_iconst (v := (1 : Int32)) X.1 dL_law_749 rfl ?_
  refine r_iadd X.1 dL_law_750 ?_
  refine r_sld X (vp_ik (k := 1) X.2.2.2.2 (by omega)) dL_law_751 ?_
  refine cL_99 X.1 (m_X9_covered l h) ⟨Nat.le_of_ble_eq_true rfl, Nat.le_of_ble_eq_true rfl⟩ (Nat.le_of_ble_eq_true rfl) hkn dL_law_752 (fun r2 M2 h => ?_)
  exact r_icmp_eq X.1 1354 dL_law_755 (by decide) (fun _ => k M2 h.2) (fun q => absurd h.1 q)
set_option maxHeartbeats 1000000 in
theorem law_17 (X : lawC p s m meth c D cy ad b L xs) {i cn : Nat} (hi : i + 6 ≤ L) (hc : cn < 100000) (hkn : k0 ≤ room_1.cells ∧ n0 ≤ room_1.slots) (H : Inv cn M) (k : ∀ M', Inv (cn + 1) M' → rw_W p l e room_1 s m #[Value.ref b] below meth c D cy ad 7 k0 n0 (lw_Z below #[Value.ref b] s) (1354) [(4, .int (nI i)), (3, .ref (ad 40)), (2, .ref (ad 0)), (1, .ref (ad 41)), (0, .ref b)] [] M') : rw_W p l e room_1 s m #[Value.ref b] below meth c D cy ad 7 k0 n0 (lw_Z below #[Value.ref b] s) (760) [(4, .int (nI i)), (3, .ref (ad 40)), (2, .ref (ad 0)), (1, .ref (ad 41)), (0, .ref b)] [] M := by
  refine r_aload_n X.1 3 dL_law_760 rfl rfl ?_
  refine r_aload_n X.1 4 dL_law_761 rfl rfl ?_
  refine r_iload X.1 0 dL_law_762 rfl ?_
  refine r_iconst (v := (1 : Int32)) X.1 dL_law_764 rfl ?_
  refine r_iadd X.1 dL_law_765 ?_
  refine r_sld X (vp_ik (k := 1) X.2.2.2.2 (by omega)) dL_law_766 ?_
  have h := P_value (v1 := xs (nI i + nI 1).toNatClampNeg) (c := cn) (M := M) hc H
  refine cL_100 X.1 (m_X8_value l h) ⟨Nat.le_of_ble_eq_true rfl, Nat.le_of_ble_eq_true rfl⟩ (Nat.le_of_ble_eq_true rfl) hkn dL_law_767 (fun r1 M1 h => ?_)
  refine r_aload_n X.1 2 dL_law_770 rfl rfl ?_
  refine r_aload_n X.1 4 dL_law_771 rfl rfl ?_
  refine r_iload X.1 0 dL_law_772 rfl ?_
  refine r_iconst (v := (1 : Int32)) X.1 dL_law_774 rfl ?_
  refine r_iadd X.1 dL_law_775 ?_
  refine r_sld X (vp_ik (k := 1) X.2.2.2.2 (by omega)) dL_law_776 ?_
  refine cL_104 X.1 (m_X9_value l h) ⟨Nat.le_of_ble_eq_true rfl, Nat.le_of_ble_eq_true rfl⟩ (Nat.le_of_ble_eq_true rfl) hkn dL_law_777 (fun r2 M2 h => ?_)
  refine r_lcmp X.1 dL_law_780 ?_
  exact r_if_eq X.1 1354 dL_law_781 (by decide) (fun _ => k M2 h.2) (fun q => absurd (by rw [h.1]; exact lg_self _) q)
set_option maxHeartbeats 1000000 in
theorem law_18 (X : lawC p s m meth c D cy ad b L xs) {i cn : Nat} (hi : i + 6 ≤ L) (hc : cn < 100000) (hkn : k0 ≤ room_1.cells ∧ n0 ≤ room_1.slots) (H : Inv cn M) (k : ∀ M', Inv (cn + 1) M' → rw_W p l e room_1 s m #[Value.ref b] below meth c D cy ad 7 k0 n0 (lw_Z below #[Value.ref b] s) (1354) [(4, .int (nI i)), (3, .ref (ad 40)), (2, .ref (ad 0)), (1, .ref (ad 41)), (0, .ref b)] [] M') : rw_W p l e room_1 s m #[Value.ref b] below meth c D cy ad 7 k0 n0 (lw_Z below #[Value.ref b] s) (786) [(4, .int (nI i)), (3, .ref (ad 40)), (2, .ref (ad 0)), (1, .ref (ad 41)), (0, .ref b)] [] M := by
  refine r_aload_n X.1 3 dL_law_786 rfl rfl ?_
  refine r_aload_n X.1 4 dL_law_787 rfl rfl ?_
  refine r_iload X.1 0 dL_law_788 rfl ?_
  refine r_iconst (v := (1 : Int32)) X.1 dL_law_790 rfl ?_
  refine r_iadd X.1 dL_law_791 ?_
  refine r_sld X (vp_ik (k := 1) X.2.2.2.2 (by omega)) dL_law_792 ?_
  have h := P_bound (v1 := xs (nI i + nI 1).toNatClampNeg) (c := cn) (M := M) hc H
  refine cL_105 X.1 (m_X8_bound l h) ⟨Nat.le_of_ble_eq_true rfl, Nat.le_of_ble_eq_true rfl⟩ (Nat.le_of_ble_eq_true rfl) hkn dL_law_793 (fun r1 M1 h => ?_)
  refine r_aload_n X.1 2 dL_law_796 rfl rfl ?_
  refine r_aload_n X.1 4 dL_law_797 rfl rfl ?_
  refine r_iload X.1 0 dL_law_798 rfl ?_
  refine r_iconst (v := (1 : Int32)) X.1 dL_law_800 rfl ?_
  refine r_iadd X.1 dL_law_801 ?_
  refine r_sld X (vp_ik (k := 1) X.2.2.2.2 (by omega)) dL_law_802 ?_
  refine cL_108 X.1 (m_X9_bound l h) ⟨Nat.le_of_ble_eq_true rfl, Nat.le_of_ble_eq_true rfl⟩ (Nat.le_of_ble_eq_true rfl) hkn dL_law_803 (fun r2 M2 h => ?_)
  refine r_lcmp X.1 dL_law_806 ?_
  exact r_if_eq X.1 1354 dL_law_807 (by decide) (fun _ => k M2 h.2) (fun q => absurd (by rw [h.1]; exact lg_self _) q)
set_option maxHeartbeats 1000000 in
theorem law_19 (X : lawC p s m meth c D cy ad b L xs) {i cn : Nat} (hi : i + 6 ≤ L) (hc : cn < 100000) (hkn : k0 ≤ room_1.cells ∧ n0 ≤ room_1.slots) (H : Inv cn M) (k : ∀ M', Inv (cn + 1) M' → rw_W p l e room_1 s m #[Value.ref b] below meth c D cy ad 7 k0 n0 (lw_Z below #[Value.ref b] s) (1354) [(4, .int (nI i)), (3, .ref (ad 40)), (2, .ref (ad 0)), (1, .ref (ad 41)), (0, .ref b)] [] M') : rw_W p l e room_1 s m #[Value.ref b] below meth c D cy ad 7 k0 n0 (lw_Z below #[Value.ref b] s) (812) [(4, .int (nI i)), (3, .ref (ad 40)), (2, .ref (ad 0)), (1, .ref (ad 41)), (0, .ref b)] [] M := by
  refine r_aload_n X.1 3 dL_law_812 rfl rfl ?_
  refine r_aload_n X.1 4 dL_law_813 rfl rfl ?_
  refine r_iload X.1 0 dL_law_814 rfl ?_
  refine r_iconst (v := (1 : Int32)) X.1 dL_law_816 rfl ?_
  refine r_iadd X.1 dL_law_817 ?_
  refine r_sld X (vp_ik (k := 1) X.2.2.2.2 (by omega)) dL_law_818 ?_
  have h := P_siphons (v1 := xs (nI i + nI 1).toNatClampNeg) (c := cn) (M := M) hc H
  refine cL_109 X.1 (m_X8_siphons l h) ⟨Nat.le_of_ble_eq_true rfl, Nat.le_of_ble_eq_true rfl⟩ (Nat.le_of_ble_eq_true rfl) hkn dL_law_819 (fun r1 M1 h => ?_)
  refine r_aload_n X.1 2 dL_law_822 rfl rfl ?_
  refine r_aload_n X.1 4 dL_law_823 rfl rfl ?_
  refine r_iload X.1 0 dL_law_824 rfl ?_
  refine r_iconst (v := (1 : Int32)) X.1 dL_law_826 rfl ?_
  refine r_iadd X.1 dL_law_827 ?_
  refine r_sld X (vp_ik (k := 1) X.2.2.2.2 (by omega)) dL_law_828 ?_
  refine cL_112 X.1 (m_X9_siphons l h) ⟨Nat.le_of_ble_eq_true rfl, Nat.le_of_ble_eq_true rfl⟩ (Nat.le_of_ble_eq_true rfl) hkn dL_law_829 (fun r2 M2 h => ?_)
  exact r_icmp_eq X.1 1354 dL_law_832 (by decide) (fun _ => k M2 h.2) (fun q => absurd h.1 q)
set_option maxHeartbeats 1000000 in
theorem law_21 (X : lawC p s m meth c D cy ad b L xs) {i cn : Nat} (hi : i + 6 ≤ L) (hc : cn < 100000) (hkn : k0 ≤ room_1.cells ∧ n0 ≤ room_1.slots) (H : Inv cn M) (k : ∀ M', Inv (cn + 1) M' → rw_W p l e room_1 s m #[Value.ref b] below meth c D cy ad 7 k0 n0 (lw_Z below #[Value.ref b] s) (1354) [(4, .int (nI i)), (3, .ref (ad 40)), (2, .ref (ad 0)), (1, .ref (ad 41)), (0, .ref b)] [] M') : rw_W p l e room_1 s m #[Value.ref b] below meth c D cy ad 7 k0 n0 (lw_Z below #[Value.ref b] s) (905) [(4, .int (nI i)), (3, .ref (ad 40)), (2, .ref (ad 0)), (1, .ref (ad 41)), (0, .ref b)] [] M := by
  refine r_aload_n X.1 3 dL_law_905 rfl rfl ?_
  refine r_aload_n X.1 4 dL_law_906 rfl rfl ?_
  refine r_iload X.1 0 dL_law_907 rfl ?_
  refine r_iconst (v := (1 : Int32)) X.1 dL_law_909 rfl ?_
  refine r_iadd X.1 dL_law_910 ?_
  refine r_sld X (vp_ik (k := 1) X.2.2.2.2 (by omega)) dL_law_911 ?_
  refine r_aload_n X.1 4 dL_law_912 rfl rfl ?_
  refine r_iload X.1 0 dL_law_913 rfl ?_
  refine r_iconst (v := (2 : Int32)) X.1 dL_law_915 rfl ?_
  refine r_iadd X.1 dL_law_916 ?_
  refine r_sld X (vp_ik (k := 2) X.2.2.2.2 (by omega)) dL_law_917 ?_
  have h := P_isSiphon (v1 := xs (nI i + nI 1).toNatClampNeg) (v2 := xs (nI i + nI 2).toNatClampNeg) (c := cn) (M := M) hc H
  refine cL_116 X.1 (m_X8_isSiphon l h) ⟨Nat.le_of_ble_eq_true rfl, Nat.le_of_ble_eq_true rfl⟩ (Nat.le_of_ble_eq_true rfl) hkn dL_law_918 (fun r1 M1 h => ?_)
  refine r_aload_n X.1 2 dL_law_921 rfl rfl ?_
  refine r_aload_n X.1 4 dL_law_922 rfl rfl ?_
  refine r_iload X.1 0 dL_law_923 rfl ?_
  refine r_iconst (v := (1 : Int32)) X.1 dL_law_925 rfl ?_
  refine r_iadd X.1 dL_law_926 ?_
  refine r_sld X (vp_ik (k := 1) X.2.2.2.2 (by omega)) dL_law_927 ?_
  refine r_aload_n X.1 4 dL_law_928 rfl rfl ?_
  refine r_iload X.1 0 dL_law_929 rfl ?_
  refine r_iconst (v := (2 : Int32)) X.1 dL_law_931 rfl ?_
  refine r_iadd X.1 dL_law_932 ?_
  refine r_sld X (vp_ik (k := 2) X.2.2.2.2 (by omega)) dL_law_933 ?_
  refine cL_119 X.1 (m_X9_isSiphon l h) ⟨Nat.le_of_ble_eq_true rfl, Nat.le_of_ble_eq_true rfl⟩ (Nat.le_of_ble_eq_true rfl) hkn dL_law_934 (fun r2 M2 h => ?_)
  exact r_icmp_eq X.1 1354 dL_law_937 (by decide) (fun _ => k M2 h.2) (fun q => absurd h.1 q)
set_option maxHeartbeats 1000000 in
theorem law_22 (X : lawC p s m meth c D cy ad b L xs) {i cn : Nat} (hi : i + 6 ≤ L) (hc : cn < 100000) (hkn : k0 ≤ room_1.cells ∧ n0 ≤ room_1.slots) (H : Inv cn M) (k : ∀ M', Inv (cn + 1) M' → rw_W p l e room_1 s m #[Value.ref b] below meth c D cy ad 7 k0 n0 (lw_Z below #[Value.ref b] s) (1354) [(4, .int (nI i)), (3, .ref (ad 40)), (2, .ref (ad 0)), (1, .ref (ad 41)), (0, .ref b)] [] M') : rw_W p l e room_1 s m #[Value.ref b] below meth c D cy ad 7 k0 n0 (lw_Z below #[Value.ref b] s) (942) [(4, .int (nI i)), (3, .ref (ad 40)), (2, .ref (ad 0)), (1, .ref (ad 41)), (0, .ref b)] [] M := by
  refine r_aload_n X.1 3 dL_law_942 rfl rfl ?_
  refine r_aload_n X.1 4 dL_law_943 rfl rfl ?_
  refine r_iload X.1 0 dL_law_944 rfl ?_
  refine r_iconst (v := (1 : Int32)) X.1 dL_law_946 rfl ?_
  refine r_iadd X.1 dL_law_947 ?_
  refine r_sld X (vp_ik (k := 1) X.2.2.2.2 (by omega)) dL_law_948 ?_
  refine r_aload_n X.1 4 dL_law_949 rfl rfl ?_
  refine r_iload X.1 0 dL_law_950 rfl ?_
  refine r_iconst (v := (2 : Int32)) X.1 dL_law_952 rfl ?_
  refine r_iadd X.1 dL_law_953 ?_
  refine r_sld X (vp_ik (k := 2) X.2.2.2.2 (by omega)) dL_law_954 ?_
  have h := P_greatest (v1 := xs (nI i + nI 1).toNatClampNeg) (v2 := xs (nI i + nI 2).toNatClampNeg) (c := cn) (M := M) hc H
  refine cL_120 X.1 (m_X8_greatest l h) ⟨Nat.le_of_ble_eq_true rfl, Nat.le_of_ble_eq_true rfl⟩ (Nat.le_of_ble_eq_true rfl) hkn dL_law_955 (fun r1 M1 h => ?_)
  refine r_aload_n X.1 2 dL_law_958 rfl rfl ?_
  refine r_aload_n X.1 4 dL_law_959 rfl rfl ?_
  refine r_iload X.1 0 dL_law_960 rfl ?_
  refine r_iconst (v := (1 : Int32)) X.1 dL_law_962 rfl ?_
  refine r_iadd X.1 dL_law_963 ?_
  refine r_sld X (vp_ik (k := 1) X.2.2.2.2 (by omega)) dL_law_964 ?_
  refine r_aload_n X.1 4 dL_law_965 rfl rfl ?_
  refine r_iload X.1 0 dL_law_966 rfl ?_
  refine r_iconst (v := (2 : Int32)) X.1 dL_law_968 rfl ?_
  refine r_iadd X.1 dL_law_969 ?_
  refine r_sld X (vp_ik (k := 2) X.2.2.2.2 (by omega)) dL_law_970 ?_
  refine cL_123 X.1 (m_X9_greatest l h) ⟨Nat.le_of_ble_eq_true rfl, Nat.le_of_ble_eq_true rfl⟩ (Nat.le_of_ble_eq_true rfl) hkn dL_law_971 (fun r2 M2 h => ?_)
  exact r_icmp_eq X.1 1354 dL_law_974 (by decide) (fun _ => k M2 h.2) (fun q => absurd h.1 q)
set_option maxHeartbeats 1000000 in
theorem law_23 (X : lawC p s m meth c D cy ad b L xs) {i cn : Nat} (hi : i + 6 ≤ L) (hc : cn < 100000) (hkn : k0 ≤ room_1.cells ∧ n0 ≤ room_1.slots) (H : Inv cn M) (k : ∀ M', Inv (cn + 1) M' → rw_W p l e room_1 s m #[Value.ref b] below meth c D cy ad 7 k0 n0 (lw_Z below #[Value.ref b] s) (1354) [(4, .int (nI i)), (3, .ref (ad 40)), (2, .ref (ad 0)), (1, .ref (ad 41)), (0, .ref b)] [] M') : rw_W p l e room_1 s m #[Value.ref b] below meth c D cy ad 7 k0 n0 (lw_Z below #[Value.ref b] s) (979) [(4, .int (nI i)), (3, .ref (ad 40)), (2, .ref (ad 0)), (1, .ref (ad 41)), (0, .ref b)] [] M := by
  refine r_aload_n X.1 3 dL_law_979 rfl rfl ?_
  refine r_aload_n X.1 4 dL_law_980 rfl rfl ?_
  refine r_iload X.1 0 dL_law_981 rfl ?_
  refine r_iconst (v := (1 : Int32)) X.1 dL_law_983 rfl ?_
  refine r_iadd X.1 dL_law_984 ?_
  refine r_sld X (vp_ik (k := 1) X.2.2.2.2 (by omega)) dL_law_985 ?_
  have h := P_unguarded (v1 := xs (nI i + nI 1).toNatClampNeg) (c := cn) (M := M) hc H
  refine cL_124 X.1 (m_X8_unguarded l h) ⟨Nat.le_of_ble_eq_true rfl, Nat.le_of_ble_eq_true rfl⟩ (Nat.le_of_ble_eq_true rfl) hkn dL_law_986 (fun r1 M1 h => ?_)
  refine r_aload_n X.1 2 dL_law_989 rfl rfl ?_
  refine r_aload_n X.1 4 dL_law_990 rfl rfl ?_
  refine r_iload X.1 0 dL_law_991 rfl ?_
  refine r_iconst (v := (1 : Int32)) X.1 dL_law_993 rfl ?_
  refine r_iadd X.1 dL_law_994 ?_
  refine r_sld X (vp_ik (k := 1) X.2.2.2.2 (by omega)) dL_law_995 ?_
  refine cL_127 X.1 (m_X9_unguarded l h) ⟨Nat.le_of_ble_eq_true rfl, Nat.le_of_ble_eq_true rfl⟩ (Nat.le_of_ble_eq_true rfl) hkn dL_law_996 (fun r2 M2 h => ?_)
  exact r_icmp_eq X.1 1354 dL_law_999 (by decide) (fun _ => k M2 h.2) (fun q => absurd h.1 q)
set_option maxHeartbeats 1000000 in
theorem law_24 (X : lawC p s m meth c D cy ad b L xs) {i cn : Nat} (hi : i + 6 ≤ L) (hc : cn < 100000) (hkn : k0 ≤ room_1.cells ∧ n0 ≤ room_1.slots) (H : Inv cn M) (k : ∀ M', Inv (cn + 1) M' → rw_W p l e room_1 s m #[Value.ref b] below meth c D cy ad 7 k0 n0 (lw_Z below #[Value.ref b] s) (1354) [(4, .int (nI i)), (3, .ref (ad 40)), (2, .ref (ad 0)), (1, .ref (ad 41)), (0, .ref b)] [] M') : rw_W p l e room_1 s m #[Value.ref b] below meth c D cy ad 7 k0 n0 (lw_Z below #[Value.ref b] s) (1004) [(4, .int (nI i)), (3, .ref (ad 40)), (2, .ref (ad 0)), (1, .ref (ad 41)), (0, .ref b)] [] M := by
  refine r_aload_n X.1 3 dL_law_1004 rfl rfl ?_
  have h := P_lost (c := cn) (M := M) hc H
  refine cL_128 X.1 (m_X8_lost l h) ⟨Nat.le_of_ble_eq_true rfl, Nat.le_of_ble_eq_true rfl⟩ (Nat.le_of_ble_eq_true rfl) hkn dL_law_1005 (fun r1 M1 h => ?_)
  refine r_aload_n X.1 2 dL_law_1008 rfl rfl ?_
  refine cL_131 X.1 (m_X9_lost l h) ⟨Nat.le_of_ble_eq_true rfl, Nat.le_of_ble_eq_true rfl⟩ (Nat.le_of_ble_eq_true rfl) hkn dL_law_1009 (fun r2 M2 h => ?_)
  exact r_icmp_eq X.1 1354 dL_law_1012 (by decide) (fun _ => k M2 h.2) (fun q => absurd h.1 q)
set_option maxHeartbeats 1000000 in
theorem law_25 (X : lawC p s m meth c D cy ad b L xs) {i cn : Nat} (hi : i + 6 ≤ L) (hc : cn < 100000) (hkn : k0 ≤ room_1.cells ∧ n0 ≤ room_1.slots) (H : Inv cn M) (k : ∀ M', Inv (cn + 1) M' → rw_W p l e room_1 s m #[Value.ref b] below meth c D cy ad 7 k0 n0 (lw_Z below #[Value.ref b] s) (1354) [(4, .int (nI i)), (3, .ref (ad 40)), (2, .ref (ad 0)), (1, .ref (ad 41)), (0, .ref b)] [] M') : rw_W p l e room_1 s m #[Value.ref b] below meth c D cy ad 7 k0 n0 (lw_Z below #[Value.ref b] s) (1017) [(4, .int (nI i)), (3, .ref (ad 40)), (2, .ref (ad 0)), (1, .ref (ad 41)), (0, .ref b)] [] M := by
  refine r_aload_n X.1 3 dL_law_1017 rfl rfl ?_
  refine r_aload_n X.1 4 dL_law_1018 rfl rfl ?_
  refine r_iload X.1 0 dL_law_1019 rfl ?_
  refine r_iconst (v := (1 : Int32)) X.1 dL_law_1021 rfl ?_
  refine r_iadd X.1 dL_law_1022 ?_
  refine r_sld X (vp_ik (k := 1) X.2.2.2.2 (by omega)) dL_law_1023 ?_
  refine r_aload_n X.1 4 dL_law_1024 rfl rfl ?_
  refine r_iload X.1 0 dL_law_1025 rfl ?_
  refine r_iconst (v := (2 : Int32)) X.1 dL_law_1027 rfl ?_
  refine r_iadd X.1 dL_law_1028 ?_
  refine r_sld X (vp_ik (k := 2) X.2.2.2.2 (by omega)) dL_law_1029 ?_
  have h := P_aim (v1 := xs (nI i + nI 1).toNatClampNeg) (v2 := xs (nI i + nI 2).toNatClampNeg) (c := cn) (M := M) hc H
  refine cL_132 X.1 (m_X8_aim l h) ⟨Nat.le_of_ble_eq_true rfl, Nat.le_of_ble_eq_true rfl⟩ (Nat.le_of_ble_eq_true rfl) hkn dL_law_1030 (fun r1 M1 h => ?_)
  refine r_aload_n X.1 2 dL_law_1033 rfl rfl ?_
  refine r_aload_n X.1 4 dL_law_1034 rfl rfl ?_
  refine r_iload X.1 0 dL_law_1035 rfl ?_
  refine r_iconst (v := (1 : Int32)) X.1 dL_law_1037 rfl ?_
  refine r_iadd X.1 dL_law_1038 ?_
  refine r_sld X (vp_ik (k := 1) X.2.2.2.2 (by omega)) dL_law_1039 ?_
  refine r_aload_n X.1 4 dL_law_1040 rfl rfl ?_
  refine r_iload X.1 0 dL_law_1041 rfl ?_
  refine r_iconst (v := (2 : Int32)) X.1 dL_law_1043 rfl ?_
  refine r_iadd X.1 dL_law_1044 ?_
  refine r_sld X (vp_ik (k := 2) X.2.2.2.2 (by omega)) dL_law_1045 ?_
  refine cL_135 X.1 (m_X9_aim l h) ⟨Nat.le_of_ble_eq_true rfl, Nat.le_of_ble_eq_true rfl⟩ (Nat.le_of_ble_eq_true rfl) hkn dL_law_1046 (fun r2 M2 h => ?_)
  exact r_icmp_eq X.1 1354 dL_law_1049 (by decide) (fun _ => k M2 h.2) (fun q => absurd h.1 q)
set_option maxHeartbeats 1000000 in
theorem law_26 (X : lawC p s m meth c D cy ad b L xs) {i cn : Nat} (hi : i + 6 ≤ L) (hc : cn < 100000) (hkn : k0 ≤ room_1.cells ∧ n0 ≤ room_1.slots) (H : Inv cn M) (k : ∀ M', Inv (cn + 1) M' → rw_W p l e room_1 s m #[Value.ref b] below meth c D cy ad 7 k0 n0 (lw_Z below #[Value.ref b] s) (1354) [(4, .int (nI i)), (3, .ref (ad 40)), (2, .ref (ad 0)), (1, .ref (ad 41)), (0, .ref b)] [] M') : rw_W p l e room_1 s m #[Value.ref b] below meth c D cy ad 7 k0 n0 (lw_Z below #[Value.ref b] s) (1054) [(4, .int (nI i)), (3, .ref (ad 40)), (2, .ref (ad 0)), (1, .ref (ad 41)), (0, .ref b)] [] M := by
  refine r_aload_n X.1 3 dL_law_1054 rfl rfl ?_
  refine r_aload_n X.1 4 dL_law_1055 rfl rfl ?_
  refine r_iload X.1 0 dL_law_1056 rfl ?_
  refine r_iconst (v := (1 : Int32)) X.1 dL_law_1058 rfl ?_
  refine r_iadd X.1 dL_law_1059 ?_
  refine r_sld X (vp_ik (k := 1) X.2.2.2.2 (by omega)) dL_law_1060 ?_
  have h := P_counts (v1 := xs (nI i + nI 1).toNatClampNeg) (c := cn) (M := M) hc H
  refine cL_136 X.1 (m_X8_counts l h) ⟨Nat.le_of_ble_eq_true rfl, Nat.le_of_ble_eq_true rfl⟩ (Nat.le_of_ble_eq_true rfl) hkn dL_law_1061 (fun r1 M1 h => ?_)
  refine r_aload_n X.1 2 dL_law_1064 rfl rfl ?_
  refine r_aload_n X.1 4 dL_law_1065 rfl rfl ?_
  refine r_iload X.1 0 dL_law_1066 rfl ?_
  refine r_iconst (v := (1 : Int32)) X.1 dL_law_1068 rfl ?_
  refine r_iadd X.1 dL_law_1069 ?_
  refine r_sld X (vp_ik (k := 1) X.2.2.2.2 (by omega)) dL_law_1070 ?_
  refine cL_139 X.1 (m_X9_counts l h) ⟨Nat.le_of_ble_eq_true rfl, Nat.le_of_ble_eq_true rfl⟩ (Nat.le_of_ble_eq_true rfl) hkn dL_law_1071 (fun r2 M2 h => ?_)
  exact r_icmp_eq X.1 1354 dL_law_1074 (by decide) (fun _ => k M2 h.2) (fun q => absurd h.1 q)
set_option maxHeartbeats 1000000 in
theorem law_27 (X : lawC p s m meth c D cy ad b L xs) {i cn : Nat} (hi : i + 6 ≤ L) (hc : cn < 100000) (hkn : k0 ≤ room_1.cells ∧ n0 ≤ room_1.slots) (H : Inv cn M) (k : ∀ M', Inv (cn + 1) M' → rw_W p l e room_1 s m #[Value.ref b] below meth c D cy ad 7 k0 n0 (lw_Z below #[Value.ref b] s) (1354) [(4, .int (nI i)), (3, .ref (ad 40)), (2, .ref (ad 0)), (1, .ref (ad 41)), (0, .ref b)] [] M') : rw_W p l e room_1 s m #[Value.ref b] below meth c D cy ad 7 k0 n0 (lw_Z below #[Value.ref b] s) (1079) [(4, .int (nI i)), (3, .ref (ad 40)), (2, .ref (ad 0)), (1, .ref (ad 41)), (0, .ref b)] [] M := by
  refine r_aload_n X.1 3 dL_law_1079 rfl rfl ?_
  refine r_aload_n X.1 4 dL_law_1080 rfl rfl ?_
  refine r_iload X.1 0 dL_law_1081 rfl ?_
  refine r_iconst (v := (1 : Int32)) X.1 dL_law_1083 rfl ?_
  refine r_iadd X.1 dL_law_1084 ?_
  refine r_sld X (vp_ik (k := 1) X.2.2.2.2 (by omega)) dL_law_1085 ?_
  have h := P_order (v1 := xs (nI i + nI 1).toNatClampNeg) (c := cn) (M := M) hc H
  refine cL_140 X.1 (m_X8_order l h) ⟨Nat.le_of_ble_eq_true rfl, Nat.le_of_ble_eq_true rfl⟩ (Nat.le_of_ble_eq_true rfl) hkn dL_law_1086 (fun r1 M1 h => ?_)
  refine r_aload_n X.1 2 dL_law_1089 rfl rfl ?_
  refine r_aload_n X.1 4 dL_law_1090 rfl rfl ?_
  refine r_iload X.1 0 dL_law_1091 rfl ?_
  refine r_iconst (v := (1 : Int32)) X.1 dL_law_1093 rfl ?_
  refine r_iadd X.1 dL_law_1094 ?_
  refine r_sld X (vp_ik (k := 1) X.2.2.2.2 (by omega)) dL_law_1095 ?_
  refine cL_143 X.1 (m_X9_order l h) ⟨Nat.le_of_ble_eq_true rfl, Nat.le_of_ble_eq_true rfl⟩ (Nat.le_of_ble_eq_true rfl) hkn dL_law_1096 (fun r2 M2 h => ?_)
  exact r_icmp_eq X.1 1354 dL_law_1099 (by decide) (fun _ => k M2 h.2) (fun q => absurd h.1 q)
set_option maxHeartbeats 1000000 in
theorem law_28 (X : lawC p s m meth c D cy ad b L xs) {i cn : Nat} (hi : i + 6 ≤ L) (hc : cn < 100000) (hkn : k0 ≤ room_1.cells ∧ n0 ≤ room_1.slots) (H : Inv cn M) (k : ∀ M', Inv (cn + 1) M' → rw_W p l e room_1 s m #[Value.ref b] below meth c D cy ad 7 k0 n0 (lw_Z below #[Value.ref b] s) (1354) [(4, .int (nI i)), (3, .ref (ad 40)), (2, .ref (ad 0)), (1, .ref (ad 41)), (0, .ref b)] [] M') : rw_W p l e room_1 s m #[Value.ref b] below meth c D cy ad 7 k0 n0 (lw_Z below #[Value.ref b] s) (1104) [(4, .int (nI i)), (3, .ref (ad 40)), (2, .ref (ad 0)), (1, .ref (ad 41)), (0, .ref b)] [] M := by
  refine r_aload_n X.1 3 dL_law_1104 rfl rfl ?_
  have h := P_reaches (c := cn) (M := M) hc H
  refine cL_144 X.1 (m_X8_reaches l h) ⟨Nat.le_of_ble_eq_true rfl, Nat.le_of_ble_eq_true rfl⟩ (Nat.le_of_ble_eq_true rfl) hkn dL_law_1105 (fun r1 M1 h => ?_)
  refine r_aload_n X.1 2 dL_law_1108 rfl rfl ?_
  refine cL_147 X.1 (m_X9_reaches l h) ⟨Nat.le_of_ble_eq_true rfl, Nat.le_of_ble_eq_true rfl⟩ (Nat.le_of_ble_eq_true rfl) hkn dL_law_1109 (fun r2 M2 h => ?_)
  exact r_icmp_eq X.1 1354 dL_law_1112 (by decide) (fun _ => k M2 h.2) (fun q => absurd h.1 q)
set_option maxHeartbeats 1000000 in
theorem law_29 (X : lawC p s m meth c D cy ad b L xs) {i cn : Nat} (hi : i + 6 ≤ L) (hc : cn < 100000) (hkn : k0 ≤ room_1.cells ∧ n0 ≤ room_1.slots) (H : Inv cn M) (k : ∀ M', Inv (cn + 1) M' → rw_W p l e room_1 s m #[Value.ref b] below meth c D cy ad 7 k0 n0 (lw_Z below #[Value.ref b] s) (1354) [(4, .int (nI i)), (3, .ref (ad 40)), (2, .ref (ad 0)), (1, .ref (ad 41)), (0, .ref b)] [] M') : rw_W p l e room_1 s m #[Value.ref b] below meth c D cy ad 7 k0 n0 (lw_Z below #[Value.ref b] s) (1117) [(4, .int (nI i)), (3, .ref (ad 40)), (2, .ref (ad 0)), (1, .ref (ad 41)), (0, .ref b)] [] M := by
  refine r_aload_n X.1 3 dL_law_1117 rfl rfl ?_
  refine r_aload_n X.1 4 dL_law_1118 rfl rfl ?_
  refine r_iload X.1 0 dL_law_1119 rfl ?_
  refine r_iconst (v := (1 : Int32)) X.1 dL_law_1121 rfl ?_
  refine r_iadd X.1 dL_law_1122 ?_
  refine r_sld X (vp_ik (k := 1) X.2.2.2.2 (by omega)) dL_law_1123 ?_
  have h := P_graph (v1 := xs (nI i + nI 1).toNatClampNeg) (c := cn) (M := M) hc H
  refine cL_148 X.1 (m_X8_graph l h) ⟨Nat.le_of_ble_eq_true rfl, Nat.le_of_ble_eq_true rfl⟩ (Nat.le_of_ble_eq_true rfl) hkn dL_law_1124 (fun r1 M1 h => ?_)
  refine r_aload_n X.1 2 dL_law_1127 rfl rfl ?_
  refine r_aload_n X.1 4 dL_law_1128 rfl rfl ?_
  refine r_iload X.1 0 dL_law_1129 rfl ?_
  refine r_iconst (v := (1 : Int32)) X.1 dL_law_1131 rfl ?_
  refine r_iadd X.1 dL_law_1132 ?_
  refine r_sld X (vp_ik (k := 1) X.2.2.2.2 (by omega)) dL_law_1133 ?_
  refine cL_151 X.1 (m_X9_graph l h) ⟨Nat.le_of_ble_eq_true rfl, Nat.le_of_ble_eq_true rfl⟩ (Nat.le_of_ble_eq_true rfl) hkn dL_law_1134 (fun r2 M2 h => ?_)
  exact r_icmp_eq X.1 1354 dL_law_1137 (by decide) (fun _ => k M2 h.2) (fun q => absurd h.1 q)
set_option maxHeartbeats 1000000 in
theorem law_30 (X : lawC p s m meth c D cy ad b L xs) {i cn : Nat} (hi : i + 6 ≤ L) (hc : cn < 100000) (hkn : k0 ≤ room_1.cells ∧ n0 ≤ room_1.slots) (H : Inv cn M) (k : ∀ M', Inv (cn + 1) M' → rw_W p l e room_1 s m #[Value.ref b] below meth c D cy ad 7 k0 n0 (lw_Z below #[Value.ref b] s) (1354) [(4, .int (nI i)), (3, .ref (ad 40)), (2, .ref (ad 0)), (1, .ref (ad 41)), (0, .ref b)] [] M') : rw_W p l e room_1 s m #[Value.ref b] below meth c D cy ad 7 k0 n0 (lw_Z below #[Value.ref b] s) (1142) [(4, .int (nI i)), (3, .ref (ad 40)), (2, .ref (ad 0)), (1, .ref (ad 41)), (0, .ref b)] [] M := by
  refine r_aload_n X.1 3 dL_law_1142 rfl rfl ?_
  refine r_aload_n X.1 4 dL_law_1143 rfl rfl ?_
  refine r_iload X.1 0 dL_law_1144 rfl ?_
  refine r_iconst (v := (1 : Int32)) X.1 dL_law_1146 rfl ?_
  refine r_iadd X.1 dL_law_1147 ?_
  refine r_sld X (vp_ik (k := 1) X.2.2.2.2 (by omega)) dL_law_1148 ?_
  refine r_aload_n X.1 4 dL_law_1149 rfl rfl ?_
  refine r_iload X.1 0 dL_law_1150 rfl ?_
  refine r_iconst (v := (2 : Int32)) X.1 dL_law_1152 rfl ?_
  refine r_iadd X.1 dL_law_1153 ?_
  refine r_sld X (vp_ik (k := 2) X.2.2.2.2 (by omega)) dL_law_1154 ?_
  have h := P_marking (v1 := xs (nI i + nI 1).toNatClampNeg) (v2 := xs (nI i + nI 2).toNatClampNeg) (c := cn) (M := M) hc H
  refine cL_152 X.1 (m_X8_marking l h) ⟨Nat.le_of_ble_eq_true rfl, Nat.le_of_ble_eq_true rfl⟩ (Nat.le_of_ble_eq_true rfl) hkn dL_law_1155 (fun r1 M1 h => ?_)
  refine r_aload_n X.1 2 dL_law_1158 rfl rfl ?_
  refine r_aload_n X.1 4 dL_law_1159 rfl rfl ?_
  refine r_iload X.1 0 dL_law_1160 rfl ?_
  refine r_iconst (v := (1 : Int32)) X.1 dL_law_1162 rfl ?_
  refine r_iadd X.1 dL_law_1163 ?_
  refine r_sld X (vp_ik (k := 1) X.2.2.2.2 (by omega)) dL_law_1164 ?_
  refine r_aload_n X.1 4 dL_law_1165 rfl rfl ?_
  refine r_iload X.1 0 dL_law_1166 rfl ?_
  refine r_iconst (v := (2 : Int32)) X.1 dL_law_1168 rfl ?_
  refine r_iadd X.1 dL_law_1169 ?_
  refine r_sld X (vp_ik (k := 2) X.2.2.2.2 (by omega)) dL_law_1170 ?_
  refine cL_155 X.1 (m_X9_marking l h) ⟨Nat.le_of_ble_eq_true rfl, Nat.le_of_ble_eq_true rfl⟩ (Nat.le_of_ble_eq_true rfl) hkn dL_law_1171 (fun r2 M2 h => ?_)
  exact r_icmp_eq X.1 1354 dL_law_1174 (by decide) (fun _ => k M2 h.2) (fun q => absurd h.1 q)
set_option maxHeartbeats 1000000 in
theorem law_31 (X : lawC p s m meth c D cy ad b L xs) {i cn : Nat} (hi : i + 6 ≤ L) (hc : cn < 100000) (hkn : k0 ≤ room_1.cells ∧ n0 ≤ room_1.slots) (H : Inv cn M) (k : ∀ M', Inv (cn + 1) M' → rw_W p l e room_1 s m #[Value.ref b] below meth c D cy ad 7 k0 n0 (lw_Z below #[Value.ref b] s) (1354) [(4, .int (nI i)), (3, .ref (ad 40)), (2, .ref (ad 0)), (1, .ref (ad 41)), (0, .ref b)] [] M') : rw_W p l e room_1 s m #[Value.ref b] below meth c D cy ad 7 k0 n0 (lw_Z below #[Value.ref b] s) (1179) [(4, .int (nI i)), (3, .ref (ad 40)), (2, .ref (ad 0)), (1, .ref (ad 41)), (0, .ref b)] [] M := by
  refine r_aload_n X.1 3 dL_law_1179 rfl rfl ?_
  refine r_aload_n X.1 4 dL_law_1180 rfl rfl ?_
  refine r_iload X.1 0 dL_law_1181 rfl ?_
  refine r_iconst (v := (1 : Int32)) X.1 dL_law_1183 rfl ?_
  refine r_iadd X.1 dL_law_1184 ?_
  refine r_sld X (vp_ik (k := 1) X.2.2.2.2 (by omega)) dL_law_1185 ?_
  refine r_aload_n X.1 4 dL_law_1186 rfl rfl ?_
  refine r_iload X.1 0 dL_law_1187 rfl ?_
  refine r_iconst (v := (2 : Int32)) X.1 dL_law_1189 rfl ?_
  refine r_iadd X.1 dL_law_1190 ?_
  refine r_sld X (vp_ik (k := 2) X.2.2.2.2 (by omega)) dL_law_1191 ?_
  have h := P_came (v1 := xs (nI i + nI 1).toNatClampNeg) (v2 := xs (nI i + nI 2).toNatClampNeg) (c := cn) (M := M) hc H
  refine cL_156 X.1 (m_X8_came l h) ⟨Nat.le_of_ble_eq_true rfl, Nat.le_of_ble_eq_true rfl⟩ (Nat.le_of_ble_eq_true rfl) hkn dL_law_1192 (fun r1 M1 h => ?_)
  refine r_aload_n X.1 2 dL_law_1195 rfl rfl ?_
  refine r_aload_n X.1 4 dL_law_1196 rfl rfl ?_
  refine r_iload X.1 0 dL_law_1197 rfl ?_
  refine r_iconst (v := (1 : Int32)) X.1 dL_law_1199 rfl ?_
  refine r_iadd X.1 dL_law_1200 ?_
  refine r_sld X (vp_ik (k := 1) X.2.2.2.2 (by omega)) dL_law_1201 ?_
  refine r_aload_n X.1 4 dL_law_1202 rfl rfl ?_
  refine r_iload X.1 0 dL_law_1203 rfl ?_
  refine r_iconst (v := (2 : Int32)) X.1 dL_law_1205 rfl ?_
  refine r_iadd X.1 dL_law_1206 ?_
  refine r_sld X (vp_ik (k := 2) X.2.2.2.2 (by omega)) dL_law_1207 ?_
  refine cL_159 X.1 (m_X9_came l h) ⟨Nat.le_of_ble_eq_true rfl, Nat.le_of_ble_eq_true rfl⟩ (Nat.le_of_ble_eq_true rfl) hkn dL_law_1208 (fun r2 M2 h => ?_)
  exact r_icmp_eq X.1 1354 dL_law_1211 (by decide) (fun _ => k M2 h.2) (fun q => absurd h.1 q)
set_option maxHeartbeats 1000000 in
theorem law_32 (X : lawC p s m meth c D cy ad b L xs) {i cn : Nat} (hi : i + 6 ≤ L) (hc : cn < 100000) (hkn : k0 ≤ room_1.cells ∧ n0 ≤ room_1.slots) (H : Inv cn M) (k : ∀ M', Inv (cn + 1) M' → rw_W p l e room_1 s m #[Value.ref b] below meth c D cy ad 7 k0 n0 (lw_Z below #[Value.ref b] s) (1354) [(4, .int (nI i)), (3, .ref (ad 40)), (2, .ref (ad 0)), (1, .ref (ad 41)), (0, .ref b)] [] M') : rw_W p l e room_1 s m #[Value.ref b] below meth c D cy ad 7 k0 n0 (lw_Z below #[Value.ref b] s) (1216) [(4, .int (nI i)), (3, .ref (ad 40)), (2, .ref (ad 0)), (1, .ref (ad 41)), (0, .ref b)] [] M := by
  refine r_aload_n X.1 3 dL_law_1216 rfl rfl ?_
  refine r_aload_n X.1 4 dL_law_1217 rfl rfl ?_
  refine r_iload X.1 0 dL_law_1218 rfl ?_
  refine r_iconst (v := (1 : Int32)) X.1 dL_law_1220 rfl ?_
  refine r_iadd X.1 dL_law_1221 ?_
  refine r_sld X (vp_ik (k := 1) X.2.2.2.2 (by omega)) dL_law_1222 ?_
  have h := P_live (v1 := xs (nI i + nI 1).toNatClampNeg) (c := cn) (M := M) hc H
  refine cL_160 X.1 (m_X8_live l h) ⟨Nat.le_of_ble_eq_true rfl, Nat.le_of_ble_eq_true rfl⟩ (Nat.le_of_ble_eq_true rfl) hkn dL_law_1223 (fun r1 M1 h => ?_)
  refine r_aload_n X.1 2 dL_law_1226 rfl rfl ?_
  refine r_aload_n X.1 4 dL_law_1227 rfl rfl ?_
  refine r_iload X.1 0 dL_law_1228 rfl ?_
  refine r_iconst (v := (1 : Int32)) X.1 dL_law_1230 rfl ?_
  refine r_iadd X.1 dL_law_1231 ?_
  refine r_sld X (vp_ik (k := 1) X.2.2.2.2 (by omega)) dL_law_1232 ?_
  refine cL_163 X.1 (m_X9_live l h) ⟨Nat.le_of_ble_eq_true rfl, Nat.le_of_ble_eq_true rfl⟩ (Nat.le_of_ble_eq_true rfl) hkn dL_law_1233 (fun r2 M2 h => ?_)
  exact r_icmp_eq X.1 1354 dL_law_1236 (by decide) (fun _ => k M2 h.2) (fun q => absurd h.1 q)
set_option maxHeartbeats 1000000 in
theorem law_33 (X : lawC p s m meth c D cy ad b L xs) {i cn : Nat} (hi : i + 6 ≤ L) (hc : cn < 100000) (hkn : k0 ≤ room_1.cells ∧ n0 ≤ room_1.slots) (H : Inv cn M) (k : ∀ M', Inv (cn + 1) M' → rw_W p l e room_1 s m #[Value.ref b] below meth c D cy ad 7 k0 n0 (lw_Z below #[Value.ref b] s) (1354) [(4, .int (nI i)), (3, .ref (ad 40)), (2, .ref (ad 0)), (1, .ref (ad 41)), (0, .ref b)] [] M') : rw_W p l e room_1 s m #[Value.ref b] below meth c D cy ad 7 k0 n0 (lw_Z below #[Value.ref b] s) (1241) [(4, .int (nI i)), (3, .ref (ad 40)), (2, .ref (ad 0)), (1, .ref (ad 41)), (0, .ref b)] [] M := by
  refine r_aload_n X.1 3 dL_law_1241 rfl rfl ?_
  refine r_aload_n X.1 4 dL_law_1242 rfl rfl ?_
  refine r_iload X.1 0 dL_law_1243 rfl ?_
  refine r_iconst (v := (1 : Int32)) X.1 dL_law_1245 rfl ?_
  refine r_iadd X.1 dL_law_1246 ?_
  refine r_sld X (vp_ik (k := 1) X.2.2.2.2 (by omega)) dL_law_1247 ?_
  have h := P_most (v1 := xs (nI i + nI 1).toNatClampNeg) (c := cn) (M := M) hc H
  refine cL_164 X.1 (m_X8_most l h) ⟨Nat.le_of_ble_eq_true rfl, Nat.le_of_ble_eq_true rfl⟩ (Nat.le_of_ble_eq_true rfl) hkn dL_law_1248 (fun r1 M1 h => ?_)
  refine r_aload_n X.1 2 dL_law_1251 rfl rfl ?_
  refine r_aload_n X.1 4 dL_law_1252 rfl rfl ?_
  refine r_iload X.1 0 dL_law_1253 rfl ?_
  refine r_iconst (v := (1 : Int32)) X.1 dL_law_1255 rfl ?_
  refine r_iadd X.1 dL_law_1256 ?_
  refine r_sld X (vp_ik (k := 1) X.2.2.2.2 (by omega)) dL_law_1257 ?_
  refine cL_167 X.1 (m_X9_most l h) ⟨Nat.le_of_ble_eq_true rfl, Nat.le_of_ble_eq_true rfl⟩ (Nat.le_of_ble_eq_true rfl) hkn dL_law_1258 (fun r2 M2 h => ?_)
  exact r_icmp_eq X.1 1354 dL_law_1261 (by decide) (fun _ => k M2 h.2) (fun q => absurd h.1 q)
set_option maxHeartbeats 1000000 in
theorem law_34 (X : lawC p s m meth c D cy ad b L xs) {i cn : Nat} (hi : i + 6 ≤ L) (hc : cn < 100000) (hkn : k0 ≤ room_1.cells ∧ n0 ≤ room_1.slots) (H : Inv cn M) (k : ∀ M', Inv (cn + 1) M' → rw_W p l e room_1 s m #[Value.ref b] below meth c D cy ad 7 k0 n0 (lw_Z below #[Value.ref b] s) (1354) [(4, .int (nI i)), (3, .ref (ad 40)), (2, .ref (ad 0)), (1, .ref (ad 41)), (0, .ref b)] [] M') : rw_W p l e room_1 s m #[Value.ref b] below meth c D cy ad 7 k0 n0 (lw_Z below #[Value.ref b] s) (1266) [(4, .int (nI i)), (3, .ref (ad 40)), (2, .ref (ad 0)), (1, .ref (ad 41)), (0, .ref b)] [] M := by
  refine r_aload_n X.1 3 dL_law_1266 rfl rfl ?_
  have h := P_reduce (c := cn) (M := M) hc H
  refine cL_168 X.1 (m_X8_reduce l h) ⟨Nat.le_of_ble_eq_true rfl, Nat.le_of_ble_eq_true rfl⟩ (Nat.le_of_ble_eq_true rfl) hkn dL_law_1267 (fun r1 M1 h => ?_)
  refine r_aload_n X.1 2 dL_law_1270 rfl rfl ?_
  refine cL_171 X.1 (m_X9_reduce l h) ⟨Nat.le_of_ble_eq_true rfl, Nat.le_of_ble_eq_true rfl⟩ (Nat.le_of_ble_eq_true rfl) hkn dL_law_1271 (fun r2 M2 h => ?_)
  exact r_icmp_eq X.1 1354 dL_law_1274 (by decide) (fun _ => k M2 h.2) (fun q => absurd h.1 q)
set_option maxHeartbeats 1000000 in
theorem law_35 (X : lawC p s m meth c D cy ad b L xs) {i cn : Nat} (hi : i + 6 ≤ L) (hc : cn < 100000) (hkn : k0 ≤ room_1.cells ∧ n0 ≤ room_1.slots) (H : Inv cn M) (k : ∀ M', Inv (cn + 1) M' → rw_W p l e room_1 s m #[Value.ref b] below meth c D cy ad 7 k0 n0 (lw_Z below #[Value.ref b] s) (1354) [(4, .int (nI i)), (3, .ref (ad 40)), (2, .ref (ad 0)), (1, .ref (ad 41)), (0, .ref b)] [] M') : rw_W p l e room_1 s m #[Value.ref b] below meth c D cy ad 7 k0 n0 (lw_Z below #[Value.ref b] s) (1279) [(4, .int (nI i)), (3, .ref (ad 40)), (2, .ref (ad 0)), (1, .ref (ad 41)), (0, .ref b)] [] M := by
  refine r_aload_n X.1 3 dL_law_1279 rfl rfl ?_
  refine r_aload_n X.1 4 dL_law_1280 rfl rfl ?_
  refine r_iload X.1 0 dL_law_1281 rfl ?_
  refine r_iconst (v := (1 : Int32)) X.1 dL_law_1283 rfl ?_
  refine r_iadd X.1 dL_law_1284 ?_
  refine r_sld X (vp_ik (k := 1) X.2.2.2.2 (by omega)) dL_law_1285 ?_
  refine r_aload_n X.1 4 dL_law_1286 rfl rfl ?_
  refine r_iload X.1 0 dL_law_1287 rfl ?_
  refine r_iconst (v := (2 : Int32)) X.1 dL_law_1289 rfl ?_
  refine r_iadd X.1 dL_law_1290 ?_
  refine r_sld X (vp_ik (k := 2) X.2.2.2.2 (by omega)) dL_law_1291 ?_
  have h := P_rule (v1 := xs (nI i + nI 1).toNatClampNeg) (v2 := xs (nI i + nI 2).toNatClampNeg) (c := cn) (M := M) hc H
  refine cL_172 X.1 (m_X8_rule l h) ⟨Nat.le_of_ble_eq_true rfl, Nat.le_of_ble_eq_true rfl⟩ (Nat.le_of_ble_eq_true rfl) hkn dL_law_1292 (fun r1 M1 h => ?_)
  refine r_aload_n X.1 2 dL_law_1295 rfl rfl ?_
  refine r_aload_n X.1 4 dL_law_1296 rfl rfl ?_
  refine r_iload X.1 0 dL_law_1297 rfl ?_
  refine r_iconst (v := (1 : Int32)) X.1 dL_law_1299 rfl ?_
  refine r_iadd X.1 dL_law_1300 ?_
  refine r_sld X (vp_ik (k := 1) X.2.2.2.2 (by omega)) dL_law_1301 ?_
  refine r_aload_n X.1 4 dL_law_1302 rfl rfl ?_
  refine r_iload X.1 0 dL_law_1303 rfl ?_
  refine r_iconst (v := (2 : Int32)) X.1 dL_law_1305 rfl ?_
  refine r_iadd X.1 dL_law_1306 ?_
  refine r_sld X (vp_ik (k := 2) X.2.2.2.2 (by omega)) dL_law_1307 ?_
  refine cL_175 X.1 (m_X9_rule l h) ⟨Nat.le_of_ble_eq_true rfl, Nat.le_of_ble_eq_true rfl⟩ (Nat.le_of_ble_eq_true rfl) hkn dL_law_1308 (fun r2 M2 h => ?_)
  exact r_icmp_eq X.1 1354 dL_law_1311 (by decide) (fun _ => k M2 h.2) (fun q => absurd h.1 q)
set_option maxHeartbeats 1000000 in
theorem law_36 (X : lawC p s m meth c D cy ad b L xs) {i cn : Nat} (hi : i + 6 ≤ L) (hc : cn < 100000) (hkn : k0 ≤ room_1.cells ∧ n0 ≤ room_1.slots) (H : Inv cn M) (k : ∀ M', Inv (cn + 1) M' → rw_W p l e room_1 s m #[Value.ref b] below meth c D cy ad 7 k0 n0 (lw_Z below #[Value.ref b] s) (1354) [(4, .int (nI i)), (3, .ref (ad 40)), (2, .ref (ad 0)), (1, .ref (ad 41)), (0, .ref b)] [] M') : rw_W p l e room_1 s m #[Value.ref b] below meth c D cy ad 7 k0 n0 (lw_Z below #[Value.ref b] s) (1316) [(4, .int (nI i)), (3, .ref (ad 40)), (2, .ref (ad 0)), (1, .ref (ad 41)), (0, .ref b)] [] M := by
  refine r_aload_n X.1 3 dL_law_1316 rfl rfl ?_
  refine r_aload_n X.1 4 dL_law_1317 rfl rfl ?_
  refine r_iload X.1 0 dL_law_1318 rfl ?_
  refine r_iconst (v := (1 : Int32)) X.1 dL_law_1320 rfl ?_
  refine r_iadd X.1 dL_law_1321 ?_
  refine r_sld X (vp_ik (k := 1) X.2.2.2.2 (by omega)) dL_law_1322 ?_
  have h := P_reduced (v1 := xs (nI i + nI 1).toNatClampNeg) (c := cn) (M := M) hc H
  refine cL_176 X.1 (m_X8_reduced l h) ⟨Nat.le_of_ble_eq_true rfl, Nat.le_of_ble_eq_true rfl⟩ (Nat.le_of_ble_eq_true rfl) hkn dL_law_1323 (fun r1 M1 h => ?_)
  refine r_aload_n X.1 2 dL_law_1326 rfl rfl ?_
  refine r_aload_n X.1 4 dL_law_1327 rfl rfl ?_
  refine r_iload X.1 0 dL_law_1328 rfl ?_
  refine r_iconst (v := (1 : Int32)) X.1 dL_law_1330 rfl ?_
  refine r_iadd X.1 dL_law_1331 ?_
  refine r_sld X (vp_ik (k := 1) X.2.2.2.2 (by omega)) dL_law_1332 ?_
  refine cL_179 X.1 (m_X9_reduced l h) ⟨Nat.le_of_ble_eq_true rfl, Nat.le_of_ble_eq_true rfl⟩ (Nat.le_of_ble_eq_true rfl) hkn dL_law_1333 (fun r2 M2 h => ?_)
  exact r_icmp_eq X.1 1354 dL_law_1336 (by decide) (fun _ => k M2 h.2) (fun q => absurd h.1 q)
set_option maxHeartbeats 1000000 in
theorem law_37 (X : lawC p s m meth c D cy ad b L xs) {i cn : Nat} (hi : i + 6 ≤ L) (hc : cn < 100000) (hkn : k0 ≤ room_1.cells ∧ n0 ≤ room_1.slots) (H : Inv cn M) (k : ∀ M', Inv (cn + 1) M' → rw_W p l e room_1 s m #[Value.ref b] below meth c D cy ad 7 k0 n0 (lw_Z below #[Value.ref b] s) (1354) [(4, .int (nI i)), (3, .ref (ad 40)), (2, .ref (ad 0)), (1, .ref (ad 41)), (0, .ref b)] [] M') : rw_W p l e room_1 s m #[Value.ref b] below meth c D cy ad 7 k0 n0 (lw_Z below #[Value.ref b] s) (1341) [(4, .int (nI i)), (3, .ref (ad 40)), (2, .ref (ad 0)), (1, .ref (ad 41)), (0, .ref b)] [] M := by
  refine r_aload_n X.1 3 dL_law_1341 rfl rfl ?_
  have h := P_become (c := cn) (M := M) hc H
  refine cL_180 X.1 (m_X8_become l h) ⟨Nat.le_of_ble_eq_true rfl, Nat.le_of_ble_eq_true rfl⟩ (Nat.le_of_ble_eq_true rfl) hkn dL_law_1342 (fun r1 M1 h => ?_)
  refine r_aload_n X.1 2 dL_law_1345 rfl rfl ?_
  refine cL_183 X.1 (m_X9_become l h) ⟨Nat.le_of_ble_eq_true rfl, Nat.le_of_ble_eq_true rfl⟩ (Nat.le_of_ble_eq_true rfl) hkn dL_law_1346 (fun r2 M2 h => ?_)
  exact r_icmp_eq X.1 1354 dL_law_1349 (by decide) (fun _ => k M2 h.2) (fun q => absurd h.1 q)
end LAW
