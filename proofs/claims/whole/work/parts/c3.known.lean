/-! what holds at the law's entry -/
theorem law_known {s : State} {b : Nat} (hts : ∀ w ∈ lw_tbl, w.before #[Value.ref b] s = true) : ∃ (D : va_G) (cy : Nat → ClassId), rw_K D cy s := by
  have hall : ∀ c : Nat, ∃ x : ClassId × (Nat → Nat), ∀ q, vwCl[c]? = some q → u_Kn s q.1 q.2.1 q.2.2 x.1 x.2 := by
    intro c
    have hk : ∀ (n : Nat) (q0 : vw_C), vwCl[n]? = some q0 → (∃ cC iS, u_Kn s q0.1 q0.2.1 q0.2.2 cC iS) → ∃ x : ClassId × (Nat → Nat), ∀ q, vwCl[n]? = some q → u_Kn s q.1 q.2.1 q.2.2 x.1 x.2 := fun n q0 h0 h => by
      obtain ⟨cC, iS, hh⟩ := h
      refine ⟨(cC, iS), fun q hq => ?_⟩
      have e : q = q0 := Option.some.inj (hq.symm.trans h0)
      rw [e]; exact hh
    by_cases hc : c < 10
    · have hcs : c = 0 ∨ c = 1 ∨ c = 2 ∨ c = 3 ∨ c = 4 ∨ c = 5 ∨ c = 6 ∨ c = 7 ∨ c = 8 ∨ c = 9 := by omega
      rcases hcs with rfl | rfl | rfl | rfl | rfl | rfl | rfl | rfl | rfl | rfl
      · exact hk 0 (RX0, TX0, 18) rfl (u_known (n := 18) (args := #[Value.ref b]) (ws := lw_tbl) hts (fun w hw => (inX0 w hw).1) (hts (.instantiable RX0 18) (List.mem_of_getElem? (i := 466) (by decide +kernel))))
      · exact hk 1 (RX1, TX1, 9) rfl (u_known (n := 9) (args := #[Value.ref b]) (ws := lw_tbl) hts (fun w hw => (inX1 w hw).1) (hts (.instantiable RX1 9) (List.mem_of_getElem? (i := 262) (by decide +kernel))))
      · exact hk 2 (RX2, TX2, 3) rfl (u_known (n := 3) (args := #[Value.ref b]) (ws := lw_tbl) hts (fun w hw => (inX2 w hw).1) (hts (.instantiable RX2 3) (List.mem_of_getElem? (i := 321) (by decide +kernel))))
      · exact hk 3 (RX3, TX3, 8) rfl (u_known (n := 8) (args := #[Value.ref b]) (ws := lw_tbl) hts (fun w hw => (inX3 w hw).1) (hts (.instantiable RX3 8) (List.mem_of_getElem? (i := 377) (by decide +kernel))))
      · exact hk 4 (RX4, TX4, 11) rfl (u_known (n := 11) (args := #[Value.ref b]) (ws := lw_tbl) hts (fun w hw => (inX4 w hw).1) (hts (.instantiable RX4 11) (List.mem_of_getElem? (i := 218) (by decide +kernel))))
      · exact hk 5 (RX5, TX5, 6) rfl (u_known (n := 6) (args := #[Value.ref b]) (ws := lw_tbl) hts (fun w hw => (inX5 w hw).1) (hts (.instantiable RX5 6) (List.mem_of_getElem? (i := 535) (by decide +kernel))))
      · exact hk 6 (RX6, TX6, 15) rfl (u_known (n := 15) (args := #[Value.ref b]) (ws := lw_tbl) hts (fun w hw => (inX6 w hw).1) (hts (.instantiable RX6 15) (List.mem_of_getElem? (i := 411) (by decide +kernel))))
      · exact hk 7 (RX7, TX7, 8) rfl (u_known (n := 8) (args := #[Value.ref b]) (ws := lw_tbl) hts (fun w hw => (inX7 w hw).1) (hts (.instantiable RX7 8) (List.mem_of_getElem? (i := 341) (by decide +kernel))))
      · exact hk 8 (RX8, TX8, 13) rfl (u_known (n := 13) (args := #[Value.ref b]) (ws := lw_tbl) hts (fun w hw => (inX8 w hw).1) (hts (.instantiable RX8 13) (List.mem_of_getElem? (i := 210) (by decide +kernel))))
      · exact hk 9 (RX9, TX9, 59) rfl (u_known (n := 59) (args := #[Value.ref b]) (ws := lw_tbl) hts (fun w hw => (inX9 w hw).1) (hts (.instantiable RX9 59) (List.mem_of_getElem? (i := 1389) (by decide +kernel))))
    · refine ⟨(0, fun _ => 0), fun q hq => ?_⟩
      have : c < 10 := (List.getElem?_eq_some_iff.mp hq).1
      exact absurd this hc
  obtain ⟨c0, k0, m0, a1, a2, a3⟩ := Cond.arrayClass_spec (hts (.arrayClass .int) (List.mem_of_getElem? (i := 260) (by decide +kernel)))
  obtain ⟨c1, k1, m1, b1, b2, b3⟩ := Cond.arrayClass_spec (hts (.arrayClass .long) (List.mem_of_getElem? (i := 375) (by decide +kernel)))
  obtain ⟨c2, k2, m2, d1, d2, d3⟩ := Cond.arrayClass_spec (hts (.arrayClass .byte) (List.mem_of_getElem? (i := 409) (by decide +kernel)))
  obtain ⟨c3, k3, m3, e1, e2, e3⟩ := Cond.arrayClass_spec (hts (.arrayClass .boolean) (List.mem_of_getElem? (i := 1572) (by decide +kernel)))
  obtain ⟨m4, c4, k4, f1, f2, f3, f4, f5⟩ := Cond.arrayOver_spec (hts (.arrayOver (.object "TokenSums$Net")) (List.mem_of_getElem? (i := 327) (by decide +kernel)))
  refine ⟨(fun c => (Classical.choose (hall c)).1, fun c => (Classical.choose (hall c)).2), fun t => match t with | 0 => c0 | 1 => c1 | 2 => c2 | 3 => c3 | _ => c4, ⟨fun c q hq => Classical.choose_spec (hall c) q hq, fun k q hq => ?_⟩, fun w hw hg => gw_tab hg rfl (hts w hw)⟩
  have hk : k < 5 := (List.getElem?_eq_some_iff.mp hq).1
  have hcs : k = 0 ∨ k = 1 ∨ k = 2 ∨ k = 3 ∨ k = 4 := by omega
  rcases hcs with rfl | rfl | rfl | rfl | rfl <;> cases hq
  · exact ⟨fun n z => ⟨fun k h => (by cases h), k0, a2, m0, a3⟩, a1⟩
  · exact ⟨fun n z => ⟨fun k h => (by cases h), k1, b2, m1, b3⟩, b1⟩
  · exact ⟨fun n z => ⟨fun k h => (by cases h), k2, d2, m2, d3⟩, d1⟩
  · exact ⟨fun n z => ⟨fun k h => (by cases h), k3, e2, m3, e3⟩, e1⟩
  · exact ⟨fun n z => ⟨fun k h => (by cases h), k4, f3, m4, f4⟩, ⟨k4, m4, f3, f4, f1, f5⟩⟩
theorem law_aK {s : State} {b : Nat} (hts : ∀ w ∈ lw_tbl, w.before #[Value.ref b] s = true) : aK s := ⟨⟨word_at (State.WarmedH.refl s) (Or.inr ⟨_, rfl⟩) (hts (.arrayClass .int) (List.mem_of_getElem? (i := 260) (by decide +kernel))), word_at (State.WarmedH.refl s) (Or.inr ⟨_, rfl⟩) (hts (.arrayClass .long) (List.mem_of_getElem? (i := 375) (by decide +kernel))), word_at (State.WarmedH.refl s) (Or.inr ⟨_, rfl⟩) (hts (.arrayClass .byte) (List.mem_of_getElem? (i := 409) (by decide +kernel))), word_at (State.WarmedH.refl s) (Or.inr ⟨_, rfl⟩) (hts (.arrayClass .boolean) (List.mem_of_getElem? (i := 1572) (by decide +kernel)))⟩, va_AO.of (hts (.arrayOver (.object "TokenSums$Net")) (List.mem_of_getElem? (i := 327) (by decide +kernel)))⟩
theorem law_xK {s : State} {b : Nat} {D : va_G} {cy : Nat → ClassId} {A : Nat → Prop} (hK : rw_K D cy s) (hts : ∀ w ∈ lw_tbl, w.before #[Value.ref b] s = true) (hg : (Jvm.Cond.and given_1 narrow_1).before #[Value.ref b] s = true) (hA : ∀ a, a < s.heap.size → ¬ A a) : xK A s := by
  have hs := flat_of_before _ hg
  have hcl : s.vm.findClass RX8 = some (D.1 8) := (hK.1.1 8 (RX8, TX8, 13) rfl).2.1
  have str : ∀ (k : Nat) (tx : String), (Cond.stringRef RX8 k tx).before #[Value.ref b] s = true → ∃ sa, vk_R RX8 k tx sa s := fun k tx h => by
    obtain ⟨_, _, _, a, _, _, _, _, _, hev⟩ := Cond.stringRef_spec hcl h
    exact ⟨a, vk_R.of h hev⟩
  refine ⟨⟨va_tabs rfl rfl (hts (.declares (Bundle.initS nseR)) (List.mem_of_getElem? (i := 1318) (by decide +kernel))), va_tabs rfl rfl (hts (.declares (Bundle.initS nseE)) (List.mem_of_getElem? (i := 1320) (by decide +kernel))), va_tabs rfl rfl (hts (.declares (Bundle.initS Bundle.tN)) (List.mem_of_getElem? (i := 1322) (by decide +kernel))), va_tabs rfl rfl (hts (.castable nseN nseN) (List.mem_of_getElem? (i := 1316) (by decide +kernel)))⟩, vx_Zqof (args := #[Value.ref b]) (hts (.laysStatic Bundle.tN "UNASSIGNED_STACK" Bundle.steD) (List.mem_of_getElem? (i := 1341) (by decide +kernel))) (hts (.initialized Bundle.tN) (List.mem_of_getElem? (i := 205) (by decide +kernel))) (hs (.isRef (.static Bundle.tN "UNASSIGNED_STACK" Bundle.steD)) (by decide +kernel)) hA, vx_Zqof (args := #[Value.ref b]) (hts (.laysStatic Bundle.tN "SUPPRESSED_SENTINEL" Bundle.listD) (List.mem_of_getElem? (i := 1343) (by decide +kernel))) (hts (.initialized Bundle.tN) (List.mem_of_getElem? (i := 205) (by decide +kernel))) (hs (.isRef (.static Bundle.tN "SUPPRESSED_SENTINEL" Bundle.listD)) (by decide +kernel)) hA, str 214 _ (hts (.stringRef RX8 214 "what is 0 or 1") (List.mem_of_getElem? (i := 1353) (by decide +kernel))), str 219 _ (hts (.stringRef RX8 219 "there is no such sum or row") (List.mem_of_getElem? (i := 1379) (by decide +kernel))), str 241 _ (hts (.stringRef RX8 241 "there is no such siphon or trap") (List.mem_of_getElem? (i := 1387) (by decide +kernel)))⟩
theorem whole_start {p : Program} {e : Env} {s : State} {m : MethodId} {below : List Frame} {meth : Method} {c : Code} (l : Launch) (hflags : l.flags = flags0) {b L : Nat} {xs : Nat → Int32} (hL : L ≤ 3072) (C0 : lw_At p s m meth c b L xs) : W p l e room_1 s m #[Value.ref b] below meth c s.heap [] 0 0 (lw_Z below #[Value.ref b] s) (entryFrame m ([Value.ref b] : List Value).toArray 7) := by
  obtain ⟨hx, hb, hr, hml, hown, hts, hX, hbl, hlk, hg⟩ := C0
  obtain ⟨D, cy, hK⟩ := law_known hts
  have hlt : l.stackTraces = false := by unfold Launch.stackTraces; rw [hflags]; decide +kernel
  have C : n_C p s m meth c cL_law 7 RL (some .boolean) D cy (fun q => s.heap.size ≤ q) := ⟨hx, hb, hml, hown, hr, hlk, hK, law_aK hts, fun q h => h⟩
  have hxK : xK (rw_A (adF s.heap.size) s.heap.size) s := law_xK hK hts hg (fun a ha h => absurd (adF_nA h) (by omega))
  rw [lg_entry_eq]
  exact law_begin (l := l) (e := e) C hX hbl hL hlt hxK _ s.heap [] (lv_entry [.ref b] (Nat.le_of_ble_eq_true rfl)) (fun k q h => by simp at h) ⟨fun i j p q h => by simp at h, fun k q h => by simp at h⟩ va_S.rf rfl
