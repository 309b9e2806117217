/-! the law: support and siphon; its loop -/
section LAW2
variable {p : Program} {l : Launch} {e : Env} {s : State} {m : MethodId} {below : List Frame} {meth : Method} {c : Code} {D : va_G} {cy : Nat → ClassId} {ad : Nat → Nat} {b L k0 n0 : Nat} {xs : Nat → Int32} {M : Mem}
set_option maxHeartbeats 1000000 in
theorem law_15 (X : lawC p s m meth c D cy ad b L xs) (hlt : l.stackTraces = false) (hx : xK (rw_A ad s.heap.size) s) {i cn : Nat} (hi : i + 6 ≤ L) (hc : cn < 100000) (hkn : k0 + 1 ≤ room_1.cells ∧ n0 + 6 ≤ room_1.slots) (H : Inv cn M) (k : ∀ M', Inv (cn + 1) M' → rw_W p l e room_1 s m #[Value.ref b] below meth c D cy ad 7 (k0 + 1) (n0 + 6) (lw_Z below #[Value.ref b] s) (1354) [(4, .int (nI i)), (3, .ref (ad 40)), (2, .ref (ad 0)), (1, .ref (ad 41)), (0, .ref b)] [] M') : rw_W p l e room_1 s m #[Value.ref b] below meth c D cy ad 7 (k0) (n0) (lw_Z below #[Value.ref b] s) (667) [(4, .int (nI i)), (3, .ref (ad 40)), (2, .ref (ad 0)), (1, .ref (ad 41)), (0, .ref b)] [] M := by
  refine r_aload_n X.1 3 dL_law_667 rfl rfl ?_
  refine r_aload_n X.1 4 dL_law_668 rfl rfl ?_
  refine r_iload X.1 0 dL_law_669 rfl ?_
  refine r_iconst (v := (1 : Int32)) X.1 dL_law_671 rfl ?_
  refine r_iadd X.1 dL_law_672 ?_
  refine r_sld X (vp_ik (k := 1) X.2.2.2.2 (by omega)) dL_law_673 ?_
  refine r_aload_n X.1 4 dL_law_674 rfl rfl ?_
  refine r_iload X.1 0 dL_law_675 rfl ?_
  refine r_iconst (v := (2 : Int32)) X.1 dL_law_677 rfl ?_
  refine r_iadd X.1 dL_law_678 ?_
  refine r_sld X (vp_ik (k := 2) X.2.2.2.2 (by omega)) dL_law_679 ?_
  refine r_aload_n X.1 1 dL_law_680 rfl rfl ?_
  have h := P_support (v1 := xs (nI i + nI 1).toNatClampNeg) (v2 := xs (nI i + nI 2).toNatClampNeg) (c := cn) (M := M) hc H
  refine r_cSw X.1 hx (m_L_support l hlt (K := KLs (f_X9_support (xs (nI i + nI 1).toNatClampNeg) (xs (nI i + nI 2).toNatClampNeg)) cn) h) [.ref (ad 41), .int (xs (nI i + nI 1).toNatClampNeg), .int (xs (nI i + nI 2).toNatClampNeg), .ref (ad 40)] [] rfl rfl (rw_K.word (w := Cond.codeWith yL_support cL_support 5 (some .int) hhL) X.1.2.2.2.2.2.2.1 1308 (by decide +kernel) (by decide +kernel)) (rw_K.word (w := Cond.initialized RL) X.1.2.2.2.2.2.2.1 190 (by decide +kernel) (by decide +kernel)) (rw_K.word (w := Cond.methodLink RL 87 yL_support) X.1.2.2.2.2.2.2.1 1306 (by decide +kernel) (by decide +kernel)) (rw_K.word (w := Cond.static yL_support) X.1.2.2.2.2.2.2.1 1307 (by decide +kernel) (by decide +kernel)) ⟨⟨by decide +kernel, by decide +kernel⟩, (show (parseMethodDescriptor yL_support.desc).map (fun d => d.parameters.length) = some 4 from by decide +kernel)⟩ ⟨rfl, rfl, Nat.le_of_ble_eq_true rfl, Nat.le_of_ble_eq_true rfl⟩ (Nat.le_of_ble_eq_true rfl) hkn dL_law_681 (fun r M1 h => ?_)
  refine r_istore X.1 ((5, .int r) :: [(4, .int (nI i)), (3, .ref (ad 40)), (2, .ref (ad 0)), (1, .ref (ad 41)), (0, .ref b)]) dL_law_684 (by decide) rfl ?_
  refine r_aload_n X.1 3 dL_law_686 rfl rfl ?_
  refine r_aload_n X.1 5 dL_law_687 rfl rfl ?_
  refine r_iload X.1 1 dL_law_688 rfl ?_
  refine r_iconst (v := (1 : Int32)) X.1 dL_law_690 rfl ?_
  refine r_iadd X.1 dL_law_691 ?_
  refine r_sld X (vp_ik (k := 1) X.2.2.2.2 (by omega)) dL_law_692 ?_
  refine r_aload_n X.1 5 dL_law_693 rfl rfl ?_
  refine r_iload X.1 1 dL_law_694 rfl ?_
  refine r_iconst (v := (2 : Int32)) X.1 dL_law_696 rfl ?_
  refine r_iadd X.1 dL_law_697 ?_
  refine r_sld X (vp_ik (k := 2) X.2.2.2.2 (by omega)) dL_law_698 ?_
  refine cL_92 X.1 (m_X9_support l h) ⟨Nat.le_of_ble_eq_true rfl, Nat.le_of_ble_eq_true rfl⟩ (Nat.le_of_ble_eq_true rfl) hkn dL_law_699 (fun r2 M2 h => ?_)
  refine r_istore X.1 ((6, .int r2) :: (5, .int r) :: [(4, .int (nI i)), (3, .ref (ad 40)), (2, .ref (ad 0)), (1, .ref (ad 41)), (0, .ref b)]) dL_law_702 (by decide) rfl ?_
  refine r_aload_n X.1 4 dL_law_704 rfl rfl ?_
  refine cL_93 X.1 (m_X9_thrown l h) ⟨Nat.le_of_ble_eq_true rfl, Nat.le_of_ble_eq_true rfl⟩ (Nat.le_of_ble_eq_true rfl) hkn dL_law_705 (fun r3 M3 h => ?_)
  obtain ⟨h1, h2, h3⟩ := h
  refine r_iload X.1 1 dL_law_708 rfl ?_
  refine r_icmp_eq X.1 715 dL_law_710 (by decide) (fun _ => ?_) (fun q => absurd h1 q)
  have kz := k M3 h3
  have ke : rw_W p l e room_1 s m #[Value.ref b] below meth c D cy ad 7 (k0 + 1) (n0 + 6) (lw_Z below #[Value.ref b] s) (732) ((6, .int r2) :: (5, .int r) :: [(4, .int (nI i)), (3, .ref (ad 40)), (2, .ref (ad 0)), (1, .ref (ad 41)), (0, .ref b)]) [] M3 := r_goto X.1 1354 dL_law_732 (by decide) (r_sub [2, 3, 4, 5, 6] rfl kz)
  refine r_iload X.1 1 dL_law_715 rfl ?_
  refine r_if_ne X.1 732 dL_law_717 (by decide) (fun _ => ke) (fun hr => ?_)
  refine r_aload_n X.1 3 dL_law_720 rfl rfl ?_
  refine r_iconst (v := (0 : Int32)) X.1 dL_law_721 rfl ?_
  refine r_lald X.1 sh_40 (vpd (by decide)) dL_law_722 ?_
  refine r_iload X.1 0 dL_law_723 rfl ?_
  refine r_i2l X.1 dL_law_725 ?_
  refine r_lcmp X.1 dL_law_726 ?_
  exact r_if_eq X.1 732 dL_law_727 (by decide) (fun _ => ke) (fun q => absurd (by rw [h2 hr]; exact lg_self _) q)
set_option maxHeartbeats 1000000 in
theorem law_20 (X : lawC p s m meth c D cy ad b L xs) (hlt : l.stackTraces = false) (hx : xK (rw_A ad s.heap.size) s) {i cn : Nat} (hi : i + 6 ≤ L) (hc : cn < 100000) (hkn : k0 + 1 ≤ room_1.cells ∧ n0 + 6 ≤ room_1.slots) (H : Inv cn M) (k : ∀ M', Inv (cn + 1) M' → rw_W p l e room_1 s m #[Value.ref b] below meth c D cy ad 7 (k0 + 1) (n0 + 6) (lw_Z below #[Value.ref b] s) (1354) [(4, .int (nI i)), (3, .ref (ad 40)), (2, .ref (ad 0)), (1, .ref (ad 41)), (0, .ref b)] [] M') : rw_W p l e room_1 s m #[Value.ref b] below meth c D cy ad 7 (k0) (n0) (lw_Z below #[Value.ref b] s) (837) [(4, .int (nI i)), (3, .ref (ad 40)), (2, .ref (ad 0)), (1, .ref (ad 41)), (0, .ref b)] [] M := by
  refine r_aload_n X.1 3 dL_law_837 rfl rfl ?_
  refine r_aload_n X.1 4 dL_law_838 rfl rfl ?_
  refine r_iload X.1 0 dL_law_839 rfl ?_
  refine r_iconst (v := (1 : Int32)) X.1 dL_law_841 rfl ?_
  refine r_iadd X.1 dL_law_842 ?_
  refine r_sld X (vp_ik (k := 1) X.2.2.2.2 (by omega)) dL_law_843 ?_
  refine r_aload_n X.1 4 dL_law_844 rfl rfl ?_
  refine r_iload X.1 0 dL_law_845 rfl ?_
  refine r_iconst (v := (2 : Int32)) X.1 dL_law_847 rfl ?_
  refine r_iadd X.1 dL_law_848 ?_
  refine r_sld X (vp_ik (k := 2) X.2.2.2.2 (by omega)) dL_law_849 ?_
  refine r_aload_n X.1 1 dL_law_850 rfl rfl ?_
  have h := P_siphon (v1 := xs (nI i + nI 1).toNatClampNeg) (v2 := xs (nI i + nI 2).toNatClampNeg) (c := cn) (M := M) hc H
  refine r_cSw X.1 hx (m_L_siphon l hlt (K := KLs (f_X9_siphon (xs (nI i + nI 1).toNatClampNeg) (xs (nI i + nI 2).toNatClampNeg)) cn) h) [.ref (ad 41), .int (xs (nI i + nI 1).toNatClampNeg), .int (xs (nI i + nI 2).toNatClampNeg), .ref (ad 40)] [] rfl rfl (rw_K.word (w := Cond.codeWith yL_siphon cL_siphon 5 (some .int) hhL) X.1.2.2.2.2.2.2.1 1382 (by decide +kernel) (by decide +kernel)) (rw_K.word (w := Cond.initialized RL) X.1.2.2.2.2.2.2.1 190 (by decide +kernel) (by decide +kernel)) (rw_K.word (w := Cond.methodLink RL 113 yL_siphon) X.1.2.2.2.2.2.2.1 1380 (by decide +kernel) (by decide +kernel)) (rw_K.word (w := Cond.static yL_siphon) X.1.2.2.2.2.2.2.1 1381 (by decide +kernel) (by decide +kernel)) ⟨⟨by decide +kernel, by decide +kernel⟩, (show (parseMethodDescriptor yL_siphon.desc).map (fun d => d.parameters.length) = some 4 from by decide +kernel)⟩ ⟨rfl, rfl, Nat.le_of_ble_eq_true rfl, Nat.le_of_ble_eq_true rfl⟩ (Nat.le_of_ble_eq_true rfl) hkn dL_law_851 (fun r M1 h => ?_)
  refine r_istore X.1 ((5, .int r) :: [(4, .int (nI i)), (3, .ref (ad 40)), (2, .ref (ad 0)), (1, .ref (ad 41)), (0, .ref b)]) dL_law_854 (by decide) rfl ?_
  refine r_aload_n X.1 3 dL_law_856 rfl rfl ?_
  refine r_aload_n X.1 5 dL_law_857 rfl rfl ?_
  refine r_iload X.1 1 dL_law_858 rfl ?_
  refine r_iconst (v := (1 : Int32)) X.1 dL_law_860 rfl ?_
  refine r_iadd X.1 dL_law_861 ?_
  refine r_sld X (vp_ik (k := 1) X.2.2.2.2 (by omega)) dL_law_862 ?_
  refine r_aload_n X.1 5 dL_law_863 rfl rfl ?_
  refine r_iload X.1 1 dL_law_864 rfl ?_
  refine r_iconst (v := (2 : Int32)) X.1 dL_law_866 rfl ?_
  refine r_iadd X.1 dL_law_867 ?_
  refine r_sld X (vp_ik (k := 2) X.2.2.2.2 (by omega)) dL_law_868 ?_
  refine cL_115 X.1 (m_X9_siphon l h) ⟨Nat.le_of_ble_eq_true rfl, Nat.le_of_ble_eq_true rfl⟩ (Nat.le_of_ble_eq_true rfl) hkn dL_law_869 (fun r2 M2 h => ?_)
  refine r_istore X.1 ((6, .int r2) :: (5, .int r) :: [(4, .int (nI i)), (3, .ref (ad 40)), (2, .ref (ad 0)), (1, .ref (ad 41)), (0, .ref b)]) dL_law_872 (by decide) rfl ?_
  refine r_aload_n X.1 4 dL_law_874 rfl rfl ?_
  refine cL_93 X.1 (m_X9_thrown l h) ⟨Nat.le_of_ble_eq_true rfl, Nat.le_of_ble_eq_true rfl⟩ (Nat.le_of_ble_eq_true rfl) hkn dL_law_875 (fun r3 M3 h => ?_)
  obtain ⟨h1, h2, h3⟩ := h
  refine r_iload X.1 1 dL_law_878 rfl ?_
  refine r_icmp_eq X.1 885 dL_law_880 (by decide) (fun _ => ?_) (fun q => absurd h1 q)
  have kz := k M3 h3
  have ke : rw_W p l e room_1 s m #[Value.ref b] below meth c D cy ad 7 (k0 + 1) (n0 + 6) (lw_Z below #[Value.ref b] s) (902) ((6, .int r2) :: (5, .int r) :: [(4, .int (nI i)), (3, .ref (ad 40)), (2, .ref (ad 0)), (1, .ref (ad 41)), (0, .ref b)]) [] M3 := r_goto X.1 1354 dL_law_902 (by decide) (r_sub [2, 3, 4, 5, 6] rfl kz)
  refine r_iload X.1 1 dL_law_885 rfl ?_
  refine r_if_ne X.1 902 dL_law_887 (by decide) (fun _ => ke) (fun hr => ?_)
  refine r_aload_n X.1 3 dL_law_890 rfl rfl ?_
  refine r_iconst (v := (0 : Int32)) X.1 dL_law_891 rfl ?_
  refine r_lald X.1 sh_40 (vpd (by decide)) dL_law_892 ?_
  refine r_iload X.1 0 dL_law_893 rfl ?_
  refine r_i2l X.1 dL_law_895 ?_
  refine r_lcmp X.1 dL_law_896 ?_
  exact r_if_eq X.1 902 dL_law_897 (by decide) (fun _ => ke) (fun q => absurd (by rw [h2 hr]; exact lg_self _) q)
theorem lw_gt {L i : Nat} (hL : L ≤ 3072) (hi : i ≤ 4000) : (nI L - 6 < nI i) = (L < i + 6) := by
  have e : nI L - 6 = cI ((L : Int) - 6) := by rw [nI_cI (by omega), show (6 : Int32) = cI 6 from rfl, cI_sub]
  rw [e, nI_cI (a := i) (by omega), Int32.lt_iff_toInt_lt, cI_T (by omega) (by omega), cI_T (by omega) (by omega)]
  exact propext ⟨fun h => by omega, fun h => by omega⟩
theorem law_end (X : lawC p s m meth c D cy ad b L xs) (hk : k0 ≤ 601024) (hn : n0 ≤ 7293033) {lv : List (Nat × Value)} : rw_W p l e room_1 s m #[Value.ref b] below meth c D cy ad 7 k0 n0 (lw_Z below #[Value.ref b] s) 1360 lv [] M := by
  refine r_iconst (v := (1 : Int32)) X.1 dL_law_1360 rfl ?_
  intro ls H locs hl hP hS
  refine va_forget (fun q hq => ?_) (W.widen (k := 601024) (n := 7293033) hk hn (lw_ret X.1.1 X.1.2.1 X.1.2.2.2.2.1 X.1.2.2.2.2.2.1 dL_law_1361))
  rcases hS.2.2 q hq with ⟨k, hk, e⟩ | h
  · rw [e]; exact X.2.2.2.1 k hk
  · exact h
set_option maxHeartbeats 4000000 in
theorem law_loop (X : lawC p s m meth c D cy ad b L xs) (hlt : l.stackTraces = false) (hx : xK (rw_A ad s.heap.size) s) (hk0 : k0 + 520 ≤ 601024) (hn0 : n0 + 3200 ≤ 7293033) : ∀ (f j : Nat) (M : Mem), L < 6 * j + 6 * f → 6 * j < L + 6 → Inv j M → rw_W p l e room_1 s m #[Value.ref b] below meth c D cy ad 7 (k0 + j) (n0 + 6 * j) (lw_Z below #[Value.ref b] s) 23 [(4, .int (nI (6 * j))), (3, .ref (ad 40)), (2, .ref (ad 0)), (1, .ref (ad 41)), (0, .ref b)] [] M := by
  have hL := X.2.2.2.2
  intro f
  induction f with
  | zero => intro j M h1 h2 H; exact r_iload X.1 0 dL_law_23 rfl (r_aload_n X.1 4 dL_law_25 rfl rfl (r_slen X dL_law_26 (r_bipush (v := 6) X.1 dL_law_27 (by decide) (r_isub X.1 dL_law_29 (r_icmp_gt X.1 1360 dL_law_30 (by decide) (fun _ => law_end X (by omega) (by omega)) (fun q => absurd (by rw [lw_gt (by omega) (by omega)]; omega) q))))))
  | succ f ih =>
    intro j M h1 h2 H
    refine r_iload X.1 0 dL_law_23 rfl (r_aload_n X.1 4 dL_law_25 rfl rfl (r_slen X dL_law_26 (r_bipush (v := 6) X.1 dL_law_27 (by decide) (r_isub X.1 dL_law_29 (r_icmp_gt X.1 1360 dL_law_30 (by decide) (fun _ => law_end X (by omega) (by omega)) (fun q => ?_))))))
    rw [lw_gt (by omega) (by omega)] at q
    have hi : 6 * j + 6 ≤ L := by omega
    have hc : j < 100000 := by omega
    have back : ∀ M', Inv (j + 1) M' → rw_W p l e room_1 s m #[Value.ref b] below meth c D cy ad 7 (k0 + j + 1) (n0 + 6 * j + 6) (lw_Z below #[Value.ref b] s) 1354 [(4, .int (nI (6 * j))), (3, .ref (ad 40)), (2, .ref (ad 0)), (1, .ref (ad 41)), (0, .ref b)] [] M' := fun M' h' => r_iinc X.1 0 [(4, .int (nI (6 * (j + 1)))), (3, .ref (ad 40)), (2, .ref (ad 0)), (1, .ref (ad 41)), (0, .ref b)] dL_law_1354 rfl (show nI (6 * j) + nI 6 = _ from nI_add _ _) (by decide) rfl (r_goto X.1 23 dL_law_1357 (by decide) (ih (j + 1) M' (by omega) (by omega) h'))
    have back0 : ∀ M', Inv (j + 1) M' → rw_W p l e room_1 s m #[Value.ref b] below meth c D cy ad 7 (k0 + j) (n0 + 6 * j) (lw_Z below #[Value.ref b] s) 1354 [(4, .int (nI (6 * j))), (3, .ref (ad 40)), (2, .ref (ad 0)), (1, .ref (ad 41)), (0, .ref b)] [] M' := fun M' h' ls H locs hl hP hS => W.widen (k := k0 + j + 1) (n := n0 + 6 * j + 6) (by omega) (by omega) (back M' h' ls H locs hl hP hS)
    refine r_aload_n X.1 4 dL_law_33 rfl rfl (r_iload X.1 0 dL_law_34 rfl (r_sld X ((vp_nI (by omega) (by omega)).mpr (by omega)) dL_law_36 (r_bipush (v := 63) X.1 dL_law_37 (by decide) (r_iand X.1 dL_law_39 ?_))))
    generalize (xs (nI (6 * j)).toNatClampNeg &&& 63) = x
    by_cases hout : x.toInt < 0 ∨ 37 < x.toInt
    · exact r_tabOut X.1 1354 dL_law_40 hout (by decide) (back0 M (Inv_up H (Nat.le_succ _)))
    have hnl : ¬ x.toInt < 0 := fun q => hout (Or.inl q)
    have hnh : ¬ 37 < x.toInt := fun q => hout (Or.inr q)
    have hcs : x.toInt = 0 ∨ x.toInt = 1 ∨ x.toInt = 2 ∨ x.toInt = 3 ∨ x.toInt = 4 ∨ x.toInt = 5 ∨ x.toInt = 6 ∨ x.toInt = 7 ∨ x.toInt = 8 ∨ x.toInt = 9 ∨ x.toInt = 10 ∨ x.toInt = 11 ∨ x.toInt = 12 ∨ x.toInt = 13 ∨ x.toInt = 14 ∨ x.toInt = 15 ∨ x.toInt = 16 ∨ x.toInt = 17 ∨ x.toInt = 18 ∨ x.toInt = 19 ∨ x.toInt = 20 ∨ x.toInt = 21 ∨ x.toInt = 22 ∨ x.toInt = 23 ∨ x.toInt = 24 ∨ x.toInt = 25 ∨ x.toInt = 26 ∨ x.toInt = 27 ∨ x.toInt = 28 ∨ x.toInt = 29 ∨ x.toInt = 30 ∨ x.toInt = 31 ∨ x.toInt = 32 ∨ x.toInt = 33 ∨ x.toInt = 34 ∨ x.toInt = 35 ∨ x.toInt = 36 ∨ x.toInt = 37 := by omega
    rcases hcs with hq | hq | hq | hq | hq | hq | hq | hq | hq | hq | hq | hq | hq | hq | hq | hq | hq | hq | hq | hq | hq | hq | hq | hq | hq | hq | hq | hq | hq | hq | hq | hq | hq | hq | hq | hq | hq | hq
    · exact r_tabIn X.1 (off := 168) 208 dL_law_40 hnl hnh (by rw [hq]; rfl) (by decide) (law_0 X hi hc ⟨by show k0 + j ≤ 601024; omega, by show n0 + 6 * j ≤ 7293033; omega⟩ H (fun M' h' => back0 M' h'))
    · exact r_tabIn X.1 (off := 241) 281 dL_law_40 hnl hnh (by rw [hq]; rfl) (by decide) (law_1 X hi hc ⟨by show k0 + j ≤ 601024; omega, by show n0 + 6 * j ≤ 7293033; omega⟩ H (fun M' h' => back0 M' h'))
    · exact r_tabIn X.1 (off := 266) 306 dL_law_40 hnl hnh (by rw [hq]; rfl) (by decide) (law_2 X hi hc ⟨by show k0 + j ≤ 601024; omega, by show n0 + 6 * j ≤ 7293033; omega⟩ H (fun M' h' => back0 M' h'))
    · exact r_tabIn X.1 (off := 279) 319 dL_law_40 hnl hnh (by rw [hq]; rfl) (by decide) (law_3 X hi hc ⟨by show k0 + j ≤ 601024; omega, by show n0 + 6 * j ≤ 7293033; omega⟩ H (fun M' h' => back0 M' h'))
    · exact r_tabIn X.1 (off := 304) 344 dL_law_40 hnl hnh (by rw [hq]; rfl) (by decide) (law_4 X hi hc ⟨by show k0 + j ≤ 601024; omega, by show n0 + 6 * j ≤ 7293033; omega⟩ H (fun M' h' => back0 M' h'))
    · exact r_tabIn X.1 (off := 329) 369 dL_law_40 hnl hnh (by rw [hq]; rfl) (by decide) (law_5 X hi hc ⟨by show k0 + j ≤ 601024; omega, by show n0 + 6 * j ≤ 7293033; omega⟩ H (fun M' h' => back0 M' h'))
    · exact r_tabIn X.1 (off := 378) 418 dL_law_40 hnl hnh (by rw [hq]; rfl) (by decide) (law_6 X hi hc ⟨by show k0 + j ≤ 601024; omega, by show n0 + 6 * j ≤ 7293033; omega⟩ H (fun M' h' => back0 M' h'))
    · exact r_tabIn X.1 (off := 403) 443 dL_law_40 hnl hnh (by rw [hq]; rfl) (by decide) (law_7 X hi hc ⟨by show k0 + j ≤ 601024; omega, by show n0 + 6 * j ≤ 7293033; omega⟩ H (fun M' h' => back0 M' h'))
    · exact r_tabIn X.1 (off := 428) 468 dL_law_40 hnl hnh (by rw [hq]; rfl) (by decide) (law_8 X hi hc ⟨by show k0 + j ≤ 601024; omega, by show n0 + 6 * j ≤ 7293033; omega⟩ H (fun M' h' => back0 M' h'))
    · exact r_tabIn X.1 (off := 453) 493 dL_law_40 hnl hnh (by rw [hq]; rfl) (by decide) (law_9 X hi hc ⟨by show k0 + j ≤ 601024; omega, by show n0 + 6 * j ≤ 7293033; omega⟩ H (fun M' h' => back0 M' h'))
    · exact r_tabIn X.1 (off := 490) 530 dL_law_40 hnl hnh (by rw [hq]; rfl) (by decide) (law_10 X hi hc ⟨by show k0 + j ≤ 601024; omega, by show n0 + 6 * j ≤ 7293033; omega⟩ H (fun M' h' => back0 M' h'))
    · exact r_tabIn X.1 (off := 527) 567 dL_law_40 hnl hnh (by rw [hq]; rfl) (by decide) (law_11 X hi hc ⟨by show k0 + j ≤ 601024; omega, by show n0 + 6 * j ≤ 7293033; omega⟩ H (fun M' h' => back0 M' h'))
    · exact r_tabIn X.1 (off := 540) 580 dL_law_40 hnl hnh (by rw [hq]; rfl) (by decide) (law_12 X hi hc ⟨by show k0 + j ≤ 601024; omega, by show n0 + 6 * j ≤ 7293033; omega⟩ H (fun M' h' => back0 M' h'))
    · exact r_tabIn X.1 (off := 553) 593 dL_law_40 hnl hnh (by rw [hq]; rfl) (by decide) (law_13 X hi hc ⟨by show k0 + j ≤ 601024; omega, by show n0 + 6 * j ≤ 7293033; omega⟩ H (fun M' h' => back0 M' h'))
    · exact r_tabIn X.1 (off := 578) 618 dL_law_40 hnl hnh (by rw [hq]; rfl) (by decide) (law_14 X hi hc ⟨by show k0 + j ≤ 601024; omega, by show n0 + 6 * j ≤ 7293033; omega⟩ H (fun M' h' => back0 M' h'))
    · exact r_tabIn X.1 (off := 627) 667 dL_law_40 hnl hnh (by rw [hq]; rfl) (by decide) (law_15 X hlt hx hi hc ⟨by show k0 + j + 1 ≤ 601024; omega, by show n0 + 6 * j + 6 ≤ 7293033; omega⟩ H (fun M' h' => back M' h'))
    · exact r_tabIn X.1 (off := 695) 735 dL_law_40 hnl hnh (by rw [hq]; rfl) (by decide) (law_16 X hi hc ⟨by show k0 + j ≤ 601024; omega, by show n0 + 6 * j ≤ 7293033; omega⟩ H (fun M' h' => back0 M' h'))
    · exact r_tabIn X.1 (off := 720) 760 dL_law_40 hnl hnh (by rw [hq]; rfl) (by decide) (law_17 X hi hc ⟨by show k0 + j ≤ 601024; omega, by show n0 + 6 * j ≤ 7293033; omega⟩ H (fun M' h' => back0 M' h'))
    · exact r_tabIn X.1 (off := 746) 786 dL_law_40 hnl hnh (by rw [hq]; rfl) (by decide) (law_18 X hi hc ⟨by show k0 + j ≤ 601024; omega, by show n0 + 6 * j ≤ 7293033; omega⟩ H (fun M' h' => back0 M' h'))
    · exact r_tabIn X.1 (off := 772) 812 dL_law_40 hnl hnh (by rw [hq]; rfl) (by decide) (law_19 X hi hc ⟨by show k0 + j ≤ 601024; omega, by show n0 + 6 * j ≤ 7293033; omega⟩ H (fun M' h' => back0 M' h'))
    · exact r_tabIn X.1 (off := 797) 837 dL_law_40 hnl hnh (by rw [hq]; rfl) (by decide) (law_20 X hlt hx hi hc ⟨by show k0 + j + 1 ≤ 601024; omega, by show n0 + 6 * j + 6 ≤ 7293033; omega⟩ H (fun M' h' => back M' h'))
    · exact r_tabIn X.1 (off := 865) 905 dL_law_40 hnl hnh (by rw [hq]; rfl) (by decide) (law_21 X hi hc ⟨by show k0 + j ≤ 601024; omega, by show n0 + 6 * j ≤ 7293033; omega⟩ H (fun M' h' => back0 M' h'))
    · exact r_tabIn X.1 (off := 902) 942 dL_law_40 hnl hnh (by rw [hq]; rfl) (by decide) (law_22 X hi hc ⟨by show k0 + j ≤ 601024; omega, by show n0 + 6 * j ≤ 7293033; omega⟩ H (fun M' h' => back0 M' h'))
    · exact r_tabIn X.1 (off := 939) 979 dL_law_40 hnl hnh (by rw [hq]; rfl) (by decide) (law_23 X hi hc ⟨by show k0 + j ≤ 601024; omega, by show n0 + 6 * j ≤ 7293033; omega⟩ H (fun M' h' => back0 M' h'))
    · exact r_tabIn X.1 (off := 964) 1004 dL_law_40 hnl hnh (by rw [hq]; rfl) (by decide) (law_24 X hi hc ⟨by show k0 + j ≤ 601024; omega, by show n0 + 6 * j ≤ 7293033; omega⟩ H (fun M' h' => back0 M' h'))
    · exact r_tabIn X.1 (off := 977) 1017 dL_law_40 hnl hnh (by rw [hq]; rfl) (by decide) (law_25 X hi hc ⟨by show k0 + j ≤ 601024; omega, by show n0 + 6 * j ≤ 7293033; omega⟩ H (fun M' h' => back0 M' h'))
    · exact r_tabIn X.1 (off := 1014) 1054 dL_law_40 hnl hnh (by rw [hq]; rfl) (by decide) (law_26 X hi hc ⟨by show k0 + j ≤ 601024; omega, by show n0 + 6 * j ≤ 7293033; omega⟩ H (fun M' h' => back0 M' h'))
    · exact r_tabIn X.1 (off := 1039) 1079 dL_law_40 hnl hnh (by rw [hq]; rfl) (by decide) (law_27 X hi hc ⟨by show k0 + j ≤ 601024; omega, by show n0 + 6 * j ≤ 7293033; omega⟩ H (fun M' h' => back0 M' h'))
    · exact r_tabIn X.1 (off := 1064) 1104 dL_law_40 hnl hnh (by rw [hq]; rfl) (by decide) (law_28 X hi hc ⟨by show k0 + j ≤ 601024; omega, by show n0 + 6 * j ≤ 7293033; omega⟩ H (fun M' h' => back0 M' h'))
    · exact r_tabIn X.1 (off := 1077) 1117 dL_law_40 hnl hnh (by rw [hq]; rfl) (by decide) (law_29 X hi hc ⟨by show k0 + j ≤ 601024; omega, by show n0 + 6 * j ≤ 7293033; omega⟩ H (fun M' h' => back0 M' h'))
    · exact r_tabIn X.1 (off := 1102) 1142 dL_law_40 hnl hnh (by rw [hq]; rfl) (by decide) (law_30 X hi hc ⟨by show k0 + j ≤ 601024; omega, by show n0 + 6 * j ≤ 7293033; omega⟩ H (fun M' h' => back0 M' h'))
    · exact r_tabIn X.1 (off := 1139) 1179 dL_law_40 hnl hnh (by rw [hq]; rfl) (by decide) (law_31 X hi hc ⟨by show k0 + j ≤ 601024; omega, by show n0 + 6 * j ≤ 7293033; omega⟩ H (fun M' h' => back0 M' h'))
    · exact r_tabIn X.1 (off := 1176) 1216 dL_law_40 hnl hnh (by rw [hq]; rfl) (by decide) (law_32 X hi hc ⟨by show k0 + j ≤ 601024; omega, by show n0 + 6 * j ≤ 7293033; omega⟩ H (fun M' h' => back0 M' h'))
    · exact r_tabIn X.1 (off := 1201) 1241 dL_law_40 hnl hnh (by rw [hq]; rfl) (by decide) (law_33 X hi hc ⟨by show k0 + j ≤ 601024; omega, by show n0 + 6 * j ≤ 7293033; omega⟩ H (fun M' h' => back0 M' h'))
    · exact r_tabIn X.1 (off := 1226) 1266 dL_law_40 hnl hnh (by rw [hq]; rfl) (by decide) (law_34 X hi hc ⟨by show k0 + j ≤ 601024; omega, by show n0 + 6 * j ≤ 7293033; omega⟩ H (fun M' h' => back0 M' h'))
    · exact r_tabIn X.1 (off := 1239) 1279 dL_law_40 hnl hnh (by rw [hq]; rfl) (by decide) (law_35 X hi hc ⟨by show k0 + j ≤ 601024; omega, by show n0 + 6 * j ≤ 7293033; omega⟩ H (fun M' h' => back0 M' h'))
    · exact r_tabIn X.1 (off := 1276) 1316 dL_law_40 hnl hnh (by rw [hq]; rfl) (by decide) (law_36 X hi hc ⟨by show k0 + j ≤ 601024; omega, by show n0 + 6 * j ≤ 7293033; omega⟩ H (fun M' h' => back0 M' h'))
    · exact r_tabIn X.1 (off := 1301) 1341 dL_law_40 hnl hnh (by rw [hq]; rfl) (by decide) (law_37 X hi hc ⟨by show k0 + j ≤ 601024; omega, by show n0 + 6 * j ≤ 7293033; omega⟩ H (fun M' h' => back0 M' h'))
end LAW2
