/-! the law's start: what it makes -/
def adF (s0 : Nat) : Nat → Nat := fun k => bif Nat.ble 41 k then s0 + (k - 41) else s0 + 125 + k
theorem adF_hi {s0 k : Nat} (h : 41 ≤ k) : adF s0 k = s0 + (k - 41) := by unfold adF; rw [Nat.ble_eq_true_of_le h]; rfl
theorem adF_lo {s0 k : Nat} (h : k < 41) : adF s0 k = s0 + 125 + k := by
  unfold adF
  have : Nat.ble 41 k = false := by
    cases e : Nat.ble 41 k with
    | false => rfl
    | true => exact absurd (Nat.le_of_ble_eq_true e) (by omega)
  rw [this]; rfl
theorem adF_ge (s0 k : Nat) : s0 ≤ adF s0 k := by
  by_cases h : 41 ≤ k
  · rw [adF_hi h]; omega
  · rw [adF_lo (by omega)]; omega
theorem adF_J (s0 : Nat) : rw_J (adF s0) := by
  intro i j hi hj e
  have hi : i < 166 := hi
  have hj : j < 166 := hj
  by_cases h : 41 ≤ i
  · by_cases h' : 41 ≤ j
    · rw [adF_hi h, adF_hi h'] at e; omega
    · rw [adF_hi h, adF_lo (by omega)] at e; omega
  · by_cases h' : 41 ≤ j
    · rw [adF_lo (by omega), adF_hi h'] at e; omega
    · rw [adF_lo (by omega), adF_lo (by omega)] at e; omega
/-! the cells that are made are those of the memory -/
def gE (cy : Nat → ClassId) (ad : Nat → Nat) (M : Mem) (f : Shp × Nat) : Nat × va_E := (ad f.2, cellE cy ad M f.2 f.1)
theorem rw_mk_g (cy : Nat → ClassId) (ad : Nat → Nat) (M : Mem) : rw_mk cy ad M = shL.zipIdx.map (gE cy ad M) := rfl
def zc0 : List (Shp × Nat) := [(.inr (9, [none, some 1, some 2, some 3, some 4, some 5, some 6, some 7, some 8, some 9, none, none, none, none, none, none, none, none, none, none, none, none, none, none, none, some 10, none, some 11, some 12, some 13, some 14, some 15, some 16, some 17, some 18, some 19, some 20, some 21, some 22, some 23, none, none, some 24, some 25, some 26, some 27, some 28, some 29, some 30, some 31, some 32, some 33, some 34, some 35, some 36, some 37, some 38, some 39, none]), 0), (.inl (0, 240), 1), (.inl (0, 240), 2), (.inl (0, 30), 3), (.inl (0, 3), 4), (.inl (0, 3), 5), (.inl (0, 10), 6), (.inl (0, 8), 7), (.inl (0, 10), 8), (.inl (0, 900), 9), (.inl (0, 2064), 10), (.inl (1, 100), 11), (.inl (1, 10), 12), (.inl (0, 10), 13), (.inl (0, 520), 14), (.inl (0, 5200), 15), (.inl (0, 520), 16), (.inl (0, 2), 17), (.inl (0, 2), 18), (.inl (0, 8), 19), (.inl (0, 8), 20), (.inl (0, 10), 21), (.inl (0, 8), 22), (.inl (3, 1300), 23), (.inl (0, 6000), 24), (.inl (0, 600), 25), (.inl (0, 600), 26), (.inl (0, 600), 27), (.inl (0, 600), 28), (.inl (0, 4800), 29), (.inl (0, 2), 30), (.inl (0, 10), 31), (.inl (0, 300), 32), (.inl (3, 2), 33), (.inl (3, 300), 34), (.inl (3, 300), 35), (.inl (3, 300), 36), (.inl (0, 20), 37), (.inl (0, 20), 38), (.inl (0, 20), 39)]
def zc40 : List (Shp × Nat) := [(.inl (1, 1), 40)]
def zc41 : Shp × Nat := (.inr (8, [some 42, some 46, some 50, some 54, some 104, some 109, some 114, some 119, some 124, some 134, some 146, some 154, none]), 41)
set_option maxHeartbeats 4000000 in
set_option maxRecDepth 20000 in
theorem zc0_e (cy : Nat → ClassId) (s0 : Nat) : zc0.map (gE cy (adF s0) M0) = wX9 cy (s0 + 125) (s0 + 126) := rfl
set_option maxHeartbeats 4000000 in
set_option maxRecDepth 20000 in
theorem zc40_e (cy : Nat → ClassId) (s0 : Nat) : zc40.map (gE cy (adF s0) M0) = [(s0 + 165, .inl (cy 1, 1, .inr (.inl (fun _ => 0))))] := rfl
def zc42 : List (Shp × Nat) := [(.inr (4, [some 43, some 44, some 45, none, none, none, none, none, none, none, none]), 42), (.inl (0, 900), 43), (.inl (0, 10), 44), (.inl (0, 8), 45)]
set_option maxHeartbeats 4000000 in
set_option maxRecDepth 20000 in
theorem zc42_e (cy : Nat → ClassId) (s0 : Nat) : zc42.map (gE cy (adF s0) M0) = wX4 cy (s0 + 1 + 0) (s0 + 1 + 1) := rfl
def zc46 : List (Shp × Nat) := [(.inr (1, [some 47, some 48, some 49, none, none, none, none, none, none]), 46), (.inl (0, 80), 47), (.inl (0, 80), 48), (.inl (0, 10), 49)]
set_option maxHeartbeats 4000000 in
set_option maxRecDepth 20000 in
theorem zc46_e (cy : Nat → ClassId) (s0 : Nat) : zc46.map (gE cy (adF s0) M0) = wX1 cy (s0 + 1 + 4) (s0 + 1 + 5) := rfl
def zc50 : List (Shp × Nat) := [(.inr (1, [some 51, some 52, some 53, none, none, none, none, none, none]), 50), (.inl (0, 80), 51), (.inl (0, 80), 52), (.inl (0, 10), 53)]
set_option maxHeartbeats 4000000 in
set_option maxRecDepth 20000 in
theorem zc50_e (cy : Nat → ClassId) (s0 : Nat) : zc50.map (gE cy (adF s0) M0) = wX1 cy (s0 + 1 + 8) (s0 + 1 + 9) := rfl
def zc56 : List (Shp × Nat) := [(.inr (1, [some 57, some 58, some 59, none, none, none, none, none, none]), 56), (.inl (0, 80), 57), (.inl (0, 80), 58), (.inl (0, 10), 59)]
set_option maxHeartbeats 4000000 in
set_option maxRecDepth 20000 in
theorem zc56_e (cy : Nat → ClassId) (s0 : Nat) : zc56.map (gE cy (adF s0) M0) = wX1 cy (s0 + 1 + 13 + (1 + 4 * 0)) (s0 + 1 + 13 + (1 + 4 * 0 + 1)) := rfl
def zc60 : List (Shp × Nat) := [(.inr (1, [some 61, some 62, some 63, none, none, none, none, none, none]), 60), (.inl (0, 80), 61), (.inl (0, 80), 62), (.inl (0, 10), 63)]
set_option maxHeartbeats 4000000 in
set_option maxRecDepth 20000 in
theorem zc60_e (cy : Nat → ClassId) (s0 : Nat) : zc60.map (gE cy (adF s0) M0) = wX1 cy (s0 + 1 + 13 + (1 + 4 * 1)) (s0 + 1 + 13 + (1 + 4 * 1 + 1)) := rfl
def zc64 : List (Shp × Nat) := [(.inr (1, [some 65, some 66, some 67, none, none, none, none, none, none]), 64), (.inl (0, 80), 65), (.inl (0, 80), 66), (.inl (0, 10), 67)]
set_option maxHeartbeats 4000000 in
set_option maxRecDepth 20000 in
theorem zc64_e (cy : Nat → ClassId) (s0 : Nat) : zc64.map (gE cy (adF s0) M0) = wX1 cy (s0 + 1 + 13 + (1 + 4 * 2)) (s0 + 1 + 13 + (1 + 4 * 2 + 1)) := rfl
def zc68 : List (Shp × Nat) := [(.inr (1, [some 69, some 70, some 71, none, none, none, none, none, none]), 68), (.inl (0, 80), 69), (.inl (0, 80), 70), (.inl (0, 10), 71)]
set_option maxHeartbeats 4000000 in
set_option maxRecDepth 20000 in
theorem zc68_e (cy : Nat → ClassId) (s0 : Nat) : zc68.map (gE cy (adF s0) M0) = wX1 cy (s0 + 1 + 13 + (1 + 4 * 3)) (s0 + 1 + 13 + (1 + 4 * 3 + 1)) := rfl
def zc72 : List (Shp × Nat) := [(.inr (1, [some 73, some 74, some 75, none, none, none, none, none, none]), 72), (.inl (0, 80), 73), (.inl (0, 80), 74), (.inl (0, 10), 75)]
set_option maxHeartbeats 4000000 in
set_option maxRecDepth 20000 in
theorem zc72_e (cy : Nat → ClassId) (s0 : Nat) : zc72.map (gE cy (adF s0) M0) = wX1 cy (s0 + 1 + 13 + (1 + 4 * 4)) (s0 + 1 + 13 + (1 + 4 * 4 + 1)) := rfl
def zc76 : List (Shp × Nat) := [(.inr (1, [some 77, some 78, some 79, none, none, none, none, none, none]), 76), (.inl (0, 80), 77), (.inl (0, 80), 78), (.inl (0, 10), 79)]
set_option maxHeartbeats 4000000 in
set_option maxRecDepth 20000 in
theorem zc76_e (cy : Nat → ClassId) (s0 : Nat) : zc76.map (gE cy (adF s0) M0) = wX1 cy (s0 + 1 + 13 + (1 + 4 * 5)) (s0 + 1 + 13 + (1 + 4 * 5 + 1)) := rfl
def zc80 : List (Shp × Nat) := [(.inr (1, [some 81, some 82, some 83, none, none, none, none, none, none]), 80), (.inl (0, 80), 81), (.inl (0, 80), 82), (.inl (0, 10), 83)]
set_option maxHeartbeats 4000000 in
set_option maxRecDepth 20000 in
theorem zc80_e (cy : Nat → ClassId) (s0 : Nat) : zc80.map (gE cy (adF s0) M0) = wX1 cy (s0 + 1 + 13 + (1 + 4 * 6)) (s0 + 1 + 13 + (1 + 4 * 6 + 1)) := rfl
def zc84 : List (Shp × Nat) := [(.inr (1, [some 85, some 86, some 87, none, none, none, none, none, none]), 84), (.inl (0, 80), 85), (.inl (0, 80), 86), (.inl (0, 10), 87)]
set_option maxHeartbeats 4000000 in
set_option maxRecDepth 20000 in
theorem zc84_e (cy : Nat → ClassId) (s0 : Nat) : zc84.map (gE cy (adF s0) M0) = wX1 cy (s0 + 1 + 13 + (1 + 4 * 7)) (s0 + 1 + 13 + (1 + 4 * 7 + 1)) := rfl
def zc88 : List (Shp × Nat) := [(.inr (1, [some 89, some 90, some 91, none, none, none, none, none, none]), 88), (.inl (0, 80), 89), (.inl (0, 80), 90), (.inl (0, 10), 91)]
set_option maxHeartbeats 4000000 in
set_option maxRecDepth 20000 in
theorem zc88_e (cy : Nat → ClassId) (s0 : Nat) : zc88.map (gE cy (adF s0) M0) = wX1 cy (s0 + 1 + 13 + (1 + 4 * 8)) (s0 + 1 + 13 + (1 + 4 * 8 + 1)) := rfl
def zc92 : List (Shp × Nat) := [(.inr (1, [some 93, some 94, some 95, none, none, none, none, none, none]), 92), (.inl (0, 80), 93), (.inl (0, 80), 94), (.inl (0, 10), 95)]
set_option maxHeartbeats 4000000 in
set_option maxRecDepth 20000 in
theorem zc92_e (cy : Nat → ClassId) (s0 : Nat) : zc92.map (gE cy (adF s0) M0) = wX1 cy (s0 + 1 + 13 + (1 + 4 * 9)) (s0 + 1 + 13 + (1 + 4 * 9 + 1)) := rfl
def zc96 : List (Shp × Nat) := [(.inr (1, [some 97, some 98, some 99, none, none, none, none, none, none]), 96), (.inl (0, 80), 97), (.inl (0, 80), 98), (.inl (0, 10), 99)]
set_option maxHeartbeats 4000000 in
set_option maxRecDepth 20000 in
theorem zc96_e (cy : Nat → ClassId) (s0 : Nat) : zc96.map (gE cy (adF s0) M0) = wX1 cy (s0 + 1 + 13 + (1 + 4 * 10)) (s0 + 1 + 13 + (1 + 4 * 10 + 1)) := rfl
def zc100 : List (Shp × Nat) := [(.inr (1, [some 101, some 102, some 103, none, none, none, none, none, none]), 100), (.inl (0, 80), 101), (.inl (0, 80), 102), (.inl (0, 10), 103)]
set_option maxHeartbeats 4000000 in
set_option maxRecDepth 20000 in
theorem zc100_e (cy : Nat → ClassId) (s0 : Nat) : zc100.map (gE cy (adF s0) M0) = wX1 cy (s0 + 1 + 13 + (1 + 4 * 11)) (s0 + 1 + 13 + (1 + 4 * 11 + 1)) := rfl
def zc54 : Shp × Nat := (.inr (2, [some 55, none, none]), 54)
def zc55 : Shp × Nat := (.inl (4, 12), 55)
def zcN : List (Shp × Nat) := (((((((((((([] ++ zc56) ++ zc60) ++ zc64) ++ zc68) ++ zc72) ++ zc76) ++ zc80) ++ zc84) ++ zc88) ++ zc92) ++ zc96) ++ zc100)
set_option maxHeartbeats 4000000 in
set_option maxRecDepth 20000 in
theorem zcN_e (cy : Nat → ClassId) (s0 : Nat) : zcN.map (gE cy (adF s0) M0) = nets cy (s0 + 1 + 13) 12 := by
  unfold zcN
  rw [List.map_append, List.map_append, List.map_append, List.map_append, List.map_append, List.map_append, List.map_append, List.map_append, List.map_append, List.map_append, List.map_append, List.map_append]
  rw [zc56_e, zc60_e, zc64_e, zc68_e, zc72_e, zc76_e, zc80_e, zc84_e, zc88_e, zc92_e, zc96_e, zc100_e]
  simp only [nets, List.map_nil]
def zc104 : List (Shp × Nat) := [(.inr (7, [none, some 105, some 106, some 107, some 108, none, none, none]), 104), (.inl (1, 220), 105), (.inl (0, 11), 106), (.inl (0, 256), 107), (.inl (0, 2560), 108)]
set_option maxHeartbeats 4000000 in
set_option maxRecDepth 20000 in
theorem zc104_e (cy : Nat → ClassId) (s0 : Nat) : zc104.map (gE cy (adF s0) M0) = wX7 0 cy (s0 + 1 + 62) (s0 + 1 + 63) := rfl
def zc109 : List (Shp × Nat) := [(.inr (7, [none, some 110, some 111, some 112, some 113, none, none, none]), 109), (.inl (1, 220), 110), (.inl (0, 11), 111), (.inl (0, 256), 112), (.inl (0, 2560), 113)]
set_option maxHeartbeats 4000000 in
set_option maxRecDepth 20000 in
theorem zc109_e (cy : Nat → ClassId) (s0 : Nat) : zc109.map (gE cy (adF s0) M0) = wX7 1 cy (s0 + 1 + 67) (s0 + 1 + 68) := rfl
def zc114 : List (Shp × Nat) := [(.inr (3, [none, some 115, some 116, some 117, some 118, none, none, none]), 114), (.inl (0, 8), 115), (.inl (0, 8), 116), (.inl (0, 256), 117), (.inl (2, 1024), 118)]
set_option maxHeartbeats 4000000 in
set_option maxRecDepth 20000 in
theorem zc114_e (cy : Nat → ClassId) (s0 : Nat) : zc114.map (gE cy (adF s0) M0) = wX3 0 cy (s0 + 1 + 72) (s0 + 1 + 73) := rfl
def zc119 : List (Shp × Nat) := [(.inr (3, [none, some 120, some 121, some 122, some 123, none, none, none]), 119), (.inl (0, 8), 120), (.inl (0, 8), 121), (.inl (0, 256), 122), (.inl (2, 1024), 123)]
set_option maxHeartbeats 4000000 in
set_option maxRecDepth 20000 in
theorem zc119_e (cy : Nat → ClassId) (s0 : Nat) : zc119.map (gE cy (adF s0) M0) = wX3 1 cy (s0 + 1 + 77) (s0 + 1 + 78) := rfl
def zc124 : List (Shp × Nat) := [(.inr (6, [some 125, some 126, some 127, some 128, some 129, some 130, some 131, some 132, some 133, none, none, none, none, none, none]), 124), (.inl (0, 10), 125), (.inl (1, 90), 126), (.inl (0, 8), 127), (.inl (0, 8), 128), (.inl (0, 8), 129), (.inl (0, 12), 130), (.inl (0, 130), 131), (.inl (0, 8), 132), (.inl (2, 1296), 133)]
set_option maxHeartbeats 4000000 in
set_option maxRecDepth 20000 in
theorem zc124_e (cy : Nat → ClassId) (s0 : Nat) : zc124.map (gE cy (adF s0) M0) = wX6 cy (s0 + 1 + 82) (s0 + 1 + 83) := rfl
def zc134 : List (Shp × Nat) := [(.inr (0, [some 135, some 136, some 137, some 138, some 139, some 140, some 141, some 142, some 143, some 144, some 145, none, none, none, none, none, none, none]), 134), (.inl (0, 3010), 135), (.inl (0, 300), 136), (.inl (0, 300), 137), (.inl (0, 300), 138), (.inl (0, 2400), 139), (.inl (0, 1024), 140), (.inl (0, 301), 141), (.inl (0, 2400), 142), (.inl (0, 300), 143), (.inl (0, 300), 144), (.inl (0, 300), 145)]
set_option maxHeartbeats 4000000 in
set_option maxRecDepth 20000 in
theorem zc134_e (cy : Nat → ClassId) (s0 : Nat) : zc134.map (gE cy (adF s0) M0) = wX0 cy (s0 + 1 + 92) (s0 + 1 + 93) := rfl
def zc146 : List (Shp × Nat) := [(.inr (5, [some 147, some 151, some 152, some 153, none, none]), 146), (.inr (1, [some 148, some 149, some 150, none, none, none, none, none, none]), 147), (.inl (0, 80), 148), (.inl (0, 80), 149), (.inl (0, 10), 150), (.inl (0, 18), 151), (.inl (0, 18), 152), (.inl (0, 18), 153)]
set_option maxHeartbeats 4000000 in
set_option maxRecDepth 20000 in
theorem zc146_e (cy : Nat → ClassId) (s0 : Nat) : zc146.map (gE cy (adF s0) M0) = wX5 cy (s0 + 1 + 104) (s0 + 1 + 105) := rfl
def zc154 : List (Shp × Nat) := [(.inr (0, [some 155, some 156, some 157, some 158, some 159, some 160, some 161, some 162, some 163, some 164, some 165, none, none, none, none, none, none, none]), 154), (.inl (0, 3010), 155), (.inl (0, 300), 156), (.inl (0, 300), 157), (.inl (0, 300), 158), (.inl (0, 2400), 159), (.inl (0, 1024), 160), (.inl (0, 301), 161), (.inl (0, 2400), 162), (.inl (0, 300), 163), (.inl (0, 300), 164), (.inl (0, 300), 165)]
set_option maxHeartbeats 4000000 in
set_option maxRecDepth 20000 in
theorem zc154_e (cy : Nat → ClassId) (s0 : Nat) : zc154.map (gE cy (adF s0) M0) = wX0 cy (s0 + 1 + 112) (s0 + 1 + 113) := rfl
set_option maxRecDepth 20000 in
theorem zc_all : shL.zipIdx = (zc0 ++ zc40) ++ (zc41 :: (((((((((((zc42 ++ zc46) ++ zc50) ++ (zc54 :: zc55 :: zcN)) ++ zc104) ++ zc109) ++ zc114) ++ zc119) ++ zc124) ++ zc134) ++ zc146) ++ zc154)) := by decide +kernel
set_option maxHeartbeats 4000000 in
set_option maxRecDepth 20000 in
theorem mk_eq (cy : Nat → ClassId) (s0 : Nat) : rw_mk cy (adF s0) M0 = (wX9 cy (s0 + 125) (s0 + 126) ++ [(s0 + 165, .inl (cy 1, 1, .inr (.inl (fun _ => 0))))]) ++ wX8 (fun _ i => some (adF s0 (55 + 1 + 4 * i))) cy s0 (s0 + 1) := by
  rw [rw_mk_g, zc_all]
  simp only [List.map_append, List.map_cons]
  rw [zc0_e, zc40_e, zcN_e, zc42_e, zc46_e, zc50_e, zc104_e, zc109_e, zc114_e, zc119_e, zc124_e, zc134_e, zc146_e, zc154_e]
  unfold wX8 wX2
  rfl
theorem wX8_cg {f f' : Nat → Nat → Option Nat} {cy : Nat → ClassId} {h0 sz : Nat} (h : f (sz + 13) = f' (sz + 13)) : wX8 f cy h0 sz = wX8 f' cy h0 sz := by
  unfold wX8 wX2
  rw [h]
theorem va_P_l {D : va_G} {cl : List vw_C} {a b : va_W} {H : Heap} (h : va_P D cl (a ++ b) H) : va_P D cl a H := fun k q hk => by
  obtain ⟨i, hi⟩ := List.getElem?_of_mem (List.mem_append_left b (List.mem_of_getElem? hk))
  exact h i q hi
theorem va_P_r {D : va_G} {cl : List vw_C} {a b : va_W} {H : Heap} (h : va_P D cl (a ++ b) H) : va_P D cl b H := fun k q hk => by
  obtain ⟨i, hi⟩ := List.getElem?_of_mem (List.mem_append_right a (List.mem_of_getElem? hk))
  exact h i q hi
theorem start_P {D : va_G} {cy : Nat → ClassId} {s0 : Nat} {f : Nat → Nat → Option Nat} {H : Heap} (hf : f (s0 + 14) = fun i => some (adF s0 (55 + 1 + 4 * i))) (h : va_P D vwCl ((wX8 f cy s0 (s0 + 1) ++ wX9 cy (s0 + 125) (s0 + 126)) ++ [(s0 + 165, .inl (cy 1, 1, .inr (.inl (fun _ => 0))))]) H) : va_P D vwCl (rw_mk cy (adF s0) M0) H := by
  rw [mk_eq, wX8_cg (f' := f) (by rw [show s0 + 1 + 13 = s0 + 14 by omega, hf])]
  exact ((va_P_r (va_P_l h)).app (va_P_r h)).app (va_P_l (va_P_l h))
