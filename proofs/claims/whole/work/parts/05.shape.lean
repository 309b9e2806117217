/-- the shapes of the cells: an array (its type: 0 int, 1 long, 2 byte, 3 boolean, 4 nets; its length), an object (its number, its slots: a constant cell, or a number) -/
abbrev Shp : Type := (Nat × Nat) ⊕ (Nat × List (Option Nat))
def shL : List Shp := [
  .inr (9, [none, some 1, some 2, some 3, some 4, some 5, some 6, some 7, some 8, some 9, none, none, none, none, none, none, none, none, none, none, none, none, none, none, none, some 10, none, some 11, some 12, some 13, some 14, some 15, some 16, some 17, some 18, some 19, some 20, some 21, some 22, some 23, none, none, some 24, some 25, some 26, some 27, some 28, some 29, some 30, some 31, some 32, some 33, some 34, some 35, some 36, some 37, some 38, some 39, none]), .inl (0, 240), .inl (0, 240), .inl (0, 30), .inl (0, 3), .inl (0, 3),
  .inl (0, 10), .inl (0, 8), .inl (0, 10), .inl (0, 900), .inl (0, 2064), .inl (1, 100),
  .inl (1, 10), .inl (0, 10), .inl (0, 520), .inl (0, 5200), .inl (0, 520), .inl (0, 2),
  .inl (0, 2), .inl (0, 8), .inl (0, 8), .inl (0, 10), .inl (0, 8), .inl (3, 1300),
  .inl (0, 6000), .inl (0, 600), .inl (0, 600), .inl (0, 600), .inl (0, 600), .inl (0, 4800),
  .inl (0, 2), .inl (0, 10), .inl (0, 300), .inl (3, 2), .inl (3, 300), .inl (3, 300),
  .inl (3, 300), .inl (0, 20), .inl (0, 20), .inl (0, 20), .inl (1, 1), .inr (8, [some 42, some 46, some 50, some 54, some 104, some 109, some 114, some 119, some 124, some 134, some 146, some 154, none]),
  .inr (4, [some 43, some 44, some 45, none, none, none, none, none, none, none, none]), .inl (0, 900), .inl (0, 10), .inl (0, 8), .inr (1, [some 47, some 48, some 49, none, none, none, none, none, none]), .inl (0, 80),
  .inl (0, 80), .inl (0, 10), .inr (1, [some 51, some 52, some 53, none, none, none, none, none, none]), .inl (0, 80), .inl (0, 80), .inl (0, 10),
  .inr (2, [some 55, none, none]), .inl (4, 12), .inr (1, [some 57, some 58, some 59, none, none, none, none, none, none]), .inl (0, 80), .inl (0, 80), .inl (0, 10),
  .inr (1, [some 61, some 62, some 63, none, none, none, none, none, none]), .inl (0, 80), .inl (0, 80), .inl (0, 10), .inr (1, [some 65, some 66, some 67, none, none, none, none, none, none]), .inl (0, 80),
  .inl (0, 80), .inl (0, 10), .inr (1, [some 69, some 70, some 71, none, none, none, none, none, none]), .inl (0, 80), .inl (0, 80), .inl (0, 10),
  .inr (1, [some 73, some 74, some 75, none, none, none, none, none, none]), .inl (0, 80), .inl (0, 80), .inl (0, 10), .inr (1, [some 77, some 78, some 79, none, none, none, none, none, none]), .inl (0, 80),
  .inl (0, 80), .inl (0, 10), .inr (1, [some 81, some 82, some 83, none, none, none, none, none, none]), .inl (0, 80), .inl (0, 80), .inl (0, 10),
  .inr (1, [some 85, some 86, some 87, none, none, none, none, none, none]), .inl (0, 80), .inl (0, 80), .inl (0, 10), .inr (1, [some 89, some 90, some 91, none, none, none, none, none, none]), .inl (0, 80),
  .inl (0, 80), .inl (0, 10), .inr (1, [some 93, some 94, some 95, none, none, none, none, none, none]), .inl (0, 80), .inl (0, 80), .inl (0, 10),
  .inr (1, [some 97, some 98, some 99, none, none, none, none, none, none]), .inl (0, 80), .inl (0, 80), .inl (0, 10), .inr (1, [some 101, some 102, some 103, none, none, none, none, none, none]), .inl (0, 80),
  .inl (0, 80), .inl (0, 10), .inr (7, [none, some 105, some 106, some 107, some 108, none, none, none]), .inl (1, 220), .inl (0, 11), .inl (0, 256),
  .inl (0, 2560), .inr (7, [none, some 110, some 111, some 112, some 113, none, none, none]), .inl (1, 220), .inl (0, 11), .inl (0, 256), .inl (0, 2560),
  .inr (3, [none, some 115, some 116, some 117, some 118, none, none, none]), .inl (0, 8), .inl (0, 8), .inl (0, 256), .inl (2, 1024), .inr (3, [none, some 120, some 121, some 122, some 123, none, none, none]),
  .inl (0, 8), .inl (0, 8), .inl (0, 256), .inl (2, 1024), .inr (6, [some 125, some 126, some 127, some 128, some 129, some 130, some 131, some 132, some 133, none, none, none, none, none, none]), .inl (0, 10),
  .inl (1, 90), .inl (0, 8), .inl (0, 8), .inl (0, 8), .inl (0, 12), .inl (0, 130),
  .inl (0, 8), .inl (2, 1296), .inr (0, [some 135, some 136, some 137, some 138, some 139, some 140, some 141, some 142, some 143, some 144, some 145, none, none, none, none, none, none, none]), .inl (0, 3010), .inl (0, 300), .inl (0, 300),
  .inl (0, 300), .inl (0, 2400), .inl (0, 1024), .inl (0, 301), .inl (0, 2400), .inl (0, 300),
  .inl (0, 300), .inl (0, 300), .inr (5, [some 147, some 151, some 152, some 153, none, none]), .inr (1, [some 148, some 149, some 150, none, none, none, none, none, none]), .inl (0, 80), .inl (0, 80),
  .inl (0, 10), .inl (0, 18), .inl (0, 18), .inl (0, 18), .inr (0, [some 155, some 156, some 157, some 158, some 159, some 160, some 161, some 162, some 163, some 164, some 165, none, none, none, none, none, none, none]), .inl (0, 3010),
  .inl (0, 300), .inl (0, 300), .inl (0, 300), .inl (0, 2400), .inl (0, 1024), .inl (0, 301),
  .inl (0, 2400), .inl (0, 300), .inl (0, 300), .inl (0, 300)]
def NC : Nat := 166
theorem rw_len : shL.length = NC := by decide +kernel
