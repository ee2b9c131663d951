/-! the layout after construction (printed by shape.py) -/
def w00 : Wd := (0, fun _ => (0, 0), fun _ _ => 0, fun _ _ => 0, fun _ _ => none)
def wx1 : Wd := al w00 17 0
def wm1 : Wd := al w00 18 0
def wx0 : Wd := (fX7_init 0 wx1).getD w00
def wm0 : Wd := (fX8_init 0 wm1).getD w00
def hdX (a : Nat) : Nat × Nat := [(17, 0), (4, 8), (0, 8), (10, 0), (3, 6), (2, 8), (0, 6), (14, 0), (0, 12), (14, 0), (0, 12), (14, 0), (0, 12), (14, 0), (0, 12), (14, 0), (0, 12), (14, 0), (0, 12), (12, 0), (0, 12), (0, 12), (12, 0), (0, 12), (0, 12), (12, 0), (0, 12), (0, 12), (12, 0), (0, 12), (0, 12), (12, 0), (0, 12), (0, 12), (12, 0), (0, 12), (0, 12), (12, 0), (0, 12), (0, 12), (12, 0), (0, 12), (0, 12), (10, 0), (3, 6), (2, 8), (0, 6), (14, 0), (0, 12), (14, 0), (0, 12), (14, 0), (0, 12), (14, 0), (0, 12), (14, 0), (0, 12), (14, 0), (0, 12), (12, 0), (0, 12), (0, 12), (12, 0), (0, 12), (0, 12), (12, 0), (0, 12), (0, 12), (12, 0), (0, 12), (0, 12), (12, 0), (0, 12), (0, 12), (12, 0), (0, 12), (0, 12), (12, 0), (0, 12), (0, 12), (12, 0), (0, 12), (0, 12), (10, 0), (3, 6), (2, 8), (0, 6), (14, 0), (0, 12), (14, 0), (0, 12), (14, 0), (0, 12), (14, 0), (0, 12), (14, 0), (0, 12), (14, 0), (0, 12), (12, 0), (0, 12), (0, 12), (12, 0), (0, 12), (0, 12), (12, 0), (0, 12), (0, 12), (12, 0), (0, 12), (0, 12), (12, 0), (0, 12), (0, 12), (12, 0), (0, 12), (0, 12), (12, 0), (0, 12), (0, 12), (12, 0), (0, 12), (0, 12), (12, 0), (0, 12), (0, 12), (15, 0), (0, 4), (11, 0), (0, 4), (0, 4), (0, 6), (0, 96), (13, 0), (0, 20), (16, 0), (1, 160), (16, 0), (1, 160), (16, 0), (1, 160), (16, 0), (1, 160), (16, 0), (1, 160), (16, 0), (1, 160), (16, 0), (1, 160), (16, 0), (1, 160)].getD a (99, 0)
def rfX (a i : Nat) : Option Nat := ([[some 1, some 2, some 3, some 43, some 83, some 123, some 126, some 128, some 133], [some 135, some 137, some 139, some 141, some 143, some 145, some 147, some 149], [], [some 4, some 5, some 6], [some 7, some 9, some 11, some 13, some 15, some 17], [some 19, some 22, some 25, some 28, some 31, some 34, some 37, some 40], [], [some 8], [], [some 10], [], [some 12], [], [some 14], [], [some 16], [], [some 18], [], [some 20, some 21], [], [], [some 23, some 24], [], [], [some 26, some 27], [], [], [some 29, some 30], [], [], [some 32, some 33], [], [], [some 35, some 36], [], [], [some 38, some 39], [], [], [some 41, some 42], [], [], [some 44, some 45, some 46], [some 47, some 49, some 51, some 53, some 55, some 57], [some 59, some 62, some 65, some 68, some 71, some 74, some 77, some 80], [], [some 48], [], [some 50], [], [some 52], [], [some 54], [], [some 56], [], [some 58], [], [some 60, some 61], [], [], [some 63, some 64], [], [], [some 66, some 67], [], [], [some 69, some 70], [], [], [some 72, some 73], [], [], [some 75, some 76], [], [], [some 78, some 79], [], [], [some 81, some 82], [], [], [some 84, some 85, some 86], [some 87, some 89, some 91, some 93, some 95, some 97], [some 99, some 102, some 105, some 108, some 111, some 114, some 117, some 120], [], [some 88], [], [some 90], [], [some 92], [], [some 94], [], [some 96], [], [some 98], [], [some 100, some 101], [], [], [some 103, some 104], [], [], [some 106, some 107], [], [], [some 109, some 110], [], [], [some 112, some 113], [], [], [some 115, some 116], [], [], [some 118, some 119], [], [], [some 121, some 122], [], [], [some 124, some 125], [], [], [none, some 127], [], [some 129, none, some 130, some 131, some 132], [], [], [], [], [none, some 134], [], [some 136], [], [some 138], [], [some 140], [], [some 142], [], [some 144], [], [some 146], [], [some 148], [], [some 150], []].getD a []).getD i none
def hdM (a : Nat) : Nat × Nat := [(18, 0), (0, 8), (0, 8), (1, 1280), (0, 6), (0, 72), (0, 8), (0, 8), (0, 8), (0, 96), (0, 96), (0, 8), (0, 20), (0, 298), (0, 298), (0, 298), (0, 6), (0, 4), (0, 4)].getD a (99, 0)
def rfM (i : Nat) : Option Nat := [some 1, some 2, some 3, none, some 4, some 5, none, some 6, some 7, some 8, some 9, some 10, none, none, none, some 11, none, some 12, none, some 13, some 14, some 15, some 16, some 17, none, none, some 18].getD i none
set_option maxRecDepth 100000 in
theorem init_x : (fX7_init 0 wx1).isSome = true := by decide +kernel
set_option maxRecDepth 100000 in
theorem init_m : (fX8_init 0 wm1).isSome = true := by decide +kernel
theorem init_x0 : fX7_init 0 wx1 = some wx0 := by
  have h := init_x
  unfold wx0
  revert h
  cases fX7_init 0 wx1 with
  | none => intro h; cases h
  | some w => intro _; rfl
theorem init_m0 : fX8_init 0 wm1 = some wm0 := by
  have h := init_m
  unfold wm0
  revert h
  cases fX8_init 0 wm1 with
  | none => intro h; cases h
  | some w => intro _; rfl
set_option maxRecDepth 100000 in
theorem wx0_N : wN wx0 = 151 := by decide +kernel
set_option maxRecDepth 100000 in
theorem wx0_hd : ∀ a, a < 151 → wx0.2.1 a = hdX a := by decide +kernel
set_option maxRecDepth 100000 in
theorem wx0_rf : ∀ a, a < 151 → ∀ i, i < 12 → wR wx0 a i = rfX a i := by decide +kernel
set_option maxRecDepth 100000 in
theorem wm0_N : wN wm0 = 19 := by decide +kernel
set_option maxRecDepth 100000 in
theorem wm0_hd : ∀ a, a < 19 → wm0.2.1 a = hdM a := by decide +kernel
set_option maxRecDepth 100000 in
theorem wm0_rf : ∀ i, i < 27 → wR wm0 0 i = rfM i := by decide +kernel
