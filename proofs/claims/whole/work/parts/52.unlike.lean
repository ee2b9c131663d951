/-! the watch -/
def bcI (x : Int32) : Int32 := ((fJ6_bitCount_0f7a4 x w00).getD (0, w00)).1
theorem J6_bc (x : Int32) (w : Wd) : fJ6_bitCount_0f7a4 x w = some (bcI x, w) := rfl
theorem bc_eq : ∀ m, m < 1024 → bcI (nI m &&& (-2)) = bcI (nI m >>> (1 &&& 31)) := by decide +kernel
theorem or_10 : ∀ d, d < 10 → ∀ m, m < 1024 → nI m ||| ((1 : Int32) <<< (nI d &&& 31)) = nI (m ||| 2 ^ d) := by decide +kernel
theorem or_10b : ∀ d, d < 10 → ∀ m, m < 1024 → m ||| 2 ^ d < 1024 := by decide +kernel
def dmS (C : Cl) (h : Nat) : Nat → Nat
  | 0 => 0
  | n + 1 => dmS C h n ||| 2 ^ doesS C n h
theorem does_le {C : Cl} (hI : CI C) {p h : Nat} (hp : p < cP C) (hh : h < 12) : doesS C p h ≤ 9 := deed_le hI hp hh _ (by have := (hI.2.1 p hp).1; omega)
theorem dmS_lt {C : Cl} (hI : CI C) {h : Nat} (hh : h < 12) : ∀ n, n ≤ cP C → dmS C h n < 1024
  | 0, _ => Nat.le_of_ble_eq_true rfl
  | n + 1, hn => or_10b _ (by have := does_le hI (show n < cP C by omega) hh; omega) _ (dmS_lt hI hh n (by omega))
def unS (C : Cl) (h : Nat) : Int32 := bcI (nI (dmS C h (cP C)) >>> (1 &&& 31))
theorem X0_unlikeDeeds {w : Wd} {b : Nat} {C : Cl} (hc : ClS w b) (hx : IsX w b C) (hI : CI C) {h : Nat} (hh : h < 12) : fX0_unlikeDeeds b (nI h) w = some (unS C h, w) := by
  have hP : cP C ≤ 6 := hI.1.1
  obtain ⟨a1, -⟩ := hc.B
  unfold fX0_unlikeDeeds fX0_unlikeDeeds_L4
  refine it_for (fun i => (nI (dmS C h i), nI i, w)) (cP C) (by omega) (fun i hi => ?_) ?_
  · have hd := does_le hI hi hh
    have hm := dmS_lt hI hh i (by omega)
    unfold fX0_unlikeDeeds_L4_body
    simp only [chk_t a1, hx.1.1, nI_le_iff (show cP C < 2147483648 by omega) (show i < 2147483648 by omega), if_neg (Nat.not_le.mpr hi), X0_deedOf hc hx hI hi hh, ob_s, bnd_e, or_10 _ (show doesS C i h < 10 by omega) _ hm, nI_1]
    rfl
  · unfold fX0_unlikeDeeds_L4_body
    simp only [chk_t a1, hx.1.1, if_pos (Int32.le_refl _), J6_bc, ob_s, wr_s, bc_eq _ (dmS_lt hI hh (cP C) (by omega))]
    rfl
