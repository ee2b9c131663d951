/-! masks of eight -/
theorem nd_c : ∀ i, i < 256 → ∀ m, m < 256 → nI m &&& (nI i ^^^ (-1)) = nI (m &&& (255 - i)) := by decide +kernel
theorem cm_bit : ∀ g, g < 8 → ∀ i, i < 256 → (255 - i).testBit g = !i.testBit g := by decide +kernel
theorem nd_lt : ∀ i, i < 256 → ∀ m, m < 256 → i &&& (255 - m) = 0 → i ≤ m := by decide +kernel
theorem sl_8 : ∀ g, g < 9 → (1 : Int32) <<< (nI g &&& 31) = nI (2 ^ g) := by decide +kernel
theorem and_256 (m i : Nat) (hm : m < 256) : m &&& (255 - i) < 256 := Nat.lt_of_le_of_lt Nat.and_le_left hm
