/-! the fewest garments off -/
def fwS (C : Cl) (p M : Nat) : Nat → Nat
  | 0 => M
  | n + 1 => if n &&& (255 - M) = 0 ∧ ¬ bcI (nI (fwS C p M n)) ≤ bcI (nI n) ∧ seS C p (fun g => (M &&& (255 - n)).testBit g) (cWl C p) = true then n else fwS C p M n
theorem fwS_s (C : Cl) (p M n : Nat) : fwS C p M (n + 1) = if n &&& (255 - M) = 0 ∧ ¬ bcI (nI (fwS C p M n)) ≤ bcI (nI n) ∧ seS C p (fun g => (M &&& (255 - n)).testBit g) (cWl C p) = true then n else fwS C p M n := rfl
theorem fwS_lt (C : Cl) (p : Nat) {M : Nat} (hM : M < 256) : ∀ n, n ≤ 256 → fwS C p M n < 256
  | 0, _ => hM
  | n + 1, h => by
    have := fwS_lt C p hM n (by omega)
    rw [fwS_s]
    by_cases e : n &&& (255 - M) = 0 ∧ ¬ bcI (nI (fwS C p M n)) ≤ bcI (nI n) ∧ seS C p (fun g => (M &&& (255 - n)).testBit g) (cWl C p) = true
    · rw [if_pos e]; omega
    · rw [if_neg e]; exact this
theorem fwS_bc (C : Cl) (p M : Nat) : ∀ n, bcI (nI (fwS C p M n)) ≤ bcI (nI M)
  | 0 => Int32.le_refl _
  | n + 1 => by
    have ih := fwS_bc C p M n
    rw [fwS_s]
    by_cases e : n &&& (255 - M) = 0 ∧ ¬ bcI (nI (fwS C p M n)) ≤ bcI (nI n) ∧ seS C p (fun g => (M &&& (255 - n)).testBit g) (cWl C p) = true
    · rw [if_pos e]
      exact Int32.le_trans (Int32.le_of_lt (Int32.not_le.mp e.2.1)) ih
    · rw [if_neg e]; exact ih
theorem fwS_end (C : Cl) (p : Nat) {M : Nat} (hM : M < 256) : ∀ k, M + k ≤ 256 → fwS C p M (M + k) = fwS C p M M
  | 0, _ => rfl
  | k + 1, h => by
    rw [← Nat.add_assoc, fwS_s, fwS_end C p hM k (by omega)]
    refine if_neg (fun q => ?_)
    have hl := nd_lt (M + k) (by omega) M hM q.1
    have e : M + k = M := by omega
    rw [e] at q
    exact q.2.1 (fwS_bc C p M M)
def fwR (C : Cl) (p : Nat) : Nat := fwS C p (bN (wrS C p) (cG C)) (bN (wrS C p) (cG C))
theorem X0_fewestOff {w : Wd} {b : Nat} {C : Cl} (hc : ClS w b) (hx : IsX w b C) (hI : CI C) {p : Nat} (hp : p < cP C) : fX0_fewestOff b (nI p) w = some (nI (fwR C p), w) := by
  have hG : cG C ≤ 8 := hI.1.2
  have hP : cP C ≤ 6 := hI.1.1
  obtain ⟨a1, a2, a3, a4, a5, a6, a7, a8, -⟩ := hc.B
  obtain ⟨p1, p2, p3, p4, p5, p6, p7⟩ := hc.P (show p < 6 by omega)
  have hwb : fX0_wornBy b (nI p) w = some (nI (bN (wrS C p) (cG C)), w) := by
    have := X0_wornBy hc hx hI (show p + 1 < 100 by omega)
    rw [wv_s] at this
    exact this
  have hM := bN_256 (wrS C p) hG
  have hwl : wI w (pA b p) 1 = nI (cWl C p) := (hx.2.1 p hp).1
  have hw9 := (hI.2.1 p hp).1
  unfold fX0_fewestOff
  rw [chk_t a1, hwb, ob_s]
  unfold fwR
  generalize bN (wrS C p) (cG C) = M at hM ⊢
  unfold fX0_fewestOff_L11
  refine it_for (fun i => (nI (fwS C p M i), nI i, w)) M (by omega) (fun i hi => ?_) ?_
  · have hlt := fwS_lt C p hM i (by omega)
    unfold fX0_fewestOff_L11_body
    simp only [nI_le_iff (show M < 2147483648 by omega) (show i < 2147483648 by omega), if_neg (Nat.not_le.mpr hi), nd_c M hM i (by omega), nd_c i (by omega) M hM, eqL0 (show i &&& (255 - M) < 2147483648 from Nat.lt_of_lt_of_le (and_256 i M (by omega)) (by decide)), J6_bc, ob_s, chk_t a1, a2, chk_t a5, a6, chk_t p1, p2, p3, chk_t p4, hwl, X0_doesAllOwn hc hx hI hp (and_256 M i hM) (show cWl C p ≤ 27 by omega), fX0_fewestOff_b64, nI_1, fwS_s]
    by_cases e1 : i &&& (255 - M) = 0
    · rw [if_pos e1]
      by_cases e2 : bcI (nI (fwS C p M i)) ≤ bcI (nI i)
      · rw [if_pos e2, if_neg (fun q => q.2.1 e2)]
      · rw [if_neg e2]
        by_cases e3 : seS C p (fun g => (M &&& (255 - i)).testBit g) (cWl C p) = true
        · rw [if_pos (⟨e1, e2, e3⟩ : _ ∧ _ ∧ _), if_pos e3]
          rfl
        · rw [if_neg (fun q : _ ∧ _ ∧ _ => e3 q.2.2), if_neg e3]
          rfl
    · rw [if_neg e1, if_neg (fun q : _ ∧ _ ∧ _ => e1 q.1)]
  · unfold fX0_fewestOff_L11_body
    simp only [if_pos (Int32.le_refl _), wr_s]
