/-! himself all day -/
def seF (C : Cl) (p : Nat) (wn : Nat → Bool) (will h : Nat) : Bool := decide (deedS C p h wn will ≠ cOw C p h)
def seS (C : Cl) (p : Nat) (wn : Nat → Bool) (will : Nat) : Bool := decide (fI (seF C p wn will) 12 = 12)
theorem X0_doesAllOwn {w : Wd} {b : Nat} {C : Cl} (hc : ClS w b) (hx : IsX w b C) (hI : CI C) {p m will : Nat} (hp : p < cP C) (hm : m < 256) (hw : will ≤ 27) : fX0_doesAllOwn b (nI p) (nI m) (nI will) w = some (if seS C p (fun g => m.testBit g) will then 1 else 0, w) := by
  have hP : cP C ≤ 6 := hI.1.1
  obtain ⟨a1, a2, a3, a4, a5, a6, a7, a8, -⟩ := hc.B
  obtain ⟨p1, p2, p3, p4, p5, p6, p7⟩ := hc.P (show p < 6 by omega)
  have hle := fI_le (seF C p (fun g => m.testBit g) will) 12
  have key : ∀ i, i < 12 → fX0_doesAllOwn_L3_body b (nI p) (nI m) (nI will) (nI i, w) = if deedS C p i (fun g => m.testBit g) will = cOw C p i then some (.inl (nI (i + 1), w)) else some (.inr (0, w)) := by
    intro i hi
    obtain ⟨n1, n2⟩ := inb12 hi
    have o1 := (hx.2.1 p hp).2 i hi
    have o2 := (hI.2.1 p hp).2 i hi
    have o3 := deed_le hI hp hi (fun g => m.testBit g) hw
    unfold fX0_doesAllOwn_L3_body
    simp only [leL12 (show i < 2147483648 by omega), if_neg (Nat.not_le.mpr hi), chk_t a1, X0_deedIn hc hx hI hp hi hm hw, ob_s, a2, chk_t a5, a6, chk_t p1, p2, p3, chk_t p4, p5, chk_t p6, p7, chk_t n1, n2, o1, nI_eq_iff (show deedS C p i (fun g => m.testBit g) will < 2147483648 by omega) (show cOw C p i < 2147483648 by omega), nI_1, wr_s]
  unfold fX0_doesAllOwn fX0_doesAllOwn_L3
  refine it_for (fun i => (nI i, w)) (fI (seF C p (fun g => m.testBit g) will) 12) (by omega) (fun i hi => ?_) ?_
  · have hn := fI_no (seF C p (fun g => m.testBit g) will) 12 i hi
    rw [key i (by omega), if_pos (Decidable.not_not.mp (of_decide_eq_false hn))]
  · have hy := fI_yes (seF C p (fun g => m.testBit g) will) 12
    unfold seS
    generalize fI (seF C p (fun g => m.testBit g) will) 12 = t at hle hy ⊢
    by_cases e : t < 12
    · rw [key t e, if_neg (of_decide_eq_true (hy e)), if_neg (show ¬ decide (t = 12) = true from fun q => by have := of_decide_eq_true q; omega)]
    · have e2 : t = 12 := by omega
      subst e2
      rfl
theorem X8_isHimself {w : Wd} {C : Cl} (hc : ShM w) (hx : IsM w C) (hI : CI C) {p m : Nat} (hp : p < cP C) (hm : m < 256) : fX8_isHimself 0 (nI p) (nI m) w = some (if seS C p (wnM C p m) (cWl C p) then 1 else 0, w) := by
  have hP : cP C ≤ 6 := hI.1.1
  have a0 := hc.O
  have hw := (hI.2.1 p hp).1
  obtain ⟨d1, d2, d3⟩ := hc.a5
  have hle := fI_le (seF C p (wnM C p m) (cWl C p)) 12
  have key : ∀ i, i < 12 → fX8_isHimself_L2_body 0 (nI p) (nI m) (nI i, w) = if deedS C p i (wnM C p m) (cWl C p) = cOw C p i then some (.inl (nI (i + 1), w)) else some (.inr (0, w)) := by
    intro i hi
    obtain ⟨y1, y2⟩ := inb72 (show p < 6 by omega) hi
    have o1 := (hx.2.1 p hp).2 i hi
    have o2 := (hI.2.1 p hp).2 i hi
    have o3 := deed_le hI hp hi (wnM C p m) (show cWl C p ≤ 27 by omega)
    unfold fX8_isHimself_L2_body
    simp only [leL12 (show i < 2147483648 by omega), if_neg (Nat.not_le.mpr hi), chk_t a0, X8_doesWithout hc hx hI hp hi hm, ob_s, d1, chk_t d2, d3, tw_mul_nI, nI_add, chk_t y1, y2, o1, nI_eq_iff (show deedS C p i (wnM C p m) (cWl C p) < 2147483648 by omega) (show cOw C p i < 2147483648 by omega), nI_1, wr_s]
  unfold fX8_isHimself fX8_isHimself_L2
  refine it_for (fun i => (nI i, w)) (fI (seF C p (wnM C p m) (cWl C p)) 12) (by omega) (fun i hi => ?_) ?_
  · have hn := fI_no (seF C p (wnM C p m) (cWl C p)) 12 i hi
    rw [key i (by omega), if_pos (Decidable.not_not.mp (of_decide_eq_false hn))]
  · have hy := fI_yes (seF C p (wnM C p m) (cWl C p)) 12
    unfold seS
    generalize fI (seF C p (wnM C p m) (cWl C p)) 12 = t at hle hy ⊢
    by_cases e : t < 12
    · rw [key t e, if_neg (of_decide_eq_true (hy e)), if_neg (show ¬ decide (t = 12) = true from fun q => by have := of_decide_eq_true q; omega)]
    · have e2 : t = 12 := by omega
      subst e2
      rfl
theorem fI_congr {f f' : Nat → Bool} : ∀ n, (∀ i, i < n → f i = f' i) → fI f n = fI f' n
  | 0, _ => rfl
  | n + 1, h => by
    rw [fI_s, fI_s, fI_congr n (fun i hi => h i (by omega)), h n (by omega)]
theorem seS_congr {C : Cl} {p will : Nat} {wn wn' : Nat → Bool} (hw : ∀ g, g < cG C → wn g = wn' g) : seS C p wn will = seS C p wn' will := by
  have e : ∀ h, seF C p wn will h = seF C p wn' will h := fun h => by
    unfold seF
    rw [deed_congr hw]
  unfold seS
  rw [fI_congr 12 (fun i _ => e i)]
/-! the least will with which somebody is himself -/
def wrS (C : Cl) (p g : Nat) : Bool := decide (cWr C g = p + 1)
def lwS (C : Cl) (p : Nat) : Nat := fI (fun v => seS C p (wrS C p) v) 10
def lwR (C : Cl) (p : Nat) : Int32 := if lwS C p < 10 then nI (lwS C p) else -1
theorem X0_leastWill {w : Wd} {b : Nat} {C : Cl} (hc : ClS w b) (hx : IsX w b C) (hI : CI C) {p : Nat} (hp : p < cP C) : fX0_leastWill b (nI p) w = some (lwR C p, w) := by
  have hG : cG C ≤ 8 := hI.1.2
  have hP : cP C ≤ 6 := hI.1.1
  obtain ⟨a1, -⟩ := hc.B
  have hwb := X0_wornBy hc hx hI (show p + 1 < 100 by omega)
  rw [wv_s] at hwb
  have hm := bN_256 (fun g => decide (cWr C g = p + 1)) hG
  have hle := fI_le (fun v => seS C p (wrS C p) v) 10
  have hse : ∀ v, seS C p (fun g => (bN (fun g => decide (cWr C g = p + 1)) (cG C)).testBit g) v = seS C p (wrS C p) v := fun v => seS_congr (fun g hg => by rw [bN_bit]; simp [hg, wrS])
  have key : ∀ i, i < 10 → fX0_leastWill_L8_body b (nI p) (nI (bN (fun g => decide (cWr C g = p + 1)) (cG C))) (nI i, w) = if seS C p (wrS C p) i = true then some (.inr (nI i, w)) else some (.inl (nI (i + 1), w)) := by
    intro i hi
    unfold fX0_leastWill_L8_body
    simp only [ltL9 (show i < 2147483648 by omega), if_neg (show ¬ 9 < i by omega), chk_t a1, X0_doesAllOwn hc hx hI hp hm (show i ≤ 27 by omega), ob_s, hse, nI_1, wr_s]
    cases seS C p (wrS C p) i <;> rfl
  unfold fX0_leastWill
  rw [chk_t a1, hwb, ob_s]
  unfold fX0_leastWill_L8
  refine it_for (fun i => (nI i, w)) (lwS C p) (by unfold lwS; omega) (fun i hi => ?_) ?_
  · have hn := fI_no (fun v => seS C p (wrS C p) v) 10 i hi
    have hlt : i < 10 := Nat.lt_of_lt_of_le hi hle
    rw [key i hlt, if_neg (by rw [hn]; decide)]
  · have hy := fI_yes (fun v => seS C p (wrS C p) v) 10
    unfold lwR
    unfold lwS at hle ⊢
    generalize fI (fun v => seS C p (wrS C p) v) 10 = t at hle hy ⊢
    by_cases e : t < 10
    · rw [key t e, if_pos (hy e), if_pos e]
    · have e2 : t = 10 := by omega
      subst e2
      rfl
