/-! writing a will -/
def setW (C : Cl) (p v : Nat) : Cl := (C.1, C.2.1, C.2.2.1, C.2.2.2.1, (fun q => if q = p then v else cWl C q), C.2.2.2.2.2)
theorem sI_sI (w : Wd) (a i : Nat) (u v : Int32) : sI (sI w a i u) a i v = sI w a i v := by
  rw [show sI w a i u = sIr w a (upd (wI w a) i u) from rfl, sI_sIr]
  unfold sI
  refine congrArg (sIr w a) (funext fun j => ?_)
  unfold upd
  by_cases e : j = i
  · rw [if_pos e, if_pos e]
  · rw [if_neg e, if_neg e, if_neg e]
theorem sI_id (w : Wd) (a i : Nat) : sI w a i (wI w a i) = w := by
  unfold sI
  have e : upd (wI w a) i (wI w a i) = wI w a := funext fun j => by
    unfold upd
    by_cases e : j = i
    · rw [if_pos e, e]
    · rw [if_neg e]
  rw [e, sIr_id]
theorem ShM_sI {w : Wd} (h : ShM w) (a i : Nat) (v : Int32) : ShM (sI w a i v) := h
theorem ShX_sI {w : Wd} (h : ShX w) (a i : Nat) (v : Int32) : ShX (sI w a i v) := h
theorem IsM_setW {w : Wd} {C : Cl} (hx : IsM w C) (p v : Nat) : IsM (sI w 4 p (nI v)) (setW C p v) := by
  refine ⟨?_, fun q hq => ?_, fun g hg => ?_⟩
  · simp only [wI_sI]
    exact hx.1
  · obtain ⟨h1, h2⟩ := hx.2.1 q hq
    refine ⟨?_, fun h hh => ?_⟩
    · rw [wI_sI]
      change _ = nI (if q = p then v else cWl C q)
      by_cases e : q = p
      · rw [if_pos ⟨rfl, e⟩, if_pos e]
      · rw [if_neg (fun r => e r.2), if_neg e]
        exact h1
    · rw [wI_sI, if_neg (fun r => absurd r.1 (by decide))]
      exact h2 h hh
  · obtain ⟨⟨h1, h2, h3⟩, h4⟩ := hx.2.2 g hg
    refine ⟨⟨?_, ?_, ?_⟩, fun h hh => ⟨?_, ?_⟩⟩
    · rw [wI_sI, if_neg (fun r => absurd r.1 (by decide))]; exact h1
    · rw [wI_sI, if_neg (fun r => absurd r.1 (by decide))]; exact h2
    · rw [wI_sI, if_neg (fun r => absurd r.1 (by decide))]; exact h3
    · rw [wI_sI, if_neg (fun r => absurd r.1 (by decide))]; exact (h4 h hh).1
    · rw [wI_sI, if_neg (fun r => absurd r.1 (by decide))]; exact (h4 h hh).2
theorem CI_setW {C : Cl} (hI : CI C) (p : Nat) {v : Nat} (hv : v ≤ 9) : CI (setW C p v) := by
  refine ⟨hI.1, fun q hq => ⟨?_, (hI.2.1 q hq).2⟩, hI.2.2⟩
  change (if q = p then v else cWl C q) ≤ 9
  by_cases e : q = p
  · rw [if_pos e]; exact hv
  · rw [if_neg e]; exact (hI.2.1 q hq).1
theorem setW_same (C : Cl) (p v : Nat) : cWl (setW C p v) p = v := if_pos rfl
theorem seS_setW (C : Cl) (p v q u : Nat) (wn : Nat → Bool) : seS (setW C p v) q wn u = seS C q wn u := rfl
/-- the lowest of those tried, from 9 down -/
def bsS (C : Cl) (p : Nat) : Nat → Int32
  | 0 => -1
  | n + 1 => if seS C p (wrS C p) (9 - n) then nI (9 - n) else bsS C p n
theorem bsS_s (C : Cl) (p n : Nat) : bsS C p (n + 1) = if seS C p (wrS C p) (9 - n) then nI (9 - n) else bsS C p n := rfl
theorem bsS_is (C : Cl) (p : Nat) : ∀ n, n ≤ 10 → (bsS C p n = -1 ∧ ∀ v, 10 - n ≤ v → v < 10 → seS C p (wrS C p) v = false) ∨ ∃ v, 10 - n ≤ v ∧ v < 10 ∧ seS C p (wrS C p) v = true ∧ bsS C p n = nI v ∧ ∀ u, 10 - n ≤ u → u < v → seS C p (wrS C p) u = false
  | 0, _ => Or.inl ⟨rfl, fun v h1 h2 => absurd h1 (by omega)⟩
  | n + 1, hn => by
    rw [bsS_s]
    cases hs : seS C p (wrS C p) (9 - n) with
    | true =>
      rw [if_pos rfl]
      exact Or.inr ⟨9 - n, by omega, by omega, hs, rfl, fun u h1 h2 => absurd h1 (by omega)⟩
    | false =>
      rw [if_neg (by decide)]
      have next : ∀ u, 10 - (n + 1) ≤ u → u = 9 - n ∨ 10 - n ≤ u := fun u h => by omega
      rcases bsS_is C p n (by omega) with ⟨h1, h2⟩ | ⟨v, h1, h2, h3, h4, h5⟩
      · exact Or.inl ⟨h1, fun v a b => (next v a).elim (fun q => q ▸ hs) (fun q => h2 v q b)⟩
      · exact Or.inr ⟨v, by omega, h2, h3, h4, fun u a b => (next u a).elim (fun q => q ▸ hs) (fun q => h5 u q b)⟩
theorem bsS_lw (C : Cl) (p : Nat) : bsS C p 10 = lwR C p := by
  have hle := fI_le (fun v => seS C p (wrS C p) v) 10
  have hno := fI_no (fun v => seS C p (wrS C p) v) 10
  have hye := fI_yes (fun v => seS C p (wrS C p) v) 10
  unfold lwR lwS
  generalize fI (fun v => seS C p (wrS C p) v) 10 = t at hle hno hye ⊢
  rcases bsS_is C p 10 (Nat.le_refl 10) with ⟨h1, h2⟩ | ⟨v, h1, h2, h3, h4, h5⟩
  · rw [h1]
    by_cases e : t < 10
    · have a := hye e
      have b := h2 t (by omega) e
      exact absurd (a.symm.trans b) (by decide)
    · rw [if_neg e]
  · rw [h4]
    have e : t = v := by
      rcases Nat.lt_trichotomy t v with q | q | q
      · have a := hye (by omega)
        have b := h5 t (by omega) q
        exact absurd (a.symm.trans b) (by decide)
      · exact q
      · have a := hno v q
        exact absurd (a.symm.trans h3) (by decide)
    rw [e, if_pos h2]
theorem X8_cureW {w : Wd} {C : Cl} (hc : ShM w) (hx : IsM w C) (hI : CI C) {p : Nat} (hp : p < cP C) : fX8_cure_L48 0 (nI p) (nI (cWl C p)) (-1, 9, w) = some (lwR C p, w) := by
  have hP : cP C ≤ 6 := hI.1.1
  have a0 := hc.O
  obtain ⟨v1, v2, v3⟩ := hc.a4
  obtain ⟨z1, z2⟩ := inb6 (show p < 6 by omega)
  have hwl : wI w 4 p = nI (cWl C p) := (hx.2.1 p hp).1
  let W : Nat → Wd := fun i => match i with
    | 0 => w
    | i + 1 => sI w 4 p (nI (9 - i))
  have hW : ∀ i, (W i).1 = w.1 ∧ (W i).2.1 = w.2.1 ∧ wR (W i) = wR w ∧ ∀ v, sI (W i) 4 p v = sI w 4 p v := by
    intro i
    cases i with
    | zero => exact ⟨rfl, rfl, rfl, fun _ => rfl⟩
    | succ i => exact ⟨rfl, rfl, rfl, fun v => sI_sI w 4 p _ v⟩
  have hS : ∀ i, ShM (W i) := fun i => by
    cases i with
    | zero => exact hc
    | succ i => exact hc
  unfold fX8_cure_L48
  have key := it_for (f := fX8_cure_L48_body 0 (nI p) (nI (cWl C p))) (fun i => (bsS C p i, wv (10 - i), W i)) 10 (r := (lwR C p, w)) (by decide) (fun i hi => ?_) ?_
  · exact key
  · have hd : (10 : Nat) - i = (9 - i) + 1 := by omega
    have hq : ∀ m, fX8_isHimself 0 (nI p) (nI 0) (sI w 4 p (nI m)) = fX8_isHimself 0 (nI p) 0 (sI w 4 p (nI m)) := fun _ => rfl
    have hh := X8_isHimself (m := 0) (ShM_sI hc 4 p (nI (9 - i))) (IsM_setW hx p (9 - i)) (CI_setW hI p (show 9 - i ≤ 9 by omega)) hp (by decide)
    rw [setW_same, seS_setW, hq] at hh
    have hse : seS C p (wnM (setW C p (9 - i)) p 0) (9 - i) = seS C p (wrS C p) (9 - i) := seS_congr (fun g hg => by
      unfold wnM wrS
      rw [Nat.zero_testBit]
      simp
      rfl)
    rw [hse] at hh
    have b0 := (hS i).O
    obtain ⟨u1, u2, u3⟩ := (hS i).a4
    have c0 : isO (sI w 4 p (nI (9 - i))) 0 8 := (ShM_sI hc 4 p (nI (9 - i))).O
    have hneg : ¬ nI (9 - i) < 0 := nI_pos (by omega)
    have hm1 : nI (9 - i) + -1 = wv (9 - i) := by
      unfold wv
      exact (Int32.sub_eq_add_neg _ _).symm
    unfold fX8_cure_L48_body
    simp only [hd, wv_s, if_neg hneg, chk_t b0, u1, ob_s, chk_t u2, u3, chk_t z1, z2, (hW i).2.2.2, bnd_e, chk_t c0, hh, fX8_cure_b74, hm1, bsS_s]
    rw [show 10 - (i + 1) = 9 - i by omega]
    cases seS C p (wrS C p) (9 - i) <;> rfl
  · have b0 := (hS 10).O
    obtain ⟨u1, u2, u3⟩ := (hS 10).a4
    unfold fX8_cure_L48_body
    simp only [Nat.sub_self, wv_0, if_pos (show (-1 : Int32) < 0 by decide), chk_t b0, u1, ob_s, chk_t u2, u3, chk_t z1, z2, (hW 10).2.2.2, bnd_e, bsS_lw, ← hwl, sI_id, wr_s]
