/-! an hour looks at no other hour -/
def AgH (h : Nat) (C D : Cl) : Prop := (cP C = cP D ∧ cG C = cG D ∧ cWl C = cWl D ∧ cKd C = cKd D ∧ cAa C = cAa D ∧ cWr C = cWr D ∧ cOw C = cOw D) ∧ ∀ g, g < cG C → cHb C g h = cHb D g h ∧ cFm C g h = cFm D g h
theorem AgH.refl (h : Nat) (C : Cl) : AgH h C C := ⟨⟨rfl, rfl, rfl, rfl, rfl, rfl, rfl⟩, fun _ _ => ⟨rfl, rfl⟩⟩
theorem AgH.symm {h : Nat} {C D : Cl} (a : AgH h C D) : AgH h D C := by
  obtain ⟨⟨h1, h2, h3, h4, h5, h6, h7⟩, h8⟩ := a
  exact ⟨⟨h1.symm, h2.symm, h3.symm, h4.symm, h5.symm, h6.symm, h7.symm⟩, fun g hg => ⟨(h8 g (by omega)).1.symm, (h8 g (by omega)).2.symm⟩⟩
theorem AgH.trans {h : Nat} {C D E : Cl} (a : AgH h C D) (b : AgH h D E) : AgH h C E := by
  obtain ⟨⟨h1, h2, h3, h4, h5, h6, h7⟩, h8⟩ := a
  obtain ⟨⟨k1, k2, k3, k4, k5, k6, k7⟩, k8⟩ := b
  exact ⟨⟨h1.trans k1, h2.trans k2, h3.trans k3, h4.trans k4, h5.trans k5, h6.trans k6, h7.trans k7⟩, fun g hg => ⟨(h8 g hg).1.trans (k8 g (by omega)).1, (h8 g hg).2.trans (k8 g (by omega)).2⟩⟩
theorem AgH.pull {h : Nat} {C D : Cl} (a : AgH h C D) {g : Nat} (hg : g < cG C) : pullS C g h = pullS D g h := by
  obtain ⟨⟨h1, h2, h3, h4, h5, h6, h7⟩, h8⟩ := a
  have hu : ∀ d, uni C h d (cG C) = uni D h d (cG D) := fun d => by
    unfold uni
    rw [← h2]
    refine cntN_congr _ (fun o ho => ?_)
    rw [(h8 o ho).1, h4]
  unfold pullS
  rw [(h8 g hg).1, (h8 g hg).2, h4, h5, hu]
theorem AgH.deed {h : Nat} {C D : Cl} (a : AgH h C D) (p : Nat) (wn : Nat → Bool) (will : Nat) : deedS C p h wn will = deedS D p h wn will := by
  unfold deedS
  rw [← a.1.2.1, a.1.2.2.2.2.2.2]
  rw [dF_congr (cG C) (fun g hg => ⟨a.pull hg, (a.2 g hg).1, rfl⟩)]
theorem AgH.does {h : Nat} {C D : Cl} (a : AgH h C D) (p : Nat) : doesS C p h = doesS D p h := by
  unfold doesS
  rw [a.deed, a.1.2.2.1, a.1.2.2.2.2.2.1]
theorem AgH.go {h : Nat} {C D : Cl} (a : AgH h C D) {g : Nat} (hg : g < cG C) : gnS C g h = gnS D g h := by
  unfold gnS goS
  rw [a.pull hg, a.1.2.2.2.1, a.1.2.2.2.2.2.1]
theorem AgH.lr {h : Nat} {C D : Cl} (a : AgH h C D) {g : Nat} (hg : g < cG C) : lrC C h g = lrC D h g := by
  unfold lrC
  rw [(a.2 g hg).1, (a.2 g hg).2, a.does, a.1.2.2.2.1, a.1.2.2.2.2.2.1]
theorem AgH.ln {h : Nat} {C D : Cl} (a : AgH h C D) : ∀ n, n ≤ cG C → lnB C h n = lnB D h n
  | 0, _ => rfl
  | n + 1, hn => by
    have e : n < cG C := by omega
    rw [lnB_s, lnB_s, a.ln n (by omega), a.lr e, (a.2 n e).1, (a.2 n e).2, a.1.2.2.2.2.2.1]
theorem AgH.hour {h : Nat} {C D : Cl} (a : AgH h C D) : AgH h (hourC C h) (hourC D h) := by
  refine ⟨a.1, fun g hg => ?_⟩
  have hg' : g < cG C := hg
  have hg2 : g < cG D := by rw [← a.1.2.1]; exact hg'
  have hw : cWr C g = cWr D g := by rw [a.1.2.2.2.2.2.1]
  change (if h = h ∧ g < cG C ∧ cWr C g ≠ 0 then (lrC C h g).1 else cHb C g h) = (if h = h ∧ g < cG D ∧ cWr D g ≠ 0 then (lrC D h g).1 else cHb D g h) ∧ (if h = h ∧ g < cG C ∧ cWr C g ≠ 0 then (lrC C h g).2 else cFm C g h) = (if h = h ∧ g < cG D ∧ cWr D g ≠ 0 then (lrC D h g).2 else cFm D g h)
  by_cases e : cWr C g = 0
  · rw [if_neg (fun q => q.2.2 e), if_neg (fun q => q.2.2 (hw ▸ e)), if_neg (fun q => q.2.2 e), if_neg (fun q => q.2.2 (hw ▸ e))]
    exact a.2 g hg'
  · rw [if_pos ⟨rfl, hg', e⟩, if_pos ⟨rfl, hg2, hw ▸ e⟩, if_pos ⟨rfl, hg', e⟩, if_pos ⟨rfl, hg2, hw ▸ e⟩, a.lr hg']
    exact ⟨rfl, rfl⟩
theorem AgH_hour_ne (C : Cl) {h k : Nat} (e : h ≠ k) : AgH h (hourC C k) C := by
  refine ⟨⟨rfl, rfl, rfl, rfl, rfl, rfl, rfl⟩, fun g _ => ?_⟩
  exact ⟨if_neg (fun q => e q.1), if_neg (fun q => e q.1)⟩
/-- what an hour does where nothing is learnt -/
theorem lnB_f {C : Cl} {h : Nat} : ∀ n, lnB C h n = false → ∀ g, g < n → cWr C g ≠ 0 → (lrC C h g).1 = cHb C g h ∧ (lrC C h g).2 = cFm C g h
  | 0, _, g, hg, _ => absurd hg (Nat.not_lt_zero g)
  | n + 1, e, g, hg, hw => by
    rw [lnB_s, Bool.or_eq_false_iff] at e
    by_cases q : g = n
    · subst q
      have e2 := e.2
      rw [decide_eq_true hw, Bool.true_and, Bool.not_eq_false', decide_eq_true_eq] at e2
      exact e2
    · exact lnB_f n e.1 g (by omega) hw
theorem lnB_i {C : Cl} {h : Nat} : ∀ n, (∀ g, g < n → cWr C g ≠ 0 → (lrC C h g).1 = cHb C g h ∧ (lrC C h g).2 = cFm C g h) → lnB C h n = false
  | 0, _ => rfl
  | n + 1, e => by
    rw [lnB_s, lnB_i n (fun g hg => e g (by omega)), Bool.false_or]
    by_cases hw : cWr C n ≠ 0
    · rw [decide_eq_true (e n (Nat.lt_succ_self n) hw)]
      exact Bool.and_false _
    · rw [decide_eq_false hw]
      exact Bool.false_and _
theorem AgH_fix {C : Cl} {h : Nat} (e : lnB C h (cG C) = false) : AgH h (hourC C h) C := by
  refine ⟨⟨rfl, rfl, rfl, rfl, rfl, rfl, rfl⟩, fun g hg => ?_⟩
  have hg' : g < cG C := hg
  change (if h = h ∧ g < cG C ∧ cWr C g ≠ 0 then (lrC C h g).1 else cHb C g h) = cHb C g h ∧ (if h = h ∧ g < cG C ∧ cWr C g ≠ 0 then (lrC C h g).2 else cFm C g h) = cFm C g h
  by_cases w : cWr C g = 0
  · rw [if_neg (fun q => q.2.2 w), if_neg (fun q => q.2.2 w)]
    exact ⟨rfl, rfl⟩
  · rw [if_pos ⟨rfl, hg', w⟩, if_pos ⟨rfl, hg', w⟩]
    exact lnB_f _ e g hg' w
/-- an hour by itself, n times -/
def hnC (C : Cl) (h : Nat) : Nat → Cl
  | 0 => C
  | n + 1 => hourC (hnC C h n) h
/-- n days -/
def dnC (C : Cl) : Nat → Cl
  | 0 => C
  | n + 1 => dayC (dnC C n)
theorem CI_hnC {C : Cl} (hI : CI C) {h : Nat} (hh : h < 12) : ∀ n, CI (hnC C h n)
  | 0 => hI
  | n + 1 => CI_hourC (CI_hnC hI hh n) hh
theorem CI_dnC {C : Cl} (hI : CI C) : ∀ n, CI (dnC C n)
  | 0 => hI
  | n + 1 => CI_dayC (CI_dnC hI n)
theorem hnC_G (C : Cl) (h : Nat) : ∀ n, cG (hnC C h n) = cG C
  | 0 => rfl
  | n + 1 => hnC_G C h n
theorem hnC_P (C : Cl) (h : Nat) : ∀ n, cP (hnC C h n) = cP C
  | 0 => rfl
  | n + 1 => hnC_P C h n
theorem setD_G (C : Cl) (y : Int32) : cG (setD C y) = cG C := rfl
theorem setD_P (C : Cl) (y : Int32) : cP (setD C y) = cP C := rfl
theorem dayC_G (C : Cl) : cG (dayC C) = cG C := (setD_G _ _).trans (dyC_G C 12)
theorem dayC_P (C : Cl) : cP (dayC C) = cP C := (setD_P _ _).trans (dyC_P C 12)
theorem dnC_G (C : Cl) : ∀ n, cG (dnC C n) = cG C
  | 0 => rfl
  | n + 1 => (dayC_G _).trans (dnC_G C n)
theorem dnC_P (C : Cl) : ∀ n, cP (dnC C n) = cP C
  | 0 => rfl
  | n + 1 => (dayC_P _).trans (dnC_P C n)
theorem AgH_dy (C : Cl) (h : Nat) : ∀ n, AgH h (dyC C n) (if h < n then hourC C h else C)
  | 0 => by
    rw [if_neg (Nat.not_lt_zero h)]
    exact AgH.refl h C
  | n + 1 => by
    have ih := AgH_dy C h n
    show AgH h (hourC (dyC C n) n) _
    by_cases e : h = n
    · subst e
      rw [if_neg (Nat.lt_irrefl h)] at ih
      rw [if_pos (Nat.lt_succ_self h)]
      exact ih.hour
    · have h1 := AgH_hour_ne (dyC C n) e
      by_cases q : h < n
      · rw [if_pos q] at ih
        rw [if_pos (by omega)]
        exact h1.trans ih
      · rw [if_neg q] at ih
        rw [if_neg (by omega)]
        exact h1.trans ih
theorem AgH_setD (h : Nat) (C : Cl) (y : Int32) : AgH h (setD C y) C := AgH.refl h C
theorem AgH_day (C : Cl) {h : Nat} (hh : h < 12) : AgH h (dayC C) (hourC C h) := by
  have := AgH_dy C h 12
  rw [if_pos hh] at this
  exact (AgH_setD h _ _).trans this
theorem AgH_dn (C : Cl) {h : Nat} (hh : h < 12) : ∀ n, AgH h (dnC C n) (hnC C h n)
  | 0 => AgH.refl h C
  | n + 1 => (AgH_day (dnC C n) hh).trans (AgH_dn C hh n).hour
theorem AgH.hn {h : Nat} {C D : Cl} (a : AgH h C D) : ∀ n, AgH h (hnC C h n) (hnC D h n)
  | 0 => a
  | n + 1 => (a.hn n).hour
theorem hnC_s (C : Cl) (h : Nat) : ∀ n, hnC (hourC C h) h n = hnC C h (n + 1)
  | 0 => rfl
  | n + 1 => congrArg (fun X => hourC X h) (hnC_s C h n)
theorem AgH_stay {C : Cl} {h : Nat} (e : lnB C h (cG C) = false) : ∀ n, AgH h (hnC C h n) C
  | 0 => AgH.refl h C
  | n + 1 => by
    have a := (AgH_stay e n).hour
    exact a.trans (AgH_fix e)
theorem hnC_add (C : Cl) (h n : Nat) : ∀ m, hnC (hnC C h n) h m = hnC C h (n + m)
  | 0 => rfl
  | m + 1 => congrArg (fun X => hourC X h) (hnC_add C h n m)
/-- nothing is learnt at an hour behind n days -/
def qtB (C : Cl) (h n : Nat) : Bool := !lnB (hnC C h n) h (cG C)
theorem qtB_s {C : Cl} {h n : Nat} (e : qtB C h n = true) : qtB C h (n + 1) = true := by
  unfold qtB at *
  rw [Bool.not_eq_true'] at *
  have e' : lnB (hnC C h n) h (cG (hnC C h n)) = false := by rw [hnC_G]; exact e
  have a := AgH_fix e'
  have hl := a.ln (cG C) (by
    show cG C ≤ cG (hnC C h n)
    rw [hnC_G]
    exact Nat.le_refl _)
  show lnB (hourC (hnC C h n) h) h (cG C) = false
  rw [hl]
  exact e
theorem qtB_m {C : Cl} {h n : Nat} (e : qtB C h n = true) : ∀ m, qtB C h (n + m) = true
  | 0 => e
  | m + 1 => qtB_s (qtB_m e m)
theorem AgH.qt {h : Nat} {C D : Cl} (a : AgH h C D) (n : Nat) : qtB C h n = qtB D h n := by
  unfold qtB
  rw [(a.hn n).ln (cG C) (by rw [hnC_G]; exact Nat.le_refl _), a.1.2.1]
/-- behind how few days (61: more) -/
def qkS (C : Cl) (h : Nat) : Nat := fI (qtB C h) 61
def smS (C : Cl) : Nat → Nat
  | 0 => 0
  | n + 1 => if smS C n < qkS C n then qkS C n else smS C n
def smR (C : Cl) : Int32 := if smS C 12 < 61 then nI (smS C 12) else -1
theorem qk_le (C : Cl) (h : Nat) : qkS C h ≤ 61 := fI_le _ 61
theorem sm_le (C : Cl) : ∀ n, smS C n ≤ 61
  | 0 => Nat.zero_le 61
  | n + 1 => by
    have := sm_le C n
    have := qk_le C n
    unfold smS
    by_cases e : smS C n < qkS C n
    · rw [if_pos e]; omega
    · rw [if_neg e]; omega
theorem sm_ge (C : Cl) : ∀ n h, h < n → qkS C h ≤ smS C n
  | 0, h, q => absurd q (Nat.not_lt_zero h)
  | n + 1, h, q => by
    unfold smS
    by_cases e : smS C n < qkS C n
    · rw [if_pos e]
      by_cases r : h = n
      · subst r
        exact Nat.le_refl _
      · have := sm_ge C n h (by omega)
        omega
    · rw [if_neg e]
      by_cases r : h = n
      · subst r
        omega
      · exact sm_ge C n h (by omega)
theorem sm_is (C : Cl) : ∀ n, smS C n = 0 ∨ ∃ h, h < n ∧ smS C n = qkS C h
  | 0 => Or.inl rfl
  | n + 1 => by
    unfold smS
    by_cases e : smS C n < qkS C n
    · rw [if_pos e]
      exact Or.inr ⟨n, Nat.lt_succ_self n, rfl⟩
    · rw [if_neg e]
      rcases sm_is C n with q | ⟨h, h1, h2⟩
      · exact Or.inl q
      · exact Or.inr ⟨h, by omega, h2⟩
/-- all hours quiet behind n days -/
theorem sm_yes {C : Cl} {n : Nat} (hn : smS C 12 ≤ n) (h61 : smS C 12 < 61) {h : Nat} (hh : h < 12) : qtB C h n = true := by
  have h1 := sm_ge C 12 h hh
  have hy := fI_yes (qtB C h) 61 (show fI (qtB C h) 61 < 61 by unfold qkS at h1; omega)
  have := qtB_m hy (n - fI (qtB C h) 61)
  rw [show fI (qtB C h) 61 + (n - fI (qtB C h) 61) = n by unfold qkS at h1; omega] at this
  exact this
theorem sm_no {C : Cl} {n : Nat} (hn : n < smS C 12) : ∃ h, h < 12 ∧ qtB C h n = false := by
  rcases sm_is C 12 with q | ⟨h, h1, h2⟩
  · omega
  · exact ⟨h, h1, fI_no (qtB C h) 61 n (by rw [h2] at hn; exact hn)⟩
