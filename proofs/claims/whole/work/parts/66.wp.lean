/-! what a shallow program comes to, and what it leaves alone -/
def Wp {α : Type} (o : Option α) (P : α → Prop) : Prop := ∃ a, o = some a ∧ P a
theorem Wp_of {α : Type} {o : Option α} {a : α} {P : α → Prop} (e : o = some a) (h : P a) : Wp o P := ⟨a, e, h⟩
theorem Wp_s {α : Type} (a : α) (P : α → Prop) : Wp (some a) P = P a := propext ⟨fun ⟨_, e, h⟩ => Option.some.inj e ▸ h, fun h => ⟨a, rfl, h⟩⟩
theorem Wp_b {α β : Type} {o : Option α} {f : α → Option β} {P : β → Prop} (h : Wp o (fun a => Wp (f a) P)) : Wp (ob o f) P := by
  obtain ⟨a, rfl, b, e, hp⟩ := h
  exact ⟨b, e, hp⟩
theorem Wp_m {α : Type} {o : Option α} {P Q : α → Prop} (h : Wp o P) (hq : ∀ a, P a → Q a) : Wp o Q := by
  obtain ⟨a, e, hp⟩ := h
  exact ⟨a, e, hq a hp⟩
/-- a call: its contract, and what comes behind -/
theorem Wp_c {α β : Type} {o : Option α} {f : α → Option β} {P : α → Prop} {Q : β → Prop} (h : Wp o P) (hq : ∀ a, P a → Wp (f a) Q) : Wp (ob o f) Q := Wp_b (Wp_m h hq)
theorem Wp_w {α β : Type} {o : Option β} {P : α ⊕ β → Prop} (h : Wp o (fun b => P (.inr b))) : Wp (wr o) P := by
  obtain ⟨a, rfl, hp⟩ := h
  exact ⟨_, rfl, hp⟩
def lp {S R : Type} (I : S → Prop) (P : R → Prop) : S ⊕ R → Prop
  | .inl s => I s
  | .inr r => P r
theorem Wp_l {S R : Type} (s : S) (I : S → Prop) (P : R → Prop) : Wp (some (Sum.inl s)) (lp I P) = I s := Wp_s _ _
theorem Wp_r {S R : Type} (r : R) (I : S → Prop) (P : R → Prop) : Wp (some (Sum.inr r)) (lp I P) = P r := Wp_s _ _
theorem Wp_wr {S R : Type} {o : Option R} {I : S → Prop} {P : R → Prop} (h : Wp o P) : Wp (wr o) (lp I P) := Wp_w h
theorem it_wp {S R : Type} {f : S → Option (S ⊕ R)} (Inv : Nat → S → Prop) {P : R → Prop} (n : Nat) (hn : n < 100000) (hs : ∀ i s, i < n → Inv i s → Wp (f s) (lp (Inv (i + 1)) P)) (he : ∀ s, Inv n s → Wp (f s) (lp (fun _ => False) P)) {s0 : S} (h0 : Inv 0 s0) : Wp (it f FU s0) P := by
  have key : ∀ (m i : Nat) (s : S), i ≤ n → n < m + i → Inv i s → Wp (it f m s) P := by
    intro m
    induction m with
    | zero => intro i s h1 h2; omega
    | succ m ih =>
      intro i s h1 h2 hi
      unfold it
      rcases Nat.lt_or_ge i n with q | q
      · obtain ⟨r, e, hr⟩ := hs i s q hi
        rw [e]
        cases r with
        | inl t => exact ih (i + 1) t (by omega) (by omega) hr
        | inr r => exact ⟨r, rfl, hr⟩
      · have : i = n := by omega
        subst this
        obtain ⟨r, e, hr⟩ := he s hi
        rw [e]
        cases r with
        | inl t => exact hr.elim
        | inr r => exact ⟨r, rfl, hr⟩
  exact key FU 0 s0 (Nat.zero_le n) (by show n < 100000 + 0; omega) h0
/-- a counter and a world -/
theorem it_w1 {R : Type} {f : Int32 × Wd → Option ((Int32 × Wd) ⊕ R)} (J : Nat → Wd → Prop) {P : R → Prop} (n : Nat) (hn : n < 100000) {w0 : Wd} (h0 : J 0 w0)
    (hs : ∀ i w, i < n → J i w → Wp (f (nI i, w)) (lp (fun s => s.1 = nI (i + 1) ∧ J (i + 1) s.2) P)) (he : ∀ w, J n w → Wp (f (nI n, w)) (lp (fun _ => False) P)) : Wp (it f FU (0, w0)) P := by
  refine it_wp (fun i s => s.1 = nI i ∧ J i s.2) n hn (fun i s hi h => ?_) (fun s h => ?_) ⟨rfl, h0⟩
  · obtain ⟨x, w⟩ := s
    obtain ⟨rfl, h⟩ := h
    exact hs i w hi h
  · obtain ⟨x, w⟩ := s
    obtain ⟨rfl, h⟩ := h
    exact he w h
/-- a sum, a counter and a world -/
theorem it_w2 {R : Type} {f : Int32 × Int32 × Wd → Option ((Int32 × Int32 × Wd) ⊕ R)} (J : Nat → Int32 → Wd → Prop) {P : R → Prop} (n : Nat) (hn : n < 100000) {x0 : Int32} {w0 : Wd} (h0 : J 0 x0 w0)
    (hs : ∀ i x w, i < n → J i x w → Wp (f (x, nI i, w)) (lp (fun s => s.2.1 = nI (i + 1) ∧ J (i + 1) s.1 s.2.2) P)) (he : ∀ x w, J n x w → Wp (f (x, nI n, w)) (lp (fun _ => False) P)) : Wp (it f FU (x0, 0, w0)) P := by
  refine it_wp (fun i s => s.2.1 = nI i ∧ J i s.1 s.2.2) n hn (fun i s hi h => ?_) (fun s h => ?_) ⟨rfl, h0⟩
  · obtain ⟨y, x, w⟩ := s
    obtain ⟨e, h⟩ := h
    have e : x = nI i := e
    subst e
    exact hs i y w hi h
  · obtain ⟨y, x, w⟩ := s
    obtain ⟨e, h⟩ := h
    have e : x = nI n := e
    subst e
    exact he y w h
/-! frames -/
def Fr (S : Nat → Nat → Prop) (w w' : Wd) : Prop := w'.1 = w.1 ∧ w'.2.1 = w.2.1 ∧ w'.2.2.2 = w.2.2.2 ∧ ∀ a i, ¬ S a i → wI w' a i = wI w a i
theorem Fr.refl {S : Nat → Nat → Prop} (w : Wd) : Fr S w w := ⟨rfl, rfl, rfl, fun _ _ _ => rfl⟩
theorem Fr.trans {S : Nat → Nat → Prop} {w w' w'' : Wd} (h : Fr S w w') (h' : Fr S w' w'') : Fr S w w'' := ⟨h'.1.trans h.1, h'.2.1.trans h.2.1, h'.2.2.1.trans h.2.2.1, fun a i q => (h'.2.2.2 a i q).trans (h.2.2.2 a i q)⟩
theorem Fr.mono {S T : Nat → Nat → Prop} {w w' : Wd} (h : Fr S w w') (hm : ∀ a i, S a i → T a i) : Fr T w w' := ⟨h.1, h.2.1, h.2.2.1, fun a i q => h.2.2.2 a i (fun r => q (hm a i r))⟩
theorem Fr.at {S : Nat → Nat → Prop} {w w' : Wd} (h : Fr S w w') {a i : Nat} (q : ¬ S a i) : wI w' a i = wI w a i := h.2.2.2 a i q
theorem Fr.sI {S : Nat → Nat → Prop} {w w' : Wd} (h : Fr S w w') {a i : Nat} (v : Int32) (hs : S a i) : Fr S w (sI w' a i v) := by
  refine ⟨h.1, h.2.1, h.2.2.1, fun b j q => ?_⟩
  rw [wI_sI, if_neg (fun r => q (by rw [r.1, r.2]; exact hs))]
  exact h.2.2.2 b j q
theorem Fr_sI {S : Nat → Nat → Prop} {w : Wd} {a i : Nat} (v : Int32) (hs : S a i) : Fr S w (sI w a i v) := (Fr.refl w).sI v hs
theorem Fr.eq {S : Nat → Nat → Prop} {w w' : Wd} (h : Fr S w w') : w' = (w.1, w.2.1, w'.2.2.1, w.2.2.2) := by
  obtain ⟨h1, h2, h3, -⟩ := h
  obtain ⟨a, b, c, d⟩ := w'
  cases h1
  cases h2
  cases h3
  rfl
theorem Fr.L {S : Nat → Nat → Prop} {w w' : Wd} (h : Fr S w w') : wL w' = wL w := by rw [h.eq]; rfl
theorem Fr.cl {S : Nat → Nat → Prop} {w w' : Wd} {b : Nat} (h : Fr S w w') (hc : ClS w b) : ClS w' b := by rw [h.eq]; exact hc
theorem Fr.ga {S : Nat → Nat → Prop} {w w' : Wd} {b : Nat} (h : Fr S w w') (hc : GaS w b) : GaS w' b := by rw [h.eq]; exact hc
theorem Fr.pe {S : Nat → Nat → Prop} {w w' : Wd} {b : Nat} (h : Fr S w w') (hc : PeS w b) : PeS w' b := by rw [h.eq]; exact hc
theorem Fr.shx {S : Nat → Nat → Prop} {w w' : Wd} (h : Fr S w w') (hc : ShX w) : ShX w' := by rw [h.eq]; exact hc
theorem Fr.shm {S : Nat → Nat → Prop} {w w' : Wd} (h : Fr S w w') (hc : ShM w) : ShM w' := by rw [h.eq]; exact hc
/-! checks in a world that was written -/
theorem cO_s {α : Type} (w : Wd) (a i : Nat) (v : Int32) (b c : Nat) (k : Option α) : chk (isO (sI w a i v) b c) k = chk (isO w b c) k := rfl
theorem cA_s {α : Type} (w : Wd) (a i : Nat) (v : Int32) (b c : Nat) (k : Option α) : chk (isA (sI w a i v) b c) k = chk (isA w b c) k := rfl
theorem wI_e (w : Wd) (a i : Nat) (v : Int32) : wI (sI w a i v) a i = v := by rw [wI_sI, if_pos ⟨rfl, rfl⟩]
theorem wI_n {w : Wd} {a i b j : Nat} {v : Int32} (h : ¬ (b = a ∧ j = i)) : wI (sI w a i v) b j = wI w b j := by rw [wI_sI, if_neg h]
/-! a garment's own numbers -/
def IsG (w : Wd) (a k A W : Nat) (hb fm : Nat → Nat) : Prop := (wI w a 2 = nI k ∧ wI w a 3 = nI A ∧ wI w a 4 = wv W) ∧ ∀ h, h < 12 → wI w (a + 1) h = nI (hb h) ∧ wI w (a + 2) h = nI (fm h)
theorem IsX.g {w : Wd} {b : Nat} {C : Cl} (hx : IsX w b C) {g : Nat} (hg : g < cG C) : IsG w (gA b g) (cKd C g) (cAa C g) (cWr C g) (cHb C g) (cFm C g) := hx.2.2 g hg
def cG3 (a x _ : Nat) : Prop := a ≤ x ∧ x ≤ a + 2
def cCl (b x _ : Nat) : Prop := b ≤ x ∧ x < b + 40
def upN {α : Type} (f : Nat → α) (g : Nat) (v : α) : Nat → α := fun x => if x = g then v else f x
theorem upN_e {α : Type} (f : Nat → α) (g : Nat) (v : α) : upN f g v g = v := if_pos rfl
theorem upN_n {α : Type} (f : Nat → α) {g x : Nat} (v : α) (h : x ≠ g) : upN f g v x = f x := if_neg h
def setG (C : Cl) (n g k A W : Nat) (hb fm : Nat → Nat) : Cl := (C.1, n, C.2.2.1, C.2.2.2.1, cWl C, upN (cKd C) g k, upN (cAa C) g A, upN (cWr C) g W, cOw C, upN (cHb C) g hb, upN (cFm C) g fm)
def CG (P k A W : Nat) (hb fm : Nat → Nat) : Prop := (k ≤ 6 ∧ A ≤ 9 ∧ W ≤ P) ∧ ∀ h, h < 12 → hb h ≤ 9 ∧ fm h ≤ 9 ∧ (hb h = 0 ↔ fm h = 0)
theorem CI.g {C : Cl} (hI : CI C) {g : Nat} (hg : g < cG C) : CG (cP C) (cKd C g) (cAa C g) (cWr C g) (cHb C g) (cFm C g) := hI.2.2 g hg
/-- x's closet, a garment of it written -/
theorem IsX.setG {w w' : Wd} {b : Nat} {C : Cl} (hx : IsX w b C) (hI : CI C) {g n k A W : Nat} {hb fm : Nat → Nat} (hn : n ≤ 8) (hgn : n = cG C ∨ (n = cG C + 1 ∧ g = cG C)) (hg : g < n) (hf : ∀ a i, (a < gA b g ∨ gA b g + 2 < a) → ¬ (a = b ∧ i = 4) → wI w' a i = wI w a i) (h4 : wI w' b 4 = nI n) (hG : IsG w' (gA b g) k A W hb fm) : IsX w' b (setG C n g k A W hb fm) := by
  have hP : cP C ≤ 6 := hI.1.1
  refine ⟨⟨?_, h4, ?_, ?_⟩, fun q hq => ?_, fun j hj => ?_⟩
  · rw [hf _ _ (Or.inl (by unfold gA; omega)) (by omega)]; exact hx.1.1
  · rw [hf _ _ (Or.inl (by unfold gA; omega)) (by omega)]; exact hx.1.2.2.1
  · rw [hf _ _ (Or.inl (by unfold gA; omega)) (by omega)]; exact hx.1.2.2.2
  · have hq6 : q < 6 := Nat.lt_of_lt_of_le hq hP
    obtain ⟨h1, h2⟩ := hx.2.1 q hq
    refine ⟨?_, fun i hi => ?_⟩
    · rw [hf _ _ (Or.inl (by unfold gA pA; omega)) (by unfold pA; omega)]; exact h1
    · rw [hf _ _ (Or.inl (by unfold gA pA; omega)) (by unfold pA; omega)]; exact h2 i hi
  · change IsG w' (gA b j) (upN (cKd C) g k j) (upN (cAa C) g A j) (upN (cWr C) g W j) (upN (cHb C) g hb j) (upN (cFm C) g fm j)
    by_cases e : j = g
    · subst e
      simp only [upN_e]
      exact hG
    · simp only [upN_n _ _ e]
      have hj2 : j < n := hj
      have hj' : j < cG C := by omega
      obtain ⟨⟨h1, h2, h3⟩, h4⟩ := hx.2.2 j hj'
      refine ⟨⟨?_, ?_, ?_⟩, fun i hi => ⟨?_, ?_⟩⟩
      · rw [hf _ _ (by unfold gA; omega) (by unfold gA; omega)]; exact h1
      · rw [hf _ _ (by unfold gA; omega) (by unfold gA; omega)]; exact h2
      · rw [hf _ _ (by unfold gA; omega) (by unfold gA; omega)]; exact h3
      · rw [hf _ _ (by unfold gA; omega) (by unfold gA; omega)]; exact (h4 i hi).1
      · rw [hf _ _ (by unfold gA; omega) (by unfold gA; omega)]; exact (h4 i hi).2
theorem CI.setG {C : Cl} (hI : CI C) {g n k A W : Nat} {hb fm : Nat → Nat} (hn : n ≤ 8) (hgn : n = cG C ∨ (n = cG C + 1 ∧ g = cG C)) (hG : CG (cP C) k A W hb fm) : CI (setG C n g k A W hb fm) := by
  refine ⟨⟨hI.1.1, hn⟩, hI.2.1, fun j hj => ?_⟩
  change CG (cP C) (upN (cKd C) g k j) (upN (cAa C) g A j) (upN (cWr C) g W j) (upN (cHb C) g hb j) (upN (cFm C) g fm j)
  by_cases e : j = g
  · subst e
    simp only [upN_e]
    exact hG
  · simp only [upN_n _ _ e]
    have hj2 : j < n := hj
    exact hI.2.2 j (by omega)
/-- the model's garment's numbers -/
def IsH (w : Wd) (g k A W : Nat) (hb fm : Nat → Nat) : Prop := (wI w 6 g = nI k ∧ wI w 7 g = nI A ∧ wI w 8 g = wv W) ∧ ∀ h, h < 12 → wI w 9 (12 * g + h) = nI (hb h) ∧ wI w 10 (12 * g + h) = nI (fm h)
theorem IsM.g {w : Wd} {C : Cl} (hx : IsM w C) {g : Nat} (hg : g < cG C) : IsH w g (cKd C g) (cAa C g) (cWr C g) (cHb C g) (cFm C g) := hx.2.2 g hg
def cH (g x i : Nat) : Prop := ((x = 6 ∨ x = 7 ∨ x = 8) ∧ i = g) ∨ ((x = 9 ∨ x = 10) ∧ 12 * g ≤ i ∧ i < 12 * g + 12)
theorem IsM.setG {w w' : Wd} {C : Cl} (hx : IsM w C) {g n k A W : Nat} {hb fm : Nat → Nat} (hgn : n = cG C ∨ (n = cG C + 1 ∧ g = cG C)) (hf : ∀ a i, a < 11 → ¬ cH g a i → ¬ (a = 0 ∧ i = 6) → wI w' a i = wI w a i) (h4 : wI w' 0 6 = nI n) (hG : IsH w' g k A W hb fm) : IsM w' (setG C n g k A W hb fm) := by
  refine ⟨⟨?_, h4, ?_, ?_⟩, fun q hq => ?_, fun j hj => ?_⟩
  · rw [hf _ _ (by decide) (by unfold cH; omega) (by omega)]; exact hx.1.1
  · rw [hf _ _ (by decide) (by unfold cH; omega) (by omega)]; exact hx.1.2.2.1
  · rw [hf _ _ (by decide) (by unfold cH; omega) (by omega)]; exact hx.1.2.2.2
  · obtain ⟨h1, h2⟩ := hx.2.1 q hq
    refine ⟨?_, fun i hi => ?_⟩
    · rw [hf _ _ (by decide) (by unfold cH; omega) (by omega)]; exact h1
    · rw [hf _ _ (by decide) (by unfold cH; omega) (by omega)]; exact h2 i hi
  · change IsH w' j (upN (cKd C) g k j) (upN (cAa C) g A j) (upN (cWr C) g W j) (upN (cHb C) g hb j) (upN (cFm C) g fm j)
    by_cases e : j = g
    · subst e
      simp only [upN_e]
      exact hG
    · simp only [upN_n _ _ e]
      have hj2 : j < n := hj
      have hj' : j < cG C := by omega
      obtain ⟨⟨h1, h2, h3⟩, h4⟩ := hx.2.2 j hj'
      refine ⟨⟨?_, ?_, ?_⟩, fun i hi => ⟨?_, ?_⟩⟩
      · rw [hf _ _ (by decide) (by unfold cH; omega) (by omega)]; exact h1
      · rw [hf _ _ (by decide) (by unfold cH; omega) (by omega)]; exact h2
      · rw [hf _ _ (by decide) (by unfold cH; omega) (by omega)]; exact h3
      · rw [hf _ _ (by decide) (by unfold cH; omega) (by omega)]; exact (h4 i hi).1
      · rw [hf _ _ (by decide) (by unfold cH; omega) (by omega)]; exact (h4 i hi).2
