/-! plain facts of shallow programs -/
theorem chk_t {α : Type} {P : Prop} [Decidable P] (h : P) (k : Option α) : chk P k = k := if_pos h
theorem ob_s {α β : Type} (a : α) (f : α → Option β) : ob (some a) f = f a := rfl
theorem bnd_e {α β : Type} (a : α) (f : α → β) : bnd a f = f a := rfl
theorem wr_s {α β : Type} (b : β) : (wr (some b) : Option (α ⊕ β)) = some (.inr b) := rfl
theorem it_at {S R : Type} {f : S → Option (S ⊕ R)} (st : Nat → S) {r : R} : ∀ (n m : Nat), (∀ i, i < n → f (st i) = some (.inl (st (i + 1)))) → f (st n) = some (.inr r) → ∀ j, j ≤ n → n < m + j → it f m (st j) = some r := by
  intro n m
  induction m with
  | zero => intro _ _ j h1 h2; omega
  | succ m ih =>
    intro hs he j h1 h2
    unfold it
    by_cases hj : j = n
    · subst hj
      rw [he]
    · rw [hs j (by omega)]
      exact ih hs he (j + 1) (by omega) (by omega)
/-- a loop that leaves at its n-th turn -/
theorem it_for {S R : Type} {f : S → Option (S ⊕ R)} (st : Nat → S) (n : Nat) {r : R} (hn : n < 100000) (hs : ∀ i, i < n → f (st i) = some (.inl (st (i + 1)))) (he : f (st n) = some (.inr r)) : it f FU (st 0) = some r :=
  it_at st n FU hs he 0 (Nat.zero_le n) (by show n < 100000 + 0; omega)
/-! numbers -/
theorem nI_lt_iff {a b : Nat} (ha : a < 2147483648) (hb : b < 2147483648) : (nI a < nI b) = (a < b) := by
  apply propext
  constructor
  · intro h
    rcases Nat.lt_or_ge a b with q | q
    · exact q
    · exact absurd h (nI_nlt q ha)
  · intro h
    exact nI_lt h hb
theorem nI_le_iff {a b : Nat} (ha : a < 2147483648) (hb : b < 2147483648) : (nI a ≤ nI b) = (a ≤ b) := by
  apply propext
  constructor
  · intro h
    rcases Nat.lt_or_ge b a with q | q
    · exact absurd h (nI_ge q ha)
    · exact q
  · intro h
    exact nI_le h hb
theorem nI_eq_iff {a b : Nat} (ha : a < 2147483648) (hb : b < 2147483648) : (nI a = nI b) = (a = b) := by
  apply propext
  constructor
  · intro h
    have := congrArg Int32.toNatClampNeg h
    rwa [nI_clamp ha, nI_clamp hb] at this
  · intro h
    rw [h]
theorem nI_mul (a b : Nat) : nI a * nI b = nI (a * b) := by unfold nI; rw [Int32.ofNat_mul]
theorem inb_nI {k n : Nat} (h : k < n) (hn : n < 2147483648) : inb (nI k) n := by
  intro q
  rcases q with q | q
  · exact nI_pos (by omega) q
  · rw [nI_clamp (by omega)] at q
    omega
/-! worlds -/
theorem wN_sI (w : Wd) (a i : Nat) (v : Int32) : wN (sI w a i v) = wN w := rfl
theorem wK_sI (w : Wd) (a i : Nat) (v : Int32) : wK (sI w a i v) = wK w := rfl
theorem wn_sI (w : Wd) (a i : Nat) (v : Int32) : wn (sI w a i v) = wn w := rfl
theorem wR_sI (w : Wd) (a i : Nat) (v : Int32) : wR (sI w a i v) = wR w := rfl
theorem wL_sI (w : Wd) (a i : Nat) (v : Int32) : wL (sI w a i v) = wL w := rfl
theorem wN_sIr2 (w : Wd) (a : Nat) (g : Nat → Int32) : wN (sIr w a g) = wN w := rfl
theorem wK_sIr (w : Wd) (a : Nat) (g : Nat → Int32) : wK (sIr w a g) = wK w := rfl
theorem wn_sIr (w : Wd) (a : Nat) (g : Nat → Int32) : wn (sIr w a g) = wn w := rfl
theorem wR_sIr (w : Wd) (a : Nat) (g : Nat → Int32) : wR (sIr w a g) = wR w := rfl
theorem wL_sIr (w : Wd) (a : Nat) (g : Nat → Int32) : wL (sIr w a g) = wL w := rfl
theorem wI_sIr (w : Wd) (a b : Nat) (g : Nat → Int32) : wI (sIr w a g) b = if b = a then g else wI w b := rfl
theorem wI_sI (w : Wd) (a b i j : Nat) (v : Int32) : wI (sI w a i v) b j = if b = a ∧ j = i then v else wI w b j := by
  unfold sI
  rw [wI_sIr]
  by_cases hb : b = a
  · subst hb
    rw [if_pos rfl]
    unfold upd
    by_cases hj : j = i
    · rw [if_pos hj, if_pos ⟨rfl, hj⟩]
    · rw [if_neg hj, if_neg (fun q => hj q.2)]
  · rw [if_neg hb, if_neg (fun q => hb q.1)]
theorem ua_ua {α : Type} (f : Nat → α) (a : Nat) (g h : α) : ua (ua f a g) a h = ua f a h := by
  funext b
  unfold ua
  by_cases hb : b = a
  · rw [if_pos hb, if_pos hb]
  · rw [if_neg hb, if_neg hb, if_neg hb]
theorem sIr_sIr (w : Wd) (a : Nat) (g h : Nat → Int32) : sIr (sIr w a g) a h = sIr w a h := by
  unfold sIr
  simp only [ua_ua]
theorem sI_sIr (w : Wd) (a i : Nat) (g : Nat → Int32) (v : Int32) : sI (sIr w a g) a i v = sIr w a (upd g i v) := by
  unfold sI
  rw [sIr_sIr, wI_sIr, if_pos rfl]
theorem sIr_id (w : Wd) (a : Nat) : sIr w a (wI w a) = w := by
  have e : ua w.2.2.1 a (w.2.2.1 a) = w.2.2.1 := by
    funext b
    unfold ua
    by_cases hb : b = a
    · rw [if_pos hb, hb]
    · rw [if_neg hb]
  show (w.1, w.2.1, ua w.2.2.1 a (w.2.2.1 a), w.2.2.2.1, w.2.2.2.2) = w
  rw [e]
