/-! THE CORE: worlds as pure values, and what it is to run a method's code over them -/
/-- a world: how many cells; of each its kind and length; ints, longs, references by cell and place -/
abbrev Wd : Type := Nat × (Nat → Nat × Nat) × (Nat → Nat → Int32) × (Nat → Nat → Int64) × (Nat → Nat → Option Nat)
def wN (w : Wd) : Nat := w.1
def wK (w : Wd) (a : Nat) : Nat := (w.2.1 a).1
def wn (w : Wd) (a : Nat) : Nat := (w.2.1 a).2
def wI (w : Wd) (a : Nat) : Nat → Int32 := w.2.2.1 a
def wL (w : Wd) (a : Nat) : Nat → Int64 := w.2.2.2.1 a
def wR (w : Wd) (a : Nat) : Nat → Option Nat := w.2.2.2.2 a
def ua {α : Type} (f : Nat → α) (a : Nat) (g : α) : Nat → α := fun b => if b = a then g else f b
def sIr (w : Wd) (a : Nat) (g : Nat → Int32) : Wd := (w.1, w.2.1, ua w.2.2.1 a g, w.2.2.2.1, w.2.2.2.2)
def sLr (w : Wd) (a : Nat) (g : Nat → Int64) : Wd := (w.1, w.2.1, w.2.2.1, ua w.2.2.2.1 a g, w.2.2.2.2)
def sRr (w : Wd) (a : Nat) (g : Nat → Option Nat) : Wd := (w.1, w.2.1, w.2.2.1, w.2.2.2.1, ua w.2.2.2.2 a g)
def sI (w : Wd) (a i : Nat) (v : Int32) : Wd := sIr w a (upd (wI w a) i v)
def sL (w : Wd) (a i : Nat) (v : Int64) : Wd := sLr w a (vp_updL (wL w a) i v)
def sR (w : Wd) (a i : Nat) (v : Option Nat) : Wd := sRr w a (va_up (wR w a) i v)
def cpI (w : Wd) (a b sp dp n : Nat) : Wd := sIr w b (va_cpy (wI w a) (wI w b) sp dp n)
def cpL (w : Wd) (a b sp dp n : Nat) : Wd := sLr w b (va_cpy (wL w a) (wL w b) sp dp n)
/-- a new cell -/
def al (w : Wd) (kd n : Nat) : Wd := (w.1 + 1, ua w.2.1 w.1 (kd, n), ua w.2.2.1 w.1 (fun _ => 0), ua w.2.2.2.1 w.1 (fun _ => 0), ua w.2.2.2.2 w.1 (fun _ => none))
abbrev isA (w : Wd) (a j : Nat) : Prop := a < wN w ∧ wK w a = j
abbrev isO (w : Wd) (a ci : Nat) : Prop := a < wN w ∧ wK w a = ci + 10
abbrev inb (i : Int32) (n : Nat) : Prop := ¬ (i < 0 ∨ n ≤ i.toNatClampNeg)
/-- the launch, the classes and slots, the arrays' classes, the first address, the addresses of statics -/
abbrev Ev : Type := Launch × va_G × (Nat → ClassId) × Nat × (Nat → Nat)
def lo (E : Ev) (a : Nat) : Nat := if a < 1000 then E.2.2.2.1 + a else E.2.2.2.2 (a - 1000)
def mv (E : Ev) (v : Value) : Value := match v with
  | .ref a => .ref (lo E a)
  | v => v
theorem mv_cat (E : Ev) (v : Value) : (mv E v).category = v.category := by cases v <;> rfl
def mvl (E : Ev) (l : List (Nat × Value)) : List (Nat × Value) := l.map (fun q => (q.1, mv E q.2))
/-- the fields' types by class and place: 0 int, 2 reference -/
def fT (ci : Nat) : List Nat := match ci with
  | 0 => [2, 2, 2, 0, 0, 0, 0]
  | 1 => [2, 0, 2, 2, 2]
  | 2 => [2, 2, 0, 0, 0]
  | 3 => [0, 2, 0, 0, 0]
  | 4 => [2, 0]
  | 5 => [0, 2, 2, 2, 0]
  | 6 => [2, 0, 0]
  | 7 => [2, 2, 2, 2, 2, 2, 2, 2, 2, 0, 0]
  | _ => [2, 2, 2, 0, 2, 2, 0, 2, 2, 2, 2, 2, 0, 0, 0, 2, 0, 2, 0, 2, 2, 2, 2, 2, 0, 0, 2]
def fv (E : Ev) (w : Wd) (a t k : Nat) : Value := if t = 0 then .int (wI w a k) else va_rf ((wR w a k).map (lo E))
def oV (E : Ev) (w : Wd) (ci a : Nat) : List Value := (List.range (fT ci).length).map (fun k => fv E w a ((fT ci).getD k 0) k)
def cE (E : Ev) (w : Wd) (a : Nat) : va_E :=
  if wK w a = 0 then .inl (E.2.2.1 0, wn w a, .inl (wI w a)) else
  if wK w a = 1 then .inl (E.2.2.1 1, wn w a, .inr (.inl (wL w a))) else
  if wK w a < 10 then .inl (E.2.2.1 (wK w a), wn w a, .inr (.inr (.inr (.inr (fun i => (wR w a i).map (lo E)))))) else
  .inr (wK w a - 10, oV E w (wK w a - 10) a)
def ws (E : Ev) (w : Wd) : va_W := (List.range (wN w)).map (fun a => (lo E a, cE E w a))
def tysL (E : Ev) : List (ClassId × FieldType) := [(E.2.2.1 0, .int), (E.2.2.1 1, .long), (E.2.2.1 2, .object RX2), (E.2.2.1 3, .object RX4), (E.2.2.1 4, .object RX6)]
theorem ws_at {E : Ev} {w : Wd} {a : Nat} (h : a < wN w) : (ws E w)[a]? = some (lo E a, cE E w a) := by
  unfold ws
  rw [List.getElem?_map, List.getElem?_range h]
  rfl
theorem ws_len (E : Ev) (w : Wd) : (ws E w).length = wN w := by unfold ws; rw [List.length_map, List.length_range]
theorem ws_set {E : Ev} {w w' : Wd} {a : Nat} {e : va_E} (h : a < wN w) (hn : wN w' = wN w) (he : cE E w' a = e) (ho : ∀ b, b ≠ a → cE E w' b = cE E w b) : (ws E w).set a (lo E a, e) = ws E w' := by
  apply List.ext_getElem?
  intro b
  by_cases hb : b < wN w
  · rw [ws_at (w := w') (by omega), List.getElem?_set]
    by_cases hab : a = b
    · subst hab
      rw [if_pos rfl, if_pos (by rw [ws_len]; exact h), he]
    · rw [if_neg hab, ws_at hb, ho b (fun q => hab q.symm)]
  · rw [List.getElem?_eq_none (by rw [List.length_set, ws_len]; omega), List.getElem?_eq_none (by rw [ws_len]; omega)]
theorem ua_eq {α : Type} (f : Nat → α) (a : Nat) (g : α) : ua f a g a = g := if_pos rfl
theorem ua_ne {α : Type} (f : Nat → α) {a b : Nat} (g : α) (h : b ≠ a) : ua f a g b = f b := if_neg h
theorem cE_sIr {E : Ev} {w : Wd} {a b : Nat} (g : Nat → Int32) (h : b ≠ a) : cE E (sIr w a g) b = cE E w b := by
  simp only [cE, oV, fv, wK, wn, wI, wL, wR, sIr, ua_ne _ _ h]
  rfl
theorem cE_sLr {E : Ev} {w : Wd} {a b : Nat} (g : Nat → Int64) (h : b ≠ a) : cE E (sLr w a g) b = cE E w b := by
  simp only [cE, oV, fv, wK, wn, wI, wL, wR, sLr, ua_ne _ _ h]
  rfl
theorem cE_sRr {E : Ev} {w : Wd} {a b : Nat} (g : Nat → Option Nat) (h : b ≠ a) : cE E (sRr w a g) b = cE E w b := by
  simp only [cE, oV, fv, wK, wn, wI, wL, wR, sRr, ua_ne _ _ h]
  rfl
theorem cE_al {E : Ev} {w : Wd} {kd n b : Nat} (h : b ≠ wN w) : cE E (al w kd n) b = cE E w b := by
  have h' : b ≠ w.1 := h
  simp only [cE, oV, fv, wK, wn, wI, wL, wR, al, ua_ne _ _ h']
  rfl
theorem cE_0 {E : Ev} {w : Wd} {a : Nat} (h : wK w a = 0) : cE E w a = .inl (E.2.2.1 0, wn w a, .inl (wI w a)) := by
  rw [cE, if_pos h]
theorem cE_1 {E : Ev} {w : Wd} {a : Nat} (h : wK w a = 1) : cE E w a = .inl (E.2.2.1 1, wn w a, .inr (.inl (wL w a))) := by
  rw [cE, if_neg (by omega), if_pos h]
theorem cE_r {E : Ev} {w : Wd} {a j : Nat} (h : wK w a = j) (h2 : 2 ≤ j) (h3 : j < 10) : cE E w a = .inl (E.2.2.1 j, wn w a, .inr (.inr (.inr (.inr (fun i => (wR w a i).map (lo E)))))) := by
  rw [cE, if_neg (by omega), if_neg (by omega), if_pos (by omega), h]
theorem cE_o {E : Ev} {w : Wd} {a ci : Nat} (h : wK w a = ci + 10) : cE E w a = .inr (ci, oV E w ci a) := by
  rw [cE, if_neg (by omega), if_neg (by omega), if_neg (by omega), h, Nat.add_sub_cancel]
theorem oV_at {E : Ev} {w : Wd} {ci a k : Nat} (h : k < (fT ci).length) : (oV E w ci a)[k]? = some (fv E w a ((fT ci).getD k 0) k) := by
  unfold oV
  rw [List.getElem?_map, List.getElem?_range h]
  rfl
theorem oV_len (E : Ev) (w : Wd) (ci a : Nat) : (oV E w ci a).length = (fT ci).length := by unfold oV; rw [List.length_map, List.length_range]
theorem oV_set {E : Ev} {w w' : Wd} {ci a k : Nat} {v : Value} (h : k < (fT ci).length) (he : fv E w' a ((fT ci).getD k 0) k = v) (ho : ∀ j, j < (fT ci).length → j ≠ k → fv E w' a ((fT ci).getD j 0) j = fv E w a ((fT ci).getD j 0) j) : (oV E w ci a).set k v = oV E w' ci a := by
  apply List.ext_getElem?
  intro b
  by_cases hb : b < (fT ci).length
  · rw [oV_at (w := w') hb, List.getElem?_set]
    by_cases hab : k = b
    · subst hab
      rw [if_pos rfl, if_pos (by rw [oV_len]; exact h), he]
    · rw [if_neg hab, oV_at hb, ho b hb (fun q => hab q.symm)]
  · rw [List.getElem?_eq_none (by rw [List.length_set, oV_len]; omega), List.getElem?_eq_none (by rw [oV_len]; omega)]
