/-! moves -/
def sB (k : Nat) : List Nat := [[10], [20, 10], [10], [20, 10], [51, 10], [10], [70, 51, 10]].getD k []
def pB (k : Nat) : List Nat := [[11], [11], [30, 11], [40, 11], [11], [30, 11], [71, 11]].getD k [] ++ sB k
def fB (k : Nat) : List Nat := [[12], [12], [12], [12], [50, 12], [60, 12], [50, 12]].getD k [] ++ (pB k ++ sB k)
def sV (k : Nat) (m a x : Int32) : Int32 := if k = 1 ∨ k = 3 then x + m + a else if k = 4 then x + m - m else if k = 6 then (x + m - m) * 2 else x + m
def pV (k : Nat) (m a x : Int32) : Int32 := if k = 6 then sV k m a (x - a) * 2 else if k = 3 then sV k m a (x + 1) * 2 else if k = 2 ∨ k = 5 then sV k m a x * 2 * 3 else sV k m a x * 2
def fV (k : Nat) (m a x : Int32) : Int32 := if k = 4 ∨ k = 6 then -(pV k m a x ^^^ sV k m a (x - a)) else if k = 5 then (pV k m a x ^^^ sV k m a (x - a)) ^^^ 5 else pV k m a x ^^^ sV k m a (x - a)
def NtX (v : Wd) (l : List Nat) : Prop := wI v 133 0 = nI l.length ∧ ∀ i, i < l.length → wI v 134 i = nI (l.getD i 0)
def NtM (v : Wd) (l : List Nat) : Prop := wI v 0 16 = nI l.length ∧ ∀ i, i < l.length → wI v 12 i = nI (l.getD i 0)
theorem gD_snoc (l : List Nat) (b i : Nat) : (l ++ [b]).getD i 0 = if i < l.length then l.getD i 0 else if i = l.length then b else 0 := by
  rw [List.getD_eq_getElem?_getD, List.getElem?_append]
  by_cases e : i < l.length
  · rw [if_pos e, if_pos e, List.getD_eq_getElem?_getD]
  · rw [if_neg e, if_neg e]
    by_cases e2 : i = l.length
    · subst e2
      rw [Nat.sub_self, if_pos rfl]
      rfl
    · rw [if_neg e2, List.getElem?_eq_none (by simp; omega)]
      rfl
theorem len_snoc (l : List Nat) (b : Nat) : (l ++ [b]).length = l.length + 1 := by simp
theorem NtX_s {v : Wd} {l : List Nat} {b : Nat} (h : NtX v l) (hl : l.length < 20) : NtX (sI (sI v 134 l.length (nI b)) 133 0 (nI l.length + 1)) (l ++ [b]) := by
  refine ⟨?_, fun i hi => ?_⟩
  · rw [wI_e, len_snoc]
    exact nI_1 _
  · rw [len_snoc] at hi
    rw [wI_n (by omega), gD_snoc]
    by_cases e : i < l.length
    · rw [wI_n (by omega), if_pos e]
      exact h.2 i e
    · have e2 : i = l.length := by omega
      rw [if_neg e, if_pos e2, e2, wI_e]
theorem NtM_s {v : Wd} {l : List Nat} {b : Nat} (h : NtM v l) (hl : l.length < 20) : NtM (sI (sI v 12 l.length (nI b)) 0 16 (nI l.length + 1)) (l ++ [b]) := by
  refine ⟨?_, fun i hi => ?_⟩
  · rw [wI_e, len_snoc]
    exact nI_1 _
  · rw [len_snoc] at hi
    rw [wI_n (by omega), gD_snoc]
    by_cases e : i < l.length
    · rw [wI_n (by omega), if_pos e]
      exact h.2 i e
    · have e2 : i = l.length := by omega
      rw [if_neg e, if_pos e2, e2, wI_e]
def cTX (a i : Nat) : Prop := a = 134 ∨ (a = 133 ∧ i = 0)
def cTM (a i : Nat) : Prop := a = 12 ∨ (a = 0 ∧ i = 16)
theorem ShX.M {x : Wd} (hs : ShX x) : wR x 0 8 = some 133 ∧ isO x 133 3 ∧ wR x 133 1 = some 134 ∧ isA x 134 0 ∧ wn x 134 = 20 :=
  ⟨hs.R (by decide) (by decide) (fun q => by omega) (by decide +kernel), ⟨by rw [hs.1]; decide, (hs.K (n := 0) (by decide) (by decide +kernel)).1⟩, hs.R (by decide) (by decide) (fun q => by omega) (by decide +kernel), ⟨by rw [hs.1]; decide, (hs.K (n := 20) (by decide) (by decide +kernel)).1⟩, (hs.K (k := 0) (by decide) (by decide +kernel)).2⟩
theorem X3_note {v : Wd} {l : List Nat} {b : Nat} (hs : ShX v) (h : NtX v l) (hl : l.length < 20) : Wp (fX3_note 133 (nI b) v) (fun u => Fr cTX v u ∧ NtX u (l ++ [b])) := by
  obtain ⟨m1, m2, m3, m4, m5⟩ := hs.M
  have b1 : inb (nI l.length) 20 := inb_nI hl (by decide)
  have e0 : wI (sI v 134 l.length (nI b)) 133 0 = nI l.length := by rw [wI_n (by omega)]; exact h.1
  unfold fX3_note fX3_note_b19
  simp only [chk_t m2, h.1, leL20 (show l.length < 2147483648 by omega), if_neg (Nat.not_le.mpr hl), m3, ob_s, chk_t m4, m5, chk_t b1, nI_clamp (show l.length < 2 ^ 31 by omega), bnd_e, cO_s, e0, Wp_s]
  exact ⟨(Fr_sI _ (Or.inl rfl)).sI _ (Or.inr ⟨rfl, rfl⟩), NtX_s h hl⟩
theorem X8_ran {v : Wd} {l : List Nat} {b : Nat} (hs : ShM v) (h : NtM v l) (hl : l.length < 20) : Wp (fX8_ran 0 (nI b) v) (fun u => Fr cTM v u ∧ NtM u (l ++ [b])) := by
  obtain ⟨m3, m4, m5⟩ := hs.a12
  have b1 : inb (nI l.length) 20 := inb_nI hl (by decide)
  have e0 : wI (sI v 12 l.length (nI b)) 0 16 = nI l.length := by rw [wI_n (by omega)]; exact h.1
  unfold fX8_ran fX8_ran_b19
  simp only [chk_t hs.O, h.1, leL20 (show l.length < 2147483648 by omega), if_neg (Nat.not_le.mpr hl), m3, ob_s, chk_t m4, m5, chk_t b1, nI_clamp (show l.length < 2 ^ 31 by omega), bnd_e, cO_s, e0, Wp_s]
  exact ⟨(Fr_sI _ (Or.inl rfl)).sI _ (Or.inr ⟨rfl, rfl⟩), NtM_s h hl⟩
/-! in x -/
abbrev Rc : Type := Nat → Int32 → Int32 → Int32 → Int32 → Wd → Option (Int32 × Wd)
def MvX (v : Wd) (K : Nat) (m a : Int32) (l : List Nat) : Prop := ShX v ∧ (wI v 133 2 = nI K ∧ wI v 133 3 = m ∧ wI v 133 4 = a) ∧ NtX v l
theorem MvX.go {v u : Wd} {K : Nat} {m a : Int32} {l l' : List Nat} (h : MvX v K m a l) (hf : Fr cTX v u) (hn : NtX u l') : MvX u K m a l' := by
  obtain ⟨h1, ⟨h2, h3, h4⟩, -⟩ := h
  refine ⟨hf.shx h1, ⟨?_, ?_, ?_⟩, hn⟩
  · rw [hf.at (by unfold cTX; omega)]; exact h2
  · rw [hf.at (by unfold cTX; omega)]; exact h3
  · rw [hf.at (by unfold cTX; omega)]; exact h4
/-- a run from kind j of move mv answers val, and these bodies ran -/
def Rn (rec : Rc) (K : Nat) (m a : Int32) (D : Nat) (j mv : Nat) (val : Int32 → Int32) (B : List Nat) : Prop := ∀ (x : Int32) (d : Nat) (v : Wd) (l : List Nat), d + D ≤ 40 → l.length + B.length ≤ 20 → MvX v K m a l → Wp (rec 133 (nI j) (nI mv) x (nI d) v) (fun q => q.1 = val x ∧ Fr cTX v q.2 ∧ MvX q.2 K m a (l ++ B))
theorem le40 {d : Nat} (h : d ≤ 40) : nI d ≤ 40 := by
  have := nI_le_iff (a := d) (b := 40) (by omega) (by decide)
  exact this.mpr h
theorem it_r {S R : Type} {f : S → Option (S ⊕ R)} {n : Nat} {s : S} {p : Option R} (h : f s = wr p) : it f (n + 1) s = p := by
  unfold it
  rw [h]
  cases p <;> rfl
theorem it_l {S R : Type} {f : S → Option (S ⊕ R)} {n : Nat} {s t : S} (h : f s = some (.inl t)) : it f (n + 1) s = it f n t := by
  conv => lhs; unfold it
  rw [h]
theorem ra_0_0 (rec : Rc) (x d : Int32) (v : Wd) : fX3_run rec 133 (nI 0) (nI 0) x d v = fX3_run_b46 rec 133 0 x d 0 v := by
  unfold fX3_run fX3_run_L6
  show it (fX3_run_L6_body rec 133 0 x d) (99999 + 1) (0, 0, v) = _
  exact it_r (n := 99999) rfl
theorem ra_0_1 (rec : Rc) (x d : Int32) (v : Wd) : fX3_run rec 133 (nI 0) (nI 1) x d v = fX3_run_b46 rec 133 1 x d 0 v := by
  unfold fX3_run fX3_run_L6
  show it (fX3_run_L6_body rec 133 1 x d) (99999 + 1) (0, 0, v) = _
  exact it_r (n := 99999) rfl
theorem ra_0_2 (rec : Rc) (x d : Int32) (v : Wd) : fX3_run rec 133 (nI 0) (nI 2) x d v = fX3_run_b46 rec 133 2 x d 0 v := by
  unfold fX3_run fX3_run_L6
  show it (fX3_run_L6_body rec 133 2 x d) (99999 + 1) (0, 0, v) = _
  exact it_r (n := 99999) rfl
theorem ra_1_0 (rec : Rc) (x d : Int32) (v : Wd) : fX3_run rec 133 (nI 1) (nI 0) x d v = fX3_run_b46 rec 133 0 x d 1 v := by
  unfold fX3_run fX3_run_L6
  show it (fX3_run_L6_body rec 133 0 x d) (99999 + 1) (1, 0, v) = _
  exact it_r (n := 99999) rfl
theorem ra_1_1 (rec : Rc) (x d : Int32) (v : Wd) : fX3_run rec 133 (nI 1) (nI 1) x d v = fX3_run_b46 rec 133 1 x d 0 v := by
  unfold fX3_run fX3_run_L6
  show it (fX3_run_L6_body rec 133 1 x d) (99999 + 1) (1, 0, v) = _
  refine (it_l (n := 99999) (t := (0, 1, v)) rfl).trans ?_
  show it (fX3_run_L6_body rec 133 1 x d) (99998 + 1) (0, 1, v) = _
  exact it_r (n := 99998) rfl
theorem ra_1_2 (rec : Rc) (x d : Int32) (v : Wd) : fX3_run rec 133 (nI 1) (nI 2) x d v = fX3_run_b46 rec 133 2 x d 0 v := by
  unfold fX3_run fX3_run_L6
  show it (fX3_run_L6_body rec 133 2 x d) (99999 + 1) (1, 0, v) = _
  refine (it_l (n := 99999) (t := (0, 1, v)) rfl).trans ?_
  show it (fX3_run_L6_body rec 133 2 x d) (99998 + 1) (0, 1, v) = _
  exact it_r (n := 99998) rfl
theorem ra_2_0 (rec : Rc) (x d : Int32) (v : Wd) : fX3_run rec 133 (nI 2) (nI 0) x d v = fX3_run_b46 rec 133 0 x d 0 v := by
  unfold fX3_run fX3_run_L6
  show it (fX3_run_L6_body rec 133 0 x d) (99999 + 1) (2, 0, v) = _
  refine (it_l (n := 99999) (t := (0, 1, v)) rfl).trans ?_
  show it (fX3_run_L6_body rec 133 0 x d) (99998 + 1) (0, 1, v) = _
  exact it_r (n := 99998) rfl
theorem ra_2_1 (rec : Rc) (x d : Int32) (v : Wd) : fX3_run rec 133 (nI 2) (nI 1) x d v = fX3_run_b46 rec 133 1 x d 2 v := by
  unfold fX3_run fX3_run_L6
  show it (fX3_run_L6_body rec 133 1 x d) (99999 + 1) (2, 0, v) = _
  exact it_r (n := 99999) rfl
theorem ra_2_2 (rec : Rc) (x d : Int32) (v : Wd) : fX3_run rec 133 (nI 2) (nI 2) x d v = fX3_run_b46 rec 133 2 x d 0 v := by
  unfold fX3_run fX3_run_L6
  show it (fX3_run_L6_body rec 133 2 x d) (99999 + 1) (2, 0, v) = _
  refine (it_l (n := 99999) (t := (0, 1, v)) rfl).trans ?_
  show it (fX3_run_L6_body rec 133 2 x d) (99998 + 1) (0, 1, v) = _
  exact it_r (n := 99998) rfl
theorem ra_3_0 (rec : Rc) (x d : Int32) (v : Wd) : fX3_run rec 133 (nI 3) (nI 0) x d v = fX3_run_b46 rec 133 0 x d 1 v := by
  unfold fX3_run fX3_run_L6
  show it (fX3_run_L6_body rec 133 0 x d) (99999 + 1) (3, 0, v) = _
  refine (it_l (n := 99999) (t := (1, 1, v)) rfl).trans ?_
  show it (fX3_run_L6_body rec 133 0 x d) (99998 + 1) (1, 1, v) = _
  exact it_r (n := 99998) rfl
theorem ra_3_1 (rec : Rc) (x d : Int32) (v : Wd) : fX3_run rec 133 (nI 3) (nI 1) x d v = fX3_run_b46 rec 133 1 x d 3 v := by
  unfold fX3_run fX3_run_L6
  show it (fX3_run_L6_body rec 133 1 x d) (99999 + 1) (3, 0, v) = _
  exact it_r (n := 99999) rfl
theorem ra_3_2 (rec : Rc) (x d : Int32) (v : Wd) : fX3_run rec 133 (nI 3) (nI 2) x d v = fX3_run_b46 rec 133 2 x d 0 v := by
  unfold fX3_run fX3_run_L6
  show it (fX3_run_L6_body rec 133 2 x d) (99999 + 1) (3, 0, v) = _
  refine (it_l (n := 99999) (t := (1, 1, v)) rfl).trans ?_
  show it (fX3_run_L6_body rec 133 2 x d) (99998 + 1) (1, 1, v) = _
  refine (it_l (n := 99998) (t := (0, 2, v)) rfl).trans ?_
  show it (fX3_run_L6_body rec 133 2 x d) (99997 + 1) (0, 2, v) = _
  exact it_r (n := 99997) rfl
theorem ra_4_0 (rec : Rc) (x d : Int32) (v : Wd) : fX3_run rec 133 (nI 4) (nI 0) x d v = fX3_run_b46 rec 133 0 x d 4 v := by
  unfold fX3_run fX3_run_L6
  show it (fX3_run_L6_body rec 133 0 x d) (99999 + 1) (4, 0, v) = _
  exact it_r (n := 99999) rfl
theorem ra_4_1 (rec : Rc) (x d : Int32) (v : Wd) : fX3_run rec 133 (nI 4) (nI 1) x d v = fX3_run_b46 rec 133 1 x d 0 v := by
  unfold fX3_run fX3_run_L6
  show it (fX3_run_L6_body rec 133 1 x d) (99999 + 1) (4, 0, v) = _
  refine (it_l (n := 99999) (t := (0, 1, v)) rfl).trans ?_
  show it (fX3_run_L6_body rec 133 1 x d) (99998 + 1) (0, 1, v) = _
  exact it_r (n := 99998) rfl
theorem ra_4_2 (rec : Rc) (x d : Int32) (v : Wd) : fX3_run rec 133 (nI 4) (nI 2) x d v = fX3_run_b46 rec 133 2 x d 4 v := by
  unfold fX3_run fX3_run_L6
  show it (fX3_run_L6_body rec 133 2 x d) (99999 + 1) (4, 0, v) = _
  exact it_r (n := 99999) rfl
theorem ra_5_0 (rec : Rc) (x d : Int32) (v : Wd) : fX3_run rec 133 (nI 5) (nI 0) x d v = fX3_run_b46 rec 133 0 x d 0 v := by
  unfold fX3_run fX3_run_L6
  show it (fX3_run_L6_body rec 133 0 x d) (99999 + 1) (5, 0, v) = _
  refine (it_l (n := 99999) (t := (2, 1, v)) rfl).trans ?_
  show it (fX3_run_L6_body rec 133 0 x d) (99998 + 1) (2, 1, v) = _
  refine (it_l (n := 99998) (t := (0, 2, v)) rfl).trans ?_
  show it (fX3_run_L6_body rec 133 0 x d) (99997 + 1) (0, 2, v) = _
  exact it_r (n := 99997) rfl
theorem ra_5_1 (rec : Rc) (x d : Int32) (v : Wd) : fX3_run rec 133 (nI 5) (nI 1) x d v = fX3_run_b46 rec 133 1 x d 2 v := by
  unfold fX3_run fX3_run_L6
  show it (fX3_run_L6_body rec 133 1 x d) (99999 + 1) (5, 0, v) = _
  refine (it_l (n := 99999) (t := (2, 1, v)) rfl).trans ?_
  show it (fX3_run_L6_body rec 133 1 x d) (99998 + 1) (2, 1, v) = _
  exact it_r (n := 99998) rfl
theorem ra_5_2 (rec : Rc) (x d : Int32) (v : Wd) : fX3_run rec 133 (nI 5) (nI 2) x d v = fX3_run_b46 rec 133 2 x d 5 v := by
  unfold fX3_run fX3_run_L6
  show it (fX3_run_L6_body rec 133 2 x d) (99999 + 1) (5, 0, v) = _
  exact it_r (n := 99999) rfl
theorem ra_6_0 (rec : Rc) (x d : Int32) (v : Wd) : fX3_run rec 133 (nI 6) (nI 0) x d v = fX3_run_b46 rec 133 0 x d 6 v := by
  unfold fX3_run fX3_run_L6
  show it (fX3_run_L6_body rec 133 0 x d) (99999 + 1) (6, 0, v) = _
  exact it_r (n := 99999) rfl
theorem ra_6_1 (rec : Rc) (x d : Int32) (v : Wd) : fX3_run rec 133 (nI 6) (nI 1) x d v = fX3_run_b46 rec 133 1 x d 6 v := by
  unfold fX3_run fX3_run_L6
  show it (fX3_run_L6_body rec 133 1 x d) (99999 + 1) (6, 0, v) = _
  exact it_r (n := 99999) rfl
theorem ra_6_2 (rec : Rc) (x d : Int32) (v : Wd) : fX3_run rec 133 (nI 6) (nI 2) x d v = fX3_run_b46 rec 133 2 x d 4 v := by
  unfold fX3_run fX3_run_L6
  show it (fX3_run_L6_body rec 133 2 x d) (99999 + 1) (6, 0, v) = _
  refine (it_l (n := 99999) (t := (4, 1, v)) rfl).trans ?_
  show it (fX3_run_L6_body rec 133 2 x d) (99998 + 1) (4, 1, v) = _
  exact it_r (n := 99998) rfl
theorem rb_10 (rec : Rc) (x d : Int32) (v : Wd) (hd : d ≤ 40) : fX3_run_b46 rec 133 0 x d 0 v = chk (isO v 133 3) (ob (fX3_note 133 (nI 10) v) (fun q7 => bnd (d + 1) (fun u9 => (chk (isO q7 133 3) (some ((x + (wI q7 133 3)), q7)))))) := by
  unfold fX3_run_b46
  rw [if_neg (by decide), if_pos hd]
  rfl
theorem rb_11 (rec : Rc) (x d : Int32) (v : Wd) (hd : d ≤ 40) : fX3_run_b46 rec 133 1 x d 0 v = chk (isO v 133 3) (ob (fX3_note 133 (nI 11) v) (fun q7 => bnd (d + 1) (fun u9 => (chk (isO q7 133 3) (ob (rec 133 (wI q7 133 2) 0 x u9 q7) (fun q15 => some ((q15.1 * 2), q15.2))))))) := by
  unfold fX3_run_b46
  rw [if_neg (by decide), if_pos hd]
  rfl
theorem rb_12 (rec : Rc) (x d : Int32) (v : Wd) (hd : d ≤ 40) : fX3_run_b46 rec 133 2 x d 0 v = chk (isO v 133 3) (ob (fX3_note 133 (nI 12) v) (fun q7 => bnd (d + 1) (fun u9 => (chk (isO q7 133 3) (ob (rec 133 (wI q7 133 2) 1 x u9 q7) (fun q19 => chk (isO q19.2 133 3) (ob (rec 133 (wI q19.2 133 2) 0 (x - (wI q19.2 133 4)) u9 q19.2) (fun q22 => some ((q19.1 ^^^ q22.1), q22.2))))))))) := by
  unfold fX3_run_b46
  rw [if_neg (by decide), if_pos hd]
  rfl
theorem rb_20 (rec : Rc) (x d : Int32) (v : Wd) (hd : d ≤ 40) : fX3_run_b46 rec 133 0 x d 1 v = chk (isO v 133 3) (ob (fX3_note 133 (nI 20) v) (fun q7 => bnd (d + 1) (fun u9 => (chk (isO q7 133 3) (ob (rec 133 0 0 x u9 q7) (fun q27 => chk (isO q27.2 133 3) (some ((q27.1 + (wI q27.2 133 4)), q27.2)))))))) := by
  unfold fX3_run_b46
  rw [if_neg (by decide), if_pos hd]
  rfl
theorem rb_30 (rec : Rc) (x d : Int32) (v : Wd) (hd : d ≤ 40) : fX3_run_b46 rec 133 1 x d 2 v = chk (isO v 133 3) (ob (fX3_note 133 (nI 30) v) (fun q7 => bnd (d + 1) (fun u9 => (chk (isO q7 133 3) (ob (rec 133 0 1 x u9 q7) (fun q33 => some ((q33.1 * 3), q33.2))))))) := by
  unfold fX3_run_b46
  rw [if_neg (by decide), if_pos hd]
  rfl
theorem rb_40 (rec : Rc) (x d : Int32) (v : Wd) (hd : d ≤ 40) : fX3_run_b46 rec 133 1 x d 3 v = chk (isO v 133 3) (ob (fX3_note 133 (nI 40) v) (fun q7 => bnd (d + 1) (fun u9 => (chk (isO q7 133 3) (ob (rec 133 1 1 (x + 1) u9 q7) (fun q38 => some (q38.1, q38.2))))))) := by
  unfold fX3_run_b46
  rw [if_neg (by decide), if_pos hd]
  rfl
theorem rb_50 (rec : Rc) (x d : Int32) (v : Wd) (hd : d ≤ 40) : fX3_run_b46 rec 133 2 x d 4 v = chk (isO v 133 3) (ob (fX3_note 133 (nI 50) v) (fun q7 => bnd (d + 1) (fun u9 => (chk (isO q7 133 3) (ob (rec 133 0 2 x u9 q7) (fun q43 => some ((-q43.1), q43.2))))))) := by
  unfold fX3_run_b46
  rw [if_neg (by decide), if_pos hd]
  rfl
theorem rb_51 (rec : Rc) (x d : Int32) (v : Wd) (hd : d ≤ 40) : fX3_run_b46 rec 133 0 x d 4 v = chk (isO v 133 3) (ob (fX3_note 133 (nI 51) v) (fun q7 => bnd (d + 1) (fun u9 => (chk (isO q7 133 3) (ob (rec 133 0 0 x u9 q7) (fun q48 => chk (isO q48.2 133 3) (some ((q48.1 - (wI q48.2 133 3)), q48.2)))))))) := by
  unfold fX3_run_b46
  rw [if_neg (by decide), if_pos hd]
  rfl
theorem rb_60 (rec : Rc) (x d : Int32) (v : Wd) (hd : d ≤ 40) : fX3_run_b46 rec 133 2 x d 5 v = chk (isO v 133 3) (ob (fX3_note 133 (nI 60) v) (fun q7 => bnd (d + 1) (fun u9 => (chk (isO q7 133 3) (ob (rec 133 2 2 x u9 q7) (fun q54 => some ((q54.1 ^^^ 5), q54.2))))))) := by
  unfold fX3_run_b46
  rw [if_neg (by decide), if_pos hd]
  rfl
theorem rb_70 (rec : Rc) (x d : Int32) (v : Wd) (hd : d ≤ 40) : fX3_run_b46 rec 133 0 x d 6 v = chk (isO v 133 3) (ob (fX3_note 133 (nI 70) v) (fun q7 => bnd (d + 1) (fun u9 => (chk (isO q7 133 3) (ob (rec 133 4 0 x u9 q7) (fun q59 => some ((q59.1 * 2), q59.2))))))) := by
  unfold fX3_run_b46
  rw [if_neg (by decide), if_pos hd]
  rfl
theorem rb_71 (rec : Rc) (x d : Int32) (v : Wd) (hd : d ≤ 40) : fX3_run_b46 rec 133 1 x d 6 v = chk (isO v 133 3) (ob (fX3_note 133 (nI 71) v) (fun q7 => bnd (d + 1) (fun u9 => (chk (isO q7 133 3) (ob (rec 133 4 1 (x - (wI q7 133 4)) u9 q7) (fun q63 => some (q63.1, q63.2))))))) := by
  unfold fX3_run_b46
  rw [if_neg (by decide), if_pos hd]
  rfl
theorem app1 (l : List Nat) (b : Nat) (B : List Nat) : l ++ [b] ++ B = l ++ (b :: B) := by simp
theorem Rn_10 (n K : Nat) (m a : Int32) {j : Nat} (hj : j = 0 ∨ j = 2 ∨ j = 5) : Rn (fX3_run_n (n + 1)) K m a 0 j 0 (fun x => x + m) [10] := by
  have key : ∀ j, (∀ (rec : Rc) (x d : Int32) (v : Wd), fX3_run rec 133 (nI j) (nI 0) x d v = fX3_run_b46 rec 133 0 x d 0 v) → Rn (fX3_run_n (n + 1)) K m a 0 j 0 (fun x => x + m) [10] := by
    intro j ra x d v l hd hl hM
    obtain ⟨hs, ⟨c2, c3, c4⟩, hN⟩ := id hM
    obtain ⟨m1, m2, m3, m4, m5⟩ := hs.M
    have hl1 : l.length < 20 := by
      have : ([10] : List Nat).length = 1 := rfl
      omega
    show Wp (fX3_run _ 133 (nI j) (nI 0) x (nI d) v) _
    rw [ra, rb_10 _ _ _ _ (le40 (by omega)), chk_t m2]
    refine Wp_c (X3_note hs hN hl1) (fun v1 h1 => ?_)
    have hM1 := hM.go h1.1 h1.2
    obtain ⟨k2, k3, k4⟩ := hM1.2.1
    obtain ⟨m1, m2, m3, m4, m5⟩ := hM1.1.M
    rw [bnd_e, chk_t m2, k3]
    exact Wp_of rfl ⟨rfl, h1.1, hM1⟩
  rcases hj with rfl | rfl | rfl
  · exact key 0 (fun rec x d v => ra_0_0 rec x d v)
  · exact key 2 (fun rec x d v => ra_2_0 rec x d v)
  · exact key 5 (fun rec x d v => ra_5_0 rec x d v)
/-- a body that runs one other -/
theorem Rn_s {rec : Rc} {K : Nat} {m a : Int32} {D j mv j' mv' b : Nat} {val f : Int32 → Int32} {B : List Nat} {h : Int32 → Int32} (hin : Rn rec K m a D j' mv' val B) (e : ∀ (x : Int32) (d : Nat) (v : Wd) (l : List Nat), d ≤ 40 → MvX v K m a l → l.length < 20 → ∃ k : Int32 × Wd → Option (Int32 × Wd), (∀ (y : Int32) (u : Wd) (l' : List Nat), MvX u K m a l' → k (y, u) = some (h y, u)) ∧ fX3_run rec 133 (nI j) (nI mv) x (nI d) v = ob (fX3_note 133 (nI b) v) (fun q7 => chk (isO q7 133 3) (ob (rec 133 (nI j') (nI mv') (f x) (nI (d + 1)) q7) k))) : ∀ (x : Int32) (d : Nat) (v : Wd) (l : List Nat), d + (D + 1) ≤ 40 → l.length + (b :: B).length ≤ 20 → MvX v K m a l → Wp (fX3_run rec 133 (nI j) (nI mv) x (nI d) v) (fun q => q.1 = h (val (f x)) ∧ Fr cTX v q.2 ∧ MvX q.2 K m a (l ++ (b :: B))) := by
  intro x d v l hd hl hM
  have hlen : (b :: B).length = B.length + 1 := rfl
  have hl1 : l.length < 20 := by omega
  obtain ⟨k, hk, e⟩ := e x d v l (by omega) hM hl1
  rw [e]
  refine Wp_c (X3_note hM.1 hM.2.2 hl1) (fun v1 h1 => ?_)
  have hM1 := hM.go h1.1 h1.2
  obtain ⟨m1, m2, m3, m4, m5⟩ := hM1.1.M
  rw [chk_t m2]
  refine Wp_c (hin (f x) (d + 1) v1 (l ++ [b]) (by omega) (by rw [len_snoc]; omega) hM1) (fun q hq => ?_)
  obtain ⟨h3, h4, h5⟩ := hq
  rw [show q = (q.1, q.2) from rfl, h3, hk _ _ _ h5]
  refine Wp_of rfl ⟨rfl, h1.1.trans h4, ?_⟩
  rw [app1] at h5
  exact h5
theorem MvX.o {v : Wd} {K : Nat} {m a : Int32} {l : List Nat} (h : MvX v K m a l) : isO v 133 3 := h.1.M.2.1
theorem Rs_20_1 {rec : Rc} {K : Nat} {m a : Int32} {D : Nat} {val : Int32 → Int32} {B : List Nat} (hin : Rn rec K m a D 0 0 val B) : ∀ (x : Int32) (d : Nat) (v : Wd) (l : List Nat), d + (D + 1) ≤ 40 → l.length + (20 :: B).length ≤ 20 → MvX v K m a l → Wp (fX3_run rec 133 (nI 1) (nI 0) x (nI d) v) (fun q => q.1 = (fun y => y + a) (val ((fun x => x) x)) ∧ Fr cTX v q.2 ∧ MvX q.2 K m a (l ++ (20 :: B))) := by
  refine Rn_s (f := fun x => x) (h := fun y => y + a) hin (fun x d v l hd hM hl1 => ⟨fun q27 => chk (isO q27.2 133 3) (some ((q27.1 + (wI q27.2 133 4)), q27.2)), fun y u l' hu => ?_, ?_⟩)
  · show chk (isO u 133 3) (some (y + wI u 133 4, u)) = _
    rw [chk_t hu.o, hu.2.1.2.2]
  · rw [ra_1_0, rb_20 _ _ _ _ (le40 hd), chk_t hM.o]
    obtain ⟨w, ew, hw⟩ := X3_note (b := 20) hM.1 hM.2.2 hl1
    rw [ew, ob_s, ob_s, bnd_e, nI_1]
    have hM1 := hM.go hw.1 hw.2
    try rw [hM1.2.1.1]
    try rw [hM1.2.1.2.2]
    rfl
theorem Rs_20_3 {rec : Rc} {K : Nat} {m a : Int32} {D : Nat} {val : Int32 → Int32} {B : List Nat} (hin : Rn rec K m a D 0 0 val B) : ∀ (x : Int32) (d : Nat) (v : Wd) (l : List Nat), d + (D + 1) ≤ 40 → l.length + (20 :: B).length ≤ 20 → MvX v K m a l → Wp (fX3_run rec 133 (nI 3) (nI 0) x (nI d) v) (fun q => q.1 = (fun y => y + a) (val ((fun x => x) x)) ∧ Fr cTX v q.2 ∧ MvX q.2 K m a (l ++ (20 :: B))) := by
  refine Rn_s (f := fun x => x) (h := fun y => y + a) hin (fun x d v l hd hM hl1 => ⟨fun q27 => chk (isO q27.2 133 3) (some ((q27.1 + (wI q27.2 133 4)), q27.2)), fun y u l' hu => ?_, ?_⟩)
  · show chk (isO u 133 3) (some (y + wI u 133 4, u)) = _
    rw [chk_t hu.o, hu.2.1.2.2]
  · rw [ra_3_0, rb_20 _ _ _ _ (le40 hd), chk_t hM.o]
    obtain ⟨w, ew, hw⟩ := X3_note (b := 20) hM.1 hM.2.2 hl1
    rw [ew, ob_s, ob_s, bnd_e, nI_1]
    have hM1 := hM.go hw.1 hw.2
    try rw [hM1.2.1.1]
    try rw [hM1.2.1.2.2]
    rfl
theorem Rs_51 {rec : Rc} {K : Nat} {m a : Int32} {D : Nat} {val : Int32 → Int32} {B : List Nat} (hin : Rn rec K m a D 0 0 val B) : ∀ (x : Int32) (d : Nat) (v : Wd) (l : List Nat), d + (D + 1) ≤ 40 → l.length + (51 :: B).length ≤ 20 → MvX v K m a l → Wp (fX3_run rec 133 (nI 4) (nI 0) x (nI d) v) (fun q => q.1 = (fun y => y - m) (val ((fun x => x) x)) ∧ Fr cTX v q.2 ∧ MvX q.2 K m a (l ++ (51 :: B))) := by
  refine Rn_s (f := fun x => x) (h := fun y => y - m) hin (fun x d v l hd hM hl1 => ⟨fun q48 => chk (isO q48.2 133 3) (some ((q48.1 - (wI q48.2 133 3)), q48.2)), fun y u l' hu => ?_, ?_⟩)
  · show chk (isO u 133 3) (some (y - wI u 133 3, u)) = _
    rw [chk_t hu.o, hu.2.1.2.1]
  · rw [ra_4_0, rb_51 _ _ _ _ (le40 hd), chk_t hM.o]
    obtain ⟨w, ew, hw⟩ := X3_note (b := 51) hM.1 hM.2.2 hl1
    rw [ew, ob_s, ob_s, bnd_e, nI_1]
    have hM1 := hM.go hw.1 hw.2
    try rw [hM1.2.1.1]
    try rw [hM1.2.1.2.2]
    rfl
theorem Rs_70 {rec : Rc} {K : Nat} {m a : Int32} {D : Nat} {val : Int32 → Int32} {B : List Nat} (hin : Rn rec K m a D 4 0 val B) : ∀ (x : Int32) (d : Nat) (v : Wd) (l : List Nat), d + (D + 1) ≤ 40 → l.length + (70 :: B).length ≤ 20 → MvX v K m a l → Wp (fX3_run rec 133 (nI 6) (nI 0) x (nI d) v) (fun q => q.1 = (fun y => y * 2) (val ((fun x => x) x)) ∧ Fr cTX v q.2 ∧ MvX q.2 K m a (l ++ (70 :: B))) := by
  refine Rn_s (f := fun x => x) (h := fun y => y * 2) hin (fun x d v l hd hM hl1 => ⟨fun q59 => some ((q59.1 * 2), q59.2), fun y u l' hu => ?_, ?_⟩)
  · rfl
  · rw [ra_6_0, rb_70 _ _ _ _ (le40 hd), chk_t hM.o]
    obtain ⟨w, ew, hw⟩ := X3_note (b := 70) hM.1 hM.2.2 hl1
    rw [ew, ob_s, ob_s, bnd_e, nI_1]
    have hM1 := hM.go hw.1 hw.2
    try rw [hM1.2.1.1]
    try rw [hM1.2.1.2.2]
    rfl
theorem Rs_11_0 {rec : Rc} {K : Nat} {m a : Int32} {D : Nat} {val : Int32 → Int32} {B : List Nat} (hin : Rn rec K m a D K 0 val B) : ∀ (x : Int32) (d : Nat) (v : Wd) (l : List Nat), d + (D + 1) ≤ 40 → l.length + (11 :: B).length ≤ 20 → MvX v K m a l → Wp (fX3_run rec 133 (nI 0) (nI 1) x (nI d) v) (fun q => q.1 = (fun y => y * 2) (val ((fun x => x) x)) ∧ Fr cTX v q.2 ∧ MvX q.2 K m a (l ++ (11 :: B))) := by
  refine Rn_s (f := fun x => x) (h := fun y => y * 2) hin (fun x d v l hd hM hl1 => ⟨fun q15 => some ((q15.1 * 2), q15.2), fun y u l' hu => ?_, ?_⟩)
  · rfl
  · rw [ra_0_1, rb_11 _ _ _ _ (le40 hd), chk_t hM.o]
    obtain ⟨w, ew, hw⟩ := X3_note (b := 11) hM.1 hM.2.2 hl1
    rw [ew, ob_s, ob_s, bnd_e, nI_1]
    have hM1 := hM.go hw.1 hw.2
    try rw [hM1.2.1.1]
    try rw [hM1.2.1.2.2]
    rfl
theorem Rs_11_1 {rec : Rc} {K : Nat} {m a : Int32} {D : Nat} {val : Int32 → Int32} {B : List Nat} (hin : Rn rec K m a D K 0 val B) : ∀ (x : Int32) (d : Nat) (v : Wd) (l : List Nat), d + (D + 1) ≤ 40 → l.length + (11 :: B).length ≤ 20 → MvX v K m a l → Wp (fX3_run rec 133 (nI 1) (nI 1) x (nI d) v) (fun q => q.1 = (fun y => y * 2) (val ((fun x => x) x)) ∧ Fr cTX v q.2 ∧ MvX q.2 K m a (l ++ (11 :: B))) := by
  refine Rn_s (f := fun x => x) (h := fun y => y * 2) hin (fun x d v l hd hM hl1 => ⟨fun q15 => some ((q15.1 * 2), q15.2), fun y u l' hu => ?_, ?_⟩)
  · rfl
  · rw [ra_1_1, rb_11 _ _ _ _ (le40 hd), chk_t hM.o]
    obtain ⟨w, ew, hw⟩ := X3_note (b := 11) hM.1 hM.2.2 hl1
    rw [ew, ob_s, ob_s, bnd_e, nI_1]
    have hM1 := hM.go hw.1 hw.2
    try rw [hM1.2.1.1]
    try rw [hM1.2.1.2.2]
    rfl
theorem Rs_11_4 {rec : Rc} {K : Nat} {m a : Int32} {D : Nat} {val : Int32 → Int32} {B : List Nat} (hin : Rn rec K m a D K 0 val B) : ∀ (x : Int32) (d : Nat) (v : Wd) (l : List Nat), d + (D + 1) ≤ 40 → l.length + (11 :: B).length ≤ 20 → MvX v K m a l → Wp (fX3_run rec 133 (nI 4) (nI 1) x (nI d) v) (fun q => q.1 = (fun y => y * 2) (val ((fun x => x) x)) ∧ Fr cTX v q.2 ∧ MvX q.2 K m a (l ++ (11 :: B))) := by
  refine Rn_s (f := fun x => x) (h := fun y => y * 2) hin (fun x d v l hd hM hl1 => ⟨fun q15 => some ((q15.1 * 2), q15.2), fun y u l' hu => ?_, ?_⟩)
  · rfl
  · rw [ra_4_1, rb_11 _ _ _ _ (le40 hd), chk_t hM.o]
    obtain ⟨w, ew, hw⟩ := X3_note (b := 11) hM.1 hM.2.2 hl1
    rw [ew, ob_s, ob_s, bnd_e, nI_1]
    have hM1 := hM.go hw.1 hw.2
    try rw [hM1.2.1.1]
    try rw [hM1.2.1.2.2]
    rfl
theorem Rs_30_2 {rec : Rc} {K : Nat} {m a : Int32} {D : Nat} {val : Int32 → Int32} {B : List Nat} (hin : Rn rec K m a D 0 1 val B) : ∀ (x : Int32) (d : Nat) (v : Wd) (l : List Nat), d + (D + 1) ≤ 40 → l.length + (30 :: B).length ≤ 20 → MvX v K m a l → Wp (fX3_run rec 133 (nI 2) (nI 1) x (nI d) v) (fun q => q.1 = (fun y => y * 3) (val ((fun x => x) x)) ∧ Fr cTX v q.2 ∧ MvX q.2 K m a (l ++ (30 :: B))) := by
  refine Rn_s (f := fun x => x) (h := fun y => y * 3) hin (fun x d v l hd hM hl1 => ⟨fun q33 => some ((q33.1 * 3), q33.2), fun y u l' hu => ?_, ?_⟩)
  · rfl
  · rw [ra_2_1, rb_30 _ _ _ _ (le40 hd), chk_t hM.o]
    obtain ⟨w, ew, hw⟩ := X3_note (b := 30) hM.1 hM.2.2 hl1
    rw [ew, ob_s, ob_s, bnd_e, nI_1]
    have hM1 := hM.go hw.1 hw.2
    try rw [hM1.2.1.1]
    try rw [hM1.2.1.2.2]
    rfl
theorem Rs_30_5 {rec : Rc} {K : Nat} {m a : Int32} {D : Nat} {val : Int32 → Int32} {B : List Nat} (hin : Rn rec K m a D 0 1 val B) : ∀ (x : Int32) (d : Nat) (v : Wd) (l : List Nat), d + (D + 1) ≤ 40 → l.length + (30 :: B).length ≤ 20 → MvX v K m a l → Wp (fX3_run rec 133 (nI 5) (nI 1) x (nI d) v) (fun q => q.1 = (fun y => y * 3) (val ((fun x => x) x)) ∧ Fr cTX v q.2 ∧ MvX q.2 K m a (l ++ (30 :: B))) := by
  refine Rn_s (f := fun x => x) (h := fun y => y * 3) hin (fun x d v l hd hM hl1 => ⟨fun q33 => some ((q33.1 * 3), q33.2), fun y u l' hu => ?_, ?_⟩)
  · rfl
  · rw [ra_5_1, rb_30 _ _ _ _ (le40 hd), chk_t hM.o]
    obtain ⟨w, ew, hw⟩ := X3_note (b := 30) hM.1 hM.2.2 hl1
    rw [ew, ob_s, ob_s, bnd_e, nI_1]
    have hM1 := hM.go hw.1 hw.2
    try rw [hM1.2.1.1]
    try rw [hM1.2.1.2.2]
    rfl
theorem Rs_40 {rec : Rc} {K : Nat} {m a : Int32} {D : Nat} {val : Int32 → Int32} {B : List Nat} (hin : Rn rec K m a D 1 1 val B) : ∀ (x : Int32) (d : Nat) (v : Wd) (l : List Nat), d + (D + 1) ≤ 40 → l.length + (40 :: B).length ≤ 20 → MvX v K m a l → Wp (fX3_run rec 133 (nI 3) (nI 1) x (nI d) v) (fun q => q.1 = (fun x => x) (val ((fun x => x + 1) x)) ∧ Fr cTX v q.2 ∧ MvX q.2 K m a (l ++ (40 :: B))) := by
  refine Rn_s (f := fun x => x + 1) (h := fun x => x) hin (fun x d v l hd hM hl1 => ⟨fun q38 => some (q38.1, q38.2), fun y u l' hu => ?_, ?_⟩)
  · rfl
  · rw [ra_3_1, rb_40 _ _ _ _ (le40 hd), chk_t hM.o]
    obtain ⟨w, ew, hw⟩ := X3_note (b := 40) hM.1 hM.2.2 hl1
    rw [ew, ob_s, ob_s, bnd_e, nI_1]
    have hM1 := hM.go hw.1 hw.2
    try rw [hM1.2.1.1]
    try rw [hM1.2.1.2.2]
    rfl
theorem Rs_71 {rec : Rc} {K : Nat} {m a : Int32} {D : Nat} {val : Int32 → Int32} {B : List Nat} (hin : Rn rec K m a D 4 1 val B) : ∀ (x : Int32) (d : Nat) (v : Wd) (l : List Nat), d + (D + 1) ≤ 40 → l.length + (71 :: B).length ≤ 20 → MvX v K m a l → Wp (fX3_run rec 133 (nI 6) (nI 1) x (nI d) v) (fun q => q.1 = (fun x => x) (val ((fun x => x - a) x)) ∧ Fr cTX v q.2 ∧ MvX q.2 K m a (l ++ (71 :: B))) := by
  refine Rn_s (f := fun x => x - a) (h := fun x => x) hin (fun x d v l hd hM hl1 => ⟨fun q63 => some (q63.1, q63.2), fun y u l' hu => ?_, ?_⟩)
  · rfl
  · rw [ra_6_1, rb_71 _ _ _ _ (le40 hd), chk_t hM.o]
    obtain ⟨w, ew, hw⟩ := X3_note (b := 71) hM.1 hM.2.2 hl1
    rw [ew, ob_s, ob_s, bnd_e, nI_1]
    have hM1 := hM.go hw.1 hw.2
    try rw [hM1.2.1.1]
    try rw [hM1.2.1.2.2]
    rfl
theorem Rs_50_4 {rec : Rc} {K : Nat} {m a : Int32} {D : Nat} {val : Int32 → Int32} {B : List Nat} (hin : Rn rec K m a D 0 2 val B) : ∀ (x : Int32) (d : Nat) (v : Wd) (l : List Nat), d + (D + 1) ≤ 40 → l.length + (50 :: B).length ≤ 20 → MvX v K m a l → Wp (fX3_run rec 133 (nI 4) (nI 2) x (nI d) v) (fun q => q.1 = (fun y => -y) (val ((fun x => x) x)) ∧ Fr cTX v q.2 ∧ MvX q.2 K m a (l ++ (50 :: B))) := by
  refine Rn_s (f := fun x => x) (h := fun y => -y) hin (fun x d v l hd hM hl1 => ⟨fun q43 => some ((-q43.1), q43.2), fun y u l' hu => ?_, ?_⟩)
  · rfl
  · rw [ra_4_2, rb_50 _ _ _ _ (le40 hd), chk_t hM.o]
    obtain ⟨w, ew, hw⟩ := X3_note (b := 50) hM.1 hM.2.2 hl1
    rw [ew, ob_s, ob_s, bnd_e, nI_1]
    have hM1 := hM.go hw.1 hw.2
    try rw [hM1.2.1.1]
    try rw [hM1.2.1.2.2]
    rfl
theorem Rs_50_6 {rec : Rc} {K : Nat} {m a : Int32} {D : Nat} {val : Int32 → Int32} {B : List Nat} (hin : Rn rec K m a D 0 2 val B) : ∀ (x : Int32) (d : Nat) (v : Wd) (l : List Nat), d + (D + 1) ≤ 40 → l.length + (50 :: B).length ≤ 20 → MvX v K m a l → Wp (fX3_run rec 133 (nI 6) (nI 2) x (nI d) v) (fun q => q.1 = (fun y => -y) (val ((fun x => x) x)) ∧ Fr cTX v q.2 ∧ MvX q.2 K m a (l ++ (50 :: B))) := by
  refine Rn_s (f := fun x => x) (h := fun y => -y) hin (fun x d v l hd hM hl1 => ⟨fun q43 => some ((-q43.1), q43.2), fun y u l' hu => ?_, ?_⟩)
  · rfl
  · rw [ra_6_2, rb_50 _ _ _ _ (le40 hd), chk_t hM.o]
    obtain ⟨w, ew, hw⟩ := X3_note (b := 50) hM.1 hM.2.2 hl1
    rw [ew, ob_s, ob_s, bnd_e, nI_1]
    have hM1 := hM.go hw.1 hw.2
    try rw [hM1.2.1.1]
    try rw [hM1.2.1.2.2]
    rfl
theorem Rs_60 {rec : Rc} {K : Nat} {m a : Int32} {D : Nat} {val : Int32 → Int32} {B : List Nat} (hin : Rn rec K m a D 2 2 val B) : ∀ (x : Int32) (d : Nat) (v : Wd) (l : List Nat), d + (D + 1) ≤ 40 → l.length + (60 :: B).length ≤ 20 → MvX v K m a l → Wp (fX3_run rec 133 (nI 5) (nI 2) x (nI d) v) (fun q => q.1 = (fun y => y ^^^ 5) (val ((fun x => x) x)) ∧ Fr cTX v q.2 ∧ MvX q.2 K m a (l ++ (60 :: B))) := by
  refine Rn_s (f := fun x => x) (h := fun y => y ^^^ 5) hin (fun x d v l hd hM hl1 => ⟨fun q54 => some ((q54.1 ^^^ 5), q54.2), fun y u l' hu => ?_, ?_⟩)
  · rfl
  · rw [ra_5_2, rb_60 _ _ _ _ (le40 hd), chk_t hM.o]
    obtain ⟨w, ew, hw⟩ := X3_note (b := 60) hM.1 hM.2.2 hl1
    rw [ew, ob_s, ob_s, bnd_e, nI_1]
    have hM1 := hM.go hw.1 hw.2
    try rw [hM1.2.1.1]
    try rw [hM1.2.1.2.2]
    rfl
