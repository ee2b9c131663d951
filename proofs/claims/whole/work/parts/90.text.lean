/-! texts: letters, words, numbers -/
def lnN (c : Nat) : Nat := (stB c).length
def lt (c i : Nat) : Int32 := (stB c).getD i 0
theorem sh0 : ∀ n, n < 8 → nI n >>> ((0 : Int32) &&& 31) = nI n := by decide +kernel
theorem lnN_8 : ∀ z, z < 16 → lnN z < 8 := by decide
theorem J0_len (w : Wd) (z : Nat) (h : z < 16) : fJ0_length_8abf5 z w = some (nI (lnN z), w) := by
  have e := sh0 (lnN z) (lnN_8 z h)
  unfold fJ0_length_8abf5 fJ0_coder_7d493 fJ0_coder_7d493_b14
  rw [chk_t h, if_neg (by decide), chk_t h, chk_t (by decide), ob_s]
  exact congrArg (fun t => some (t, w)) e
theorem J0_at0 (w : Wd) : ∀ i, i < 6 → fJ0_charAt_5068e 0 (nI i) w = some (lt 0 i, w)
  | 0, _ => rfl
  | 1, _ => rfl
  | 2, _ => rfl
  | 3, _ => rfl
  | 4, _ => rfl
  | 5, _ => rfl
  | i + 6, h => absurd h (by omega)
theorem J0_at1 (w : Wd) : ∀ i, i < 7 → fJ0_charAt_5068e 1 (nI i) w = some (lt 1 i, w)
  | 0, _ => rfl
  | 1, _ => rfl
  | 2, _ => rfl
  | 3, _ => rfl
  | 4, _ => rfl
  | 5, _ => rfl
  | 6, _ => rfl
  | i + 7, h => absurd h (by omega)
theorem J0_at2 (w : Wd) : ∀ i, i < 3 → fJ0_charAt_5068e 2 (nI i) w = some (lt 2 i, w)
  | 0, _ => rfl
  | 1, _ => rfl
  | 2, _ => rfl
  | i + 3, h => absurd h (by omega)
theorem J0_at3 (w : Wd) : ∀ i, i < 5 → fJ0_charAt_5068e 3 (nI i) w = some (lt 3 i, w)
  | 0, _ => rfl
  | 1, _ => rfl
  | 2, _ => rfl
  | 3, _ => rfl
  | 4, _ => rfl
  | i + 5, h => absurd h (by omega)
theorem J0_at4 (w : Wd) : ∀ i, i < 4 → fJ0_charAt_5068e 4 (nI i) w = some (lt 4 i, w)
  | 0, _ => rfl
  | 1, _ => rfl
  | 2, _ => rfl
  | 3, _ => rfl
  | i + 4, h => absurd h (by omega)
theorem J0_at5 (w : Wd) : ∀ i, i < 3 → fJ0_charAt_5068e 5 (nI i) w = some (lt 5 i, w)
  | 0, _ => rfl
  | 1, _ => rfl
  | 2, _ => rfl
  | i + 3, h => absurd h (by omega)
theorem J0_at6 (w : Wd) : ∀ i, i < 4 → fJ0_charAt_5068e 6 (nI i) w = some (lt 6 i, w)
  | 0, _ => rfl
  | 1, _ => rfl
  | 2, _ => rfl
  | 3, _ => rfl
  | i + 4, h => absurd h (by omega)
theorem J0_at7 (w : Wd) : ∀ i, i < 3 → fJ0_charAt_5068e 7 (nI i) w = some (lt 7 i, w)
  | 0, _ => rfl
  | 1, _ => rfl
  | 2, _ => rfl
  | i + 3, h => absurd h (by omega)
theorem J0_at8 (w : Wd) : ∀ i, i < 6 → fJ0_charAt_5068e 8 (nI i) w = some (lt 8 i, w)
  | 0, _ => rfl
  | 1, _ => rfl
  | 2, _ => rfl
  | 3, _ => rfl
  | 4, _ => rfl
  | 5, _ => rfl
  | i + 6, h => absurd h (by omega)
theorem J0_at9 (w : Wd) : ∀ i, i < 7 → fJ0_charAt_5068e 9 (nI i) w = some (lt 9 i, w)
  | 0, _ => rfl
  | 1, _ => rfl
  | 2, _ => rfl
  | 3, _ => rfl
  | 4, _ => rfl
  | 5, _ => rfl
  | 6, _ => rfl
  | i + 7, h => absurd h (by omega)
theorem J0_at10 (w : Wd) : ∀ i, i < 3 → fJ0_charAt_5068e 10 (nI i) w = some (lt 10 i, w)
  | 0, _ => rfl
  | 1, _ => rfl
  | 2, _ => rfl
  | i + 3, h => absurd h (by omega)
theorem J0_at11 (w : Wd) : ∀ i, i < 5 → fJ0_charAt_5068e 11 (nI i) w = some (lt 11 i, w)
  | 0, _ => rfl
  | 1, _ => rfl
  | 2, _ => rfl
  | 3, _ => rfl
  | 4, _ => rfl
  | i + 5, h => absurd h (by omega)
theorem J0_at12 (w : Wd) : ∀ i, i < 4 → fJ0_charAt_5068e 12 (nI i) w = some (lt 12 i, w)
  | 0, _ => rfl
  | 1, _ => rfl
  | 2, _ => rfl
  | 3, _ => rfl
  | i + 4, h => absurd h (by omega)
theorem J0_at13 (w : Wd) : ∀ i, i < 3 → fJ0_charAt_5068e 13 (nI i) w = some (lt 13 i, w)
  | 0, _ => rfl
  | 1, _ => rfl
  | 2, _ => rfl
  | i + 3, h => absurd h (by omega)
theorem J0_at14 (w : Wd) : ∀ i, i < 4 → fJ0_charAt_5068e 14 (nI i) w = some (lt 14 i, w)
  | 0, _ => rfl
  | 1, _ => rfl
  | 2, _ => rfl
  | 3, _ => rfl
  | i + 4, h => absurd h (by omega)
theorem J0_at15 (w : Wd) : ∀ i, i < 3 → fJ0_charAt_5068e 15 (nI i) w = some (lt 15 i, w)
  | 0, _ => rfl
  | 1, _ => rfl
  | 2, _ => rfl
  | i + 3, h => absurd h (by omega)
theorem J0_at (w : Wd) : ∀ z, z < 16 → ∀ i, i < lnN z → fJ0_charAt_5068e z (nI i) w = some (lt z i, w)
  | 0, _ => J0_at0 w
  | 1, _ => J0_at1 w
  | 2, _ => J0_at2 w
  | 3, _ => J0_at3 w
  | 4, _ => J0_at4 w
  | 5, _ => J0_at5 w
  | 6, _ => J0_at6 w
  | 7, _ => J0_at7 w
  | 8, _ => J0_at8 w
  | 9, _ => J0_at9 w
  | 10, _ => J0_at10 w
  | 11, _ => J0_at11 w
  | 12, _ => J0_at12 w
  | 13, _ => J0_at13 w
  | 14, _ => J0_at14 w
  | 15, _ => J0_at15 w
  | z + 16, h => absurd h (by omega)
theorem X5_spelling (w : Wd) : ∀ z, z < 8 → fX5_spelling (nI z) w = some (z, w)
  | 0, _ => rfl
  | 1, _ => rfl
  | 2, _ => rfl
  | 3, _ => rfl
  | 4, _ => rfl
  | 5, _ => rfl
  | 6, _ => rfl
  | 7, _ => rfl
  | z + 8, h => absurd h (by omega)
theorem ln_le : ∀ z, z < 8 → lnN z ≤ 7 ∧ 3 ≤ lnN z := by decide
/-- the words that go on with a sign -/
def wgF (m at' : Nat) (s : Int32) (j : Nat) : Bool := m.testBit j && (decide (at' < lnN j) && decide (lt j at' = s))
def wgS (m at' : Nat) (s : Int32) : Nat := bN (wgF m at' s) 8
theorem X5_goingOn {m at' : Nat} (hm : m < 256) (ha : at' < 8) (s : Int32) (w : Wd) : fX5_wordsGoingOn (nI m) (nI at') s w = some (nI (wgS m at' s), w) := by
  unfold fX5_wordsGoingOn fX5_wordsGoingOn_L5
  refine it_for (fun i => (nI (bN (wgF m at' s) i), nI i, w)) 8 (by decide) (fun i hi => ?_) ?_
  · have hb := bN_256 (wgF m at' s) (show i ≤ 8 by omega)
    have hl := (ln_le i hi).1
    unfold fX5_wordsGoingOn_L5_body
    simp only [leL8 (show i < 2147483648 by omega), if_neg (Nat.not_le.mpr hi), X5_spelling w i hi, ob_s, sh_bit i hi m hm, fX5_wordsGoingOn_b54, nI_1]
    rw [bN_s]
    cases e : m.testBit i with
    | false =>
      have ef : wgF m at' s i = false := by unfold wgF; rw [e]; rfl
      simp only [ef, if_neg Bool.false_ne_true, if_true]
    | true =>
      simp only [if_true, if_neg n10, J0_len w i (by omega), ob_s, chk_t (show i < 16 by omega), nI_le_iff (show lnN i < 2147483648 by omega) (show at' < 2147483648 by omega)]
      by_cases q : lnN i ≤ at'
      · have ef : wgF m at' s i = false := by unfold wgF; rw [e, decide_eq_false (show ¬ at' < lnN i by omega)]; rfl
        simp only [if_pos q, ef, if_neg Bool.false_ne_true]
      · simp only [if_neg q, J0_at w i (by omega) at' (by omega), ob_s]
        by_cases r : lt i at' = s
        · have ef : wgF m at' s i = true := by unfold wgF; rw [e, decide_eq_true (show at' < lnN i by omega), decide_eq_true r]; rfl
          simp only [if_pos r, ef, if_true, bnd_e, or_bit i hi _ hb]
        · have ef : wgF m at' s i = false := by unfold wgF; rw [e, decide_eq_true (show at' < lnN i by omega), decide_eq_false r]; rfl
          simp only [if_neg r, ef, if_neg Bool.false_ne_true]
  · rfl
def weF (m at' j : Nat) : Bool := m.testBit j && decide (lnN j = at' + 1)
def weS (m at' : Nat) : Nat := fI (weF m at') 8
theorem X5_ending {m at' : Nat} (hm : m < 256) (ha : at' < 8) (w : Wd) : fX5_wordEndingBehind (nI m) (nI at') w = some (if weS m at' < 8 then nI (weS m at') else -1, w) := by
  refine Wp_eq ?_
  unfold fX5_wordEndingBehind fX5_wordEndingBehind_L2
  refine it_w1 (fun i v => v = w ∧ ∀ j, j < i → weF m at' j = false) 8 (by decide) ⟨rfl, fun j q => absurd q (Nat.not_lt_zero j)⟩ (fun i v hi hv => ?_) (fun v hv => ?_)
  · obtain ⟨rfl, hv⟩ := hv
    have hl := (ln_le i hi).1
    have next : weF m at' i = false → ∀ j, j < i + 1 → weF m at' j = false := fun e j hj => by
      by_cases r : j = i
      · rw [r]; exact e
      · exact hv j (by omega)
    unfold fX5_wordEndingBehind_L2_body
    simp only [leL8 (show i < 2147483648 by omega), if_neg (Nat.not_le.mpr hi), sh_bit i hi m hm, fX5_wordEndingBehind_b31]
    cases e : m.testBit i with
    | false =>
      have ef : weF m at' i = false := by unfold weF; rw [e]; rfl
      simp only [if_neg Bool.false_ne_true, if_true, Wp_l]
      exact ⟨nI_1 i, trivial, next ef⟩
    | true =>
      simp only [if_true, if_neg n10, X5_spelling v i hi, ob_s, J0_len v i (by omega), chk_t (show i < 16 by omega), nI_1, nI_eq_iff (show lnN i < 2147483648 by omega) (show at' + 1 < 2147483648 by omega)]
      by_cases q : lnN i = at' + 1
      · have ef : weF m at' i = true := by unfold weF; rw [e, decide_eq_true q]; rfl
        simp only [if_pos q]
        refine Wp_wr (Wp_of rfl ⟨?_, rfl⟩)
        have : weS m at' = i := fI_eq hi hv ef
        rw [this, if_pos hi]
      · have ef : weF m at' i = false := by unfold weF; rw [e, decide_eq_false q]; rfl
        simp only [if_neg q, Wp_l]
        exact ⟨trivial, trivial, next ef⟩
  · obtain ⟨rfl, hv⟩ := hv
    unfold fX5_wordEndingBehind_L2_body
    rw [if_pos (show (8 : Int32) ≤ nI 8 by decide)]
    refine Wp_wr (Wp_of rfl ⟨?_, rfl⟩)
    have : weS m at' = 8 := fI_all hv
    rw [this, if_neg (by decide)]
/-! the text -/
abbrev Tx : Type := Nat × (Nat → Int32)
def At (T : Tx) (p : Nat) (c : Int32) : Prop := p < T.1 ∧ T.2 p = c
noncomputable def atB (T : Tx) (p : Nat) (c : Int32) : Bool := decide (p < T.1) && decide (T.2 p = c)
theorem atB_iff {T : Tx} {p : Nat} {c : Int32} : atB T p c = true ↔ At T p c := by
  unfold atB At
  rw [Bool.and_eq_true, decide_eq_true_eq, decide_eq_true_eq]
theorem atB_f {T : Tx} {p : Nat} {c : Int32} (h : ¬ At T p c) : atB T p c = false := Bool.eq_false_iff.mpr (fun q => h (atB_iff.mp q))
def sX (T : Tx) (p : Nat) : Int32 := if p < T.1 then T.2 p else 0
def sM (T : Tx) (p : Nat) : Int32 := if p < T.1 then T.2 p else -1
theorem sX_at {T : Tx} {p : Nat} {c : Int32} (hc : ¬ c = 0) : sX T p = c ↔ At T p c := by
  unfold sX At
  by_cases e : p < T.1
  · rw [if_pos e]; exact ⟨fun q => ⟨e, q⟩, fun q => q.2⟩
  · rw [if_neg e]; exact ⟨fun q => absurd q.symm hc, fun q => absurd q.1 e⟩
theorem sM_at {T : Tx} {p : Nat} {c : Int32} (hc : ¬ c = -1) : sM T p = c ↔ At T p c := by
  unfold sM At
  by_cases e : p < T.1
  · rw [if_pos e]; exact ⟨fun q => ⟨e, q⟩, fun q => q.2⟩
  · rw [if_neg e]; exact ⟨fun q => absurd q.symm hc, fun q => absurd q.1 e⟩
theorem At_one {T : Tx} {p : Nat} {c c' : Int32} (h : At T p c) (h' : At T p c') : c = c' := h.2.symm.trans h'.2
/-- the word that a text begins with, by its first two signs (8: none) -/
noncomputable def cand (T : Tx) (p : Nat) : Nat :=
  if atB T p 112 then 0 else if atB T p 103 then 1 else if atB T p 111 then (if atB T (p + 1) 102 then 5 else 2) else if atB T p 104 then 3 else if atB T p 119 then (if atB T (p + 1) 97 then 6 else 4) else if atB T p 100 then 7 else 8
noncomputable def mtS (T : Tx) (p c : Nat) : Nat := fI (fun i => !atB T (p + i) (lt c i)) (lnN c)
/-- a word: the place of a fault, or which -/
noncomputable def wdS (T : Tx) (p : Nat) : Nat ⊕ Nat := if cand T p = 8 then .inl p else if mtS T p (cand T p) < lnN (cand T p) then .inl (p + mtS T p (cand T p)) else .inr (cand T p)
theorem cand_le (T : Tx) (p : Nat) : cand T p ≤ 8 := by
  unfold cand
  repeat' split
  all_goals decide
/-- what stands at the first places by the word -/
theorem cand_is {T : Tx} {p c : Nat} (h : cand T p = c) : (c < 8 → At T p (lt c 0)) ∧ (c = 8 → ∀ j, j < 8 → ¬ At T p (lt j 0)) ∧ (c = 2 → ¬ At T (p + 1) 102) ∧ (c = 5 → At T (p + 1) 102) ∧ (c = 4 → ¬ At T (p + 1) 97) ∧ (c = 6 → At T (p + 1) 97) := by
  unfold cand at h
  by_cases e0 : At T p 112
  · rw [if_pos (atB_iff.mpr e0)] at h
    subst h
    exact ⟨fun _ => e0, fun q => absurd q (by decide), fun q => absurd q (by decide), fun q => absurd q (by decide), fun q => absurd q (by decide), fun q => absurd q (by decide)⟩
  · rw [atB_f e0, if_neg Bool.false_ne_true] at h
    by_cases e1 : At T p 103
    · rw [if_pos (atB_iff.mpr e1)] at h
      subst h
      exact ⟨fun _ => e1, fun q => absurd q (by decide), fun q => absurd q (by decide), fun q => absurd q (by decide), fun q => absurd q (by decide), fun q => absurd q (by decide)⟩
    · rw [atB_f e1, if_neg Bool.false_ne_true] at h
      by_cases e2 : At T p 111
      · rw [if_pos (atB_iff.mpr e2)] at h
        by_cases f : At T (p + 1) 102
        · rw [if_pos (atB_iff.mpr f)] at h
          subst h
          exact ⟨fun _ => e2, fun q => absurd q (by decide), fun q => absurd q (by decide), fun _ => f, fun q => absurd q (by decide), fun q => absurd q (by decide)⟩
        · rw [atB_f f, if_neg Bool.false_ne_true] at h
          subst h
          exact ⟨fun _ => e2, fun q => absurd q (by decide), fun _ => f, fun q => absurd q (by decide), fun q => absurd q (by decide), fun q => absurd q (by decide)⟩
      · rw [atB_f e2, if_neg Bool.false_ne_true] at h
        by_cases e3 : At T p 104
        · rw [if_pos (atB_iff.mpr e3)] at h
          subst h
          exact ⟨fun _ => e3, fun q => absurd q (by decide), fun q => absurd q (by decide), fun q => absurd q (by decide), fun q => absurd q (by decide), fun q => absurd q (by decide)⟩
        · rw [atB_f e3, if_neg Bool.false_ne_true] at h
          by_cases e4 : At T p 119
          · rw [if_pos (atB_iff.mpr e4)] at h
            by_cases f : At T (p + 1) 97
            · rw [if_pos (atB_iff.mpr f)] at h
              subst h
              exact ⟨fun _ => e4, fun q => absurd q (by decide), fun q => absurd q (by decide), fun q => absurd q (by decide), fun q => absurd q (by decide), fun _ => f⟩
            · rw [atB_f f, if_neg Bool.false_ne_true] at h
              subst h
              exact ⟨fun _ => e4, fun q => absurd q (by decide), fun q => absurd q (by decide), fun q => absurd q (by decide), fun _ => f, fun q => absurd q (by decide)⟩
          · rw [atB_f e4, if_neg Bool.false_ne_true] at h
            by_cases e5 : At T p 100
            · rw [if_pos (atB_iff.mpr e5)] at h
              subst h
              exact ⟨fun _ => e5, fun q => absurd q (by decide), fun q => absurd q (by decide), fun q => absurd q (by decide), fun q => absurd q (by decide), fun q => absurd q (by decide)⟩
            · rw [atB_f e5, if_neg Bool.false_ne_true] at h
              subst h
              refine ⟨fun q => absurd q (by decide), fun _ j hj => ?_, fun q => absurd q (by decide), fun q => absurd q (by decide), fun q => absurd q (by decide), fun q => absurd q (by decide)⟩
              rcases (show j = 0 ∨ j = 1 ∨ j = 2 ∨ j = 3 ∨ j = 4 ∨ j = 5 ∨ j = 6 ∨ j = 7 by omega) with q | q | q | q | q | q | q | q <;> subst q
              · exact e0
              · exact e1
              · exact e2
              · exact e3
              · exact e4
              · exact e2
              · exact e4
              · exact e5
/-- the words still possible behind so many signs of one -/
def mkT (c i : Nat) : Nat := if i = 0 then 255 else if i = 1 ∧ (c = 2 ∨ c = 5) then 36 else if i = 1 ∧ (c = 4 ∨ c = 6) then 80 else 2 ^ c
theorem mk_lt : ∀ c, c < 8 → ∀ i, i < 8 → mkT c i < 256 := by decide
theorem wg_on : ∀ c, c < 8 → ∀ i, i < 7 → i < lnN c → wgS (mkT c i) i (lt c i) = mkT c (i + 1) ∧ weS (mkT c (i + 1)) i = (if i + 1 = lnN c then c else 8) ∧ ¬ mkT c (i + 1) = 0 := by decide +kernel
theorem bN_0 {f : Nat → Bool} : ∀ n, (∀ j, j < n → f j = false) → bN f n = 0
  | 0, _ => rfl
  | n + 1, h => by
    rw [bN_s, h n (Nat.lt_succ_self n), if_neg Bool.false_ne_true]
    exact bN_0 n (fun j hj => h j (by omega))
theorem wg_off {m i : Nat} {s : Int32} (h : ∀ j, j < 8 → m.testBit j = true → i < lnN j → ¬ lt j i = s) : wgS m i s = 0 := by
  refine bN_0 8 (fun j hj => ?_)
  unfold wgF
  cases e : m.testBit j with
  | false => rfl
  | true =>
    by_cases q : i < lnN j
    · rw [decide_eq_true q, decide_eq_false (h j hj e q)]
      rfl
    · rw [decide_eq_false q]
      rfl
/-- where bits stand in these masks -/
def mbB (c i j : Nat) : Bool := i == 0 || !(mkT c i).testBit j || j == c || (i == 1 && ((c == 2 && j == 5) || (c == 5 && j == 2) || (c == 4 && j == 6) || (c == 6 && j == 4)))
theorem mb_ok : ∀ c, c < 8 → ∀ i, i < 7 → ∀ j, j < 8 → mbB c i j = true := by decide +kernel
theorem mk_bit (c : Nat) (hc : c < 8) (i : Nat) (hi : i < 7) (h0 : 0 < i) (j : Nat) (hj : j < 8) (ht : (mkT c i).testBit j = true) : j = c ∨ (i = 1 ∧ ((c = 2 ∧ j = 5) ∨ (c = 5 ∧ j = 2) ∨ (c = 4 ∧ j = 6) ∨ (c = 6 ∧ j = 4))) := by
  have h := mb_ok c hc i hi j hj
  unfold mbB at h
  rw [ht] at h
  simp only [Bool.or_eq_true, Bool.and_eq_true, beq_iff_eq, Bool.not_true, Bool.false_eq_true, or_false] at h
  omega
theorem lt_pos : ∀ c, c < 8 → ∀ i, i < lnN c → ¬ lt c i = 0 ∧ ¬ lt c i = -1 := by decide +kernel
/-- numbers -/
noncomputable def dgB (T : Tx) (p : Nat) : Bool := decide (p < T.1) && (decide (48 ≤ T.2 p) && decide (T.2 p ≤ 57))
def dvS (T : Tx) (p : Nat) : Nat := (T.2 p).toNatClampNeg - 48
theorem dg_is {T : Tx} {p : Nat} (h : dgB T p = true) : p < T.1 ∧ T.2 p = nI (48 + dvS T p) ∧ dvS T p ≤ 9 := by
  unfold dgB at h
  rw [Bool.and_eq_true, Bool.and_eq_true, decide_eq_true_eq, decide_eq_true_eq, decide_eq_true_eq] at h
  obtain ⟨k, h1, h2, h3⟩ := rgN (a := 48) (b := 57) (by decide) h.2 (by decide)
  have e : dvS T p = k - 48 := by
    unfold dvS
    rw [h3, nI_clamp (by omega)]
  refine ⟨h.1, ?_, by omega⟩
  rw [h3, e]
  exact congrArg nI (by omega)
/-- a blank and a number between two: the place of a fault, or the place behind it and the number -/
noncomputable def nmS (T : Tx) (p lo cnt : Nat) : Nat ⊕ (Nat × Nat) :=
  if atB T p 32 then (if dgB T (p + 1) then (if dgB T (p + 2) then (if lo ≤ 10 * dvS T (p + 1) + dvS T (p + 2) ∧ 10 * dvS T (p + 1) + dvS T (p + 2) < cnt then .inr (p + 3, 10 * dvS T (p + 1) + dvS T (p + 2)) else .inl (p + 1)) else (if lo ≤ dvS T (p + 1) ∧ dvS T (p + 1) < cnt then .inr (p + 2, dvS T (p + 1)) else .inl (p + 1))) else .inl (p + 1)) else .inl p
theorem sX_dg (T : Tx) (p : Nat) : (48 ≤ sX T p ∧ sX T p ≤ 57) = (dgB T p = true) := by
  apply propext
  unfold sX dgB
  by_cases e : p < T.1
  · rw [if_pos e, decide_eq_true e, Bool.true_and, Bool.and_eq_true, decide_eq_true_eq, decide_eq_true_eq]
  · rw [if_neg e, decide_eq_false e, Bool.false_and]
    exact ⟨fun q => absurd q.1 (by decide), fun q => absurd q Bool.false_ne_true⟩
theorem sM_dg (T : Tx) (p : Nat) : (¬ sM T p < 48 ∧ ¬ 57 < sM T p) = (dgB T p = true) := by
  apply propext
  unfold sM dgB
  by_cases e : p < T.1
  · rw [if_pos e, decide_eq_true e, Bool.true_and, Bool.and_eq_true, decide_eq_true_eq, decide_eq_true_eq, Int32.not_lt, Int32.not_lt]
  · rw [if_neg e, decide_eq_false e, Bool.false_and]
    exact ⟨fun q => absurd (show (-1 : Int32) < 48 by decide) q.1, fun q => absurd q Bool.false_ne_true⟩
theorem sX_v {T : Tx} {p : Nat} (h : dgB T p = true) : sX T p - 48 = nI (dvS T p) := by
  obtain ⟨h1, h2, h3⟩ := dg_is h
  unfold sX
  rw [if_pos h1, h2, show (48 : Int32) = nI 48 from rfl, pk_sub (by omega), Nat.add_sub_cancel_left]
theorem sM_v {T : Tx} {p : Nat} (h : dgB T p = true) : sM T p = nI (48 + dvS T p) := by
  obtain ⟨h1, h2, h3⟩ := dg_is h
  unfold sM
  rw [if_pos h1, h2]
