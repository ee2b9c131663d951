/-! moves, whole -/
theorem Rn.to {rec : Rc} {K : Nat} {m a : Int32} {D D' j mv : Nat} {val val' : Int32 → Int32} {B B' : List Nat} (h : Rn rec K m a D j mv val B) (hD : D ≤ D') (hv : ∀ x, val x = val' x) (hB : B = B') : Rn rec K m a D' j mv val' B' := by
  subst hB
  intro x d v l hd hl hM
  refine Wp_m (h x d v l (by omega) hl hM) (fun q hq => ?_)
  rw [← hv x]
  exact hq
theorem Rsits (n K : Nat) (m a : Int32) {j : Nat} (hj : j < 7) : Rn (fX3_run_n (n + 3)) K m a 2 j 0 (sV j m a) (sB j) := by
  have r0 := fun n => Rn_10 n K m a (j := 0) (Or.inl rfl)
  have r4 : Rn (fX3_run_n (n + 2)) K m a 1 4 0 (sV 4 m a) (sB 4) := fun x d v l h1 h2 h3 => Rs_51 (r0 n) x d v l h1 h2 h3
  rcases (show j = 0 ∨ j = 1 ∨ j = 2 ∨ j = 3 ∨ j = 4 ∨ j = 5 ∨ j = 6 by omega) with q | q | q | q | q | q | q <;> subst q
  · exact (r0 (n + 2)).to (by omega) (fun x => rfl) rfl
  · have h : Rn (fX3_run_n (n + 3)) K m a 1 1 0 (fun x => x + m + a) [20, 10] := fun x d v l h1 h2 h3 => Rs_20_1 (r0 (n + 1)) x d v l h1 h2 h3
    exact h.to (by omega) (fun x => rfl) rfl
  · exact (Rn_10 (n + 2) K m a (Or.inr (Or.inl rfl))).to (by omega) (fun x => rfl) rfl
  · have h : Rn (fX3_run_n (n + 3)) K m a 1 3 0 (fun x => x + m + a) [20, 10] := fun x d v l h1 h2 h3 => Rs_20_3 (r0 (n + 1)) x d v l h1 h2 h3
    exact h.to (by omega) (fun x => rfl) rfl
  · have h : Rn (fX3_run_n (n + 3)) K m a 1 4 0 (fun x => x + m - m) [51, 10] := fun x d v l h1 h2 h3 => Rs_51 (r0 (n + 1)) x d v l h1 h2 h3
    exact h.to (by omega) (fun x => rfl) rfl
  · exact (Rn_10 (n + 2) K m a (Or.inr (Or.inr rfl))).to (by omega) (fun x => rfl) rfl
  · have h : Rn (fX3_run_n (n + 3)) K m a 2 6 0 (fun x => sV 4 m a x * 2) (70 :: sB 4) := fun x d v l h1 h2 h3 => Rs_70 r4 x d v l h1 h2 h3
    exact h.to (by omega) (fun x => rfl) rfl
theorem Rpulls (n : Nat) (m a : Int32) {K : Nat} (hK : K < 7) : Rn (fX3_run_n (n + 5)) K m a 4 K 1 (pV K m a) (pB K) := by
  have s3 := fun n => Rsits n K m a hK
  have p0 : Rn (fX3_run_n (n + 4)) K m a 3 0 1 (fun x => sV K m a x * 2) (11 :: sB K) := fun x d v l h1 h2 h3 => Rs_11_0 (s3 n) x d v l h1 h2 h3
  have p1 : Rn (fX3_run_n (n + 4)) K m a 3 1 1 (fun x => sV K m a x * 2) (11 :: sB K) := fun x d v l h1 h2 h3 => Rs_11_1 (s3 n) x d v l h1 h2 h3
  have p4 : Rn (fX3_run_n (n + 4)) K m a 3 4 1 (fun x => sV K m a x * 2) (11 :: sB K) := fun x d v l h1 h2 h3 => Rs_11_4 (s3 n) x d v l h1 h2 h3
  have q0 : Rn (fX3_run_n (n + 5)) K m a 3 0 1 (fun x => sV K m a x * 2) (11 :: sB K) := fun x d v l h1 h2 h3 => Rs_11_0 (s3 (n + 1)) x d v l h1 h2 h3
  have q1 : Rn (fX3_run_n (n + 5)) K m a 3 1 1 (fun x => sV K m a x * 2) (11 :: sB K) := fun x d v l h1 h2 h3 => Rs_11_1 (s3 (n + 1)) x d v l h1 h2 h3
  have q4 : Rn (fX3_run_n (n + 5)) K m a 3 4 1 (fun x => sV K m a x * 2) (11 :: sB K) := fun x d v l h1 h2 h3 => Rs_11_4 (s3 (n + 1)) x d v l h1 h2 h3
  have p2 : Rn (fX3_run_n (n + 5)) K m a 4 2 1 (fun x => sV K m a x * 2 * 3) (30 :: 11 :: sB K) := fun x d v l h1 h2 h3 => Rs_30_2 p0 x d v l h1 h2 h3
  have p5 : Rn (fX3_run_n (n + 5)) K m a 4 5 1 (fun x => sV K m a x * 2 * 3) (30 :: 11 :: sB K) := fun x d v l h1 h2 h3 => Rs_30_5 p0 x d v l h1 h2 h3
  have p3 : Rn (fX3_run_n (n + 5)) K m a 4 3 1 (fun x => sV K m a (x + 1) * 2) (40 :: 11 :: sB K) := fun x d v l h1 h2 h3 => Rs_40 p1 x d v l h1 h2 h3
  have p6 : Rn (fX3_run_n (n + 5)) K m a 4 6 1 (fun x => sV K m a (x - a) * 2) (71 :: 11 :: sB K) := fun x d v l h1 h2 h3 => Rs_71 p4 x d v l h1 h2 h3
  rcases (show K = 0 ∨ K = 1 ∨ K = 2 ∨ K = 3 ∨ K = 4 ∨ K = 5 ∨ K = 6 by omega) with q | q | q | q | q | q | q <;> subst q
  · exact q0.to (by omega) (fun x => rfl) rfl
  · exact q1.to (by omega) (fun x => rfl) rfl
  · exact p2.to (by omega) (fun x => rfl) rfl
  · exact p3.to (by omega) (fun x => rfl) rfl
  · exact q4.to (by omega) (fun x => rfl) rfl
  · exact p5.to (by omega) (fun x => rfl) rfl
  · exact p6.to (by omega) (fun x => rfl) rfl
theorem Rf0 (n : Nat) (m a : Int32) {K j : Nat} (hK : K < 7) (ra : ∀ (rec : Rc) (x d : Int32) (v : Wd), fX3_run rec 133 (nI j) (nI 2) x d v = fX3_run_b46 rec 133 2 x d 0 v) : Rn (fX3_run_n (n + 6)) K m a 5 j 2 (fun x => pV K m a x ^^^ sV K m a (x - a)) (12 :: (pB K ++ sB K)) := by
  intro x d v l hd hl hM
  obtain ⟨hs, ⟨c2, c3, c4⟩, hN⟩ := id hM
  have hlen : (12 :: (pB K ++ sB K)).length = (pB K).length + (sB K).length + 1 := by simp
  have hl1 : l.length < 20 := by omega
  show Wp (fX3_run (fX3_run_n (n + 5)) 133 (nI j) (nI 2) x (nI d) v) _
  rw [ra, rb_12 _ _ _ _ (le40 (by omega)), chk_t hM.o]
  refine Wp_c (X3_note hs hN hl1) (fun v1 h1 => ?_)
  have hM1 := hM.go h1.1 h1.2
  rw [bnd_e, chk_t hM1.o, hM1.2.1.1, nI_1]
  refine Wp_c (Rpulls n m a hK x (d + 1) v1 (l ++ [12]) (by omega) (by rw [len_snoc]; omega) hM1) (fun q hq => ?_)
  obtain ⟨q1, q2, q3⟩ := hq
  rw [chk_t q3.o, q3.2.1.1, q3.2.1.2.2]
  have s5 : Rn (fX3_run_n (n + 5)) K m a 2 K 0 (sV K m a) (sB K) := Rsits (n + 2) K m a hK
  refine Wp_c (s5 (x - a) (d + 1) q.2 (l ++ [12] ++ pB K) (by omega) (by simp; omega) q3) (fun r hr => ?_)
  obtain ⟨r1, r2, r3⟩ := hr
  refine Wp_of rfl ⟨?_, (h1.1.trans q2).trans r2, ?_⟩
  · show q.1 ^^^ r.1 = _
    rw [q1, r1]
  · have e : l ++ [12] ++ pB K ++ sB K = l ++ (12 :: (pB K ++ sB K)) := by simp
    rw [e] at r3
    exact r3
theorem Rfades (n : Nat) (m a : Int32) {K : Nat} (hK : K < 7) : Rn (fX3_run_n (n + 7)) K m a 6 K 2 (fV K m a) (fB K) := by
  have f0 : Rn (fX3_run_n (n + 6)) K m a 5 0 2 _ _ := Rf0 n m a hK (fun rec x d v => ra_0_2 rec x d v)
  have f2 : Rn (fX3_run_n (n + 6)) K m a 5 2 2 _ _ := Rf0 n m a hK (fun rec x d v => ra_2_2 rec x d v)
  have g0 : Rn (fX3_run_n (n + 7)) K m a 5 0 2 _ _ := Rf0 (n + 1) m a hK (fun rec x d v => ra_0_2 rec x d v)
  have g1 : Rn (fX3_run_n (n + 7)) K m a 5 1 2 _ _ := Rf0 (n + 1) m a hK (fun rec x d v => ra_1_2 rec x d v)
  have g2 : Rn (fX3_run_n (n + 7)) K m a 5 2 2 _ _ := Rf0 (n + 1) m a hK (fun rec x d v => ra_2_2 rec x d v)
  have g3 : Rn (fX3_run_n (n + 7)) K m a 5 3 2 _ _ := Rf0 (n + 1) m a hK (fun rec x d v => ra_3_2 rec x d v)
  have h4 : Rn (fX3_run_n (n + 7)) K m a 6 4 2 (fun x => -(pV K m a x ^^^ sV K m a (x - a))) (50 :: 12 :: (pB K ++ sB K)) := fun x d v l h1 h2 h3 => Rs_50_4 f0 x d v l h1 h2 h3
  have h6 : Rn (fX3_run_n (n + 7)) K m a 6 6 2 (fun x => -(pV K m a x ^^^ sV K m a (x - a))) (50 :: 12 :: (pB K ++ sB K)) := fun x d v l h1 h2 h3 => Rs_50_6 f0 x d v l h1 h2 h3
  have h5 : Rn (fX3_run_n (n + 7)) K m a 6 5 2 (fun x => (pV K m a x ^^^ sV K m a (x - a)) ^^^ 5) (60 :: 12 :: (pB K ++ sB K)) := fun x d v l h1 h2 h3 => Rs_60 f2 x d v l h1 h2 h3
  rcases (show K = 0 ∨ K = 1 ∨ K = 2 ∨ K = 3 ∨ K = 4 ∨ K = 5 ∨ K = 6 by omega) with q | q | q | q | q | q | q <;> subst q
  · exact g0.to (by omega) (fun x => rfl) rfl
  · exact g1.to (by omega) (fun x => rfl) rfl
  · exact g2.to (by omega) (fun x => rfl) rfl
  · exact g3.to (by omega) (fun x => rfl) rfl
  · exact h4.to (by omega) (fun x => rfl) rfl
  · exact h5.to (by omega) (fun x => rfl) rfl
  · exact h6.to (by omega) (fun x => rfl) rfl
/-! in the model -/
def MvM (v : Wd) (g K : Nat) (a : Int32) (l : List Nat) : Prop := ShM v ∧ (wI v 6 g = nI K ∧ wI v 7 g = a) ∧ NtM v l
theorem MvM.ran {v : Wd} {g K b : Nat} {a : Int32} {l : List Nat} (h : MvM v g K a l) (hl : l.length < 20) : Wp (fX8_ran 0 (nI b) v) (fun u => Fr cTM v u ∧ MvM u g K a (l ++ [b])) := by
  obtain ⟨h1, ⟨h2, h3⟩, h4⟩ := h
  refine Wp_m (X8_ran h1 h4 hl) (fun u hu => ⟨hu.1, hu.1.shm h1, ⟨?_, ?_⟩, hu.2⟩)
  · rw [hu.1.at (by unfold cTM; omega)]; exact h2
  · rw [hu.1.at (by unfold cTM; omega)]; exact h3
theorem X8_sits_0 {v : Wd} {g : Nat} {a : Int32} {l : List Nat} (hg : g < 8) (h : MvM v g 0 a l) (hl : l.length + 1 ≤ 20) (x : Int32) : Wp (fX8_sitsBy 0 (nI g) x v) (fun q => q.1 = sV 0 (nI g) a x ∧ Fr cTM v q.2 ∧ MvM q.2 g 0 a (l ++ sB 0)) := by
  obtain ⟨hs, ⟨e4, e5⟩, -⟩ := id h
  obtain ⟨e1, e2, e3⟩ := hs.a6
  obtain ⟨b1, b2⟩ := inb8 hg
  unfold fX8_sitsBy fX8_sitsBy_b19 fX8_sitsBy_b30 fX8_sitsBy_b36 fX8_sitsBy_b46 fX8_sitsBy_b52 fX8_sitsBy_b73 fX8_sitsBy_b112
  simp only [chk_t hs.O, e1, ob_s, chk_t e2, e3, chk_t b1, b2, bnd_e, e4, eqL1 (show 0 < 2147483648 by decide), eqL2 (show 0 < 2147483648 by decide), eqL3 (show 0 < 2147483648 by decide), eqL4 (show 0 < 2147483648 by decide), eqL5 (show 0 < 2147483648 by decide), eqL6 (show 0 < 2147483648 by decide), Nat.reduceEqDiff, if_true, if_false]
  try rw [chk_t h.1.O]
  refine Wp_c (h.ran (b := 10) (by (try simp); omega)) (fun v1 h1 => ?_)
  try simp only [chk_t h1.2.1.O]
  refine Wp_of rfl ⟨rfl, h1.1, ?_⟩
  have e : l ++ [10] = l ++ sB 0 := by simp [sB]
  rw [← e]
  exact h1.2
theorem X8_sits_1 {v : Wd} {g : Nat} {a : Int32} {l : List Nat} (hg : g < 8) (h : MvM v g 1 a l) (hl : l.length + 2 ≤ 20) (x : Int32) : Wp (fX8_sitsBy 0 (nI g) x v) (fun q => q.1 = sV 1 (nI g) a x ∧ Fr cTM v q.2 ∧ MvM q.2 g 1 a (l ++ sB 1)) := by
  obtain ⟨hs, ⟨e4, e5⟩, -⟩ := id h
  obtain ⟨e1, e2, e3⟩ := hs.a6
  obtain ⟨b1, b2⟩ := inb8 hg
  unfold fX8_sitsBy fX8_sitsBy_b19 fX8_sitsBy_b30 fX8_sitsBy_b36 fX8_sitsBy_b46 fX8_sitsBy_b52 fX8_sitsBy_b73 fX8_sitsBy_b112
  simp only [chk_t hs.O, e1, ob_s, chk_t e2, e3, chk_t b1, b2, bnd_e, e4, eqL1 (show 1 < 2147483648 by decide), eqL2 (show 1 < 2147483648 by decide), eqL3 (show 1 < 2147483648 by decide), eqL4 (show 1 < 2147483648 by decide), eqL5 (show 1 < 2147483648 by decide), eqL6 (show 1 < 2147483648 by decide), Nat.reduceEqDiff, if_true, if_false]
  try rw [chk_t h.1.O]
  refine Wp_c (h.ran (b := 20) (by (try simp); omega)) (fun v1 h1 => ?_)
  try simp only [chk_t h1.2.1.O]
  try rw [chk_t h1.2.1.O]
  refine Wp_c (h1.2.ran (b := 10) (by (try simp); omega)) (fun v2 h2 => ?_)
  try simp only [chk_t h2.2.1.O]
  obtain ⟨f1, f2, f3⟩ := h2.2.1.a7
  simp only [f1, ob_s, chk_t f2, f3, chk_t b1, b2, h2.2.2.1.2]
  refine Wp_of rfl ⟨rfl, (h1.1.trans h2.1), ?_⟩
  have e : l ++ [20] ++ [10] = l ++ sB 1 := by simp [sB]
  rw [← e]
  exact h2.2
theorem X8_sits_2 {v : Wd} {g : Nat} {a : Int32} {l : List Nat} (hg : g < 8) (h : MvM v g 2 a l) (hl : l.length + 1 ≤ 20) (x : Int32) : Wp (fX8_sitsBy 0 (nI g) x v) (fun q => q.1 = sV 2 (nI g) a x ∧ Fr cTM v q.2 ∧ MvM q.2 g 2 a (l ++ sB 2)) := by
  obtain ⟨hs, ⟨e4, e5⟩, -⟩ := id h
  obtain ⟨e1, e2, e3⟩ := hs.a6
  obtain ⟨b1, b2⟩ := inb8 hg
  unfold fX8_sitsBy fX8_sitsBy_b19 fX8_sitsBy_b30 fX8_sitsBy_b36 fX8_sitsBy_b46 fX8_sitsBy_b52 fX8_sitsBy_b73 fX8_sitsBy_b112
  simp only [chk_t hs.O, e1, ob_s, chk_t e2, e3, chk_t b1, b2, bnd_e, e4, eqL1 (show 2 < 2147483648 by decide), eqL2 (show 2 < 2147483648 by decide), eqL3 (show 2 < 2147483648 by decide), eqL4 (show 2 < 2147483648 by decide), eqL5 (show 2 < 2147483648 by decide), eqL6 (show 2 < 2147483648 by decide), Nat.reduceEqDiff, if_true, if_false]
  try rw [chk_t h.1.O]
  refine Wp_c (h.ran (b := 10) (by (try simp); omega)) (fun v1 h1 => ?_)
  try simp only [chk_t h1.2.1.O]
  refine Wp_of rfl ⟨rfl, h1.1, ?_⟩
  have e : l ++ [10] = l ++ sB 2 := by simp [sB]
  rw [← e]
  exact h1.2
theorem X8_sits_3 {v : Wd} {g : Nat} {a : Int32} {l : List Nat} (hg : g < 8) (h : MvM v g 3 a l) (hl : l.length + 2 ≤ 20) (x : Int32) : Wp (fX8_sitsBy 0 (nI g) x v) (fun q => q.1 = sV 3 (nI g) a x ∧ Fr cTM v q.2 ∧ MvM q.2 g 3 a (l ++ sB 3)) := by
  obtain ⟨hs, ⟨e4, e5⟩, -⟩ := id h
  obtain ⟨e1, e2, e3⟩ := hs.a6
  obtain ⟨b1, b2⟩ := inb8 hg
  unfold fX8_sitsBy fX8_sitsBy_b19 fX8_sitsBy_b30 fX8_sitsBy_b36 fX8_sitsBy_b46 fX8_sitsBy_b52 fX8_sitsBy_b73 fX8_sitsBy_b112
  simp only [chk_t hs.O, e1, ob_s, chk_t e2, e3, chk_t b1, b2, bnd_e, e4, eqL1 (show 3 < 2147483648 by decide), eqL2 (show 3 < 2147483648 by decide), eqL3 (show 3 < 2147483648 by decide), eqL4 (show 3 < 2147483648 by decide), eqL5 (show 3 < 2147483648 by decide), eqL6 (show 3 < 2147483648 by decide), Nat.reduceEqDiff, if_true, if_false]
  try rw [chk_t h.1.O]
  refine Wp_c (h.ran (b := 20) (by (try simp); omega)) (fun v1 h1 => ?_)
  try simp only [chk_t h1.2.1.O]
  try rw [chk_t h1.2.1.O]
  refine Wp_c (h1.2.ran (b := 10) (by (try simp); omega)) (fun v2 h2 => ?_)
  try simp only [chk_t h2.2.1.O]
  obtain ⟨f1, f2, f3⟩ := h2.2.1.a7
  simp only [f1, ob_s, chk_t f2, f3, chk_t b1, b2, h2.2.2.1.2]
  refine Wp_of rfl ⟨rfl, (h1.1.trans h2.1), ?_⟩
  have e : l ++ [20] ++ [10] = l ++ sB 3 := by simp [sB]
  rw [← e]
  exact h2.2
theorem X8_sits_4 {v : Wd} {g : Nat} {a : Int32} {l : List Nat} (hg : g < 8) (h : MvM v g 4 a l) (hl : l.length + 2 ≤ 20) (x : Int32) : Wp (fX8_sitsBy 0 (nI g) x v) (fun q => q.1 = sV 4 (nI g) a x ∧ Fr cTM v q.2 ∧ MvM q.2 g 4 a (l ++ sB 4)) := by
  obtain ⟨hs, ⟨e4, e5⟩, -⟩ := id h
  obtain ⟨e1, e2, e3⟩ := hs.a6
  obtain ⟨b1, b2⟩ := inb8 hg
  unfold fX8_sitsBy fX8_sitsBy_b19 fX8_sitsBy_b30 fX8_sitsBy_b36 fX8_sitsBy_b46 fX8_sitsBy_b52 fX8_sitsBy_b73 fX8_sitsBy_b112
  simp only [chk_t hs.O, e1, ob_s, chk_t e2, e3, chk_t b1, b2, bnd_e, e4, eqL1 (show 4 < 2147483648 by decide), eqL2 (show 4 < 2147483648 by decide), eqL3 (show 4 < 2147483648 by decide), eqL4 (show 4 < 2147483648 by decide), eqL5 (show 4 < 2147483648 by decide), eqL6 (show 4 < 2147483648 by decide), Nat.reduceEqDiff, if_true, if_false]
  try rw [chk_t h.1.O]
  refine Wp_c (h.ran (b := 51) (by (try simp); omega)) (fun v1 h1 => ?_)
  try simp only [chk_t h1.2.1.O]
  try rw [chk_t h1.2.1.O]
  refine Wp_c (h1.2.ran (b := 10) (by (try simp); omega)) (fun v2 h2 => ?_)
  try simp only [chk_t h2.2.1.O]
  refine Wp_of rfl ⟨rfl, (h1.1.trans h2.1), ?_⟩
  have e : l ++ [51] ++ [10] = l ++ sB 4 := by simp [sB]
  rw [← e]
  exact h2.2
theorem X8_sits_5 {v : Wd} {g : Nat} {a : Int32} {l : List Nat} (hg : g < 8) (h : MvM v g 5 a l) (hl : l.length + 1 ≤ 20) (x : Int32) : Wp (fX8_sitsBy 0 (nI g) x v) (fun q => q.1 = sV 5 (nI g) a x ∧ Fr cTM v q.2 ∧ MvM q.2 g 5 a (l ++ sB 5)) := by
  obtain ⟨hs, ⟨e4, e5⟩, -⟩ := id h
  obtain ⟨e1, e2, e3⟩ := hs.a6
  obtain ⟨b1, b2⟩ := inb8 hg
  unfold fX8_sitsBy fX8_sitsBy_b19 fX8_sitsBy_b30 fX8_sitsBy_b36 fX8_sitsBy_b46 fX8_sitsBy_b52 fX8_sitsBy_b73 fX8_sitsBy_b112
  simp only [chk_t hs.O, e1, ob_s, chk_t e2, e3, chk_t b1, b2, bnd_e, e4, eqL1 (show 5 < 2147483648 by decide), eqL2 (show 5 < 2147483648 by decide), eqL3 (show 5 < 2147483648 by decide), eqL4 (show 5 < 2147483648 by decide), eqL5 (show 5 < 2147483648 by decide), eqL6 (show 5 < 2147483648 by decide), Nat.reduceEqDiff, if_true, if_false]
  try rw [chk_t h.1.O]
  refine Wp_c (h.ran (b := 10) (by (try simp); omega)) (fun v1 h1 => ?_)
  try simp only [chk_t h1.2.1.O]
  refine Wp_of rfl ⟨rfl, h1.1, ?_⟩
  have e : l ++ [10] = l ++ sB 5 := by simp [sB]
  rw [← e]
  exact h1.2
theorem X8_sits_6 {v : Wd} {g : Nat} {a : Int32} {l : List Nat} (hg : g < 8) (h : MvM v g 6 a l) (hl : l.length + 3 ≤ 20) (x : Int32) : Wp (fX8_sitsBy 0 (nI g) x v) (fun q => q.1 = sV 6 (nI g) a x ∧ Fr cTM v q.2 ∧ MvM q.2 g 6 a (l ++ sB 6)) := by
  obtain ⟨hs, ⟨e4, e5⟩, -⟩ := id h
  obtain ⟨e1, e2, e3⟩ := hs.a6
  obtain ⟨b1, b2⟩ := inb8 hg
  unfold fX8_sitsBy fX8_sitsBy_b19 fX8_sitsBy_b30 fX8_sitsBy_b36 fX8_sitsBy_b46 fX8_sitsBy_b52 fX8_sitsBy_b73 fX8_sitsBy_b112
  simp only [chk_t hs.O, e1, ob_s, chk_t e2, e3, chk_t b1, b2, bnd_e, e4, eqL1 (show 6 < 2147483648 by decide), eqL2 (show 6 < 2147483648 by decide), eqL3 (show 6 < 2147483648 by decide), eqL4 (show 6 < 2147483648 by decide), eqL5 (show 6 < 2147483648 by decide), eqL6 (show 6 < 2147483648 by decide), Nat.reduceEqDiff, if_true, if_false]
  try rw [chk_t h.1.O]
  refine Wp_c (h.ran (b := 70) (by (try simp); omega)) (fun v1 h1 => ?_)
  try simp only [chk_t h1.2.1.O]
  try rw [chk_t h1.2.1.O]
  refine Wp_c (h1.2.ran (b := 51) (by (try simp); omega)) (fun v2 h2 => ?_)
  try simp only [chk_t h2.2.1.O]
  try rw [chk_t h2.2.1.O]
  refine Wp_c (h2.2.ran (b := 10) (by (try simp); omega)) (fun v3 h3 => ?_)
  try simp only [chk_t h3.2.1.O]
  refine Wp_of rfl ⟨rfl, ((h1.1.trans h2.1).trans h3.1), ?_⟩
  have e : l ++ [70] ++ [51] ++ [10] = l ++ sB 6 := by simp [sB]
  rw [← e]
  exact h3.2
theorem X8_pulls_0 {v : Wd} {g : Nat} {a : Int32} {l : List Nat} (hg : g < 8) (h : MvM v g 0 a l) (hl : l.length + 2 ≤ 20) (x : Int32) : Wp (fX8_pullsBy 0 (nI g) x v) (fun q => q.1 = pV 0 (nI g) a x ∧ Fr cTM v q.2 ∧ MvM q.2 g 0 a (l ++ pB 0)) := by
  obtain ⟨hs, ⟨e4, e5⟩, -⟩ := id h
  obtain ⟨e1, e2, e3⟩ := hs.a6
  obtain ⟨b1, b2⟩ := inb8 hg
  unfold fX8_pullsBy fX8_pullsBy_b32 fX8_pullsBy_b48 fX8_pullsBy_b58 fX8_pullsBy_b64 fX8_pullsBy_b91 fX8_pullsBy_b100
  simp only [chk_t hs.O, e1, ob_s, chk_t e2, e3, chk_t b1, b2, bnd_e, e4, eqL1 (show 0 < 2147483648 by decide), eqL2 (show 0 < 2147483648 by decide), eqL3 (show 0 < 2147483648 by decide), eqL4 (show 0 < 2147483648 by decide), eqL5 (show 0 < 2147483648 by decide), eqL6 (show 0 < 2147483648 by decide), Nat.reduceEqDiff, if_true, if_false]
  try rw [chk_t h.1.O]
  refine Wp_c (h.ran (b := 11) (by (try simp); omega)) (fun v1 h1 => ?_)
  try simp only [chk_t h1.2.1.O]
  refine Wp_c (X8_sits_0 hg h1.2 (by (try simp); omega) x) (fun q hq => ?_)
  obtain ⟨q1, q2, q3⟩ := hq
  refine Wp_of rfl ⟨?_, h1.1.trans q2, ?_⟩
  · show q.1 * 2 = pV 0 (nI g) a x
    rw [q1]
    rfl
  · have e : l ++ [11] ++ sB 0 = l ++ pB 0 := by simp [pB]
    rw [← e]
    exact q3
theorem X8_pulls_1 {v : Wd} {g : Nat} {a : Int32} {l : List Nat} (hg : g < 8) (h : MvM v g 1 a l) (hl : l.length + 3 ≤ 20) (x : Int32) : Wp (fX8_pullsBy 0 (nI g) x v) (fun q => q.1 = pV 1 (nI g) a x ∧ Fr cTM v q.2 ∧ MvM q.2 g 1 a (l ++ pB 1)) := by
  obtain ⟨hs, ⟨e4, e5⟩, -⟩ := id h
  obtain ⟨e1, e2, e3⟩ := hs.a6
  obtain ⟨b1, b2⟩ := inb8 hg
  unfold fX8_pullsBy fX8_pullsBy_b32 fX8_pullsBy_b48 fX8_pullsBy_b58 fX8_pullsBy_b64 fX8_pullsBy_b91 fX8_pullsBy_b100
  simp only [chk_t hs.O, e1, ob_s, chk_t e2, e3, chk_t b1, b2, bnd_e, e4, eqL1 (show 1 < 2147483648 by decide), eqL2 (show 1 < 2147483648 by decide), eqL3 (show 1 < 2147483648 by decide), eqL4 (show 1 < 2147483648 by decide), eqL5 (show 1 < 2147483648 by decide), eqL6 (show 1 < 2147483648 by decide), Nat.reduceEqDiff, if_true, if_false]
  try rw [chk_t h.1.O]
  refine Wp_c (h.ran (b := 11) (by (try simp); omega)) (fun v1 h1 => ?_)
  try simp only [chk_t h1.2.1.O]
  refine Wp_c (X8_sits_1 hg h1.2 (by (try simp); omega) x) (fun q hq => ?_)
  obtain ⟨q1, q2, q3⟩ := hq
  refine Wp_of rfl ⟨?_, h1.1.trans q2, ?_⟩
  · show q.1 * 2 = pV 1 (nI g) a x
    rw [q1]
    rfl
  · have e : l ++ [11] ++ sB 1 = l ++ pB 1 := by simp [pB]
    rw [← e]
    exact q3
theorem X8_pulls_2 {v : Wd} {g : Nat} {a : Int32} {l : List Nat} (hg : g < 8) (h : MvM v g 2 a l) (hl : l.length + 3 ≤ 20) (x : Int32) : Wp (fX8_pullsBy 0 (nI g) x v) (fun q => q.1 = pV 2 (nI g) a x ∧ Fr cTM v q.2 ∧ MvM q.2 g 2 a (l ++ pB 2)) := by
  obtain ⟨hs, ⟨e4, e5⟩, -⟩ := id h
  obtain ⟨e1, e2, e3⟩ := hs.a6
  obtain ⟨b1, b2⟩ := inb8 hg
  unfold fX8_pullsBy fX8_pullsBy_b32 fX8_pullsBy_b48 fX8_pullsBy_b58 fX8_pullsBy_b64 fX8_pullsBy_b91 fX8_pullsBy_b100
  simp only [chk_t hs.O, e1, ob_s, chk_t e2, e3, chk_t b1, b2, bnd_e, e4, eqL1 (show 2 < 2147483648 by decide), eqL2 (show 2 < 2147483648 by decide), eqL3 (show 2 < 2147483648 by decide), eqL4 (show 2 < 2147483648 by decide), eqL5 (show 2 < 2147483648 by decide), eqL6 (show 2 < 2147483648 by decide), Nat.reduceEqDiff, if_true, if_false]
  try rw [chk_t h.1.O]
  refine Wp_c (h.ran (b := 30) (by (try simp); omega)) (fun v1 h1 => ?_)
  try simp only [chk_t h1.2.1.O]
  try rw [chk_t h1.2.1.O]
  refine Wp_c (h1.2.ran (b := 11) (by (try simp); omega)) (fun v2 h2 => ?_)
  try simp only [chk_t h2.2.1.O]
  refine Wp_c (X8_sits_2 hg h2.2 (by (try simp); omega) x) (fun q hq => ?_)
  obtain ⟨q1, q2, q3⟩ := hq
  refine Wp_of rfl ⟨?_, (h1.1.trans h2.1).trans q2, ?_⟩
  · show q.1 * 2 * 3 = pV 2 (nI g) a x
    rw [q1]
    rfl
  · have e : l ++ [30] ++ [11] ++ sB 2 = l ++ pB 2 := by simp [pB]
    rw [← e]
    exact q3
theorem X8_pulls_3 {v : Wd} {g : Nat} {a : Int32} {l : List Nat} (hg : g < 8) (h : MvM v g 3 a l) (hl : l.length + 4 ≤ 20) (x : Int32) : Wp (fX8_pullsBy 0 (nI g) x v) (fun q => q.1 = pV 3 (nI g) a x ∧ Fr cTM v q.2 ∧ MvM q.2 g 3 a (l ++ pB 3)) := by
  obtain ⟨hs, ⟨e4, e5⟩, -⟩ := id h
  obtain ⟨e1, e2, e3⟩ := hs.a6
  obtain ⟨b1, b2⟩ := inb8 hg
  unfold fX8_pullsBy fX8_pullsBy_b32 fX8_pullsBy_b48 fX8_pullsBy_b58 fX8_pullsBy_b64 fX8_pullsBy_b91 fX8_pullsBy_b100
  simp only [chk_t hs.O, e1, ob_s, chk_t e2, e3, chk_t b1, b2, bnd_e, e4, eqL1 (show 3 < 2147483648 by decide), eqL2 (show 3 < 2147483648 by decide), eqL3 (show 3 < 2147483648 by decide), eqL4 (show 3 < 2147483648 by decide), eqL5 (show 3 < 2147483648 by decide), eqL6 (show 3 < 2147483648 by decide), Nat.reduceEqDiff, if_true, if_false]
  try rw [chk_t h.1.O]
  refine Wp_c (h.ran (b := 40) (by (try simp); omega)) (fun v1 h1 => ?_)
  try simp only [chk_t h1.2.1.O]
  try rw [chk_t h1.2.1.O]
  refine Wp_c (h1.2.ran (b := 11) (by (try simp); omega)) (fun v2 h2 => ?_)
  try simp only [chk_t h2.2.1.O]
  refine Wp_c (X8_sits_3 hg h2.2 (by (try simp); omega) (x + 1)) (fun q hq => ?_)
  obtain ⟨q1, q2, q3⟩ := hq
  refine Wp_of rfl ⟨?_, (h1.1.trans h2.1).trans q2, ?_⟩
  · show q.1 * 2 = pV 3 (nI g) a x
    rw [q1]
    rfl
  · have e : l ++ [40] ++ [11] ++ sB 3 = l ++ pB 3 := by simp [pB]
    rw [← e]
    exact q3
theorem X8_pulls_4 {v : Wd} {g : Nat} {a : Int32} {l : List Nat} (hg : g < 8) (h : MvM v g 4 a l) (hl : l.length + 3 ≤ 20) (x : Int32) : Wp (fX8_pullsBy 0 (nI g) x v) (fun q => q.1 = pV 4 (nI g) a x ∧ Fr cTM v q.2 ∧ MvM q.2 g 4 a (l ++ pB 4)) := by
  obtain ⟨hs, ⟨e4, e5⟩, -⟩ := id h
  obtain ⟨e1, e2, e3⟩ := hs.a6
  obtain ⟨b1, b2⟩ := inb8 hg
  unfold fX8_pullsBy fX8_pullsBy_b32 fX8_pullsBy_b48 fX8_pullsBy_b58 fX8_pullsBy_b64 fX8_pullsBy_b91 fX8_pullsBy_b100
  simp only [chk_t hs.O, e1, ob_s, chk_t e2, e3, chk_t b1, b2, bnd_e, e4, eqL1 (show 4 < 2147483648 by decide), eqL2 (show 4 < 2147483648 by decide), eqL3 (show 4 < 2147483648 by decide), eqL4 (show 4 < 2147483648 by decide), eqL5 (show 4 < 2147483648 by decide), eqL6 (show 4 < 2147483648 by decide), Nat.reduceEqDiff, if_true, if_false]
  try rw [chk_t h.1.O]
  refine Wp_c (h.ran (b := 11) (by (try simp); omega)) (fun v1 h1 => ?_)
  try simp only [chk_t h1.2.1.O]
  refine Wp_c (X8_sits_4 hg h1.2 (by (try simp); omega) x) (fun q hq => ?_)
  obtain ⟨q1, q2, q3⟩ := hq
  refine Wp_of rfl ⟨?_, h1.1.trans q2, ?_⟩
  · show q.1 * 2 = pV 4 (nI g) a x
    rw [q1]
    rfl
  · have e : l ++ [11] ++ sB 4 = l ++ pB 4 := by simp [pB]
    rw [← e]
    exact q3
theorem X8_pulls_5 {v : Wd} {g : Nat} {a : Int32} {l : List Nat} (hg : g < 8) (h : MvM v g 5 a l) (hl : l.length + 3 ≤ 20) (x : Int32) : Wp (fX8_pullsBy 0 (nI g) x v) (fun q => q.1 = pV 5 (nI g) a x ∧ Fr cTM v q.2 ∧ MvM q.2 g 5 a (l ++ pB 5)) := by
  obtain ⟨hs, ⟨e4, e5⟩, -⟩ := id h
  obtain ⟨e1, e2, e3⟩ := hs.a6
  obtain ⟨b1, b2⟩ := inb8 hg
  unfold fX8_pullsBy fX8_pullsBy_b32 fX8_pullsBy_b48 fX8_pullsBy_b58 fX8_pullsBy_b64 fX8_pullsBy_b91 fX8_pullsBy_b100
  simp only [chk_t hs.O, e1, ob_s, chk_t e2, e3, chk_t b1, b2, bnd_e, e4, eqL1 (show 5 < 2147483648 by decide), eqL2 (show 5 < 2147483648 by decide), eqL3 (show 5 < 2147483648 by decide), eqL4 (show 5 < 2147483648 by decide), eqL5 (show 5 < 2147483648 by decide), eqL6 (show 5 < 2147483648 by decide), Nat.reduceEqDiff, if_true, if_false]
  try rw [chk_t h.1.O]
  refine Wp_c (h.ran (b := 30) (by (try simp); omega)) (fun v1 h1 => ?_)
  try simp only [chk_t h1.2.1.O]
  try rw [chk_t h1.2.1.O]
  refine Wp_c (h1.2.ran (b := 11) (by (try simp); omega)) (fun v2 h2 => ?_)
  try simp only [chk_t h2.2.1.O]
  refine Wp_c (X8_sits_5 hg h2.2 (by (try simp); omega) x) (fun q hq => ?_)
  obtain ⟨q1, q2, q3⟩ := hq
  refine Wp_of rfl ⟨?_, (h1.1.trans h2.1).trans q2, ?_⟩
  · show q.1 * 2 * 3 = pV 5 (nI g) a x
    rw [q1]
    rfl
  · have e : l ++ [30] ++ [11] ++ sB 5 = l ++ pB 5 := by simp [pB]
    rw [← e]
    exact q3
theorem X8_pulls_6 {v : Wd} {g : Nat} {a : Int32} {l : List Nat} (hg : g < 8) (h : MvM v g 6 a l) (hl : l.length + 5 ≤ 20) (x : Int32) : Wp (fX8_pullsBy 0 (nI g) x v) (fun q => q.1 = pV 6 (nI g) a x ∧ Fr cTM v q.2 ∧ MvM q.2 g 6 a (l ++ pB 6)) := by
  obtain ⟨hs, ⟨e4, e5⟩, -⟩ := id h
  obtain ⟨e1, e2, e3⟩ := hs.a6
  obtain ⟨b1, b2⟩ := inb8 hg
  unfold fX8_pullsBy fX8_pullsBy_b32 fX8_pullsBy_b48 fX8_pullsBy_b58 fX8_pullsBy_b64 fX8_pullsBy_b91 fX8_pullsBy_b100
  simp only [chk_t hs.O, e1, ob_s, chk_t e2, e3, chk_t b1, b2, bnd_e, e4, eqL1 (show 6 < 2147483648 by decide), eqL2 (show 6 < 2147483648 by decide), eqL3 (show 6 < 2147483648 by decide), eqL4 (show 6 < 2147483648 by decide), eqL5 (show 6 < 2147483648 by decide), eqL6 (show 6 < 2147483648 by decide), Nat.reduceEqDiff, if_true, if_false]
  refine Wp_c (h.ran (b := 71) (by (try simp); omega)) (fun v1 h1 => ?_)
  obtain ⟨f1, f2, f3⟩ := h1.2.1.a7
  simp only [chk_t h1.2.1.O, f1, ob_s, chk_t f2, f3, chk_t b1, b2, h1.2.2.1.2]
  refine Wp_c (h1.2.ran (b := 11) (by (try simp); omega)) (fun v2 h2 => ?_)
  try simp only [chk_t h2.2.1.O]
  refine Wp_c (X8_sits_6 hg h2.2 (by (try simp); omega) (x - a)) (fun q hq => ?_)
  obtain ⟨q1, q2, q3⟩ := hq
  refine Wp_of rfl ⟨?_, (h1.1.trans h2.1).trans q2, ?_⟩
  · show q.1 * 2 = pV 6 (nI g) a x
    rw [q1]
    rfl
  · have e : l ++ [71] ++ [11] ++ sB 6 = l ++ pB 6 := by simp [pB]
    rw [← e]
    exact q3
theorem X8_fades_0 {v : Wd} {g : Nat} {a : Int32} {l : List Nat} (hg : g < 8) (h : MvM v g 0 a l) (hl : l.length + 4 ≤ 20) (x : Int32) : Wp (fX8_fadesBy 0 (nI g) x v) (fun q => q.1 = fV 0 (nI g) a x ∧ Fr cTM v q.2 ∧ MvM q.2 g 0 a (l ++ fB 0)) := by
  obtain ⟨hs, ⟨e4, e5⟩, -⟩ := id h
  obtain ⟨e1, e2, e3⟩ := hs.a6
  obtain ⟨b1, b2⟩ := inb8 hg
  unfold fX8_fadesBy fX8_fadesBy_b18 fX8_fadesBy_b24 fX8_fadesBy_b35 fX8_fadesBy_b78 fX8_fadesBy_b98
  simp only [chk_t hs.O, e1, ob_s, chk_t e2, e3, chk_t b1, b2, bnd_e, e4, eqL1 (show 0 < 2147483648 by decide), eqL2 (show 0 < 2147483648 by decide), eqL3 (show 0 < 2147483648 by decide), eqL4 (show 0 < 2147483648 by decide), eqL5 (show 0 < 2147483648 by decide), eqL6 (show 0 < 2147483648 by decide), Nat.reduceEqDiff, if_true, if_false]
  try rw [chk_t h.1.O]
  refine Wp_c (h.ran (b := 12) (by (try simp); omega)) (fun v1 h1 => ?_)
  try simp only [chk_t h1.2.1.O]
  refine Wp_c (X8_pulls_0 hg h1.2 (by (try simp); omega) x) (fun q hq => ?_)
  obtain ⟨q1, q2, q3⟩ := hq
  obtain ⟨f1, f2, f3⟩ := q3.1.a7
  simp only [chk_t q3.1.O, f1, ob_s, chk_t f2, f3, chk_t b1, b2, q3.2.1.2]
  refine Wp_c (X8_sits_0 hg q3 (by (try simp [pB, sB]); omega) (x - a)) (fun r hr => ?_)
  obtain ⟨r1, r2, r3⟩ := hr
  refine Wp_of rfl ⟨?_, (h1.1.trans q2).trans r2, ?_⟩
  · show q.1 ^^^ r.1 = fV 0 (nI g) a x
    rw [q1, r1]
    rfl
  · have e : l ++ [12] ++ pB 0 ++ sB 0 = l ++ fB 0 := by simp [fB]
    rw [← e]
    exact r3
theorem X8_fades_1 {v : Wd} {g : Nat} {a : Int32} {l : List Nat} (hg : g < 8) (h : MvM v g 1 a l) (hl : l.length + 6 ≤ 20) (x : Int32) : Wp (fX8_fadesBy 0 (nI g) x v) (fun q => q.1 = fV 1 (nI g) a x ∧ Fr cTM v q.2 ∧ MvM q.2 g 1 a (l ++ fB 1)) := by
  obtain ⟨hs, ⟨e4, e5⟩, -⟩ := id h
  obtain ⟨e1, e2, e3⟩ := hs.a6
  obtain ⟨b1, b2⟩ := inb8 hg
  unfold fX8_fadesBy fX8_fadesBy_b18 fX8_fadesBy_b24 fX8_fadesBy_b35 fX8_fadesBy_b78 fX8_fadesBy_b98
  simp only [chk_t hs.O, e1, ob_s, chk_t e2, e3, chk_t b1, b2, bnd_e, e4, eqL1 (show 1 < 2147483648 by decide), eqL2 (show 1 < 2147483648 by decide), eqL3 (show 1 < 2147483648 by decide), eqL4 (show 1 < 2147483648 by decide), eqL5 (show 1 < 2147483648 by decide), eqL6 (show 1 < 2147483648 by decide), Nat.reduceEqDiff, if_true, if_false]
  try rw [chk_t h.1.O]
  refine Wp_c (h.ran (b := 12) (by (try simp); omega)) (fun v1 h1 => ?_)
  try simp only [chk_t h1.2.1.O]
  refine Wp_c (X8_pulls_1 hg h1.2 (by (try simp); omega) x) (fun q hq => ?_)
  obtain ⟨q1, q2, q3⟩ := hq
  obtain ⟨f1, f2, f3⟩ := q3.1.a7
  simp only [chk_t q3.1.O, f1, ob_s, chk_t f2, f3, chk_t b1, b2, q3.2.1.2]
  refine Wp_c (X8_sits_1 hg q3 (by (try simp [pB, sB]); omega) (x - a)) (fun r hr => ?_)
  obtain ⟨r1, r2, r3⟩ := hr
  refine Wp_of rfl ⟨?_, (h1.1.trans q2).trans r2, ?_⟩
  · show q.1 ^^^ r.1 = fV 1 (nI g) a x
    rw [q1, r1]
    rfl
  · have e : l ++ [12] ++ pB 1 ++ sB 1 = l ++ fB 1 := by simp [fB]
    rw [← e]
    exact r3
theorem X8_fades_2 {v : Wd} {g : Nat} {a : Int32} {l : List Nat} (hg : g < 8) (h : MvM v g 2 a l) (hl : l.length + 5 ≤ 20) (x : Int32) : Wp (fX8_fadesBy 0 (nI g) x v) (fun q => q.1 = fV 2 (nI g) a x ∧ Fr cTM v q.2 ∧ MvM q.2 g 2 a (l ++ fB 2)) := by
  obtain ⟨hs, ⟨e4, e5⟩, -⟩ := id h
  obtain ⟨e1, e2, e3⟩ := hs.a6
  obtain ⟨b1, b2⟩ := inb8 hg
  unfold fX8_fadesBy fX8_fadesBy_b18 fX8_fadesBy_b24 fX8_fadesBy_b35 fX8_fadesBy_b78 fX8_fadesBy_b98
  simp only [chk_t hs.O, e1, ob_s, chk_t e2, e3, chk_t b1, b2, bnd_e, e4, eqL1 (show 2 < 2147483648 by decide), eqL2 (show 2 < 2147483648 by decide), eqL3 (show 2 < 2147483648 by decide), eqL4 (show 2 < 2147483648 by decide), eqL5 (show 2 < 2147483648 by decide), eqL6 (show 2 < 2147483648 by decide), Nat.reduceEqDiff, if_true, if_false]
  try rw [chk_t h.1.O]
  refine Wp_c (h.ran (b := 12) (by (try simp); omega)) (fun v1 h1 => ?_)
  try simp only [chk_t h1.2.1.O]
  refine Wp_c (X8_pulls_2 hg h1.2 (by (try simp); omega) x) (fun q hq => ?_)
  obtain ⟨q1, q2, q3⟩ := hq
  obtain ⟨f1, f2, f3⟩ := q3.1.a7
  simp only [chk_t q3.1.O, f1, ob_s, chk_t f2, f3, chk_t b1, b2, q3.2.1.2]
  refine Wp_c (X8_sits_2 hg q3 (by (try simp [pB, sB]); omega) (x - a)) (fun r hr => ?_)
  obtain ⟨r1, r2, r3⟩ := hr
  refine Wp_of rfl ⟨?_, (h1.1.trans q2).trans r2, ?_⟩
  · show q.1 ^^^ r.1 = fV 2 (nI g) a x
    rw [q1, r1]
    rfl
  · have e : l ++ [12] ++ pB 2 ++ sB 2 = l ++ fB 2 := by simp [fB]
    rw [← e]
    exact r3
theorem X8_fades_3 {v : Wd} {g : Nat} {a : Int32} {l : List Nat} (hg : g < 8) (h : MvM v g 3 a l) (hl : l.length + 7 ≤ 20) (x : Int32) : Wp (fX8_fadesBy 0 (nI g) x v) (fun q => q.1 = fV 3 (nI g) a x ∧ Fr cTM v q.2 ∧ MvM q.2 g 3 a (l ++ fB 3)) := by
  obtain ⟨hs, ⟨e4, e5⟩, -⟩ := id h
  obtain ⟨e1, e2, e3⟩ := hs.a6
  obtain ⟨b1, b2⟩ := inb8 hg
  unfold fX8_fadesBy fX8_fadesBy_b18 fX8_fadesBy_b24 fX8_fadesBy_b35 fX8_fadesBy_b78 fX8_fadesBy_b98
  simp only [chk_t hs.O, e1, ob_s, chk_t e2, e3, chk_t b1, b2, bnd_e, e4, eqL1 (show 3 < 2147483648 by decide), eqL2 (show 3 < 2147483648 by decide), eqL3 (show 3 < 2147483648 by decide), eqL4 (show 3 < 2147483648 by decide), eqL5 (show 3 < 2147483648 by decide), eqL6 (show 3 < 2147483648 by decide), Nat.reduceEqDiff, if_true, if_false]
  try rw [chk_t h.1.O]
  refine Wp_c (h.ran (b := 12) (by (try simp); omega)) (fun v1 h1 => ?_)
  try simp only [chk_t h1.2.1.O]
  refine Wp_c (X8_pulls_3 hg h1.2 (by (try simp); omega) x) (fun q hq => ?_)
  obtain ⟨q1, q2, q3⟩ := hq
  obtain ⟨f1, f2, f3⟩ := q3.1.a7
  simp only [chk_t q3.1.O, f1, ob_s, chk_t f2, f3, chk_t b1, b2, q3.2.1.2]
  refine Wp_c (X8_sits_3 hg q3 (by (try simp [pB, sB]); omega) (x - a)) (fun r hr => ?_)
  obtain ⟨r1, r2, r3⟩ := hr
  refine Wp_of rfl ⟨?_, (h1.1.trans q2).trans r2, ?_⟩
  · show q.1 ^^^ r.1 = fV 3 (nI g) a x
    rw [q1, r1]
    rfl
  · have e : l ++ [12] ++ pB 3 ++ sB 3 = l ++ fB 3 := by simp [fB]
    rw [← e]
    exact r3
theorem X8_fades_4 {v : Wd} {g : Nat} {a : Int32} {l : List Nat} (hg : g < 8) (h : MvM v g 4 a l) (hl : l.length + 7 ≤ 20) (x : Int32) : Wp (fX8_fadesBy 0 (nI g) x v) (fun q => q.1 = fV 4 (nI g) a x ∧ Fr cTM v q.2 ∧ MvM q.2 g 4 a (l ++ fB 4)) := by
  obtain ⟨hs, ⟨e4, e5⟩, -⟩ := id h
  obtain ⟨e1, e2, e3⟩ := hs.a6
  obtain ⟨b1, b2⟩ := inb8 hg
  unfold fX8_fadesBy fX8_fadesBy_b18 fX8_fadesBy_b24 fX8_fadesBy_b35 fX8_fadesBy_b78 fX8_fadesBy_b98
  simp only [chk_t hs.O, e1, ob_s, chk_t e2, e3, chk_t b1, b2, bnd_e, e4, eqL1 (show 4 < 2147483648 by decide), eqL2 (show 4 < 2147483648 by decide), eqL3 (show 4 < 2147483648 by decide), eqL4 (show 4 < 2147483648 by decide), eqL5 (show 4 < 2147483648 by decide), eqL6 (show 4 < 2147483648 by decide), Nat.reduceEqDiff, if_true, if_false]
  try rw [chk_t h.1.O]
  refine Wp_c (h.ran (b := 50) (by (try simp); omega)) (fun v1 h1 => ?_)
  try simp only [chk_t h1.2.1.O]
  try rw [chk_t h1.2.1.O]
  refine Wp_c (h1.2.ran (b := 12) (by (try simp); omega)) (fun v2 h2 => ?_)
  try simp only [chk_t h2.2.1.O]
  refine Wp_c (X8_pulls_4 hg h2.2 (by (try simp); omega) x) (fun q hq => ?_)
  obtain ⟨q1, q2, q3⟩ := hq
  obtain ⟨f1, f2, f3⟩ := q3.1.a7
  simp only [chk_t q3.1.O, f1, ob_s, chk_t f2, f3, chk_t b1, b2, q3.2.1.2]
  refine Wp_c (X8_sits_4 hg q3 (by (try simp [pB, sB]); omega) (x - a)) (fun r hr => ?_)
  obtain ⟨r1, r2, r3⟩ := hr
  refine Wp_of rfl ⟨?_, ((h1.1.trans h2.1).trans q2).trans r2, ?_⟩
  · show -(q.1 ^^^ r.1) = fV 4 (nI g) a x
    rw [q1, r1]
    rfl
  · have e : l ++ [50] ++ [12] ++ pB 4 ++ sB 4 = l ++ fB 4 := by simp [fB]
    rw [← e]
    exact r3
theorem X8_fades_5 {v : Wd} {g : Nat} {a : Int32} {l : List Nat} (hg : g < 8) (h : MvM v g 5 a l) (hl : l.length + 6 ≤ 20) (x : Int32) : Wp (fX8_fadesBy 0 (nI g) x v) (fun q => q.1 = fV 5 (nI g) a x ∧ Fr cTM v q.2 ∧ MvM q.2 g 5 a (l ++ fB 5)) := by
  obtain ⟨hs, ⟨e4, e5⟩, -⟩ := id h
  obtain ⟨e1, e2, e3⟩ := hs.a6
  obtain ⟨b1, b2⟩ := inb8 hg
  unfold fX8_fadesBy fX8_fadesBy_b18 fX8_fadesBy_b24 fX8_fadesBy_b35 fX8_fadesBy_b78 fX8_fadesBy_b98
  simp only [chk_t hs.O, e1, ob_s, chk_t e2, e3, chk_t b1, b2, bnd_e, e4, eqL1 (show 5 < 2147483648 by decide), eqL2 (show 5 < 2147483648 by decide), eqL3 (show 5 < 2147483648 by decide), eqL4 (show 5 < 2147483648 by decide), eqL5 (show 5 < 2147483648 by decide), eqL6 (show 5 < 2147483648 by decide), Nat.reduceEqDiff, if_true, if_false]
  try rw [chk_t h.1.O]
  refine Wp_c (h.ran (b := 60) (by (try simp); omega)) (fun v1 h1 => ?_)
  try simp only [chk_t h1.2.1.O]
  try rw [chk_t h1.2.1.O]
  refine Wp_c (h1.2.ran (b := 12) (by (try simp); omega)) (fun v2 h2 => ?_)
  try simp only [chk_t h2.2.1.O]
  refine Wp_c (X8_pulls_5 hg h2.2 (by (try simp); omega) x) (fun q hq => ?_)
  obtain ⟨q1, q2, q3⟩ := hq
  obtain ⟨f1, f2, f3⟩ := q3.1.a7
  simp only [chk_t q3.1.O, f1, ob_s, chk_t f2, f3, chk_t b1, b2, q3.2.1.2]
  refine Wp_c (X8_sits_5 hg q3 (by (try simp [pB, sB]); omega) (x - a)) (fun r hr => ?_)
  obtain ⟨r1, r2, r3⟩ := hr
  refine Wp_of rfl ⟨?_, ((h1.1.trans h2.1).trans q2).trans r2, ?_⟩
  · show (q.1 ^^^ r.1) ^^^ 5 = fV 5 (nI g) a x
    rw [q1, r1]
    rfl
  · have e : l ++ [60] ++ [12] ++ pB 5 ++ sB 5 = l ++ fB 5 := by simp [fB]
    rw [← e]
    exact r3
theorem X8_fades_6 {v : Wd} {g : Nat} {a : Int32} {l : List Nat} (hg : g < 8) (h : MvM v g 6 a l) (hl : l.length + 10 ≤ 20) (x : Int32) : Wp (fX8_fadesBy 0 (nI g) x v) (fun q => q.1 = fV 6 (nI g) a x ∧ Fr cTM v q.2 ∧ MvM q.2 g 6 a (l ++ fB 6)) := by
  obtain ⟨hs, ⟨e4, e5⟩, -⟩ := id h
  obtain ⟨e1, e2, e3⟩ := hs.a6
  obtain ⟨b1, b2⟩ := inb8 hg
  unfold fX8_fadesBy fX8_fadesBy_b18 fX8_fadesBy_b24 fX8_fadesBy_b35 fX8_fadesBy_b78 fX8_fadesBy_b98
  simp only [chk_t hs.O, e1, ob_s, chk_t e2, e3, chk_t b1, b2, bnd_e, e4, eqL1 (show 6 < 2147483648 by decide), eqL2 (show 6 < 2147483648 by decide), eqL3 (show 6 < 2147483648 by decide), eqL4 (show 6 < 2147483648 by decide), eqL5 (show 6 < 2147483648 by decide), eqL6 (show 6 < 2147483648 by decide), Nat.reduceEqDiff, if_true, if_false]
  try rw [chk_t h.1.O]
  refine Wp_c (h.ran (b := 50) (by (try simp); omega)) (fun v1 h1 => ?_)
  try simp only [chk_t h1.2.1.O]
  try rw [chk_t h1.2.1.O]
  refine Wp_c (h1.2.ran (b := 12) (by (try simp); omega)) (fun v2 h2 => ?_)
  try simp only [chk_t h2.2.1.O]
  refine Wp_c (X8_pulls_6 hg h2.2 (by (try simp); omega) x) (fun q hq => ?_)
  obtain ⟨q1, q2, q3⟩ := hq
  obtain ⟨f1, f2, f3⟩ := q3.1.a7
  simp only [chk_t q3.1.O, f1, ob_s, chk_t f2, f3, chk_t b1, b2, q3.2.1.2]
  refine Wp_c (X8_sits_6 hg q3 (by (try simp [pB, sB]); omega) (x - a)) (fun r hr => ?_)
  obtain ⟨r1, r2, r3⟩ := hr
  refine Wp_of rfl ⟨?_, ((h1.1.trans h2.1).trans q2).trans r2, ?_⟩
  · show -(q.1 ^^^ r.1) = fV 6 (nI g) a x
    rw [q1, r1]
    rfl
  · have e : l ++ [50] ++ [12] ++ pB 6 ++ sB 6 = l ++ fB 6 := by simp [fB]
    rw [← e]
    exact r3
theorem fB_le : ∀ K, K < 7 → (fB K).length ≤ 20 ∧ (pB K).length ≤ 20 ∧ (sB K).length ≤ 20 := by decide
theorem RelC.tr {C : Cl} {x m x' m' : Wd} (h : RelC C x m) (hf : Fr (fun a _ => a = 133 ∨ a = 134) x x') (hg : Fr cTM m m') (l : List Nat) (hl : l.length ≤ 20) (hX : NtX x' l) (hM : NtM m' l) : Rel x' m' := by
  obtain ⟨⟨r1, r2, r3, r4, r5⟩, r6, r7, r8, r9, -⟩ := h
  refine ⟨C, ⟨hf.shx r1, hg.shm r2, r3, r4.fr r3 hf (fun a i q => by omega), r5.fr hg (fun a i q => by unfold cTM at q; omega)⟩, ?_, fun s h8 => ?_, fun i h1 h2 => ?_, ?_, l.length, by omega, hX.1, hM.1, fun i h1 h2 => (hX.2 i h1).trans (hM.2 i h1).symm⟩
  · unfold ImE
    rw [hf.at (by omega), hg.at (by unfold cTM; omega)]
    rcases r6 with r6 | ⟨r6, D, v, q1, q2, q3, q4⟩
    · exact Or.inl r6
    · refine Or.inr ⟨r6, D, v, q1, q2.fr q1 hf (fun a i q => by omega), ?_, q4⟩
      have e : wI m' 13 = wI m 13 := funext fun i => hg.at (by unfold cTM; omega)
      rw [e]
      exact q3
  · unfold ShE
    rw [hf.at (by omega), hf.at (by omega), hg.at (by unfold cTM; omega), hg.at (by unfold cTM; omega), hf.L, hg.L]
    exact r7 s h8
  · rw [hf.at (by omega), hg.at (by unfold cTM; omega)]
    exact r8 i h1 h2
  · rw [hf.at (by omega), hg.at (by unfold cTM; omega)]
    exact r9
theorem W7_2 (v : Int32) (w : Wd) : fX7_isWithin v 0 2 w = some (bI (isN v 3), w) := by rw [X7_isWithin, show (2 : Int32) = nI 3 - 1 from rfl, iteN (by decide)]
theorem W8_2 (v : Int32) (w : Wd) : fX8_within v 0 2 w = some (bI (isN v 3), w) := by rw [X8_within, show (2 : Int32) = nI 3 - 1 from rfl, iteN (by decide)]
theorem X8_sitsA {v : Wd} {g K : Nat} {a : Int32} (hg : g < 8) (hK : K < 7) (h : MvM v g K a []) (x : Int32) : Wp (fX8_sitsBy 0 (nI g) x v) (fun q => q.1 = sV K (nI g) a x ∧ Fr cTM v q.2 ∧ NtM q.2 (sB K)) := by
  rcases (show K = 0 ∨ K = 1 ∨ K = 2 ∨ K = 3 ∨ K = 4 ∨ K = 5 ∨ K = 6 by omega) with q | q | q | q | q | q | q <;> subst q
  · exact Wp_m (X8_sits_0 hg h (by decide) x) (fun q hq => ⟨hq.1, hq.2.1, hq.2.2.2.2⟩)
  · exact Wp_m (X8_sits_1 hg h (by decide) x) (fun q hq => ⟨hq.1, hq.2.1, hq.2.2.2.2⟩)
  · exact Wp_m (X8_sits_2 hg h (by decide) x) (fun q hq => ⟨hq.1, hq.2.1, hq.2.2.2.2⟩)
  · exact Wp_m (X8_sits_3 hg h (by decide) x) (fun q hq => ⟨hq.1, hq.2.1, hq.2.2.2.2⟩)
  · exact Wp_m (X8_sits_4 hg h (by decide) x) (fun q hq => ⟨hq.1, hq.2.1, hq.2.2.2.2⟩)
  · exact Wp_m (X8_sits_5 hg h (by decide) x) (fun q hq => ⟨hq.1, hq.2.1, hq.2.2.2.2⟩)
  · exact Wp_m (X8_sits_6 hg h (by decide) x) (fun q hq => ⟨hq.1, hq.2.1, hq.2.2.2.2⟩)
theorem X8_pullsA {v : Wd} {g K : Nat} {a : Int32} (hg : g < 8) (hK : K < 7) (h : MvM v g K a []) (x : Int32) : Wp (fX8_pullsBy 0 (nI g) x v) (fun q => q.1 = pV K (nI g) a x ∧ Fr cTM v q.2 ∧ NtM q.2 (pB K)) := by
  rcases (show K = 0 ∨ K = 1 ∨ K = 2 ∨ K = 3 ∨ K = 4 ∨ K = 5 ∨ K = 6 by omega) with q | q | q | q | q | q | q <;> subst q
  · exact Wp_m (X8_pulls_0 hg h (by decide) x) (fun q hq => ⟨hq.1, hq.2.1, hq.2.2.2.2⟩)
  · exact Wp_m (X8_pulls_1 hg h (by decide) x) (fun q hq => ⟨hq.1, hq.2.1, hq.2.2.2.2⟩)
  · exact Wp_m (X8_pulls_2 hg h (by decide) x) (fun q hq => ⟨hq.1, hq.2.1, hq.2.2.2.2⟩)
  · exact Wp_m (X8_pulls_3 hg h (by decide) x) (fun q hq => ⟨hq.1, hq.2.1, hq.2.2.2.2⟩)
  · exact Wp_m (X8_pulls_4 hg h (by decide) x) (fun q hq => ⟨hq.1, hq.2.1, hq.2.2.2.2⟩)
  · exact Wp_m (X8_pulls_5 hg h (by decide) x) (fun q hq => ⟨hq.1, hq.2.1, hq.2.2.2.2⟩)
  · exact Wp_m (X8_pulls_6 hg h (by decide) x) (fun q hq => ⟨hq.1, hq.2.1, hq.2.2.2.2⟩)
theorem X8_fadesA {v : Wd} {g K : Nat} {a : Int32} (hg : g < 8) (hK : K < 7) (h : MvM v g K a []) (x : Int32) : Wp (fX8_fadesBy 0 (nI g) x v) (fun q => q.1 = fV K (nI g) a x ∧ Fr cTM v q.2 ∧ NtM q.2 (fB K)) := by
  rcases (show K = 0 ∨ K = 1 ∨ K = 2 ∨ K = 3 ∨ K = 4 ∨ K = 5 ∨ K = 6 by omega) with q | q | q | q | q | q | q <;> subst q
  · exact Wp_m (X8_fades_0 hg h (by decide) x) (fun q hq => ⟨hq.1, hq.2.1, hq.2.2.2.2⟩)
  · exact Wp_m (X8_fades_1 hg h (by decide) x) (fun q hq => ⟨hq.1, hq.2.1, hq.2.2.2.2⟩)
  · exact Wp_m (X8_fades_2 hg h (by decide) x) (fun q hq => ⟨hq.1, hq.2.1, hq.2.2.2.2⟩)
  · exact Wp_m (X8_fades_3 hg h (by decide) x) (fun q hq => ⟨hq.1, hq.2.1, hq.2.2.2.2⟩)
  · exact Wp_m (X8_fades_4 hg h (by decide) x) (fun q hq => ⟨hq.1, hq.2.1, hq.2.2.2.2⟩)
  · exact Wp_m (X8_fades_5 hg h (by decide) x) (fun q hq => ⟨hq.1, hq.2.1, hq.2.2.2.2⟩)
  · exact Wp_m (X8_fades_6 hg h (by decide) x) (fun q hq => ⟨hq.1, hq.2.1, hq.2.2.2.2⟩)
theorem C_act {C : Cl} {x m : Wd} (h : RelC C x m) (g v y : Int32) : E2 (fX7_act 0 g v y x) (fX8_act 0 g v y m) := by
  obtain ⟨⟨hs, hm, hI, hx, hxm⟩, -⟩ := id h
  have hP : cP C ≤ 6 := hI.1.1
  have hG : cG C ≤ 8 := hI.1.2
  have hc := hs.cl (b := 3) (Or.inl rfl)
  obtain ⟨a1, a2, a3, a4, a5, a6, a7, a8, a9, a10⟩ := hc.B
  obtain ⟨t1, t2, t3, t4, t5, t6, t7, t8, t9⟩ := hs.T
  have a0 := hm.O
  have gG := X0_hasGarment hc (n := cG C) hx.1.2.1 (by omega)
  have gP := X0_hasPerson hc (n := cP C) hx.1.1 (by omega)
  have mG := X8_isGarment hm (n := cG C) hxm.1.2.1 (by omega)
  have mP := X8_isOne hm (n := cP C) hxm.1.1 (by omega)
  obtain ⟨m1, m2, m3, m4, m5⟩ := hs.M
  have fx : Fr (fun a _ => a = 133 ∨ a = 134) x (sI x 133 0 0) := Fr_sI _ (Or.inl rfl)
  have fm : Fr cTM m (sI m 0 16 0) := Fr_sI _ (Or.inr ⟨rfl, rfl⟩)
  have nx : NtX (sI x 133 0 0) [] := ⟨wI_e _ _ _ _, fun i hi => absurd hi (Nat.not_lt_zero i)⟩
  have nm : NtM (sI m 0 16 0) [] := ⟨wI_e _ _ _ _, fun i hi => absurd hi (Nat.not_lt_zero i)⟩
  have hx0 := hx.fr hI fx (fun a i q => by omega)
  have hm0 := hxm.fr fm (fun a i q => by unfold cTM at q; omega)
  have hsx : ShX (sI x 133 0 0) := hs
  have hsm : ShM (sI m 0 16 0) := hm
  have hcx : ClS (sI x 133 0 0) 3 := hc
  have gG := X0_hasGarment hcx (n := cG C) hx0.1.2.1 (by omega)
  have mG := X8_isGarment hsm (n := cG C) hm0.1.2.1 (by omega)
  unfold fX7_act fX8_act fX3_forget fX7_act_b27 fX8_act_b22 fX8_act_b57
  simp only [chk_t t1, t4, m1, chk_t m2, bnd_e, ob_s, cO_s, wR_sI, chk_t a1, chk_t a0, gG, mG, W7_2, W8_2]
  by_cases e : isN g (cG C)
  · obtain ⟨k, hk, rfl⟩ := isN_ex e
    simp only [bI_t e, if_neg n10]
    by_cases e2 : isN v 3
    · obtain ⟨mv, hmv, rfl⟩ := isN_ex e2
      obtain ⟨p1, p2, p3, p4, p5, p6, p7, p8, p9, p10⟩ := hcx.G (show k < 8 by omega)
      have a3' : wR x 3 1 = some (3 + 2) := a3
      have p3' : wR x (3 + 2) k = some (gA 3 k) := p3
      have p4' : isO x (gA 3 k) 2 := p4
      have hK := (hI.2.2 k hk).1.1
      have hkd : wI (sI x 133 0 0) (gA 3 k) 2 = nI (cKd C k) := (hx0.2.2 k hk).1.1
      have haa : wI (sI x 133 0 0) (gA 3 k) 3 = nI (cAa C k) := (hx0.2.2 k hk).1.2.1
      have haa2 : wI (sI (sI (sI x 133 0 0) 133 2 (nI (cKd C k))) 133 3 (nI k)) (gA 3 k) 3 = nI (cAa C k) := by
        rw [wI_n (by unfold gA; omega), wI_n (by unfold gA; omega)]; exact haa
      have W : ∃ w, w = sI (sI (sI (sI x 133 0 0) 133 2 (nI (cKd C k))) 133 3 (nI k)) 133 4 (nI (cAa C k)) := ⟨_, rfl⟩
      obtain ⟨w, hw⟩ := W
      have hMv : MvX w (cKd C k) (nI k) (nI (cAa C k)) [] := by
        subst hw
        refine ⟨hs, ⟨?_, ?_, wI_e _ _ _ _⟩, ?_, fun i hi => absurd hi (Nat.not_lt_zero i)⟩
        · rw [wI_n (by omega), wI_n (by omega), wI_e]
        · rw [wI_n (by omega), wI_e]
        · rw [wI_n (by omega), wI_n (by omega), wI_n (by omega), wI_e]
          rfl
      have fw : Fr (fun a _ => a = 133 ∨ a = 134) x w := by
        subst hw
        exact ((fx.sI _ (Or.inl rfl)).sI _ (Or.inl rfl)).sI _ (Or.inl rfl)
      have hMm : MvM (sI m 0 16 0) k (cKd C k) (nI (cAa C k)) [] := ⟨hm, ⟨(hm0.2.2 k hk).1.1, (hm0.2.2 k hk).1.2.1⟩, nm⟩
      have mk : fX3_make 133 (gA 3 k) (nI k) (nI mv) y (sI x 133 0 0) = fX3_run_12 133 (nI (cKd C k)) (nI mv) y 0 w := by
        have w2 : wI w 133 2 = nI (cKd C k) := hMv.2.1.1
        unfold fX3_make
        simp only [cO_s, chk_t p4', chk_t m2, bnd_e, hkd, haa2, ← hw, w2, ob_eta]
      simp only [bI_t e2, if_neg n10, wR_sI, cA_s, wn_sI, a3', chk_t a7, a8, chk_t p1, p2, p3', mk, ob_eta, ob_s]
      have hb := fB_le (cKd C k) (by omega)
      rcases (show mv = 0 ∨ mv = 1 ∨ mv = 2 by omega) with q | q | q <;> subst q
      · rw [if_pos (show nI 0 = 0 from rfl)]
        refine E2_of (r := sV (cKd C k) (nI k) (nI (cAa C k)) y) (X := fun u => Fr (fun a _ => a = 133 ∨ a = 134) x u ∧ NtX u (sB (cKd C k))) (M := fun u => Fr cTM m u ∧ NtM u (sB (cKd C k))) (Wp_m (Rsits 9 (cKd C k) (nI k) (nI (cAa C k)) (show cKd C k < 7 by omega) y 0 w [] (by omega) (by have := hb.2.2; simp; omega) hMv) (fun q hq => ⟨hq.1, fw.trans (hq.2.1.mono (fun a i q => by unfold cTX at q; omega)), hq.2.2.2.2⟩)) (Wp_m (X8_sitsA (by omega) (by omega) hMm y) (fun q hq => ⟨hq.1, fm.trans hq.2.1, hq.2.2⟩)) (fun u u' hu hu' => h.tr hu.1 hu'.1 _ hb.2.2 hu.2 hu'.2)
      · rw [if_neg (show ¬ nI 1 = 0 by decide), if_pos (show nI 1 = 1 from rfl)]
        refine E2_of (r := pV (cKd C k) (nI k) (nI (cAa C k)) y) (X := fun u => Fr (fun a _ => a = 133 ∨ a = 134) x u ∧ NtX u (pB (cKd C k))) (M := fun u => Fr cTM m u ∧ NtM u (pB (cKd C k))) (Wp_m (Rpulls 7 (nI k) (nI (cAa C k)) (show cKd C k < 7 by omega) y 0 w [] (by omega) (by have := hb.2.1; simp; omega) hMv) (fun q hq => ⟨hq.1, fw.trans (hq.2.1.mono (fun a i q => by unfold cTX at q; omega)), hq.2.2.2.2⟩)) (Wp_m (X8_pullsA (by omega) (by omega) hMm y) (fun q hq => ⟨hq.1, fm.trans hq.2.1, hq.2.2⟩)) (fun u u' hu hu' => h.tr hu.1 hu'.1 _ hb.2.1 hu.2 hu'.2)
      · rw [if_neg (show ¬ nI 2 = 0 by decide), if_neg (show ¬ nI 2 = 1 by decide)]
        refine E2_of (r := fV (cKd C k) (nI k) (nI (cAa C k)) y) (X := fun u => Fr (fun a _ => a = 133 ∨ a = 134) x u ∧ NtX u (fB (cKd C k))) (M := fun u => Fr cTM m u ∧ NtM u (fB (cKd C k))) (Wp_m (Rfades 5 (nI k) (nI (cAa C k)) (show cKd C k < 7 by omega) y 0 w [] (by omega) (by have := hb.1; simp; omega) hMv) (fun q hq => ⟨hq.1, fw.trans (hq.2.1.mono (fun a i q => by unfold cTX at q; omega)), hq.2.2.2.2⟩)) (Wp_m (X8_fadesA (by omega) (by omega) hMm y) (fun q hq => ⟨hq.1, fm.trans hq.2.1, hq.2.2⟩)) (fun u u' hu hu' => h.tr hu.1 hu'.1 _ hb.1 hu.2 hu'.2)
    · simp only [bI_f e2, if_true]
      exact E2_eq (h.tr fx fm [] (by decide) nx nm)
  · simp only [bI_f e, if_true]
    exact E2_eq (h.tr fx fm [] (by decide) nx nm)
