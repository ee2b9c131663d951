/-! shallow programs: a check, a value that may be wanting, a name, a way out of a loop, a loop -/
def chk {α : Type} (P : Prop) [Decidable P] (k : Option α) : Option α := if P then k else none
theorem chk_some {α : Type} {P : Prop} [Decidable P] {k : Option α} {r : α} (h : chk P k = some r) : P ∧ k = some r := by
  unfold chk at h
  split at h
  · exact ⟨by assumption, h⟩
  · cases h
def ob {α β : Type} (o : Option α) (f : α → Option β) : Option β := match o with
  | none => none
  | some a => f a
theorem ob_some {α β : Type} {o : Option α} {f : α → Option β} {r : β} (h : ob o f = some r) : ∃ a, o = some a ∧ f a = some r := by
  cases o with
  | none => cases h
  | some a => exact ⟨a, rfl, h⟩
def bnd {α β : Type} (a : α) (f : α → β) : β := f a
theorem bnd_some {α β : Type} {a : α} {f : α → Option β} {r : β} (h : bnd a f = some r) : ∃ x, x = a ∧ f x = some r := ⟨a, rfl, h⟩
def wr {α β : Type} (o : Option β) : Option (α ⊕ β) := match o with
  | none => none
  | some b => some (.inr b)
theorem wr_some {α β : Type} {o : Option β} {r : α ⊕ β} (h : wr o = some r) : ∃ b, r = .inr b ∧ o = some b := by
  cases o with
  | none => cases h
  | some b => exact ⟨b, (Option.some.inj h).symm, rfl⟩
def it {S R : Type} (f : S → Option (S ⊕ R)) : Nat → S → Option R
  | 0, _ => none
  | n + 1, s => match f s with
    | none => none
    | some (.inl t) => it f n t
    | some (.inr r) => some r
theorem it_runs {S R : Type} {f : S → Option (S ⊕ R)} {P : S → Prop} {K : R → Prop} (hb : ∀ s r, f s = some r → Sum.elim P K r → P s) : ∀ (n : Nat) (s : S) (r : R), it f n s = some r → K r → P s := by
  intro n
  induction n with
  | zero =>
    intro s r h
    cases h
  | succ n ih =>
    intro s r h hk
    unfold it at h
    split at h
    · cases h
    · rename_i t ht
      exact hb s _ ht (ih t r h hk)
    · rename_i q hq
      cases h
      exact hb s _ hq hk
def FU : Nat := 100000
def QI (q : Int32 × Wd) : Option Value → Wd → Prop := fun v w => v = some (.int q.1) ∧ w = q.2
def QL (q : Int64 × Wd) : Option Value → Wd → Prop := fun v w => v = some (.long q.1) ∧ w = q.2
def QZ (q : Nat × Wd) : Option Value → Wd → Prop := fun v w => v = some (.ref (1100 + q.1)) ∧ w = q.2
def QV (q : Wd) : Option Value → Wd → Prop := fun v w => v = none ∧ w = q
section WRAP
variable {E : Ev} {M : Mi} {d : Nat × Nat × Bool} {Q : Option Value → Wd → Prop} {k pc : Nat} {lv : List (Nat × Value)} {st : List Value} {w : Wd}
theorem k_I {q : Int32 × Wd} (h : Runs E M d Q k pc lv (.int q.1 :: st) q.2) : ∀ r w', QI q r w' → Runs E M d Q k pc lv (r.toList ++ st) w' := by
  rintro _ _ ⟨rfl, rfl⟩
  exact h
theorem k_L {q : Int64 × Wd} (h : Runs E M d Q k pc lv (.long q.1 :: st) q.2) : ∀ r w', QL q r w' → Runs E M d Q k pc lv (r.toList ++ st) w' := by
  rintro _ _ ⟨rfl, rfl⟩
  exact h
theorem k_Z {q : Nat × Wd} (h : Runs E M d Q k pc lv (.ref (1100 + q.1) :: st) q.2) : ∀ r w', QZ q r w' → Runs E M d Q k pc lv (r.toList ++ st) w' := by
  rintro _ _ ⟨rfl, rfl⟩
  exact h
theorem k_V {q : Wd} (h : Runs E M d Q k pc lv st q) : ∀ r w', QV q r w' → Runs E M d Q k pc lv (r.toList ++ st) w' := by
  rintro _ _ ⟨rfl, rfl⟩
  exact h
theorem k_I0 {q : Int32 × Wd} (h : Runs E M d Q k pc lv (.int q.1 :: st) q.2) : ∀ r w', QI q r w' → Runs E M d Q (k + 0) pc lv (r.toList ++ st) w' := by
  rintro _ _ ⟨rfl, rfl⟩
  exact h
theorem k_L0 {q : Int64 × Wd} (h : Runs E M d Q k pc lv (.long q.1 :: st) q.2) : ∀ r w', QL q r w' → Runs E M d Q (k + 0) pc lv (r.toList ++ st) w' := by
  rintro _ _ ⟨rfl, rfl⟩
  exact h
theorem k_Z0 {q : Nat × Wd} (h : Runs E M d Q k pc lv (.ref (1100 + q.1) :: st) q.2) : ∀ r w', QZ q r w' → Runs E M d Q (k + 0) pc lv (r.toList ++ st) w' := by
  rintro _ _ ⟨rfl, rfl⟩
  exact h
theorem k_V0 {q : Wd} (h : Runs E M d Q k pc lv st q) : ∀ r w', QV q r w' → Runs E M d Q (k + 0) pc lv (r.toList ++ st) w' := by
  rintro _ _ ⟨rfl, rfl⟩
  exact h
theorem r_eqI {x y : Int32} (e : y = x) (h : Runs E M d Q k pc lv (.int y :: st) w) : Runs E M d Q k pc lv (.int x :: st) w := e ▸ h
theorem r_eqR {x y : Nat} (e : y = x) (h : Runs E M d Q k pc lv (.ref y :: st) w) : Runs E M d Q k pc lv (.ref x :: st) w := e ▸ h
theorem r_eqL {x y : Int64} (e : y = x) (h : Runs E M d Q k pc lv (.long y :: st) w) : Runs E M d Q k pc lv (.long x :: st) w := e ▸ h
theorem r_eqW {w' : Wd} (e : w' = w) (h : Runs E M d Q k pc lv st w') : Runs E M d Q k pc lv st w := e ▸ h
theorem r_alenI {a : Nat} (hd : decode M.2.1 pc = .ok (.arraylength, 1)) (ha : isA w a 0) (h : Runs E M d Q k (pc + 1) lv (.int (Int32.ofNat (wn w a)) :: st) w) : Runs E M d Q k pc lv (.ref a :: st) w := by
  intro p ev s m args below meth c A H locs ls hf hw hl
  have e := ws_at (E := E) ha.1
  rw [cE_0 ha.2] at e
  exact va_alen hf.1 hf.2.1 hf.2.2.2.2.2.2.2.2.1 hw.1 a 0 e (tys_0 E) rfl hd (h p ev s m args below meth c A H locs ls hf hw hl)
theorem r_alenL {a : Nat} (hd : decode M.2.1 pc = .ok (.arraylength, 1)) (ha : isA w a 1) (h : Runs E M d Q k (pc + 1) lv (.int (Int32.ofNat (wn w a)) :: st) w) : Runs E M d Q k pc lv (.ref a :: st) w := by
  intro p ev s m args below meth c A H locs ls hf hw hl
  have e := ws_at (E := E) ha.1
  rw [cE_1 ha.2] at e
  exact va_alen hf.1 hf.2.1 hf.2.2.2.2.2.2.2.2.1 hw.1 a 1 e (tys_1 E) rfl hd (h p ev s m args below meth c A H locs ls hf hw hl)
theorem r_callT {M' : Mi} {d' : Nat × Nat × Bool} {Q1 : Option Value → Wd → Prop} {idx n i : Nat} {As stk : List Value} (hi : i < 16) (hmd : MDv M' n) (hlk : Cond.methodLink M.1.cls idx M'.1 ∈ gtbl) (hC : "java/lang/String" = M'.1.cls) (hn : As.length = n) (hR : d'.1 + 1 ≤ d.1) (hg : d'.2.2 = d.2.2) (hk : k + d'.2.1 ≤ d.2.1) (hst : (st.map fun v => v.category).sum ≤ 8) (hstk : stk = As.reverse ++ .ref (1100 + i) :: st) (hd : decode M.2.1 pc = .ok (.invokevirtual idx, 3)) (hM : CT E M' d' (.ref (1100 + i) :: As) w Q1) (h : ∀ r w', Q1 r w' → Runs E M d Q (k + d'.2.1) (pc + 3) lv (r.toList ++ st) w') : Runs E M d Q k pc lv stk w := by
  intro p ev s m args below meth c A H locs ls hf hw hl
  subst hstk
  have hts := hf.2.2.2.2.2.2.2.1
  obtain ⟨⟨hini, hcode, hdesc, hnl⟩, hinst, hsel⟩ := hmd
  have hM := hM H.size
  rw [hg] at hM
  have hrecv := vk_recv (hf.2.2.2.2.2.2.2.2.2.1.2.2.2.1 i hi) Nat.zero_lt_one hw.2.2.1
  rw [hC] at hrecv
  have cb : CallW (rmOf d) s args M.1.cls M'.1.cls idx M'.1 M'.2.1 M'.2.2.1 M'.2.2.2 (.code M'.1 M'.2.1 M'.2.2.1 M'.2.2.2 :: gtbl) (rmOf d') d'.2.1 (d'.2.1 * 1280) n :=
    ⟨callB_of n hts (gt_good hcode) rfl rfl rfl (hts _ hini) (hts _ hlk) hdesc ⟨by show d'.1 + 1 ≤ d.1; exact hR, by show 8 + (M'.2.2.1 + 11) + 32 * d'.1 ≤ 32 * d.1; have := hnl; omega⟩, hts _ hinst, hts _ hsel⟩
  have hr := va_runV (l := E.1) (e := ev) (below := below) (meth := meth) (locs := locs) (cells := k) (slots := k * 1280) (As := As.map (mv E)) (rest := st.map (mv E)) (b := lo E (1100 + i)) (g := F0 m pc ls ((As.reverse ++ .ref (1100 + i) :: st).map (mv E))) ⟨hf.1, hf.2.1, hf.2.2.1, hf.2.2.2.2.2.1, hts⟩ hM cb ⟨PC.blind, hrecv, PC.mk hf hw (.ref (1100 + i) :: As)⟩ rfl (by rw [List.length_map]; exact hn) hl.1 (rev_map E As (1100 + i) st) (lv_room (by rw [st_cat]; exact hst)) hd ⟨by show k + d'.2.1 ≤ d.2.1; exact hk, by show k * 1280 + d'.2.1 * 1280 ≤ d.2.1 * 1280; rw [kmul]; exact Nat.mul_le_mul_right 1280 hk⟩
  exact Runs.call hf.2.2.2.2.2.2.2.2.2.2 hw hr (runs_call h hf hl)
theorem r_mmax {idx : Nat} {x y : Int32} (hd1 : 6 ≤ d.1) (hst : (st.map fun v => v.category).sum ≤ 8) (hlk : Cond.methodLink M.1.cls idx Lib.Math.max.name ∈ gtbl) (hsta : Cond.static Lib.Math.max.name ∈ gtbl) (hini : Cond.initialized "java/lang/Math" ∈ gtbl) (hco : Cond.code Lib.Math.max.name Lib.Math.max.code 2 (some .int) ∈ gtbl) (hk : k ≤ d.2.1) (hd : decode M.2.1 pc = .ok (.invokestatic idx, 3)) (h : Runs E M d Q k (pc + 3) lv (.int (if x < y then y else x) :: st) w) : Runs E M d Q k pc lv (.int y :: .int x :: st) w := by
  intro p ev s m args below meth c A H locs ls hf hw hl
  have hts := hf.2.2.2.2.2.2.2.1
  exact va_mmax hf.1 hf.2.1 (by rw [hf.2.2.1]; exact hl.1.symm) hf.2.2.2.2.2.1 (hts _ hlk) (hts _ hsta) (hts _ hini) (hts _ hco) (by show 1 ≤ d.1; omega) (by show _ + 13 ≤ 32 * d.1; rw [st_cat]; omega) (by show k ≤ d.2.1; exact hk) (by show k * 1280 ≤ d.2.1 * 1280; omega) hd (h p ev s m args below meth c A H locs ls hf hw hl)
theorem r_mmin {idx : Nat} {x y : Int32} (hd1 : 6 ≤ d.1) (hst : (st.map fun v => v.category).sum ≤ 8) (hlk : Cond.methodLink M.1.cls idx Lib.Math.min.name ∈ gtbl) (hsta : Cond.static Lib.Math.min.name ∈ gtbl) (hini : Cond.initialized "java/lang/Math" ∈ gtbl) (hco : Cond.code Lib.Math.min.name Lib.Math.min.code 2 (some .int) ∈ gtbl) (hk : k ≤ d.2.1) (hd : decode M.2.1 pc = .ok (.invokestatic idx, 3)) (h : Runs E M d Q k (pc + 3) lv (.int (if y < x then y else x) :: st) w) : Runs E M d Q k pc lv (.int y :: .int x :: st) w := by
  intro p ev s m args below meth c A H locs ls hf hw hl
  have hts := hf.2.2.2.2.2.2.2.1
  exact va_mmin hf.1 hf.2.1 (by rw [hf.2.2.1]; exact hl.1.symm) hf.2.2.2.2.2.1 (hts _ hlk) (hts _ hsta) (hts _ hini) (hts _ hco) (by show 1 ≤ d.1; omega) (by show _ + 13 ≤ 32 * d.1; rw [st_cat]; omega) (by show k ≤ d.2.1; exact hk) (by show k * 1280 ≤ d.2.1 * 1280; omega) hd (h p ev s m args below meth c A H locs ls hf hw hl)
end WRAP
theorem nb {v : Int32} (h : v = 0 ∨ v = 1) : narrow .boolean (.int v) = .int v := by
  rcases h with rfl | rfl <;> rfl
abbrev isC (v : Int32) : Prop := v.toUInt32.toUInt16.toUInt32.toInt32 = v
theorem nc {v : Int32} (h : isC v) : narrow .char (.int v) = .int v := by
  show Value.int _ = _
  rw [h]
abbrev isB (v : Int32) : Prop := v.toInt8.toInt32 = v
theorem nby {v : Int32} (h : isB v) : narrow .byte (.int v) = .int v := by
  show Value.int _ = _
  rw [h]
theorem lg3 {x y : Int32} {v : Value} (hv : v.category = 1) : (lg_sl [.int x, .int y, v]).length ≤ 3 := by
  have e : lg_sl [.int x, .int y, v] = .val (.int x) :: .val (.int y) :: ((if v.category = 2 then [.val v, .second] else [.val v]) ++ []) := rfl
  rw [e, hv, if_neg (by decide)]
  exact Nat.le_refl 3
