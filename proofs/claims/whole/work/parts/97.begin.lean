/-! the beginning -/
set_option maxRecDepth 100000 in
theorem bg_1 : wI wx0 3 3 = nI 0 ∧ wI wx0 3 4 = nI 0 ∧ wI wm0 0 3 = nI 0 ∧ wI wm0 0 6 = nI 0 ∧ wI wm0 0 13 = wI wx0 3 5 ∧ wI wm0 0 12 = wI wx0 3 6 := by decide +kernel
set_option maxRecDepth 100000 in
theorem bg_2 : wI wx0 0 9 = 0 ∧ wI wm0 0 18 = 0 ∧ wI wx0 0 10 = wI wm0 0 14 ∧ wI wx0 133 0 = nI 0 ∧ wI wm0 0 16 = nI 0 := by decide +kernel
set_option maxRecDepth 100000 in
theorem bg_3 : ∀ s, s < 8 → wI wx0 (135 + 2 * s) 2 = wI wm0 1 s ∧ wI wm0 1 s = -1 := by decide +kernel
set_option maxRecDepth 100000 in
theorem bg_4 : ∀ i, i < 8 → wI wx0 2 i = wI wm0 11 i := by decide +kernel
def C00 (u v : Int32) : Cl := (0, 0, u, v, fun _ => 0, fun _ => 0, fun _ => 0, fun _ => 0, fun _ _ => 0, fun _ _ => 0, fun _ _ => 0)
theorem CI_0 (u v : Int32) : CI (C00 u v) := ⟨⟨Nat.zero_le _, Nat.zero_le _⟩, fun p hp => absurd hp (Nat.not_lt_zero p), fun g hg => absurd hg (Nat.not_lt_zero g)⟩
theorem IsX_0 {w : Wd} {u v : Int32} (h1 : wI w 3 3 = nI 0) (h2 : wI w 3 4 = nI 0) (h3 : wI w 3 5 = u) (h4 : wI w 3 6 = v) : IsX w 3 (C00 u v) := ⟨⟨h1, h2, h3, h4⟩, fun p hp => absurd hp (Nat.not_lt_zero p), fun g hg => absurd hg (Nat.not_lt_zero g)⟩
theorem IsM_0 {w : Wd} {u v : Int32} (h1 : wI w 0 3 = nI 0) (h2 : wI w 0 6 = nI 0) (h3 : wI w 0 13 = u) (h4 : wI w 0 12 = v) : IsM w (C00 u v) := ⟨⟨h1, h2, h3, h4⟩, fun p hp => absurd hp (Nat.not_lt_zero p), fun g hg => absurd hg (Nat.not_lt_zero g)⟩
theorem Rel_of {x m : Wd} {u v : Int32} (hx : ShX x) (hm : ShM m) (hX : IsX x 3 (C00 u v)) (hM : IsM m (C00 u v)) (b : wI x 0 9 = 0 ∧ wI m 0 18 = 0 ∧ wI x 0 10 = wI m 0 14 ∧ wI x 133 0 = nI 0 ∧ wI m 0 16 = nI 0) (c : ∀ s, s < 8 → wI x (135 + 2 * s) 2 = wI m 1 s ∧ wI m 1 s = -1) (d : ∀ i, i < 8 → wI x 2 i = wI m 11 i) : Rel x m :=
  ⟨C00 u v, ⟨hx, hm, CI_0 u v, hX, hM⟩, Or.inl ⟨b.1, b.2.1⟩, fun s h8 => ⟨(c s h8).1, Or.inl (c s h8).2⟩, fun i _ h2 => d i h2, b.2.2.1, 0, by decide, b.2.2.2.1, b.2.2.2.2, fun i h1 => absurd h1 (Nat.not_lt_zero i)⟩
theorem Rel_begin : Rel wx0 wm0 := Rel_of ⟨wx0_N, wx0_hd, fun a ha i hi _ => wx0_rf a ha i hi⟩ ⟨wm0_N, wm0_hd, wm0_rf⟩ (IsX_0 bg_1.1 bg_1.2.1 rfl rfl) (IsM_0 bg_1.2.2.1 bg_1.2.2.2.1 bg_1.2.2.2.2.1 bg_1.2.2.2.2.2) bg_2 bg_3 bg_4
