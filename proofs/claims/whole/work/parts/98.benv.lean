/-! what the tables and the start say, as my own facts of the machine -/
theorem arrT {s : State} {cA comp : ClassId} {kA : Class} {ty : FieldType} (h2 : s.vm.classes[cA]? = some kA) (h3 : kA.kind = .array comp ty) : ArrOfT s cA ty := fun n z => ⟨fun k h => (by cases h), kA, h2, comp, h3⟩
theorem ki_7 : Cond.instantiable RX7 11 ∈ gtbl := gt_mem 84 (by decide +kernel) (by decide +kernel)
theorem ki_8 : Cond.instantiable RX8 27 ∈ gtbl := gt_mem 972 (by decide +kernel) (by decide +kernel)
theorem kao_2 : Cond.arrayOver (.object RX2) ∈ lw_tbl := List.mem_of_getElem? (i := 102) (by decide +kernel)
theorem kao_4 : Cond.arrayOver (.object RX4) ∈ lw_tbl := List.mem_of_getElem? (i := 100) (by decide +kernel)
theorem kao_6 : Cond.arrayOver (.object RX6) ∈ lw_tbl := List.mem_of_getElem? (i := 92) (by decide +kernel)
theorem L_kn {s : State} {args : Array Value} (hts : ∀ w ∈ gtbl, w.before args s = true) (c : Nat) : ∃ g : ClassId × (Nat → Nat), ∀ q, vwCl[c]? = some q → u_Kn s q.1 q.2.1 q.2.2 g.1 g.2 := by
  by_cases h : c < 9
  · have key : ∀ ci, ci < 9 → ckw ci → (Cond.instantiable (cC ci) (fT ci).length) ∈ gtbl → ∃ g : ClassId × (Nat → Nat), ∀ q, vwCl[ci]? = some q → u_Kn s q.1 q.2.1 q.2.2 g.1 g.2 := fun ci h9 hw hi => by
      obtain ⟨cK, iS, hk⟩ := u_known (C := cC ci) (T := cT ci) (N := (fT ci).length) hts hw (hts _ hi)
      refine ⟨(cK, iS), fun q hq => ?_⟩
      rw [ck_at h9] at hq
      cases hq
      exact hk
    rcases n9 h with rfl | rfl | rfl | rfl | rfl | rfl | rfl | rfl | rfl
    · exact key 0 (by decide) kw_0 tinst_0
    · exact key 1 (by decide) kw_1 tinst_1
    · exact key 2 (by decide) kw_2 tinst_2
    · exact key 3 (by decide) kw_3 tinst_3
    · exact key 4 (by decide) kw_4 tinst_4
    · exact key 5 (by decide) kw_5 tinst_5
    · exact key 6 (by decide) kw_6 tinst_6
    · exact key 7 (by decide) kw_7 ki_7
    · exact key 8 (by decide) kw_8 ki_8
  · refine ⟨(default, fun _ => 0), fun q hq => ?_⟩
    have hl : vwCl.length = 9 := rfl
    rw [List.getElem?_eq_none (by omega)] at hq
    cases hq
theorem L_arI {s : State} {args : Array Value} {ty : FieldType} (h : (Cond.arrayClass ty).before args s = true) : ∃ cA, ArrOfT s cA ty ∧ s.vm.findClass ("[" ++ ty.toString) = some cA := by
  obtain ⟨c, k, comp, h1, h2, h3⟩ := Cond.arrayClass_spec (args := args) (first := s) (o := none) (s := s) (idx := []) h
  exact ⟨c, arrT h2 h3, h1⟩
theorem L_arO {s : State} {args : Array Value} {C : String} (h : (Cond.arrayOver (.object C)).before args s = true) : ∃ cA, ArrOfT s cA (.object C) ∧ va_RA s cA (.object C) := by
  obtain ⟨comp, c, k, f1, f2, f3, f4, f5⟩ := Cond.arrayOver_spec (args := args) (first := s) (o := none) (s := s) (idx := []) h
  exact ⟨c, arrT f3 f4, k, comp, f3, f4, f1, f5⟩
theorem L_cls {s : State} {args : Array Value} (hlw : ∀ w ∈ lw_tbl, w.before args s = true) : ∃ (G : va_G) (cl : Nat → ClassId), ∀ (l : Launch) (bx : Nat) (sa : Nat → Nat), va_K G vwCl (tysL (l, G, cl, bx, sa)) s := by
  have hts : ∀ w ∈ gtbl, w.before args s = true := fun w h => hlw w (List.mem_filter.mp h).1
  obtain ⟨g, hg⟩ := Classical.axiomOfChoice (L_kn hts)
  obtain ⟨c0, a0, b0⟩ := L_arI (hts _ tarr0)
  obtain ⟨c1, a1, b1⟩ := L_arI (hts _ tarr1)
  obtain ⟨c2, a2, b2⟩ := L_arO (hlw _ kao_2)
  obtain ⟨c3, a3, b3⟩ := L_arO (hlw _ kao_4)
  obtain ⟨c4, a4, b4⟩ := L_arO (hlw _ kao_6)
  refine ⟨(fun c => (g c).1, fun c => (g c).2), fun k => if k = 0 then c0 else if k = 1 then c1 else if k = 2 then c2 else if k = 3 then c3 else c4, fun l bx sa => ⟨fun c q hq => hg c q hq, fun k q hk => ?_⟩⟩
  match k, hk with
  | 0, hk => cases hk; exact ⟨a0, b0⟩
  | 1, hk => cases hk; exact ⟨a1, b1⟩
  | 2, hk => cases hk; exact ⟨a2, b2⟩
  | 3, hk => cases hk; exact ⟨a3, b3⟩
  | 4, hk => cases hk; exact ⟨a4, b4⟩
  | k + 5, hk =>
    rw [List.getElem?_eq_none (by show 5 ≤ k + 5; omega)] at hk
    cases hk
