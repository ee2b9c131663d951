abbrev flG : List Cond := flatC (Jvm.Cond.and given_1 narrow_1)
set_option maxRecDepth 100000 in
theorem gs_arr : ∀ i, i < 5 → Cond.arrayOf (.static (saC i) (saN i) "[I") .int ∈ flG := by decide +kernel
set_option maxRecDepth 100000 in
theorem gs_len : ∀ i, i < 5 → Cond.eq (.length (.static (saC i) (saN i) "[I")) (.int (Int32.ofNat (saV i).length)) ∈ flG := by decide +kernel
set_option maxRecDepth 100000 in
theorem gs_el : ∀ i, i < 5 → ∀ j, j < (saV i).length → Cond.eq (.elem (.static (saC i) (saN i) "[I") (.int (Int32.ofNat j))) (.int ((saV i).getD j 0)) ∈ flG := by decide +kernel
set_option maxRecDepth 100000 in
theorem gs_lay : ∀ i, i < 5 → Cond.laysStatic (saC i) (saN i) "[I" ∈ lw_tbl ∧ Cond.initialized (saC i) ∈ lw_tbl := by decide +kernel
set_option maxRecDepth 100000 in
theorem gs_cs : Cond.eq (.static "java/lang/String" "COMPACT_STRINGS" "Z") (.int 1) ∈ flG ∧ Cond.isRef (.static "jdk/internal/util/Preconditions" "SIOOBE_FORMATTER" "Ljava/util/function/BiFunction;") ∈ flG := by decide +kernel
set_option maxRecDepth 100000 in
theorem gs_cl : (Cond.laysStatic "java/lang/String" "COMPACT_STRINGS" "Z" ∈ lw_tbl ∧ Cond.initialized "java/lang/String" ∈ lw_tbl) ∧ Cond.laysStatic "jdk/internal/util/Preconditions" "SIOOBE_FORMATTER" "Ljava/util/function/BiFunction;" ∈ lw_tbl ∧ Cond.initialized "jdk/internal/util/Preconditions" ∈ lw_tbl := by decide +kernel
abbrev tmS (i : Nat) : Term := .string RX5 (stK i)
abbrev tmV (i : Nat) : Term := .field (tmS i) "java/lang/String" "value" "[B"
set_option maxRecDepth 100000 in
theorem gt_ex : ∀ i, i < 8 → Cond.exactly (tmS i) "java/lang/String" ∈ flG := by decide +kernel
set_option maxRecDepth 100000 in
theorem gt_co : ∀ i, i < 8 → Cond.eq (.field (tmS i) "java/lang/String" "coder" "B") (.int 0) ∈ flG := by decide +kernel
set_option maxRecDepth 100000 in
theorem gt_ar : ∀ i, i < 8 → Cond.arrayOf (tmV i) .byte ∈ flG := by decide +kernel
set_option maxRecDepth 100000 in
theorem gt_le : ∀ i, i < 8 → Cond.eq (.length (tmV i)) (.int (Int32.ofNat (stLs.getD i 0))) ∈ flG := by decide +kernel
set_option maxRecDepth 100000 in
theorem gt_el : ∀ i, i < 8 → ∀ j, j < stLs.getD i 0 → Cond.eq (.elem (tmV i) (.int (Int32.ofNat j))) (.int ((stBs.getD i []).getD j 0)) ∈ flG := by decide +kernel
set_option maxRecDepth 100000 in
theorem gt_ne : ∀ i, i < 8 → ∀ j, j < 8 → i ≠ j → Cond.not (Cond.eq (tmS i) (tmS j)) ∈ flG ∨ Cond.not (Cond.eq (tmS j) (tmS i)) ∈ flG := by decide +kernel
set_option maxRecDepth 100000 in
theorem gt_eq : ∀ k, k < 8 → Cond.eq (tmS k) (.string RX8 (stK (8 + k))) ∈ flG := by decide +kernel
set_option maxRecDepth 100000 in
theorem gt_sr : ∀ i, i < 16 → Cond.stringRef (stO i) (stK i) (stT i) ∈ lw_tbl := by decide +kernel
set_option maxRecDepth 100000 in
theorem gt_nm : ∀ q ∈ nwM, Cond.methodLinkNest q.1 q.2.1 q.2.2 RX7 ∈ lw_tbl := by decide +kernel
set_option maxRecDepth 100000 in
theorem gt_nf : ∀ q ∈ nwF, Cond.fieldLinkNest q.1 q.2.1 RX7 q.2.2 "[I" RX7 ∈ lw_tbl := by decide +kernel
theorem gt_in {w : Cond} (h : w ∈ gtbl) : w ∈ lw_tbl := (List.mem_filter.mp h).1
theorem lo_s (l : Launch) (G : va_G) (cl : Nat → ClassId) (bx : Nat) (sa : Nat → Nat) (i : Nat) : lo (l, G, cl, bx, sa) (1000 + i) = sa i := by
  unfold lo
  rw [if_neg (by omega)]
  show sa (1000 + i - 1000) = sa i
  rw [Nat.add_sub_cancel_left]
theorem len8 : ∀ i, i < 16 → stLs.getD (i % 8) 0 = stLs.getD i 0 ∧ stBs.getD (i % 8) [] = stBs.getD i [] := by decide +kernel
theorem L_sta {s : State} {args : Array Value} (hlw : ∀ w ∈ lw_tbl, w.before args s = true) (hs : ∀ c ∈ flG, c.before args s = true) : ∃ sa : Nat → Nat, ∀ (l : Launch) (G : va_G) (cl : Nat → ClassId) (bx : Nat), ST (l, G, cl, bx, sa) (fun q => s.heap.size ≤ q) s s.heap := by
  have hA : ∀ a : Nat, a < s.heap.size → ¬ (fun q : Nat => s.heap.size ≤ q) a := fun a h q => Nat.not_le.mpr h q
  have hS : ∀ i, ∃ t : Nat, i < 5 → va_Z (saC i) (saN i) "[I" (.ref t) (fun q => s.heap.size ≤ q) s s.heap ∧ va_T .int t (saV i).length (fun j => .int ((saV i).getD j 0)) (fun q => s.heap.size ≤ q) s s.heap := fun i => by
    by_cases hi : i < 5
    · have hl : (saV i).length < 2 ^ 31 := by
        have : ∀ i, i < 5 → (saV i).length < 2 ^ 31 := by decide
        exact this i hi
      obtain ⟨t, ht, hT⟩ := va_Tof (f := fun j => .int ((saV i).getD j 0)) hl (hs _ (gs_arr i hi)) (va_eqt (hs _ (gs_len i hi))) (fun j hj => va_eqt (hs _ (gs_el i hi j hj))) hA
      exact ⟨t, fun _ => ⟨va_Zof (hlw _ (gs_lay i hi).1) (hlw _ (gs_lay i hi).2) ht hA, hT⟩⟩
    · exact ⟨0, fun h => absurd h hi⟩
  obtain ⟨ts, hts⟩ := Classical.axiomOfChoice hS
  obtain ⟨adK, adV, hv, he⟩ := vk_Sof (N := 8) (tm := tmS) (len := stLs) (byt := stBs) (by decide) (fun i hi => hs _ (gt_ex i hi)) (fun i hi => hs _ (gt_co i hi)) (fun i hi => hs _ (gt_ar i hi)) (fun i hi => hs _ (gt_le i hi)) (fun i hi j hj => hs _ (gt_el i hi j hj)) (fun i j hi hj hij => (gt_ne i hi j hj hij).imp (hs _) (hs _)) hA
  have hF : ∃ tf : Nat, va_Z "jdk/internal/util/Preconditions" "SIOOBE_FORMATTER" "Ljava/util/function/BiFunction;" .null (fun q => s.heap.size ≤ q) s s.heap ∨ va_Z "jdk/internal/util/Preconditions" "SIOOBE_FORMATTER" "Ljava/util/function/BiFunction;" (.ref tf) (fun q => s.heap.size ≤ q) s s.heap := by
    rcases va_Zqof (hlw _ gs_cl.2.1) (hlw _ gs_cl.2.2) (hs _ gs_cs.2) hA with h | ⟨t, h⟩
    · exact ⟨0, Or.inl h⟩
    · exact ⟨t, Or.inr h⟩
  obtain ⟨tf, hF⟩ := hF
  refine ⟨fun n => if n < 100 then ts n else if n < 200 then adK ((n - 100) % 8) else if n < 300 then adV ((n - 200) % 8) else tf, fun l G cl bx => ?_⟩
  generalize hsa : (fun n => if n < 100 then ts n else if n < 200 then adK ((n - 100) % 8) else if n < 300 then adV ((n - 200) % 8) else tf) = sa
  have e1 : ∀ i, i < 5 → lo (l, G, cl, bx, sa) (1000 + i) = ts i := fun i hi => by
    rw [lo_s, ← hsa]
    exact if_pos (by omega)
  have e2 : ∀ i, i < 16 → lo (l, G, cl, bx, sa) (1100 + i) = adK (i % 8) := fun i hi => by
    rw [show 1100 + i = 1000 + (100 + i) by omega, lo_s, ← hsa]
    show (if 100 + i < 100 then ts (100 + i) else if 100 + i < 200 then adK ((100 + i - 100) % 8) else if 100 + i < 300 then adV ((100 + i - 200) % 8) else tf) = adK (i % 8)
    rw [if_neg (by omega), if_pos (by omega), Nat.add_sub_cancel_left]
  have e3 : ∀ i, i < 16 → lo (l, G, cl, bx, sa) (1200 + i) = adV (i % 8) := fun i hi => by
    rw [show 1200 + i = 1000 + (200 + i) by omega, lo_s, ← hsa]
    show (if 200 + i < 100 then ts (200 + i) else if 200 + i < 200 then adK ((200 + i - 100) % 8) else if 200 + i < 300 then adV ((200 + i - 200) % 8) else tf) = adV (i % 8)
    rw [if_neg (by omega), if_neg (by omega), if_pos (by omega), Nat.add_sub_cancel_left]
  have e4 : lo (l, G, cl, bx, sa) 1300 = tf := by
    rw [show 1300 = 1000 + 300 by decide, lo_s, ← hsa]
    rfl
  refine ⟨fun i hi => ?_, va_Zof (hlw _ gs_cl.1.1) (hlw _ gs_cl.1.2) (va_eqi (hs _ gs_cs.1)) hA, ?_, fun i hi => ?_, fun i hi => ?_, fun q hq => va_Nw.of rfl (hlw _ (gt_nm q hq)), fun q hq => va_Nw.of rfl (hlw _ (gt_nf q hq)), va_AO.of (hlw _ kao_2), va_AO.of (hlw _ kao_4), va_AO.of (hlw _ kao_6)⟩
  · rw [e1 i hi]
    exact hts i hi
  · rw [e4]
    exact hF
  · rw [e2 i hi, e3 i hi]
    obtain ⟨v1, v2, v3, v4⟩ := hv.1 (i % 8) (by omega)
    rw [(len8 i hi).1, (len8 i hi).2] at v4
    refine ⟨fun k hk => ?_, fun a b ha hb _ => by omega⟩
    obtain rfl : k = 0 := by omega
    exact ⟨v1, v2, v3, v4⟩
  · rw [e2 i hi]
    refine vk_R.of (hlw _ (gt_sr i hi)) ?_
    have h8 := he (i % 8) (by omega)
    by_cases c : i < 8
    · rw [show stO i = RX5 from if_pos c]
      rw [Nat.mod_eq_of_lt c] at h8 ⊢
      exact h8
    · rw [show stO i = RX8 from if_neg c]
      have hk : 8 + i % 8 = i := by omega
      have := va_eqR (hs _ (gt_eq (i % 8) (by omega))) h8
      rw [hk] at this
      exact this
