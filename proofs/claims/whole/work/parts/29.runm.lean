def fX8_element_b50 (s0 : Int64) (w : Wd) : Option (Int64 × Wd) :=
  some (s0, w)
set_option maxHeartbeats 1000000 in
set_option maxRecDepth 20000 in
theorem okX8_element_b50 {E : Ev} {Q : Option Value → Wd → Prop} {s0 : Int64} {w : Wd} {q : Int64 × Wd} (h : fX8_element_b50 s0 w = some q) (hk : (fun q : Int64 × Wd => Q (some (.long q.1)) q.2) q) : Runs E mX8_element (7, 0, false) Q 0 50 [] [.long s0] w := by
  unfold fX8_element_b50 at h
  rw [← Option.some.inj h] at hk
  exact r_lreturn dX8_element_50 rfl hk
def fX8_element_b49 (w : Wd) : Option (Int64 × Wd) :=
  fX8_element_b50 0 w
set_option maxHeartbeats 1000000 in
set_option maxRecDepth 20000 in
theorem okX8_element_b49 {E : Ev} {Q : Option Value → Wd → Prop} {w : Wd} {q : Int64 × Wd} (h : fX8_element_b49 w = some q) (hk : (fun q : Int64 × Wd => Q (some (.long q.1)) q.2) q) : Runs E mX8_element (7, 0, false) Q 0 49 [] [] w := by
  unfold fX8_element_b49 at h
  refine r_lconst (v := 0) dX8_element_49 (by decide) ?_
  refine r_sub [] [] rfl ?_
  exact okX8_element_b50 h hk
def fX8_element (a0 : Nat) (x1 : Int32) (x2 : Int32) (w : Wd) : Option (Int64 × Wd) :=
  ob (fX8_within x1 0 7 w) (fun q1 => if q1.1 = 0 then (fX8_element_b49 q1.2) else (chk (isO q1.2 a0 8) (ob (fX8_isRow a0 x1 q1.2) (fun q5 => if q5.1 = 0 then (fX8_element_b49 q5.2) else (chk (isO q5.2 a0 8) (ob (wR q5.2 a0 1) (fun o9 => chk (isA q5.2 o9 0) (chk (inb x1 (wn q5.2 o9)) (ob (fX8_within x2 0 ((wI q5.2 o9 (x1).toNatClampNeg) - 1) q5.2) (fun q13 => if q13.1 = 0 then (fX8_element_b49 q13.2) else (chk (isO q13.2 a0 8) (ob (wR q13.2 a0 2) (fun o17 => chk (isA q13.2 o17 1) (chk (inb ((160 * x1) + x2) (wn q13.2 o17)) (fX8_element_b50 (wL q13.2 o17 (((160 * x1) + x2)).toNatClampNeg) q13.2)))))))))))))))
set_option maxHeartbeats 1000000 in
set_option maxRecDepth 20000 in
theorem okX8_element {E : Ev} {Q : Option Value → Wd → Prop} {a0 : Nat} {x1 : Int32} {x2 : Int32} {w : Wd} {q : Int64 × Wd} (h : fX8_element a0 x1 x2 w = some q) (hk : (fun q : Int64 × Wd => Q (some (.long q.1)) q.2) q) : Runs E mX8_element (7, 0, false) Q 0 0 [(0, .ref a0), (1, .int x1), (2, .int x2)] [] w := by
  unfold fX8_element at h
  refine r_iload_n dX8_element_0 1 rfl ?_
  refine r_iconst (v := 0) dX8_element_1 (by decide) ?_
  refine r_bipush (v := 7) dX8_element_2 (by decide) ?_
  obtain ⟨q1, g2, h⟩ := ob_some h
  refine r_callS (d' := (6, 0, false)) (As := [.int x1, .int 0, .int 7]) (st := []) mds_X8_within tm_RX8_79 rfl (by decide) rfl (Nat.le_refl _) (Nat.le_of_ble_eq_true rfl) rfl dX8_element_4 (ctX8_within g2) (k_I0 ?_)
  refine r_if_eq (tgt := 49) dX8_element_7 (by decide) (fun c3 => ?_) (fun c3 => ?_)
  · rw [if_pos c3] at h
    refine r_sub [] [] rfl ?_
    exact okX8_element_b49 h hk
  · rw [if_neg c3] at h
    refine r_aload_n dX8_element_10 0 rfl ?_
    refine r_iload_n dX8_element_11 1 rfl ?_
    obtain ⟨h4, h⟩ := chk_some h
    obtain ⟨q5, g6, h⟩ := ob_some h
    refine r_callV (d' := (6, 0, false)) (As := [.int x1]) (st := []) mdv_X8_isRow tm_RX8_86 (by decide) rfl rfl (by decide) rfl (Nat.le_refl _) (Nat.le_of_ble_eq_true rfl) rfl dX8_element_12 h4 (ctX8_isRow g6) (k_I0 ?_)
    refine r_if_eq (tgt := 49) dX8_element_15 (by decide) (fun c7 => ?_) (fun c7 => ?_)
    · rw [if_pos c7] at h
      refine r_sub [] [] rfl ?_
      exact okX8_element_b49 h hk
    · rw [if_neg c7] at h
      refine r_iload_n dX8_element_18 2 rfl ?_
      refine r_iconst (v := 0) dX8_element_19 (by decide) ?_
      refine r_aload_n dX8_element_20 0 rfl ?_
      obtain ⟨h8, h⟩ := chk_some h
      obtain ⟨o9, g10, h⟩ := ob_some h
      refine r_getR (fl_RX8_13 rfl) rfl dX8_element_21 h8 g10 ?_
      refine r_iload_n dX8_element_24 1 rfl ?_
      obtain ⟨h11, h⟩ := chk_some h
      obtain ⟨h12, h⟩ := chk_some h
      refine r_iaload dX8_element_25 h11 h12 ?_
      refine r_iconst (v := 1) dX8_element_26 (by decide) ?_
      refine r_isub dX8_element_27 ?_
      obtain ⟨q13, g14, h⟩ := ob_some h
      refine r_callS (d' := (6, 0, false)) (As := [.int x2, .int 0, .int ((wI q5.2 o9 (x1).toNatClampNeg) - 1)]) (st := []) mds_X8_within tm_RX8_79 rfl (by decide) rfl (Nat.le_refl _) (Nat.le_of_ble_eq_true rfl) rfl dX8_element_28 (ctX8_within g14) (k_I0 ?_)
      refine r_if_eq (tgt := 49) dX8_element_31 (by decide) (fun c15 => ?_) (fun c15 => ?_)
      · rw [if_pos c15] at h
        refine r_sub [] [] rfl ?_
        exact okX8_element_b49 h hk
      · rw [if_neg c15] at h
        refine r_aload_n dX8_element_34 0 rfl ?_
        obtain ⟨h16, h⟩ := chk_some h
        obtain ⟨o17, g18, h⟩ := ob_some h
        refine r_getR (fl_RX8_16 rfl) rfl dX8_element_35 h16 g18 ?_
        refine r_sipush (v := 160) dX8_element_38 (by decide) ?_
        refine r_iload_n dX8_element_41 1 rfl ?_
        refine r_imul dX8_element_42 ?_
        refine r_iload_n dX8_element_43 2 rfl ?_
        refine r_iadd dX8_element_44 ?_
        obtain ⟨h19, h⟩ := chk_some h
        obtain ⟨h20, h⟩ := chk_some h
        refine r_laload dX8_element_45 h19 h20 ?_
        refine r_goto (tgt := 50) dX8_element_46 (by decide) ?_
        refine r_sub [] [] rfl ?_
        exact okX8_element_b50 h hk
set_option maxHeartbeats 1000000 in
set_option maxRecDepth 20000 in
theorem ctX8_element {E : Ev} {a0 : Nat} {x1 : Int32} {x2 : Int32} {w : Wd} {q : Int64 × Wd} (h : fX8_element a0 x1 x2 w = some q) : CT E mX8_element (7, 0, false) [.ref a0, .int x1, .int x2] w (QL q) := CT.of pl_RX8 (Nat.le_of_ble_eq_true rfl) (okX8_element h ⟨rfl, rfl⟩)
def fX8_fault (a0 : Nat) (w : Wd) : Option (Int32 × Wd) :=
  chk (isO w a0 8) (some ((wI w a0 14), w))
set_option maxHeartbeats 1000000 in
set_option maxRecDepth 20000 in
theorem okX8_fault {E : Ev} {Q : Option Value → Wd → Prop} {a0 : Nat} {w : Wd} {q : Int32 × Wd} (h : fX8_fault a0 w = some q) (hk : (fun q : Int32 × Wd => Q (some (.int q.1)) q.2) q) : Runs E mX8_fault (6, 0, false) Q 0 0 [(0, .ref a0)] [] w := by
  unfold fX8_fault at h
  refine r_aload_n dX8_fault_0 0 rfl ?_
  obtain ⟨h1, h⟩ := chk_some h
  refine r_getI (fl_RX8_69 rfl) rfl dX8_fault_1 h1 ?_
  rw [← Option.some.inj h] at hk
  exact r_ireturn dX8_fault_4 rfl rfl hk
set_option maxHeartbeats 1000000 in
set_option maxRecDepth 20000 in
theorem ctX8_fault {E : Ev} {a0 : Nat} {w : Wd} {q : Int32 × Wd} (h : fX8_fault a0 w = some q) : CT E mX8_fault (6, 0, false) [.ref a0] w (QI q) := CT.of pl_RX8 (Nat.le_of_ble_eq_true rfl) (okX8_fault h ⟨rfl, rfl⟩)
def fX8_noDay_b31 (s0 : Int32) (w : Wd) : Option (Int32 × Wd) :=
  some (s0, w)
set_option maxHeartbeats 1000000 in
set_option maxRecDepth 20000 in
theorem okX8_noDay_b31 {E : Ev} {Q : Option Value → Wd → Prop} {s0 : Int32} {w : Wd} {q : Int32 × Wd} (h : fX8_noDay_b31 s0 w = some q) (hk : (fun q : Int32 × Wd => Q (some (.int q.1)) q.2) q) : Runs E mX8_noDay (8, 0, false) Q 0 31 [] [.int s0] w := by
  unfold fX8_noDay_b31 at h
  rw [← Option.some.inj h] at hk
  exact r_ireturn dX8_noDay_31 rfl rfl hk
def fX8_noDay (a0 : Nat) (x1 : Int32) (w : Wd) : Option (Int32 × Wd) :=
  chk (isO w a0 8) (ob (fX8_noRow a0 x1 w) (fun q2 => if 0 ≤ q2.1 then (chk (isO q2.2 a0 8) (ob (wR q2.2 a0 1) (fun o6 => chk (isA q2.2 o6 0) (chk (inb x1 (wn q2.2 o6)) (if (12 : Int32) ≤ (wI q2.2 o6 (x1).toNatClampNeg) then (fX8_noDay_b31 0 q2.2) else (fX8_noDay_b31 (-5) q2.2)))))) else (fX8_noDay_b31 q2.1 q2.2)))
set_option maxHeartbeats 1000000 in
set_option maxRecDepth 20000 in
theorem okX8_noDay {E : Ev} {Q : Option Value → Wd → Prop} {a0 : Nat} {x1 : Int32} {w : Wd} {q : Int32 × Wd} (h : fX8_noDay a0 x1 w = some q) (hk : (fun q : Int32 × Wd => Q (some (.int q.1)) q.2) q) : Runs E mX8_noDay (8, 0, false) Q 0 0 [(0, .ref a0), (1, .int x1)] [] w := by
  unfold fX8_noDay at h
  refine r_aload_n dX8_noDay_0 0 rfl ?_
  refine r_iload_n dX8_noDay_1 1 rfl ?_
  obtain ⟨h1, h⟩ := chk_some h
  obtain ⟨q2, g3, h⟩ := ob_some h
  refine r_callV (d' := (7, 0, false)) (As := [.int x1]) (st := []) mdv_X8_noRow tm_RX8_90 (by decide) rfl rfl (by decide) rfl (Nat.le_refl _) (Nat.le_of_ble_eq_true rfl) rfl dX8_noDay_2 h1 (ctX8_noRow g3) (k_I0 ?_)
  refine r_istore_n dX8_noDay_5 rfl (Nat.le_of_ble_eq_true rfl) [(2, .int q2.1), (0, .ref a0), (1, .int x1)] rfl ?_
  refine r_iload_n dX8_noDay_6 0 rfl ?_
  refine r_if_ge (tgt := 14) dX8_noDay_7 (by decide) (fun c4 => ?_) (fun c4 => ?_)
  · rw [if_pos c4] at h
    refine r_aload_n dX8_noDay_14 1 rfl ?_
    obtain ⟨h5, h⟩ := chk_some h
    obtain ⟨o6, g7, h⟩ := ob_some h
    refine r_getR (fl_RX8_13 rfl) rfl dX8_noDay_15 h5 g7 ?_
    refine r_iload_n dX8_noDay_18 2 rfl ?_
    obtain ⟨h8, h⟩ := chk_some h
    obtain ⟨h9, h⟩ := chk_some h
    refine r_iaload dX8_noDay_19 h8 h9 ?_
    refine r_bipush (v := 12) dX8_noDay_20 (by decide) ?_
    refine r_icmp_ge (tgt := 30) dX8_noDay_22 (by decide) (fun c10 => ?_) (fun c10 => ?_)
    · rw [if_pos c10] at h
      refine r_iconst (v := 0) dX8_noDay_30 (by decide) ?_
      refine r_sub [] [] rfl ?_
      exact okX8_noDay_b31 h hk
    · rw [if_neg c10] at h
      refine r_bipush (v := (-5)) dX8_noDay_25 (by decide) ?_
      refine r_goto (tgt := 31) dX8_noDay_27 (by decide) ?_
      refine r_sub [] [] rfl ?_
      exact okX8_noDay_b31 h hk
  · rw [if_neg c4] at h
    refine r_iload_n dX8_noDay_10 0 rfl ?_
    refine r_goto (tgt := 31) dX8_noDay_11 (by decide) ?_
    refine r_sub [] [] rfl ?_
    exact okX8_noDay_b31 h hk
set_option maxHeartbeats 1000000 in
set_option maxRecDepth 20000 in
theorem ctX8_noDay {E : Ev} {a0 : Nat} {x1 : Int32} {w : Wd} {q : Int32 × Wd} (h : fX8_noDay a0 x1 w = some q) : CT E mX8_noDay (8, 0, false) [.ref a0, .int x1] w (QI q) := CT.of pl_RX8 (Nat.le_of_ble_eq_true rfl) (okX8_noDay h ⟨rfl, rfl⟩)
def PX8_fits_L21 (E : Ev) (Q : Option Value → Wd → Prop) (a0 : Nat) (x1 : Int32) (s : Int32 × Int32 × Wd) : Prop := Runs E mX8_fits (9, 0, false) Q 0 21 [(0, .ref a0), (1, .int x1), (3, .int s.1), (4, .int s.2.1)] [] s.2.2
def PX8_fits_L36 (E : Ev) (Q : Option Value → Wd → Prop) (a0 : Nat) (x1 : Int32) (x3 : Int32) (x4 : Int32) (s : Int32 × Int32 × Wd) : Prop := Runs E mX8_fits (9, 0, false) Q 0 36 [(0, .ref a0), (1, .int x1), (3, .int x3), (4, .int x4), (5, .int s.1), (6, .int s.2.1)] [] s.2.2
def fX8_fits_b93 (a0 : Nat) (x1 : Int32) (x3 : Int32) (x4 : Int32) (w : Wd) : Option ((Int32 × Int32 × Wd) ⊕ (Int32 × Wd)) :=
  some (.inl (x3, (x4 + 1), w))
set_option maxHeartbeats 1000000 in
set_option maxRecDepth 20000 in
theorem okX8_fits_b93 {E : Ev} {Q : Option Value → Wd → Prop} {a0 : Nat} {x1 : Int32} {x3 : Int32} {x4 : Int32} {w : Wd} {q : (Int32 × Int32 × Wd) ⊕ (Int32 × Wd)} (h : fX8_fits_b93 a0 x1 x3 x4 w = some q) (hk : (Sum.elim (PX8_fits_L21 E Q a0 x1) (fun q : Int32 × Wd => Q (some (.int q.1)) q.2)) q) : Runs E mX8_fits (9, 0, false) Q 0 93 [(0, .ref a0), (1, .int x1), (3, .int x3), (4, .int x4)] [] w := by
  unfold fX8_fits_b93 at h
  refine r_iinc (v := (x4 + 1)) dX8_fits_93 3 rfl rfl (Nat.le_of_ble_eq_true rfl) [(4, .int (x4 + 1)), (0, .ref a0), (1, .int x1), (3, .int x3)] rfl ?_
  refine r_goto (tgt := 21) dX8_fits_96 (by decide) ?_
  rw [← Option.some.inj h] at hk
  refine r_sub [1, 2, 3, 0] [(0, .ref a0), (1, .int x1), (3, .int x3), (4, .int (x4 + 1))] rfl ?_
  exact hk
def fX8_fits_b75 (a0 : Nat) (x1 : Int32) (x3 : Int32) (x4 : Int32) (x5 : Int32) (x6 : Int32) (w : Wd) : Option ((Int32 × Int32 × Wd) ⊕ ((Int32 × Int32 × Wd) ⊕ (Int32 × Wd))) :=
  some (.inl (x5, (x6 + 1), w))
set_option maxHeartbeats 1000000 in
set_option maxRecDepth 20000 in
theorem okX8_fits_b75 {E : Ev} {Q : Option Value → Wd → Prop} {a0 : Nat} {x1 : Int32} {x3 : Int32} {x4 : Int32} {x5 : Int32} {x6 : Int32} {w : Wd} {q : (Int32 × Int32 × Wd) ⊕ ((Int32 × Int32 × Wd) ⊕ (Int32 × Wd))} (h : fX8_fits_b75 a0 x1 x3 x4 x5 x6 w = some q) (hk : (Sum.elim (PX8_fits_L36 E Q a0 x1 x3 x4) (Sum.elim (PX8_fits_L21 E Q a0 x1) (fun q : Int32 × Wd => Q (some (.int q.1)) q.2))) q) : Runs E mX8_fits (9, 0, false) Q 0 75 [(0, .ref a0), (1, .int x1), (3, .int x3), (4, .int x4), (5, .int x5), (6, .int x6)] [] w := by
  unfold fX8_fits_b75 at h
  refine r_iinc (v := (x6 + 1)) dX8_fits_75 5 rfl rfl (Nat.le_of_ble_eq_true rfl) [(6, .int (x6 + 1)), (0, .ref a0), (1, .int x1), (3, .int x3), (4, .int x4), (5, .int x5)] rfl ?_
  refine r_goto (tgt := 36) dX8_fits_78 (by decide) ?_
  rw [← Option.some.inj h] at hk
  refine r_sub [1, 2, 3, 4, 5, 0] [(0, .ref a0), (1, .int x1), (3, .int x3), (4, .int x4), (5, .int x5), (6, .int (x6 + 1))] rfl ?_
  exact hk
def fX8_fits_L36_body (a0 : Nat) (x1 : Int32) (x3 : Int32) (x4 : Int32) (s : Int32 × Int32 × Wd) : Option ((Int32 × Int32 × Wd) ⊕ ((Int32 × Int32 × Wd) ⊕ (Int32 × Wd))) :=
  if (12 : Int32) ≤ s.2.1 then (wr (if s.1 = 0 then (fX8_fits_b93 a0 x1 x3 x4 s.2.2) else (bnd (x3 ||| (1 <<< (x4 &&& 31))) (fun u4 => fX8_fits_b93 a0 x1 u4 x4 s.2.2)))) else (chk (isO s.2.2 a0 8) (ob (fX8_told a0 x1 s.2.1 s.2.2) (fun q7 => if q7.1 = (-1) then (fX8_fits_b75 a0 x1 x3 x4 s.1 s.2.1 q7.2) else (chk (isO q7.2 a0 8) (ob (fX8_told a0 x1 s.2.1 q7.2) (fun q11 => chk (isO q11.2 a0 8) (ob (fX8_doesNow a0 x4 s.2.1 q11.2) (fun q14 => if q11.1 = q14.1 then (fX8_fits_b75 a0 x1 x3 x4 s.1 s.2.1 q14.2) else (fX8_fits_b75 a0 x1 x3 x4 0 s.2.1 q14.2)))))))))
set_option maxHeartbeats 1000000 in
set_option maxRecDepth 20000 in
theorem okX8_fits_L36_body {E : Ev} {Q : Option Value → Wd → Prop} {a0 : Nat} {x1 : Int32} {x3 : Int32} {x4 : Int32} {s : Int32 × Int32 × Wd} {r : (Int32 × Int32 × Wd) ⊕ ((Int32 × Int32 × Wd) ⊕ (Int32 × Wd))} (h : fX8_fits_L36_body a0 x1 x3 x4 s = some r) (hk : (Sum.elim (PX8_fits_L36 E Q a0 x1 x3 x4) (Sum.elim (PX8_fits_L21 E Q a0 x1) (fun q : Int32 × Wd => Q (some (.int q.1)) q.2))) r) : PX8_fits_L36 E Q a0 x1 x3 x4 s := by
  unfold fX8_fits_L36_body at h
  unfold PX8_fits_L36
  refine r_iload dX8_fits_36 5 rfl ?_
  refine r_bipush (v := 12) dX8_fits_38 (by decide) ?_
  refine r_icmp_ge (tgt := 81) dX8_fits_40 (by decide) (fun c1 => ?_) (fun c1 => ?_)
  · rw [if_pos c1] at h
    obtain ⟨r2, hr, h⟩ := wr_some h
    rw [hr] at hk
    refine r_iload dX8_fits_81 4 rfl ?_
    refine r_if_eq (tgt := 93) dX8_fits_83 (by decide) (fun c3 => ?_) (fun c3 => ?_)
    · rw [if_pos c3] at h
      refine r_sub [0, 1, 2, 3] [(0, .ref a0), (1, .int x1), (3, .int x3), (4, .int x4)] rfl ?_
      exact okX8_fits_b93 h hk
    · rw [if_neg c3] at h
      refine r_iload_n dX8_fits_86 2 rfl ?_
      refine r_iconst (v := 1) dX8_fits_87 (by decide) ?_
      refine r_iload dX8_fits_88 3 rfl ?_
      refine r_ishl dX8_fits_90 ?_
      refine r_ior dX8_fits_91 ?_
      obtain ⟨u4, e5, h⟩ := bnd_some h
      refine r_eqI e5 ?_
      refine r_istore_n dX8_fits_92 rfl (Nat.le_of_ble_eq_true rfl) [(3, .int u4), (0, .ref a0), (1, .int x1), (4, .int x4), (5, .int s.1), (6, .int s.2.1)] rfl ?_
      refine r_sub [1, 2, 0, 3] [(0, .ref a0), (1, .int x1), (3, .int u4), (4, .int x4)] rfl ?_
      exact okX8_fits_b93 h hk
  · rw [if_neg c1] at h
    refine r_aload_n dX8_fits_43 0 rfl ?_
    refine r_iload_n dX8_fits_44 1 rfl ?_
    refine r_iload dX8_fits_45 5 rfl ?_
    obtain ⟨h6, h⟩ := chk_some h
    obtain ⟨q7, g8, h⟩ := ob_some h
    refine r_callV (d' := (6, 0, false)) (As := [.int x1, .int s.2.1]) (st := []) mdv_X8_told tm_RX8_248 (by decide) rfl rfl (by decide) rfl (Nat.le_refl _) (Nat.le_of_ble_eq_true rfl) rfl dX8_fits_47 h6 (ctX8_told g8) (k_I0 ?_)
    refine r_iconst (v := (-1)) dX8_fits_50 (by decide) ?_
    refine r_icmp_eq (tgt := 75) dX8_fits_51 (by decide) (fun c9 => ?_) (fun c9 => ?_)
    · rw [if_pos c9] at h
      refine r_sub [0, 1, 2, 3, 4, 5] [(0, .ref a0), (1, .int x1), (3, .int x3), (4, .int x4), (5, .int s.1), (6, .int s.2.1)] rfl ?_
      exact okX8_fits_b75 h hk
    · rw [if_neg c9] at h
      refine r_aload_n dX8_fits_54 0 rfl ?_
      refine r_iload_n dX8_fits_55 1 rfl ?_
      refine r_iload dX8_fits_56 5 rfl ?_
      obtain ⟨h10, h⟩ := chk_some h
      obtain ⟨q11, g12, h⟩ := ob_some h
      refine r_callV (d' := (6, 0, false)) (As := [.int x1, .int s.2.1]) (st := []) mdv_X8_told tm_RX8_248 (by decide) rfl rfl (by decide) rfl (Nat.le_refl _) (Nat.le_of_ble_eq_true rfl) rfl dX8_fits_58 h10 (ctX8_told g12) (k_I0 ?_)
      refine r_aload_n dX8_fits_61 0 rfl ?_
      refine r_iload dX8_fits_62 3 rfl ?_
      refine r_iload dX8_fits_64 5 rfl ?_
      obtain ⟨h13, h⟩ := chk_some h
      obtain ⟨q14, g15, h⟩ := ob_some h
      refine r_callV (d' := (8, 0, false)) (As := [.int x4, .int s.2.1]) (st := [.int q11.1]) mdv_X8_doesNow tm_RX8_217 (by decide) rfl rfl (by decide) rfl (Nat.le_refl _) (Nat.le_of_ble_eq_true rfl) rfl dX8_fits_66 h13 (ctX8_doesNow g15) (k_I0 ?_)
      refine r_icmp_eq (tgt := 75) dX8_fits_69 (by decide) (fun c16 => ?_) (fun c16 => ?_)
      · rw [if_pos c16] at h
        refine r_sub [0, 1, 2, 3, 4, 5] [(0, .ref a0), (1, .int x1), (3, .int x3), (4, .int x4), (5, .int s.1), (6, .int s.2.1)] rfl ?_
        exact okX8_fits_b75 h hk
      · rw [if_neg c16] at h
        refine r_iconst (v := 0) dX8_fits_72 (by decide) ?_
        refine r_istore dX8_fits_73 (Nat.le_of_ble_eq_true rfl) [(5, .int 0), (0, .ref a0), (1, .int x1), (3, .int x3), (4, .int x4), (6, .int s.2.1)] rfl ?_
        refine r_sub [1, 2, 3, 4, 0, 5] [(0, .ref a0), (1, .int x1), (3, .int x3), (4, .int x4), (5, .int 0), (6, .int s.2.1)] rfl ?_
        exact okX8_fits_b75 h hk
def fX8_fits_L36 (a0 : Nat) (x1 : Int32) (x3 : Int32) (x4 : Int32) (s : Int32 × Int32 × Wd) : Option ((Int32 × Int32 × Wd) ⊕ (Int32 × Wd)) := it (fX8_fits_L36_body a0 x1 x3 x4) FU s
set_option maxHeartbeats 1000000 in
set_option maxRecDepth 20000 in
theorem okX8_fits_L36 {E : Ev} {Q : Option Value → Wd → Prop} {a0 : Nat} {x1 : Int32} {x3 : Int32} {x4 : Int32} {s : Int32 × Int32 × Wd} {r : (Int32 × Int32 × Wd) ⊕ (Int32 × Wd)} (h : fX8_fits_L36 a0 x1 x3 x4 s = some r) (hk : (Sum.elim (PX8_fits_L21 E Q a0 x1) (fun q : Int32 × Wd => Q (some (.int q.1)) q.2)) r) : PX8_fits_L36 E Q a0 x1 x3 x4 s := it_runs (fun s r h hk => okX8_fits_L36_body h hk) FU s r h hk
def fX8_fits_L21_body (a0 : Nat) (x1 : Int32) (s : Int32 × Int32 × Wd) : Option ((Int32 × Int32 × Wd) ⊕ (Int32 × Wd)) :=
  chk (isO s.2.2 a0 8) (if (wI s.2.2 a0 3) ≤ s.2.1 then (wr (some (s.1, s.2.2))) else (fX8_fits_L36 a0 x1 s.1 s.2.1 (1, 0, s.2.2)))
set_option maxHeartbeats 1000000 in
set_option maxRecDepth 20000 in
theorem okX8_fits_L21_body {E : Ev} {Q : Option Value → Wd → Prop} {a0 : Nat} {x1 : Int32} {s : Int32 × Int32 × Wd} {r : (Int32 × Int32 × Wd) ⊕ (Int32 × Wd)} (h : fX8_fits_L21_body a0 x1 s = some r) (hk : (Sum.elim (PX8_fits_L21 E Q a0 x1) (fun q : Int32 × Wd => Q (some (.int q.1)) q.2)) r) : PX8_fits_L21 E Q a0 x1 s := by
  unfold fX8_fits_L21_body at h
  unfold PX8_fits_L21
  refine r_iload dX8_fits_21 3 rfl ?_
  refine r_aload_n dX8_fits_23 0 rfl ?_
  obtain ⟨h1, h⟩ := chk_some h
  refine r_getI (fl_RX8_83 rfl) rfl dX8_fits_24 h1 ?_
  refine r_icmp_ge (tgt := 99) dX8_fits_27 (by decide) (fun c2 => ?_) (fun c2 => ?_)
  · rw [if_pos c2] at h
    obtain ⟨r3, hr, h⟩ := wr_some h
    rw [hr] at hk
    refine r_iload_n dX8_fits_99 2 rfl ?_
    rw [← Option.some.inj h] at hk
    exact r_ireturn dX8_fits_100 rfl rfl hk
  · rw [if_neg c2] at h
    refine r_iconst (v := 1) dX8_fits_30 (by decide) ?_
    refine r_istore dX8_fits_31 (Nat.le_of_ble_eq_true rfl) [(5, .int 1), (0, .ref a0), (1, .int x1), (3, .int s.1), (4, .int s.2.1)] rfl ?_
    refine r_iconst (v := 0) dX8_fits_33 (by decide) ?_
    refine r_istore dX8_fits_34 (Nat.le_of_ble_eq_true rfl) [(6, .int 0), (5, .int 1), (0, .ref a0), (1, .int x1), (3, .int s.1), (4, .int s.2.1)] rfl ?_
    refine r_sub [2, 3, 4, 5, 1, 0] [(0, .ref a0), (1, .int x1), (3, .int s.1), (4, .int s.2.1), (5, .int 1), (6, .int 0)] rfl ?_
    exact okX8_fits_L36 h hk
def fX8_fits_L21 (a0 : Nat) (x1 : Int32) (s : Int32 × Int32 × Wd) : Option (Int32 × Wd) := it (fX8_fits_L21_body a0 x1) FU s
set_option maxHeartbeats 1000000 in
set_option maxRecDepth 20000 in
theorem okX8_fits_L21 {E : Ev} {Q : Option Value → Wd → Prop} {a0 : Nat} {x1 : Int32} {s : Int32 × Int32 × Wd} {r : Int32 × Wd} (h : fX8_fits_L21 a0 x1 s = some r) (hk : (fun q : Int32 × Wd => Q (some (.int q.1)) q.2) r) : PX8_fits_L21 E Q a0 x1 s := it_runs (fun s r h hk => okX8_fits_L21_body h hk) FU s r h hk
def fX8_fits (a0 : Nat) (x1 : Int32) (w : Wd) : Option (Int32 × Wd) :=
  chk (isO w a0 8) (ob (fX8_noDay a0 x1 w) (fun q2 => if 0 ≤ q2.1 then (fX8_fits_L21 a0 x1 (0, 0, q2.2)) else (chk (isO q2.2 a0 8) (ob (fX8_no a0 q2.1 q2.2) (fun q6 => some (q6.1, q6.2))))))
set_option maxHeartbeats 1000000 in
set_option maxRecDepth 20000 in
theorem okX8_fits {E : Ev} {Q : Option Value → Wd → Prop} {a0 : Nat} {x1 : Int32} {w : Wd} {q : Int32 × Wd} (h : fX8_fits a0 x1 w = some q) (hk : (fun q : Int32 × Wd => Q (some (.int q.1)) q.2) q) : Runs E mX8_fits (9, 0, false) Q 0 0 [(0, .ref a0), (1, .int x1)] [] w := by
  unfold fX8_fits at h
  refine r_aload_n dX8_fits_0 0 rfl ?_
  refine r_iload_n dX8_fits_1 1 rfl ?_
  obtain ⟨h1, h⟩ := chk_some h
  obtain ⟨q2, g3, h⟩ := ob_some h
  refine r_callV (d' := (8, 0, false)) (As := [.int x1]) (st := []) mdv_X8_noDay tm_RX8_245 (by decide) rfl rfl (by decide) rfl (Nat.le_refl _) (Nat.le_of_ble_eq_true rfl) rfl dX8_fits_2 h1 (ctX8_noDay g3) (k_I0 ?_)
  refine r_istore_n dX8_fits_5 rfl (Nat.le_of_ble_eq_true rfl) [(2, .int q2.1), (0, .ref a0), (1, .int x1)] rfl ?_
  refine r_iload_n dX8_fits_6 0 rfl ?_
  refine r_if_ge (tgt := 16) dX8_fits_7 (by decide) (fun c4 => ?_) (fun c4 => ?_)
  · rw [if_pos c4] at h
    refine r_iconst (v := 0) dX8_fits_16 (by decide) ?_
    refine r_istore_n dX8_fits_17 rfl (Nat.le_of_ble_eq_true rfl) [(3, .int 0), (2, .int q2.1), (0, .ref a0), (1, .int x1)] rfl ?_
    refine r_iconst (v := 0) dX8_fits_18 (by decide) ?_
    refine r_istore dX8_fits_19 (Nat.le_of_ble_eq_true rfl) [(4, .int 0), (3, .int 0), (2, .int q2.1), (0, .ref a0), (1, .int x1)] rfl ?_
    refine r_sub [3, 4, 1, 0] [(0, .ref a0), (1, .int x1), (3, .int 0), (4, .int 0)] rfl ?_
    exact okX8_fits_L21 h hk
  · rw [if_neg c4] at h
    refine r_aload_n dX8_fits_10 1 rfl ?_
    refine r_iload_n dX8_fits_11 0 rfl ?_
    obtain ⟨h5, h⟩ := chk_some h
    obtain ⟨q6, g7, h⟩ := ob_some h
    refine r_callV (d' := (6, 0, false)) (As := [.int q2.1]) (st := []) mdv_X8_no tm_RX8_72 (by decide) rfl rfl (by decide) rfl (Nat.le_refl _) (Nat.le_of_ble_eq_true rfl) rfl dX8_fits_12 h5 (ctX8_no g7) (k_I0 ?_)
    rw [← Option.some.inj h] at hk
    exact r_ireturn dX8_fits_15 rfl rfl hk
set_option maxHeartbeats 1000000 in
set_option maxRecDepth 20000 in
theorem ctX8_fits {E : Ev} {a0 : Nat} {x1 : Int32} {w : Wd} {q : Int32 × Wd} (h : fX8_fits a0 x1 w = some q) : CT E mX8_fits (9, 0, false) [.ref a0, .int x1] w (QI q) := CT.of pl_RX8 (Nat.le_of_ble_eq_true rfl) (okX8_fits h ⟨rfl, rfl⟩)
def fX8_isDigit (x0 : Int32) (w : Wd) : Option (Int32 × Wd) :=
  ob (fX8_within x0 0 9 w) (fun q1 => chk (q1.1 = 0 ∨ q1.1 = 1) (some (q1.1, q1.2)))
set_option maxHeartbeats 1000000 in
set_option maxRecDepth 20000 in
theorem okX8_isDigit {E : Ev} {Q : Option Value → Wd → Prop} {x0 : Int32} {w : Wd} {q : Int32 × Wd} (h : fX8_isDigit x0 w = some q) (hk : (fun q : Int32 × Wd => Q (some (.int q.1)) q.2) q) : Runs E mX8_isDigit (7, 0, false) Q 0 0 [(0, .int x0)] [] w := by
  unfold fX8_isDigit at h
  refine r_iload_n dX8_isDigit_0 0 rfl ?_
  refine r_iconst (v := 0) dX8_isDigit_1 (by decide) ?_
  refine r_bipush (v := 9) dX8_isDigit_2 (by decide) ?_
  obtain ⟨q1, g2, h⟩ := ob_some h
  refine r_callS (d' := (6, 0, false)) (As := [.int x0, .int 0, .int 9]) (st := []) mds_X8_within tm_RX8_79 rfl (by decide) rfl (Nat.le_refl _) (Nat.le_of_ble_eq_true rfl) rfl dX8_isDigit_4 (ctX8_within g2) (k_I0 ?_)
  obtain ⟨h3, h⟩ := chk_some h
  rw [← Option.some.inj h] at hk
  exact r_ireturn dX8_isDigit_7 rfl (nb h3) hk
set_option maxHeartbeats 1000000 in
set_option maxRecDepth 20000 in
theorem ctX8_isDigit {E : Ev} {x0 : Int32} {w : Wd} {q : Int32 × Wd} (h : fX8_isDigit x0 w = some q) : CT E mX8_isDigit (7, 0, false) [.int x0] w (QI q) := CT.of pl_RX8 (Nat.le_of_ble_eq_true rfl) (okX8_isDigit h ⟨rfl, rfl⟩)
def PX8_newGarment_L32 (E : Ev) (Q : Option Value → Wd → Prop) (a0 : Nat) (s : Int32 × Wd) : Prop := Runs E mX8_newGarment (6, 0, false) Q 0 32 [(0, .ref a0), (3, .int s.1)] [] s.2
def fX8_newGarment_L32_body (a0 : Nat) (s : Int32 × Wd) : Option ((Int32 × Wd) ⊕ (Int32 × Wd)) :=
  if (12 : Int32) ≤ s.1 then (wr (chk (isO s.2 a0 8) (bnd (sI s.2 a0 6 ((wI s.2 a0 6) + 1)) (fun w4 => some ((wI s.2 a0 6), w4))))) else (chk (isO s.2 a0 8) (ob (wR s.2 a0 10) (fun o7 => chk (isA s.2 o7 0) (chk (inb ((12 * (wI s.2 a0 6)) + s.1) (wn s.2 o7)) (bnd (sI s.2 o7 (((12 * (wI s.2 a0 6)) + s.1)).toNatClampNeg 0) (fun w11 => chk (isO w11 a0 8) (ob (wR w11 a0 11) (fun o14 => chk (isA w11 o14 0) (chk (inb ((12 * (wI w11 a0 6)) + s.1) (wn w11 o14)) (bnd (sI w11 o14 (((12 * (wI w11 a0 6)) + s.1)).toNatClampNeg 0) (fun w18 => some (.inl ((s.1 + 1), w18)))))))))))))
set_option maxHeartbeats 1000000 in
set_option maxRecDepth 20000 in
theorem okX8_newGarment_L32_body {E : Ev} {Q : Option Value → Wd → Prop} {a0 : Nat} {s : Int32 × Wd} {r : (Int32 × Wd) ⊕ (Int32 × Wd)} (h : fX8_newGarment_L32_body a0 s = some r) (hk : (Sum.elim (PX8_newGarment_L32 E Q a0) (fun q : Int32 × Wd => Q (some (.int q.1)) q.2)) r) : PX8_newGarment_L32 E Q a0 s := by
  unfold fX8_newGarment_L32_body at h
  unfold PX8_newGarment_L32
  refine r_iload_n dX8_newGarment_32 1 rfl ?_
  refine r_bipush (v := 12) dX8_newGarment_33 (by decide) ?_
  refine r_icmp_ge (tgt := 74) dX8_newGarment_35 (by decide) (fun c1 => ?_) (fun c1 => ?_)
  · rw [if_pos c1] at h
    obtain ⟨r2, hr, h⟩ := wr_some h
    rw [hr] at hk
    refine r_aload_n dX8_newGarment_74 0 rfl ?_
    refine r_dup dX8_newGarment_75 rfl ?_
    obtain ⟨h3, h⟩ := chk_some h
    refine r_getI (fl_RX8_76 rfl) rfl dX8_newGarment_76 h3 ?_
    refine r_dup_x1 dX8_newGarment_79 rfl rfl ?_
    refine r_iconst (v := 1) dX8_newGarment_80 (by decide) ?_
    refine r_iadd dX8_newGarment_81 ?_
    obtain ⟨w4, e5, h⟩ := bnd_some h
    refine r_putI (fl_RX8_76 rfl) rfl rfl (ck_ty (by decide) 6 (by decide)) rfl rfl dX8_newGarment_82 h3 ?_
    refine r_eqW e5 ?_
    rw [← Option.some.inj h] at hk
    exact r_ireturn dX8_newGarment_85 rfl rfl hk
  · rw [if_neg c1] at h
    refine r_aload_n dX8_newGarment_38 0 rfl ?_
    obtain ⟨h6, h⟩ := chk_some h
    obtain ⟨o7, g8, h⟩ := ob_some h
    refine r_getR (fl_RX8_35 rfl) rfl dX8_newGarment_39 h6 g8 ?_
    refine r_bipush (v := 12) dX8_newGarment_42 (by decide) ?_
    refine r_aload_n dX8_newGarment_44 0 rfl ?_
    refine r_getI (fl_RX8_76 rfl) rfl dX8_newGarment_45 h6 ?_
    refine r_imul dX8_newGarment_48 ?_
    refine r_iload_n dX8_newGarment_49 1 rfl ?_
    refine r_iadd dX8_newGarment_50 ?_
    refine r_iconst (v := 0) dX8_newGarment_51 (by decide) ?_
    obtain ⟨h9, h⟩ := chk_some h
    obtain ⟨h10, h⟩ := chk_some h
    obtain ⟨w11, e12, h⟩ := bnd_some h
    refine r_iastore dX8_newGarment_52 h9 h10 ?_
    refine r_eqW e12 ?_
    refine r_aload_n dX8_newGarment_53 0 rfl ?_
    obtain ⟨h13, h⟩ := chk_some h
    obtain ⟨o14, g15, h⟩ := ob_some h
    refine r_getR (fl_RX8_38 rfl) rfl dX8_newGarment_54 h13 g15 ?_
    refine r_bipush (v := 12) dX8_newGarment_57 (by decide) ?_
    refine r_aload_n dX8_newGarment_59 0 rfl ?_
    refine r_getI (fl_RX8_76 rfl) rfl dX8_newGarment_60 h13 ?_
    refine r_imul dX8_newGarment_63 ?_
    refine r_iload_n dX8_newGarment_64 1 rfl ?_
    refine r_iadd dX8_newGarment_65 ?_
    refine r_iconst (v := 0) dX8_newGarment_66 (by decide) ?_
    obtain ⟨h16, h⟩ := chk_some h
    obtain ⟨h17, h⟩ := chk_some h
    obtain ⟨w18, e19, h⟩ := bnd_some h
    refine r_iastore dX8_newGarment_67 h16 h17 ?_
    refine r_eqW e19 ?_
    refine r_iinc (v := (s.1 + 1)) dX8_newGarment_68 1 rfl rfl (Nat.le_of_ble_eq_true rfl) [(3, .int (s.1 + 1)), (0, .ref a0)] rfl ?_
    refine r_goto (tgt := 32) dX8_newGarment_71 (by decide) ?_
    rw [← Option.some.inj h] at hk
    refine r_sub [1, 0] [(0, .ref a0), (3, .int (s.1 + 1))] rfl ?_
    exact hk
def fX8_newGarment_L32 (a0 : Nat) (s : Int32 × Wd) : Option (Int32 × Wd) := it (fX8_newGarment_L32_body a0) FU s
set_option maxHeartbeats 1000000 in
set_option maxRecDepth 20000 in
theorem okX8_newGarment_L32 {E : Ev} {Q : Option Value → Wd → Prop} {a0 : Nat} {s : Int32 × Wd} {r : Int32 × Wd} (h : fX8_newGarment_L32 a0 s = some r) (hk : (fun q : Int32 × Wd => Q (some (.int q.1)) q.2) r) : PX8_newGarment_L32 E Q a0 s := it_runs (fun s r h hk => okX8_newGarment_L32_body h hk) FU s r h hk
def fX8_newGarment (a0 : Nat) (x1 : Int32) (x2 : Int32) (w : Wd) : Option (Int32 × Wd) :=
  chk (isO w a0 8) (ob (wR w a0 7) (fun o2 => chk (isA w o2 0) (chk (inb (wI w a0 6) (wn w o2)) (bnd (sI w o2 ((wI w a0 6)).toNatClampNeg x1) (fun w6 => chk (isO w6 a0 8) (ob (wR w6 a0 8) (fun o9 => chk (isA w6 o9 0) (chk (inb (wI w6 a0 6) (wn w6 o9)) (bnd (sI w6 o9 ((wI w6 a0 6)).toNatClampNeg x2) (fun w13 => chk (isO w13 a0 8) (ob (wR w13 a0 9) (fun o16 => chk (isA w13 o16 0) (chk (inb (wI w13 a0 6) (wn w13 o16)) (bnd (sI w13 o16 ((wI w13 a0 6)).toNatClampNeg (-1)) (fun w20 => fX8_newGarment_L32 a0 (0, w20))))))))))))))))
set_option maxHeartbeats 1000000 in
set_option maxRecDepth 20000 in
theorem okX8_newGarment {E : Ev} {Q : Option Value → Wd → Prop} {a0 : Nat} {x1 : Int32} {x2 : Int32} {w : Wd} {q : Int32 × Wd} (h : fX8_newGarment a0 x1 x2 w = some q) (hk : (fun q : Int32 × Wd => Q (some (.int q.1)) q.2) q) : Runs E mX8_newGarment (6, 0, false) Q 0 0 [(0, .ref a0), (1, .int x1), (2, .int x2)] [] w := by
  unfold fX8_newGarment at h
  refine r_aload_n dX8_newGarment_0 0 rfl ?_
  obtain ⟨h1, h⟩ := chk_some h
  obtain ⟨o2, g3, h⟩ := ob_some h
  refine r_getR (fl_RX8_26 rfl) rfl dX8_newGarment_1 h1 g3 ?_
  refine r_aload_n dX8_newGarment_4 0 rfl ?_
  refine r_getI (fl_RX8_76 rfl) rfl dX8_newGarment_5 h1 ?_
  refine r_iload_n dX8_newGarment_8 1 rfl ?_
  obtain ⟨h4, h⟩ := chk_some h
  obtain ⟨h5, h⟩ := chk_some h
  obtain ⟨w6, e7, h⟩ := bnd_some h
  refine r_iastore dX8_newGarment_9 h4 h5 ?_
  refine r_eqW e7 ?_
  refine r_aload_n dX8_newGarment_10 0 rfl ?_
  obtain ⟨h8, h⟩ := chk_some h
  obtain ⟨o9, g10, h⟩ := ob_some h
  refine r_getR (fl_RX8_29 rfl) rfl dX8_newGarment_11 h8 g10 ?_
  refine r_aload_n dX8_newGarment_14 0 rfl ?_
  refine r_getI (fl_RX8_76 rfl) rfl dX8_newGarment_15 h8 ?_
  refine r_iload_n dX8_newGarment_18 2 rfl ?_
  obtain ⟨h11, h⟩ := chk_some h
  obtain ⟨h12, h⟩ := chk_some h
  obtain ⟨w13, e14, h⟩ := bnd_some h
  refine r_iastore dX8_newGarment_19 h11 h12 ?_
  refine r_eqW e14 ?_
  refine r_aload_n dX8_newGarment_20 0 rfl ?_
  obtain ⟨h15, h⟩ := chk_some h
  obtain ⟨o16, g17, h⟩ := ob_some h
  refine r_getR (fl_RX8_32 rfl) rfl dX8_newGarment_21 h15 g17 ?_
  refine r_aload_n dX8_newGarment_24 0 rfl ?_
  refine r_getI (fl_RX8_76 rfl) rfl dX8_newGarment_25 h15 ?_
  refine r_iconst (v := (-1)) dX8_newGarment_28 (by decide) ?_
  obtain ⟨h18, h⟩ := chk_some h
  obtain ⟨h19, h⟩ := chk_some h
  obtain ⟨w20, e21, h⟩ := bnd_some h
  refine r_iastore dX8_newGarment_29 h18 h19 ?_
  refine r_eqW e21 ?_
  refine r_iconst (v := 0) dX8_newGarment_30 (by decide) ?_
  refine r_istore_n dX8_newGarment_31 rfl (Nat.le_of_ble_eq_true rfl) [(3, .int 0), (0, .ref a0), (1, .int x1), (2, .int x2)] rfl ?_
  refine r_sub [1, 0] [(0, .ref a0), (3, .int 0)] rfl ?_
  exact okX8_newGarment_L32 h hk
set_option maxHeartbeats 1000000 in
set_option maxRecDepth 20000 in
theorem ctX8_newGarment {E : Ev} {a0 : Nat} {x1 : Int32} {x2 : Int32} {w : Wd} {q : Int32 × Wd} (h : fX8_newGarment a0 x1 x2 w = some q) : CT E mX8_newGarment (6, 0, false) [.ref a0, .int x1, .int x2] w (QI q) := CT.of pl_RX8 (Nat.le_of_ble_eq_true rfl) (okX8_newGarment h ⟨rfl, rfl⟩)
def fX8_garment_b54 (s0 : Int32) (w : Wd) : Option (Int32 × Wd) :=
  some (s0, w)
set_option maxHeartbeats 1000000 in
set_option maxRecDepth 20000 in
theorem okX8_garment_b54 {E : Ev} {Q : Option Value → Wd → Prop} {s0 : Int32} {w : Wd} {q : Int32 × Wd} (h : fX8_garment_b54 s0 w = some q) (hk : (fun q : Int32 × Wd => Q (some (.int q.1)) q.2) q) : Runs E mX8_garment (8, 0, false) Q 0 54 [] [.int s0] w := by
  unfold fX8_garment_b54 at h
  rw [← Option.some.inj h] at hk
  exact r_ireturn dX8_garment_54 rfl rfl hk
def fX8_garment (a0 : Nat) (x1 : Int32) (x2 : Int32) (w : Wd) : Option (Int32 × Wd) :=
  ob (fX8_within x1 0 6 w) (fun q1 => if q1.1 = 0 then (chk (isO q1.2 a0 8) (ob (fX8_no a0 (-1) q1.2) (fun q17 => some (q17.1, q17.2)))) else (ob (fX8_isDigit x2 q1.2) (fun q4 => if q4.1 = 0 then (chk (isO q4.2 a0 8) (ob (fX8_no a0 (-6) q4.2) (fun q14 => some (q14.1, q14.2)))) else (chk (isO q4.2 a0 8) (if (wI q4.2 a0 6) = 8 then (ob (fX8_no a0 (-7) q4.2) (fun q11 => fX8_garment_b54 q11.1 q11.2)) else (ob (fX8_newGarment a0 x1 x2 q4.2) (fun q9 => fX8_garment_b54 q9.1 q9.2)))))))
set_option maxHeartbeats 1000000 in
set_option maxRecDepth 20000 in
theorem okX8_garment {E : Ev} {Q : Option Value → Wd → Prop} {a0 : Nat} {x1 : Int32} {x2 : Int32} {w : Wd} {q : Int32 × Wd} (h : fX8_garment a0 x1 x2 w = some q) (hk : (fun q : Int32 × Wd => Q (some (.int q.1)) q.2) q) : Runs E mX8_garment (8, 0, false) Q 0 0 [(0, .ref a0), (1, .int x1), (2, .int x2)] [] w := by
  unfold fX8_garment at h
  refine r_iload_n dX8_garment_0 1 rfl ?_
  refine r_iconst (v := 0) dX8_garment_1 (by decide) ?_
  refine r_bipush (v := 6) dX8_garment_2 (by decide) ?_
  obtain ⟨q1, g2, h⟩ := ob_some h
  refine r_callS (d' := (6, 0, false)) (As := [.int x1, .int 0, .int 6]) (st := []) mds_X8_within tm_RX8_79 rfl (by decide) rfl (Nat.le_refl _) (Nat.le_of_ble_eq_true rfl) rfl dX8_garment_4 (ctX8_within g2) (k_I0 ?_)
  refine r_if_ne (tgt := 16) dX8_garment_7 (by decide) (fun c3 => ?_) (fun c3 => ?_)
  · rw [if_neg c3] at h
    refine r_iload_n dX8_garment_16 2 rfl ?_
    obtain ⟨q4, g5, h⟩ := ob_some h
    refine r_callS (d' := (7, 0, false)) (As := [.int x2]) (st := []) mds_X8_isDigit tm_RX8_113 rfl (by decide) rfl (Nat.le_refl _) (Nat.le_of_ble_eq_true rfl) rfl dX8_garment_17 (ctX8_isDigit g5) (k_I0 ?_)
    refine r_if_ne (tgt := 30) dX8_garment_20 (by decide) (fun c6 => ?_) (fun c6 => ?_)
    · rw [if_neg c6] at h
      refine r_aload_n dX8_garment_30 0 rfl ?_
      obtain ⟨h7, h⟩ := chk_some h
      refine r_getI (fl_RX8_76 rfl) rfl dX8_garment_31 h7 ?_
      refine r_bipush (v := 8) dX8_garment_34 (by decide) ?_
      refine r_icmp_ne (tgt := 48) dX8_garment_36 (by decide) (fun c8 => ?_) (fun c8 => ?_)
      · rw [if_neg c8] at h
        refine r_aload_n dX8_garment_48 0 rfl ?_
        refine r_iload_n dX8_garment_49 1 rfl ?_
        refine r_iload_n dX8_garment_50 2 rfl ?_
        obtain ⟨q9, g10, h⟩ := ob_some h
        refine r_callV (d' := (6, 0, false)) (As := [.int x1, .int x2]) (st := []) mdv_X8_newGarment tm_RX8_119 (by decide) rfl rfl (by decide) rfl (Nat.le_refl _) (Nat.le_of_ble_eq_true rfl) rfl dX8_garment_51 h7 (ctX8_newGarment g10) (k_I0 ?_)
        refine r_sub [] [] rfl ?_
        exact okX8_garment_b54 h hk
      · rw [if_pos c8] at h
        refine r_aload_n dX8_garment_39 0 rfl ?_
        refine r_bipush (v := (-7)) dX8_garment_40 (by decide) ?_
        obtain ⟨q11, g12, h⟩ := ob_some h
        refine r_callV (d' := (6, 0, false)) (As := [.int (-7)]) (st := []) mdv_X8_no tm_RX8_72 (by decide) rfl rfl (by decide) rfl (Nat.le_refl _) (Nat.le_of_ble_eq_true rfl) rfl dX8_garment_42 h7 (ctX8_no g12) (k_I0 ?_)
        refine r_goto (tgt := 54) dX8_garment_45 (by decide) ?_
        refine r_sub [] [] rfl ?_
        exact okX8_garment_b54 h hk
    · rw [if_pos c6] at h
      refine r_aload_n dX8_garment_23 0 rfl ?_
      refine r_bipush (v := (-6)) dX8_garment_24 (by decide) ?_
      obtain ⟨h13, h⟩ := chk_some h
      obtain ⟨q14, g15, h⟩ := ob_some h
      refine r_callV (d' := (6, 0, false)) (As := [.int (-6)]) (st := []) mdv_X8_no tm_RX8_72 (by decide) rfl rfl (by decide) rfl (Nat.le_refl _) (Nat.le_of_ble_eq_true rfl) rfl dX8_garment_26 h13 (ctX8_no g15) (k_I0 ?_)
      rw [← Option.some.inj h] at hk
      exact r_ireturn dX8_garment_29 rfl rfl hk
  · rw [if_pos c3] at h
    refine r_aload_n dX8_garment_10 0 rfl ?_
    refine r_iconst (v := (-1)) dX8_garment_11 (by decide) ?_
    obtain ⟨h16, h⟩ := chk_some h
    obtain ⟨q17, g18, h⟩ := ob_some h
    refine r_callV (d' := (6, 0, false)) (As := [.int (-1)]) (st := []) mdv_X8_no tm_RX8_72 (by decide) rfl rfl (by decide) rfl (Nat.le_refl _) (Nat.le_of_ble_eq_true rfl) rfl dX8_garment_12 h16 (ctX8_no g18) (k_I0 ?_)
    rw [← Option.some.inj h] at hk
    exact r_ireturn dX8_garment_15 rfl rfl hk
set_option maxHeartbeats 1000000 in
set_option maxRecDepth 20000 in
theorem ctX8_garment {E : Ev} {a0 : Nat} {x1 : Int32} {x2 : Int32} {w : Wd} {q : Int32 × Wd} (h : fX8_garment a0 x1 x2 w = some q) : CT E mX8_garment (8, 0, false) [.ref a0, .int x1, .int x2] w (QI q) := CT.of pl_RX8 (Nat.le_of_ble_eq_true rfl) (okX8_garment h ⟨rfl, rfl⟩)
def fX8_garmentOf (a0 : Nat) (x1 : Int32) (x2 : Int32) (w : Wd) : Option (Int32 × Wd) :=
  chk (isO w a0 8) (ob (fX8_isGarment a0 x1 w) (fun q2 => if q2.1 = 0 then (chk (isO q2.2 a0 8) (ob (fX8_no a0 (-5) q2.2) (fun q49 => some (q49.1, q49.2)))) else (ob (fX8_within x2 10 21 q2.2) (fun q5 => if q5.1 = 0 then (ob (fX8_within x2 30 41 q5.2) (fun q8 => if q8.1 = 0 then (ob (fX8_within x2 50 61 q8.2) (fun q11 => if q11.1 = 0 then (if x2 = 0 then (chk (isO q11.2 a0 8) (ob (wR q11.2 a0 7) (fun o16 => chk (isA q11.2 o16 0) (chk (inb x1 (wn q11.2 o16)) (some ((wI q11.2 o16 (x1).toNatClampNeg), q11.2)))))) else (if x2 = 1 then (chk (isO q11.2 a0 8) (ob (wR q11.2 a0 8) (fun o22 => chk (isA q11.2 o22 0) (chk (inb x1 (wn q11.2 o22)) (some ((wI q11.2 o22 (x1).toNatClampNeg), q11.2)))))) else (if x2 = 2 then (chk (isO q11.2 a0 8) (ob (wR q11.2 a0 9) (fun o28 => chk (isA q11.2 o28 0) (chk (inb x1 (wn q11.2 o28)) (some (((wI q11.2 o28 (x1).toNatClampNeg) + 1), q11.2)))))) else (chk (isO q11.2 a0 8) (ob (fX8_no a0 (-5) q11.2) (fun q33 => some (q33.1, q33.2))))))) else (chk (isO q11.2 a0 8) (ob (fX8_pull a0 x1 (x2 - 50) q11.2) (fun q36 => some (q36.1, q36.2)))))) else (chk (isO q8.2 a0 8) (ob (wR q8.2 a0 11) (fun o39 => chk (isA q8.2 o39 0) (chk (inb (((12 * x1) + x2) - 30) (wn q8.2 o39)) (some ((wI q8.2 o39 ((((12 * x1) + x2) - 30)).toNatClampNeg), q8.2)))))))) else (chk (isO q5.2 a0 8) (ob (wR q5.2 a0 10) (fun o44 => chk (isA q5.2 o44 0) (chk (inb (((12 * x1) + x2) - 10) (wn q5.2 o44)) (some ((wI q5.2 o44 ((((12 * x1) + x2) - 10)).toNatClampNeg), q5.2))))))))))
set_option maxHeartbeats 1000000 in
set_option maxRecDepth 20000 in
theorem okX8_garmentOf {E : Ev} {Q : Option Value → Wd → Prop} {a0 : Nat} {x1 : Int32} {x2 : Int32} {w : Wd} {q : Int32 × Wd} (h : fX8_garmentOf a0 x1 x2 w = some q) (hk : (fun q : Int32 × Wd => Q (some (.int q.1)) q.2) q) : Runs E mX8_garmentOf (8, 0, false) Q 0 0 [(0, .ref a0), (1, .int x1), (2, .int x2)] [] w := by
  unfold fX8_garmentOf at h
  refine r_aload_n dX8_garmentOf_0 0 rfl ?_
  refine r_iload_n dX8_garmentOf_1 1 rfl ?_
  obtain ⟨h1, h⟩ := chk_some h
  obtain ⟨q2, g3, h⟩ := ob_some h
  refine r_callV (d' := (7, 0, false)) (As := [.int x1]) (st := []) mdv_X8_isGarment tm_RX8_93 (by decide) rfl rfl (by decide) rfl (Nat.le_refl _) (Nat.le_of_ble_eq_true rfl) rfl dX8_garmentOf_2 h1 (ctX8_isGarment g3) (k_I0 ?_)
  refine r_if_ne (tgt := 15) dX8_garmentOf_5 (by decide) (fun c4 => ?_) (fun c4 => ?_)
  · rw [if_neg c4] at h
    refine r_iload_n dX8_garmentOf_15 2 rfl ?_
    refine r_bipush (v := 10) dX8_garmentOf_16 (by decide) ?_
    refine r_bipush (v := 21) dX8_garmentOf_18 (by decide) ?_
    obtain ⟨q5, g6, h⟩ := ob_some h
    refine r_callS (d' := (6, 0, false)) (As := [.int x2, .int 10, .int 21]) (st := []) mds_X8_within tm_RX8_79 rfl (by decide) rfl (Nat.le_refl _) (Nat.le_of_ble_eq_true rfl) rfl dX8_garmentOf_20 (ctX8_within g6) (k_I0 ?_)
    refine r_if_eq (tgt := 41) dX8_garmentOf_23 (by decide) (fun c7 => ?_) (fun c7 => ?_)
    · rw [if_pos c7] at h
      refine r_iload_n dX8_garmentOf_41 2 rfl ?_
      refine r_bipush (v := 30) dX8_garmentOf_42 (by decide) ?_
      refine r_bipush (v := 41) dX8_garmentOf_44 (by decide) ?_
      obtain ⟨q8, g9, h⟩ := ob_some h
      refine r_callS (d' := (6, 0, false)) (As := [.int x2, .int 30, .int 41]) (st := []) mds_X8_within tm_RX8_79 rfl (by decide) rfl (Nat.le_refl _) (Nat.le_of_ble_eq_true rfl) rfl dX8_garmentOf_46 (ctX8_within g9) (k_I0 ?_)
      refine r_if_eq (tgt := 67) dX8_garmentOf_49 (by decide) (fun c10 => ?_) (fun c10 => ?_)
      · rw [if_pos c10] at h
        refine r_iload_n dX8_garmentOf_67 2 rfl ?_
        refine r_bipush (v := 50) dX8_garmentOf_68 (by decide) ?_
        refine r_bipush (v := 61) dX8_garmentOf_70 (by decide) ?_
        obtain ⟨q11, g12, h⟩ := ob_some h
        refine r_callS (d' := (6, 0, false)) (As := [.int x2, .int 50, .int 61]) (st := []) mds_X8_within tm_RX8_79 rfl (by decide) rfl (Nat.le_refl _) (Nat.le_of_ble_eq_true rfl) rfl dX8_garmentOf_72 (ctX8_within g12) (k_I0 ?_)
        refine r_if_eq (tgt := 88) dX8_garmentOf_75 (by decide) (fun c13 => ?_) (fun c13 => ?_)
        · rw [if_pos c13] at h
          refine r_iload_n dX8_garmentOf_88 2 rfl ?_
          by_cases c14 : x2 = 0
          · rw [if_pos c14] at h
            refine r_tabIn (tgt := 116) dX8_garmentOf_89 (by rw [c14] <;> decide) (by rw [c14] <;> decide) (by rw [c14] <;> rfl) (by decide) ?_
            refine r_aload_n dX8_garmentOf_116 0 rfl ?_
            obtain ⟨h15, h⟩ := chk_some h
            obtain ⟨o16, g17, h⟩ := ob_some h
            refine r_getR (fl_RX8_26 rfl) rfl dX8_garmentOf_117 h15 g17 ?_
            refine r_iload_n dX8_garmentOf_120 1 rfl ?_
            obtain ⟨h18, h⟩ := chk_some h
            obtain ⟨h19, h⟩ := chk_some h
            refine r_iaload dX8_garmentOf_121 h18 h19 ?_
            rw [← Option.some.inj h] at hk
            exact r_ireturn dX8_garmentOf_122 rfl rfl hk
          rw [if_neg c14] at h
          by_cases c20 : x2 = 1
          · rw [if_pos c20] at h
            refine r_tabIn (tgt := 123) dX8_garmentOf_89 (by rw [c20] <;> decide) (by rw [c20] <;> decide) (by rw [c20] <;> rfl) (by decide) ?_
            refine r_aload_n dX8_garmentOf_123 0 rfl ?_
            obtain ⟨h21, h⟩ := chk_some h
            obtain ⟨o22, g23, h⟩ := ob_some h
            refine r_getR (fl_RX8_29 rfl) rfl dX8_garmentOf_124 h21 g23 ?_
            refine r_iload_n dX8_garmentOf_127 1 rfl ?_
            obtain ⟨h24, h⟩ := chk_some h
            obtain ⟨h25, h⟩ := chk_some h
            refine r_iaload dX8_garmentOf_128 h24 h25 ?_
            rw [← Option.some.inj h] at hk
            exact r_ireturn dX8_garmentOf_129 rfl rfl hk
          rw [if_neg c20] at h
          by_cases c26 : x2 = 2
          · rw [if_pos c26] at h
            refine r_tabIn (tgt := 130) dX8_garmentOf_89 (by rw [c26] <;> decide) (by rw [c26] <;> decide) (by rw [c26] <;> rfl) (by decide) ?_
            refine r_aload_n dX8_garmentOf_130 0 rfl ?_
            obtain ⟨h27, h⟩ := chk_some h
            obtain ⟨o28, g29, h⟩ := ob_some h
            refine r_getR (fl_RX8_32 rfl) rfl dX8_garmentOf_131 h27 g29 ?_
            refine r_iload_n dX8_garmentOf_134 1 rfl ?_
            obtain ⟨h30, h⟩ := chk_some h
            obtain ⟨h31, h⟩ := chk_some h
            refine r_iaload dX8_garmentOf_135 h30 h31 ?_
            refine r_iconst (v := 1) dX8_garmentOf_136 (by decide) ?_
            refine r_iadd dX8_garmentOf_137 ?_
            rw [← Option.some.inj h] at hk
            exact r_ireturn dX8_garmentOf_138 rfl rfl hk
          rw [if_neg c26] at h
          refine r_tabOut (tgt := 139) dX8_garmentOf_89 (by have := lv_neT (k := 0) (a := 0) c14 rfl; have := lv_neT (k := 1) (a := 1) c20 rfl; have := lv_neT (k := 2) (a := 2) c26 rfl; omega) (by decide) ?_
          refine r_aload_n dX8_garmentOf_139 0 rfl ?_
          refine r_bipush (v := (-5)) dX8_garmentOf_140 (by decide) ?_
          obtain ⟨h32, h⟩ := chk_some h
          obtain ⟨q33, g34, h⟩ := ob_some h
          refine r_callV (d' := (6, 0, false)) (As := [.int (-5)]) (st := []) mdv_X8_no tm_RX8_72 (by decide) rfl rfl (by decide) rfl (Nat.le_refl _) (Nat.le_of_ble_eq_true rfl) rfl dX8_garmentOf_142 h32 (ctX8_no g34) (k_I0 ?_)
          rw [← Option.some.inj h] at hk
          exact r_ireturn dX8_garmentOf_145 rfl rfl hk
        · rw [if_neg c13] at h
          refine r_aload_n dX8_garmentOf_78 0 rfl ?_
          refine r_iload_n dX8_garmentOf_79 1 rfl ?_
          refine r_iload_n dX8_garmentOf_80 2 rfl ?_
          refine r_bipush (v := 50) dX8_garmentOf_81 (by decide) ?_
          refine r_isub dX8_garmentOf_83 ?_
          obtain ⟨h35, h⟩ := chk_some h
          obtain ⟨q36, g37, h⟩ := ob_some h
          refine r_callV (d' := (6, 0, false)) (As := [.int x1, .int (x2 - 50)]) (st := []) mdv_X8_pull tm_RX8_135 (by decide) rfl rfl (by decide) rfl (Nat.le_refl _) (Nat.le_of_ble_eq_true rfl) rfl dX8_garmentOf_84 h35 (ctX8_pull g37) (k_I0 ?_)
          rw [← Option.some.inj h] at hk
          exact r_ireturn dX8_garmentOf_87 rfl rfl hk
      · rw [if_neg c10] at h
        refine r_aload_n dX8_garmentOf_52 0 rfl ?_
        obtain ⟨h38, h⟩ := chk_some h
        obtain ⟨o39, g40, h⟩ := ob_some h
        refine r_getR (fl_RX8_38 rfl) rfl dX8_garmentOf_53 h38 g40 ?_
        refine r_bipush (v := 12) dX8_garmentOf_56 (by decide) ?_
        refine r_iload_n dX8_garmentOf_58 1 rfl ?_
        refine r_imul dX8_garmentOf_59 ?_
        refine r_iload_n dX8_garmentOf_60 2 rfl ?_
        refine r_iadd dX8_garmentOf_61 ?_
        refine r_bipush (v := 30) dX8_garmentOf_62 (by decide) ?_
        refine r_isub dX8_garmentOf_64 ?_
        obtain ⟨h41, h⟩ := chk_some h
        obtain ⟨h42, h⟩ := chk_some h
        refine r_iaload dX8_garmentOf_65 h41 h42 ?_
        rw [← Option.some.inj h] at hk
        exact r_ireturn dX8_garmentOf_66 rfl rfl hk
    · rw [if_neg c7] at h
      refine r_aload_n dX8_garmentOf_26 0 rfl ?_
      obtain ⟨h43, h⟩ := chk_some h
      obtain ⟨o44, g45, h⟩ := ob_some h
      refine r_getR (fl_RX8_35 rfl) rfl dX8_garmentOf_27 h43 g45 ?_
      refine r_bipush (v := 12) dX8_garmentOf_30 (by decide) ?_
      refine r_iload_n dX8_garmentOf_32 1 rfl ?_
      refine r_imul dX8_garmentOf_33 ?_
      refine r_iload_n dX8_garmentOf_34 2 rfl ?_
      refine r_iadd dX8_garmentOf_35 ?_
      refine r_bipush (v := 10) dX8_garmentOf_36 (by decide) ?_
      refine r_isub dX8_garmentOf_38 ?_
      obtain ⟨h46, h⟩ := chk_some h
      obtain ⟨h47, h⟩ := chk_some h
      refine r_iaload dX8_garmentOf_39 h46 h47 ?_
      rw [← Option.some.inj h] at hk
      exact r_ireturn dX8_garmentOf_40 rfl rfl hk
  · rw [if_pos c4] at h
    refine r_aload_n dX8_garmentOf_8 0 rfl ?_
    refine r_bipush (v := (-5)) dX8_garmentOf_9 (by decide) ?_
    obtain ⟨h48, h⟩ := chk_some h
    obtain ⟨q49, g50, h⟩ := ob_some h
    refine r_callV (d' := (6, 0, false)) (As := [.int (-5)]) (st := []) mdv_X8_no tm_RX8_72 (by decide) rfl rfl (by decide) rfl (Nat.le_refl _) (Nat.le_of_ble_eq_true rfl) rfl dX8_garmentOf_11 h48 (ctX8_no g50) (k_I0 ?_)
    rw [← Option.some.inj h] at hk
    exact r_ireturn dX8_garmentOf_14 rfl rfl hk
set_option maxHeartbeats 1000000 in
set_option maxRecDepth 20000 in
theorem ctX8_garmentOf {E : Ev} {a0 : Nat} {x1 : Int32} {x2 : Int32} {w : Wd} {q : Int32 × Wd} (h : fX8_garmentOf a0 x1 x2 w = some q) : CT E mX8_garmentOf (8, 0, false) [.ref a0, .int x1, .int x2] w (QI q) := CT.of pl_RX8 (Nat.le_of_ble_eq_true rfl) (okX8_garmentOf h ⟨rfl, rfl⟩)
def fX8_goes_b28 (a0 : Nat) (w : Wd) : Option (Int32 × Wd) :=
  chk (isO w a0 8) (ob (fX8_no a0 (-6) w) (fun q2 => some (q2.1, q2.2)))
set_option maxHeartbeats 1000000 in
set_option maxRecDepth 20000 in
theorem okX8_goes_b28 {E : Ev} {Q : Option Value → Wd → Prop} {a0 : Nat} {w : Wd} {q : Int32 × Wd} (h : fX8_goes_b28 a0 w = some q) (hk : (fun q : Int32 × Wd => Q (some (.int q.1)) q.2) q) : Runs E mX8_goes (11, 0, false) Q 0 28 [(0, .ref a0)] [] w := by
  unfold fX8_goes_b28 at h
  refine r_aload_n dX8_goes_28 0 rfl ?_
  refine r_bipush (v := (-6)) dX8_goes_29 (by decide) ?_
  obtain ⟨h1, h⟩ := chk_some h
  obtain ⟨q2, g3, h⟩ := ob_some h
  refine r_callV (d' := (6, 0, false)) (As := [.int (-6)]) (st := []) mdv_X8_no tm_RX8_72 (by decide) rfl rfl (by decide) rfl (Nat.le_refl _) (Nat.le_of_ble_eq_true rfl) rfl dX8_goes_31 h1 (ctX8_no g3) (k_I0 ?_)
  rw [← Option.some.inj h] at hk
  exact r_ireturn dX8_goes_34 rfl rfl hk
def fX8_goes_b72 (a0 : Nat) (s0 : Int32) (w : Wd) : Option (Int32 × Wd) :=
  chk (isO w a0 8) (ob (wR w a0 21) (fun o2 => ob (fX8_again a0 o2 w) (fun q4 => some (s0, q4))))
set_option maxHeartbeats 1000000 in
set_option maxRecDepth 20000 in
theorem okX8_goes_b72 {E : Ev} {Q : Option Value → Wd → Prop} {a0 : Nat} {s0 : Int32} {w : Wd} {q : Int32 × Wd} (h : fX8_goes_b72 a0 s0 w = some q) (hk : (fun q : Int32 × Wd => Q (some (.int q.1)) q.2) q) : Runs E mX8_goes (11, 0, false) Q 0 72 [(0, .ref a0)] [.int s0] w := by
  unfold fX8_goes_b72 at h
  refine r_istore dX8_goes_72 (Nat.le_of_ble_eq_true rfl) [(4, .int s0), (0, .ref a0)] rfl ?_
  refine r_aload_n dX8_goes_74 1 rfl ?_
  refine r_aload_n dX8_goes_75 1 rfl ?_
  obtain ⟨h1, h⟩ := chk_some h
  obtain ⟨o2, g3, h⟩ := ob_some h
  refine r_getR (fl_RX8_53 rfl) rfl dX8_goes_76 h1 g3 ?_
  obtain ⟨q4, g5, h⟩ := ob_some h
  refine r_callV (d' := (6, 0, false)) (As := [.ref o2]) (st := []) mdv_X8_again tm_RX8_202 (by decide) rfl rfl (by decide) rfl (Nat.le_refl _) (Nat.le_of_ble_eq_true rfl) rfl dX8_goes_79 h1 (ctX8_again g5) (k_V0 ?_)
  refine r_iload dX8_goes_82 0 rfl ?_
  rw [← Option.some.inj h] at hk
  exact r_ireturn dX8_goes_84 rfl rfl hk
def fX8_goes (a0 : Nat) (x1 : Int32) (x2 : Int32) (x3 : Int32) (w : Wd) : Option (Int32 × Wd) :=
  chk (isO w a0 8) (ob (fX8_isGarment a0 x1 w) (fun q2 => if q2.1 = 0 then (chk (isO q2.2 a0 8) (ob (fX8_no a0 (-1) q2.2) (fun q29 => some (q29.1, q29.2)))) else (ob (fX8_isDays x2 q2.2) (fun q5 => if q5.1 = 0 then (fX8_goes_b28 a0 q5.2) else (ob (fX8_isHour x3 q5.2) (fun q8 => if q8.1 = 0 then (fX8_goes_b28 a0 q8.2) else (chk (isO q8.2 a0 8) (ob (wR q8.2 a0 21) (fun o12 => ob (fX8_keep a0 o12 q8.2) (fun q14 => chk (isO q14 a0 8) (ob (fX8_waits a0 x2 q14) (fun q17 => chk (isO q17 a0 8) (ob (fX8_goesNow a0 x1 x3 q17) (fun q20 => if q20.1 = 0 then (fX8_goes_b72 a0 0 q20.2) else (chk (isO q20.2 a0 8) (ob (wR q20.2 a0 10) (fun o24 => chk (isA q20.2 o24 0) (chk (inb ((12 * x1) + x3) (wn q20.2 o24)) (fX8_goes_b72 a0 (wI q20.2 o24 (((12 * x1) + x3)).toNatClampNeg) q20.2)))))))))))))))))))
set_option maxHeartbeats 1000000 in
set_option maxRecDepth 20000 in
theorem okX8_goes {E : Ev} {Q : Option Value → Wd → Prop} {a0 : Nat} {x1 : Int32} {x2 : Int32} {x3 : Int32} {w : Wd} {q : Int32 × Wd} (h : fX8_goes a0 x1 x2 x3 w = some q) (hk : (fun q : Int32 × Wd => Q (some (.int q.1)) q.2) q) : Runs E mX8_goes (11, 0, false) Q 0 0 [(0, .ref a0), (1, .int x1), (2, .int x2), (3, .int x3)] [] w := by
  unfold fX8_goes at h
  refine r_aload_n dX8_goes_0 0 rfl ?_
  refine r_iload_n dX8_goes_1 1 rfl ?_
  obtain ⟨h1, h⟩ := chk_some h
  obtain ⟨q2, g3, h⟩ := ob_some h
  refine r_callV (d' := (7, 0, false)) (As := [.int x1]) (st := []) mdv_X8_isGarment tm_RX8_93 (by decide) rfl rfl (by decide) rfl (Nat.le_refl _) (Nat.le_of_ble_eq_true rfl) rfl dX8_goes_2 h1 (ctX8_isGarment g3) (k_I0 ?_)
  refine r_if_ne (tgt := 14) dX8_goes_5 (by decide) (fun c4 => ?_) (fun c4 => ?_)
  · rw [if_neg c4] at h
    refine r_iload_n dX8_goes_14 2 rfl ?_
    obtain ⟨q5, g6, h⟩ := ob_some h
    refine r_callS (d' := (7, 0, false)) (As := [.int x2]) (st := []) mds_X8_isDays tm_RX8_230 rfl (by decide) rfl (Nat.le_refl _) (Nat.le_of_ble_eq_true rfl) rfl dX8_goes_15 (ctX8_isDays g6) (k_I0 ?_)
    refine r_if_eq (tgt := 28) dX8_goes_18 (by decide) (fun c7 => ?_) (fun c7 => ?_)
    · rw [if_pos c7] at h
      refine r_sub [0] [(0, .ref a0)] rfl ?_
      exact okX8_goes_b28 h hk
    · rw [if_neg c7] at h
      refine r_iload_n dX8_goes_21 3 rfl ?_
      obtain ⟨q8, g9, h⟩ := ob_some h
      refine r_callS (d' := (7, 0, false)) (As := [.int x3]) (st := []) mds_X8_isHour tm_RX8_125 rfl (by decide) rfl (Nat.le_refl _) (Nat.le_of_ble_eq_true rfl) rfl dX8_goes_22 (ctX8_isHour g9) (k_I0 ?_)
      refine r_if_ne (tgt := 35) dX8_goes_25 (by decide) (fun c10 => ?_) (fun c10 => ?_)
      · rw [if_neg c10] at h
        refine r_aload_n dX8_goes_35 0 rfl ?_
        refine r_aload_n dX8_goes_36 0 rfl ?_
        obtain ⟨h11, h⟩ := chk_some h
        obtain ⟨o12, g13, h⟩ := ob_some h
        refine r_getR (fl_RX8_53 rfl) rfl dX8_goes_37 h11 g13 ?_
        obtain ⟨q14, g15, h⟩ := ob_some h
        refine r_callV (d' := (6, 0, false)) (As := [.ref o12]) (st := []) mdv_X8_keep tm_RX8_194 (by decide) rfl rfl (by decide) rfl (Nat.le_refl _) (Nat.le_of_ble_eq_true rfl) rfl dX8_goes_40 h11 (ctX8_keep g15) (k_V0 ?_)
        refine r_aload_n dX8_goes_43 0 rfl ?_
        refine r_iload_n dX8_goes_44 2 rfl ?_
        obtain ⟨h16, h⟩ := chk_some h
        obtain ⟨q17, g18, h⟩ := ob_some h
        refine r_callV (d' := (10, 0, false)) (As := [.int x2]) (st := []) mdv_X8_waits tm_RX8_233 (by decide) rfl rfl (by decide) rfl (Nat.le_refl _) (Nat.le_of_ble_eq_true rfl) rfl dX8_goes_45 h16 (ctX8_waits g18) (k_V0 ?_)
        refine r_aload_n dX8_goes_48 0 rfl ?_
        refine r_iload_n dX8_goes_49 1 rfl ?_
        refine r_iload_n dX8_goes_50 3 rfl ?_
        obtain ⟨h19, h⟩ := chk_some h
        obtain ⟨q20, g21, h⟩ := ob_some h
        refine r_callV (d' := (9, 0, false)) (As := [.int x1, .int x3]) (st := []) mdv_X8_goesNow tm_RX8_236 (by decide) rfl rfl (by decide) rfl (Nat.le_refl _) (Nat.le_of_ble_eq_true rfl) rfl dX8_goes_51 h19 (ctX8_goesNow g21) (k_I0 ?_)
        refine r_if_eq (tgt := 71) dX8_goes_54 (by decide) (fun c22 => ?_) (fun c22 => ?_)
        · rw [if_pos c22] at h
          refine r_iconst (v := 0) dX8_goes_71 (by decide) ?_
          refine r_sub [0] [(0, .ref a0)] rfl ?_
          exact okX8_goes_b72 h hk
        · rw [if_neg c22] at h
          refine r_aload_n dX8_goes_57 0 rfl ?_
          obtain ⟨h23, h⟩ := chk_some h
          obtain ⟨o24, g25, h⟩ := ob_some h
          refine r_getR (fl_RX8_35 rfl) rfl dX8_goes_58 h23 g25 ?_
          refine r_bipush (v := 12) dX8_goes_61 (by decide) ?_
          refine r_iload_n dX8_goes_63 1 rfl ?_
          refine r_imul dX8_goes_64 ?_
          refine r_iload_n dX8_goes_65 3 rfl ?_
          refine r_iadd dX8_goes_66 ?_
          obtain ⟨h26, h⟩ := chk_some h
          obtain ⟨h27, h⟩ := chk_some h
          refine r_iaload dX8_goes_67 h26 h27 ?_
          refine r_goto (tgt := 72) dX8_goes_68 (by decide) ?_
          refine r_sub [0] [(0, .ref a0)] rfl ?_
          exact okX8_goes_b72 h hk
      · rw [if_pos c10] at h
        refine r_sub [0] [(0, .ref a0)] rfl ?_
        exact okX8_goes_b28 h hk
  · rw [if_pos c4] at h
    refine r_aload_n dX8_goes_8 0 rfl ?_
    refine r_iconst (v := (-1)) dX8_goes_9 (by decide) ?_
    obtain ⟨h28, h⟩ := chk_some h
    obtain ⟨q29, g30, h⟩ := ob_some h
    refine r_callV (d' := (6, 0, false)) (As := [.int (-1)]) (st := []) mdv_X8_no tm_RX8_72 (by decide) rfl rfl (by decide) rfl (Nat.le_refl _) (Nat.le_of_ble_eq_true rfl) rfl dX8_goes_10 h28 (ctX8_no g30) (k_I0 ?_)
    rw [← Option.some.inj h] at hk
    exact r_ireturn dX8_goes_13 rfl rfl hk
set_option maxHeartbeats 1000000 in
set_option maxRecDepth 20000 in
theorem ctX8_goes {E : Ev} {a0 : Nat} {x1 : Int32} {x2 : Int32} {x3 : Int32} {w : Wd} {q : Int32 × Wd} (h : fX8_goes a0 x1 x2 x3 w = some q) : CT E mX8_goes (11, 0, false) [.ref a0, .int x1, .int x2, .int x3] w (QI q) := CT.of pl_RX8 (Nat.le_of_ble_eq_true rfl) (okX8_goes h ⟨rfl, rfl⟩)
def fX8_habit_b58 (a0 : Nat) (w : Wd) : Option (Int32 × Wd) :=
  chk (isO w a0 8) (ob (fX8_no a0 (-6) w) (fun q2 => some (q2.1, q2.2)))
set_option maxHeartbeats 1000000 in
set_option maxRecDepth 20000 in
theorem okX8_habit_b58 {E : Ev} {Q : Option Value → Wd → Prop} {a0 : Nat} {w : Wd} {q : Int32 × Wd} (h : fX8_habit_b58 a0 w = some q) (hk : (fun q : Int32 × Wd => Q (some (.int q.1)) q.2) q) : Runs E mX8_habit (8, 0, false) Q 0 58 [(0, .ref a0)] [] w := by
  unfold fX8_habit_b58 at h
  refine r_aload_n dX8_habit_58 0 rfl ?_
  refine r_bipush (v := (-6)) dX8_habit_59 (by decide) ?_
  obtain ⟨h1, h⟩ := chk_some h
  obtain ⟨q2, g3, h⟩ := ob_some h
  refine r_callV (d' := (6, 0, false)) (As := [.int (-6)]) (st := []) mdv_X8_no tm_RX8_72 (by decide) rfl rfl (by decide) rfl (Nat.le_refl _) (Nat.le_of_ble_eq_true rfl) rfl dX8_habit_61 h1 (ctX8_no g3) (k_I0 ?_)
  rw [← Option.some.inj h] at hk
  exact r_ireturn dX8_habit_64 rfl rfl hk
def fX8_habit_b55 (a0 : Nat) (x1 : Int32) (x2 : Int32) (x3 : Int32) (x4 : Int32) (s0 : Int32) (s1 : Int32) (w : Wd) : Option (Int32 × Wd) :=
  if s1 = s0 then (chk (isO w a0 8) (ob (wR w a0 10) (fun o3 => chk (isA w o3 0) (chk (inb ((12 * x1) + x2) (wn w o3)) (bnd (wI w o3 (((12 * x1) + x2)).toNatClampNeg) (fun u7 => ob (fX8_becomes a0 x1 x2 x3 x4 w) (fun q9 => some (u7, q9)))))))) else (fX8_habit_b58 a0 w)
set_option maxHeartbeats 1000000 in
set_option maxRecDepth 20000 in
theorem okX8_habit_b55 {E : Ev} {Q : Option Value → Wd → Prop} {a0 : Nat} {x1 : Int32} {x2 : Int32} {x3 : Int32} {x4 : Int32} {s0 : Int32} {s1 : Int32} {w : Wd} {q : Int32 × Wd} (h : fX8_habit_b55 a0 x1 x2 x3 x4 s0 s1 w = some q) (hk : (fun q : Int32 × Wd => Q (some (.int q.1)) q.2) q) : Runs E mX8_habit (8, 0, false) Q 0 55 [(0, .ref a0), (1, .int x1), (2, .int x2), (3, .int x3), (4, .int x4)] [.int s0, .int s1] w := by
  unfold fX8_habit_b55 at h
  refine r_icmp_eq (tgt := 65) dX8_habit_55 (by decide) (fun c1 => ?_) (fun c1 => ?_)
  · rw [if_pos c1] at h
    refine r_aload_n dX8_habit_65 0 rfl ?_
    obtain ⟨h2, h⟩ := chk_some h
    obtain ⟨o3, g4, h⟩ := ob_some h
    refine r_getR (fl_RX8_35 rfl) rfl dX8_habit_66 h2 g4 ?_
    refine r_bipush (v := 12) dX8_habit_69 (by decide) ?_
    refine r_iload_n dX8_habit_71 1 rfl ?_
    refine r_imul dX8_habit_72 ?_
    refine r_iload_n dX8_habit_73 2 rfl ?_
    refine r_iadd dX8_habit_74 ?_
    obtain ⟨h5, h⟩ := chk_some h
    obtain ⟨h6, h⟩ := chk_some h
    refine r_iaload dX8_habit_75 h5 h6 ?_
    obtain ⟨u7, e8, h⟩ := bnd_some h
    refine r_eqI e8 ?_
    refine r_istore dX8_habit_76 (Nat.le_of_ble_eq_true rfl) [(5, .int u7), (0, .ref a0), (1, .int x1), (2, .int x2), (3, .int x3), (4, .int x4)] rfl ?_
    refine r_aload_n dX8_habit_78 1 rfl ?_
    refine r_iload_n dX8_habit_79 2 rfl ?_
    refine r_iload_n dX8_habit_80 3 rfl ?_
    refine r_iload_n dX8_habit_81 4 rfl ?_
    refine r_iload dX8_habit_82 5 rfl ?_
    obtain ⟨q9, g10, h⟩ := ob_some h
    refine r_callV (d' := (6, 0, false)) (As := [.int x1, .int x2, .int x3, .int x4]) (st := []) mdv_X8_becomes tm_RX8_128 (by decide) rfl rfl (by decide) rfl (Nat.le_refl _) (Nat.le_of_ble_eq_true rfl) rfl dX8_habit_84 h2 (ctX8_becomes g10) (k_V0 ?_)
    refine r_iload dX8_habit_87 0 rfl ?_
    rw [← Option.some.inj h] at hk
    exact r_ireturn dX8_habit_89 rfl rfl hk
  · rw [if_neg c1] at h
    refine r_sub [0] [(0, .ref a0)] rfl ?_
    exact okX8_habit_b58 h hk
def fX8_habit_b45 (a0 : Nat) (x1 : Int32) (x2 : Int32) (x3 : Int32) (x4 : Int32) (s0 : Int32) (w : Wd) : Option (Int32 × Wd) :=
  if x4 = 0 then (fX8_habit_b55 a0 x1 x2 x3 x4 1 s0 w) else (fX8_habit_b55 a0 x1 x2 x3 x4 0 s0 w)
set_option maxHeartbeats 1000000 in
set_option maxRecDepth 20000 in
theorem okX8_habit_b45 {E : Ev} {Q : Option Value → Wd → Prop} {a0 : Nat} {x1 : Int32} {x2 : Int32} {x3 : Int32} {x4 : Int32} {s0 : Int32} {w : Wd} {q : Int32 × Wd} (h : fX8_habit_b45 a0 x1 x2 x3 x4 s0 w = some q) (hk : (fun q : Int32 × Wd => Q (some (.int q.1)) q.2) q) : Runs E mX8_habit (8, 0, false) Q 0 45 [(0, .ref a0), (1, .int x1), (2, .int x2), (3, .int x3), (4, .int x4)] [.int s0] w := by
  unfold fX8_habit_b45 at h
  refine r_iload dX8_habit_45 4 rfl ?_
  refine r_if_ne (tgt := 54) dX8_habit_47 (by decide) (fun c1 => ?_) (fun c1 => ?_)
  · rw [if_neg c1] at h
    refine r_iconst (v := 0) dX8_habit_54 (by decide) ?_
    refine r_sub [0, 1, 2, 3, 4] [(0, .ref a0), (1, .int x1), (2, .int x2), (3, .int x3), (4, .int x4)] rfl ?_
    exact okX8_habit_b55 h hk
  · rw [if_pos c1] at h
    refine r_iconst (v := 1) dX8_habit_50 (by decide) ?_
    refine r_goto (tgt := 55) dX8_habit_51 (by decide) ?_
    refine r_sub [0, 1, 2, 3, 4] [(0, .ref a0), (1, .int x1), (2, .int x2), (3, .int x3), (4, .int x4)] rfl ?_
    exact okX8_habit_b55 h hk
def fX8_habit (a0 : Nat) (x1 : Int32) (x2 : Int32) (x3 : Int32) (x4 : Int32) (w : Wd) : Option (Int32 × Wd) :=
  chk (isO w a0 8) (ob (fX8_isGarment a0 x1 w) (fun q2 => if q2.1 = 0 then (chk (isO q2.2 a0 8) (ob (fX8_no a0 (-1) q2.2) (fun q16 => some (q16.1, q16.2)))) else (ob (fX8_isHour x2 q2.2) (fun q5 => if q5.1 = 0 then (fX8_habit_b58 a0 q5.2) else (ob (fX8_isDigit x3 q5.2) (fun q8 => if q8.1 = 0 then (fX8_habit_b58 a0 q8.2) else (ob (fX8_isDigit x4 q8.2) (fun q11 => if q11.1 = 0 then (fX8_habit_b58 a0 q11.2) else (if x3 = 0 then (fX8_habit_b45 a0 x1 x2 x3 x4 1 q11.2) else (fX8_habit_b45 a0 x1 x2 x3 x4 0 q11.2))))))))))
set_option maxHeartbeats 1000000 in
set_option maxRecDepth 20000 in
theorem okX8_habit {E : Ev} {Q : Option Value → Wd → Prop} {a0 : Nat} {x1 : Int32} {x2 : Int32} {x3 : Int32} {x4 : Int32} {w : Wd} {q : Int32 × Wd} (h : fX8_habit a0 x1 x2 x3 x4 w = some q) (hk : (fun q : Int32 × Wd => Q (some (.int q.1)) q.2) q) : Runs E mX8_habit (8, 0, false) Q 0 0 [(0, .ref a0), (1, .int x1), (2, .int x2), (3, .int x3), (4, .int x4)] [] w := by
  unfold fX8_habit at h
  refine r_aload_n dX8_habit_0 0 rfl ?_
  refine r_iload_n dX8_habit_1 1 rfl ?_
  obtain ⟨h1, h⟩ := chk_some h
  obtain ⟨q2, g3, h⟩ := ob_some h
  refine r_callV (d' := (7, 0, false)) (As := [.int x1]) (st := []) mdv_X8_isGarment tm_RX8_93 (by decide) rfl rfl (by decide) rfl (Nat.le_refl _) (Nat.le_of_ble_eq_true rfl) rfl dX8_habit_2 h1 (ctX8_isGarment g3) (k_I0 ?_)
  refine r_if_ne (tgt := 14) dX8_habit_5 (by decide) (fun c4 => ?_) (fun c4 => ?_)
  · rw [if_neg c4] at h
    refine r_iload_n dX8_habit_14 2 rfl ?_
    obtain ⟨q5, g6, h⟩ := ob_some h
    refine r_callS (d' := (7, 0, false)) (As := [.int x2]) (st := []) mds_X8_isHour tm_RX8_125 rfl (by decide) rfl (Nat.le_refl _) (Nat.le_of_ble_eq_true rfl) rfl dX8_habit_15 (ctX8_isHour g6) (k_I0 ?_)
    refine r_if_eq (tgt := 58) dX8_habit_18 (by decide) (fun c7 => ?_) (fun c7 => ?_)
    · rw [if_pos c7] at h
      refine r_sub [0] [(0, .ref a0)] rfl ?_
      exact okX8_habit_b58 h hk
    · rw [if_neg c7] at h
      refine r_iload_n dX8_habit_21 3 rfl ?_
      obtain ⟨q8, g9, h⟩ := ob_some h
      refine r_callS (d' := (7, 0, false)) (As := [.int x3]) (st := []) mds_X8_isDigit tm_RX8_113 rfl (by decide) rfl (Nat.le_refl _) (Nat.le_of_ble_eq_true rfl) rfl dX8_habit_22 (ctX8_isDigit g9) (k_I0 ?_)
      refine r_if_eq (tgt := 58) dX8_habit_25 (by decide) (fun c10 => ?_) (fun c10 => ?_)
      · rw [if_pos c10] at h
        refine r_sub [0] [(0, .ref a0)] rfl ?_
        exact okX8_habit_b58 h hk
      · rw [if_neg c10] at h
        refine r_iload dX8_habit_28 4 rfl ?_
        obtain ⟨q11, g12, h⟩ := ob_some h
        refine r_callS (d' := (7, 0, false)) (As := [.int x4]) (st := []) mds_X8_isDigit tm_RX8_113 rfl (by decide) rfl (Nat.le_refl _) (Nat.le_of_ble_eq_true rfl) rfl dX8_habit_30 (ctX8_isDigit g12) (k_I0 ?_)
        refine r_if_eq (tgt := 58) dX8_habit_33 (by decide) (fun c13 => ?_) (fun c13 => ?_)
        · rw [if_pos c13] at h
          refine r_sub [0] [(0, .ref a0)] rfl ?_
          exact okX8_habit_b58 h hk
        · rw [if_neg c13] at h
          refine r_iload_n dX8_habit_36 3 rfl ?_
          refine r_if_ne (tgt := 44) dX8_habit_37 (by decide) (fun c14 => ?_) (fun c14 => ?_)
          · rw [if_neg c14] at h
            refine r_iconst (v := 0) dX8_habit_44 (by decide) ?_
            refine r_sub [0, 1, 2, 3, 4] [(0, .ref a0), (1, .int x1), (2, .int x2), (3, .int x3), (4, .int x4)] rfl ?_
            exact okX8_habit_b45 h hk
          · rw [if_pos c14] at h
            refine r_iconst (v := 1) dX8_habit_40 (by decide) ?_
            refine r_goto (tgt := 45) dX8_habit_41 (by decide) ?_
            refine r_sub [0, 1, 2, 3, 4] [(0, .ref a0), (1, .int x1), (2, .int x2), (3, .int x3), (4, .int x4)] rfl ?_
            exact okX8_habit_b45 h hk
  · rw [if_pos c4] at h
    refine r_aload_n dX8_habit_8 0 rfl ?_
    refine r_iconst (v := (-1)) dX8_habit_9 (by decide) ?_
    obtain ⟨h15, h⟩ := chk_some h
    obtain ⟨q16, g17, h⟩ := ob_some h
    refine r_callV (d' := (6, 0, false)) (As := [.int (-1)]) (st := []) mdv_X8_no tm_RX8_72 (by decide) rfl rfl (by decide) rfl (Nat.le_refl _) (Nat.le_of_ble_eq_true rfl) rfl dX8_habit_10 h15 (ctX8_no g17) (k_I0 ?_)
    rw [← Option.some.inj h] at hk
    exact r_ireturn dX8_habit_13 rfl rfl hk
set_option maxHeartbeats 1000000 in
set_option maxRecDepth 20000 in
theorem ctX8_habit {E : Ev} {a0 : Nat} {x1 : Int32} {x2 : Int32} {x3 : Int32} {x4 : Int32} {w : Wd} {q : Int32 × Wd} (h : fX8_habit a0 x1 x2 x3 x4 w = some q) : CT E mX8_habit (8, 0, false) [.ref a0, .int x1, .int x2, .int x3, .int x4] w (QI q) := CT.of pl_RX8 (Nat.le_of_ble_eq_true rfl) (okX8_habit h ⟨rfl, rfl⟩)
def fX8_holds_b20 (s0 : Int32) (w : Wd) : Option (Int32 × Wd) :=
  some (s0, w)
set_option maxHeartbeats 1000000 in
set_option maxRecDepth 20000 in
theorem okX8_holds_b20 {E : Ev} {Q : Option Value → Wd → Prop} {s0 : Int32} {w : Wd} {q : Int32 × Wd} (h : fX8_holds_b20 s0 w = some q) (hk : (fun q : Int32 × Wd => Q (some (.int q.1)) q.2) q) : Runs E mX8_holds (7, 0, false) Q 0 20 [] [.int s0] w := by
  unfold fX8_holds_b20 at h
  rw [← Option.some.inj h] at hk
  exact r_ireturn dX8_holds_20 rfl rfl hk
def fX8_holds (a0 : Nat) (x1 : Int32) (w : Wd) : Option (Int32 × Wd) :=
  ob (fX8_within x1 0 7 w) (fun q1 => if q1.1 = 0 then (fX8_holds_b20 (-1) q1.2) else (chk (isO q1.2 a0 8) (ob (wR q1.2 a0 0) (fun o5 => chk (isA q1.2 o5 0) (chk (inb x1 (wn q1.2 o5)) (fX8_holds_b20 (wI q1.2 o5 (x1).toNatClampNeg) q1.2))))))
set_option maxHeartbeats 1000000 in
set_option maxRecDepth 20000 in
theorem okX8_holds {E : Ev} {Q : Option Value → Wd → Prop} {a0 : Nat} {x1 : Int32} {w : Wd} {q : Int32 × Wd} (h : fX8_holds a0 x1 w = some q) (hk : (fun q : Int32 × Wd => Q (some (.int q.1)) q.2) q) : Runs E mX8_holds (7, 0, false) Q 0 0 [(0, .ref a0), (1, .int x1)] [] w := by
  unfold fX8_holds at h
  refine r_iload_n dX8_holds_0 1 rfl ?_
  refine r_iconst (v := 0) dX8_holds_1 (by decide) ?_
  refine r_bipush (v := 7) dX8_holds_2 (by decide) ?_
  obtain ⟨q1, g2, h⟩ := ob_some h
  refine r_callS (d' := (6, 0, false)) (As := [.int x1, .int 0, .int 7]) (st := []) mds_X8_within tm_RX8_79 rfl (by decide) rfl (Nat.le_refl _) (Nat.le_of_ble_eq_true rfl) rfl dX8_holds_4 (ctX8_within g2) (k_I0 ?_)
  refine r_if_eq (tgt := 19) dX8_holds_7 (by decide) (fun c3 => ?_) (fun c3 => ?_)
  · rw [if_pos c3] at h
    refine r_iconst (v := (-1)) dX8_holds_19 (by decide) ?_
    refine r_sub [] [] rfl ?_
    exact okX8_holds_b20 h hk
  · rw [if_neg c3] at h
    refine r_aload_n dX8_holds_10 0 rfl ?_
    obtain ⟨h4, h⟩ := chk_some h
    obtain ⟨o5, g6, h⟩ := ob_some h
    refine r_getR (fl_RX8_7 rfl) rfl dX8_holds_11 h4 g6 ?_
    refine r_iload_n dX8_holds_14 1 rfl ?_
    obtain ⟨h7, h⟩ := chk_some h
    obtain ⟨h8, h⟩ := chk_some h
    refine r_iaload dX8_holds_15 h7 h8 ?_
    refine r_goto (tgt := 20) dX8_holds_16 (by decide) ?_
    refine r_sub [] [] rfl ?_
    exact okX8_holds_b20 h hk
set_option maxHeartbeats 1000000 in
set_option maxRecDepth 20000 in
theorem ctX8_holds {E : Ev} {a0 : Nat} {x1 : Int32} {w : Wd} {q : Int32 × Wd} (h : fX8_holds a0 x1 w = some q) : CT E mX8_holds (7, 0, false) [.ref a0, .int x1] w (QI q) := CT.of pl_RX8 (Nat.le_of_ble_eq_true rfl) (okX8_holds h ⟨rfl, rfl⟩)
def PX8_likeOf_L5 (E : Ev) (Q : Option Value → Wd → Prop) (a0 : Nat) (x1 : Int32) (x2 : Int32) (s : Int32 × Int32 × Wd) : Prop := Runs E mX8_likeOf (6, 0, false) Q 0 5 [(0, .ref a0), (1, .int x1), (2, .int x2), (3, .int s.1), (4, .int s.2.1)] [] s.2.2
def fX8_likeOf_b57 (a0 : Nat) (x1 : Int32) (x2 : Int32) (x3 : Int32) (x4 : Int32) (w : Wd) : Option ((Int32 × Int32 × Wd) ⊕ (Int32 × Wd)) :=
  some (.inl (x3, (x4 + 1), w))
set_option maxHeartbeats 1000000 in
set_option maxRecDepth 20000 in
theorem okX8_likeOf_b57 {E : Ev} {Q : Option Value → Wd → Prop} {a0 : Nat} {x1 : Int32} {x2 : Int32} {x3 : Int32} {x4 : Int32} {w : Wd} {q : (Int32 × Int32 × Wd) ⊕ (Int32 × Wd)} (h : fX8_likeOf_b57 a0 x1 x2 x3 x4 w = some q) (hk : (Sum.elim (PX8_likeOf_L5 E Q a0 x1 x2) (fun q : Int32 × Wd => Q (some (.int q.1)) q.2)) q) : Runs E mX8_likeOf (6, 0, false) Q 0 57 [(0, .ref a0), (1, .int x1), (2, .int x2), (3, .int x3), (4, .int x4)] [] w := by
  unfold fX8_likeOf_b57 at h
  refine r_iinc (v := (x4 + 1)) dX8_likeOf_57 4 rfl rfl (Nat.le_of_ble_eq_true rfl) [(4, .int (x4 + 1)), (0, .ref a0), (1, .int x1), (2, .int x2), (3, .int x3)] rfl ?_
  refine r_goto (tgt := 5) dX8_likeOf_60 (by decide) ?_
  rw [← Option.some.inj h] at hk
  refine r_sub [1, 2, 3, 4, 0] [(0, .ref a0), (1, .int x1), (2, .int x2), (3, .int x3), (4, .int (x4 + 1))] rfl ?_
  exact hk
def fX8_likeOf_L5_body (a0 : Nat) (x1 : Int32) (x2 : Int32) (s : Int32 × Int32 × Wd) : Option ((Int32 × Int32 × Wd) ⊕ (Int32 × Wd)) :=
  if (12 : Int32) ≤ s.2.1 then (wr (some (s.1, s.2.2))) else (chk (isO s.2.2 a0 8) (ob (wR s.2.2 a0 10) (fun o4 => chk (isA s.2.2 o4 0) (chk (inb ((12 * x1) + s.2.1) (wn s.2.2 o4)) (if (wI s.2.2 o4 (((12 * x1) + s.2.1)).toNatClampNeg) = 0 then (fX8_likeOf_b57 a0 x1 x2 s.1 s.2.1 s.2.2) else (ob (wR s.2.2 a0 5) (fun o9 => chk (isA s.2.2 o9 0) (chk (inb ((12 * x2) + s.2.1) (wn s.2.2 o9)) (if (wI s.2.2 o4 (((12 * x1) + s.2.1)).toNatClampNeg) = (wI s.2.2 o9 (((12 * x2) + s.2.1)).toNatClampNeg) then (fX8_likeOf_b57 a0 x1 x2 (s.1 + 1) s.2.1 s.2.2) else (fX8_likeOf_b57 a0 x1 x2 s.1 s.2.1 s.2.2))))))))))
set_option maxHeartbeats 1000000 in
set_option maxRecDepth 20000 in
theorem okX8_likeOf_L5_body {E : Ev} {Q : Option Value → Wd → Prop} {a0 : Nat} {x1 : Int32} {x2 : Int32} {s : Int32 × Int32 × Wd} {r : (Int32 × Int32 × Wd) ⊕ (Int32 × Wd)} (h : fX8_likeOf_L5_body a0 x1 x2 s = some r) (hk : (Sum.elim (PX8_likeOf_L5 E Q a0 x1 x2) (fun q : Int32 × Wd => Q (some (.int q.1)) q.2)) r) : PX8_likeOf_L5 E Q a0 x1 x2 s := by
  unfold fX8_likeOf_L5_body at h
  unfold PX8_likeOf_L5
  refine r_iload dX8_likeOf_5 4 rfl ?_
  refine r_bipush (v := 12) dX8_likeOf_7 (by decide) ?_
  refine r_icmp_ge (tgt := 63) dX8_likeOf_9 (by decide) (fun c1 => ?_) (fun c1 => ?_)
  · rw [if_pos c1] at h
    obtain ⟨r2, hr, h⟩ := wr_some h
    rw [hr] at hk
    refine r_iload_n dX8_likeOf_63 3 rfl ?_
    rw [← Option.some.inj h] at hk
    exact r_ireturn dX8_likeOf_64 rfl rfl hk
  · rw [if_neg c1] at h
    refine r_aload_n dX8_likeOf_12 0 rfl ?_
    obtain ⟨h3, h⟩ := chk_some h
    obtain ⟨o4, g5, h⟩ := ob_some h
    refine r_getR (fl_RX8_35 rfl) rfl dX8_likeOf_13 h3 g5 ?_
    refine r_bipush (v := 12) dX8_likeOf_16 (by decide) ?_
    refine r_iload_n dX8_likeOf_18 1 rfl ?_
    refine r_imul dX8_likeOf_19 ?_
    refine r_iload dX8_likeOf_20 4 rfl ?_
    refine r_iadd dX8_likeOf_22 ?_
    obtain ⟨h6, h⟩ := chk_some h
    obtain ⟨h7, h⟩ := chk_some h
    refine r_iaload dX8_likeOf_23 h6 h7 ?_
    refine r_if_eq (tgt := 57) dX8_likeOf_24 (by decide) (fun c8 => ?_) (fun c8 => ?_)
    · rw [if_pos c8] at h
      refine r_sub [0, 1, 2, 3, 4] [(0, .ref a0), (1, .int x1), (2, .int x2), (3, .int s.1), (4, .int s.2.1)] rfl ?_
      exact okX8_likeOf_b57 h hk
    · rw [if_neg c8] at h
      refine r_aload_n dX8_likeOf_27 0 rfl ?_
      refine r_getR (fl_RX8_35 rfl) rfl dX8_likeOf_28 h3 g5 ?_
      refine r_bipush (v := 12) dX8_likeOf_31 (by decide) ?_
      refine r_iload_n dX8_likeOf_33 1 rfl ?_
      refine r_imul dX8_likeOf_34 ?_
      refine r_iload dX8_likeOf_35 4 rfl ?_
      refine r_iadd dX8_likeOf_37 ?_
      refine r_iaload dX8_likeOf_38 h6 h7 ?_
      refine r_aload_n dX8_likeOf_39 0 rfl ?_
      obtain ⟨o9, g10, h⟩ := ob_some h
      refine r_getR (fl_RX8_23 rfl) rfl dX8_likeOf_40 h3 g10 ?_
      refine r_bipush (v := 12) dX8_likeOf_43 (by decide) ?_
      refine r_iload_n dX8_likeOf_45 2 rfl ?_
      refine r_imul dX8_likeOf_46 ?_
      refine r_iload dX8_likeOf_47 4 rfl ?_
      refine r_iadd dX8_likeOf_49 ?_
      obtain ⟨h11, h⟩ := chk_some h
      obtain ⟨h12, h⟩ := chk_some h
      refine r_iaload dX8_likeOf_50 h11 h12 ?_
      refine r_icmp_ne (tgt := 57) dX8_likeOf_51 (by decide) (fun c13 => ?_) (fun c13 => ?_)
      · rw [if_neg c13] at h
        refine r_sub [0, 1, 2, 3, 4] [(0, .ref a0), (1, .int x1), (2, .int x2), (3, .int s.1), (4, .int s.2.1)] rfl ?_
        exact okX8_likeOf_b57 h hk
      · rw [if_pos c13] at h
        refine r_iinc (v := (s.1 + 1)) dX8_likeOf_54 3 rfl rfl (Nat.le_of_ble_eq_true rfl) [(3, .int (s.1 + 1)), (0, .ref a0), (1, .int x1), (2, .int x2), (4, .int s.2.1)] rfl ?_
        refine r_sub [1, 2, 3, 0, 4] [(0, .ref a0), (1, .int x1), (2, .int x2), (3, .int (s.1 + 1)), (4, .int s.2.1)] rfl ?_
        exact okX8_likeOf_b57 h hk
def fX8_likeOf_L5 (a0 : Nat) (x1 : Int32) (x2 : Int32) (s : Int32 × Int32 × Wd) : Option (Int32 × Wd) := it (fX8_likeOf_L5_body a0 x1 x2) FU s
set_option maxHeartbeats 1000000 in
set_option maxRecDepth 20000 in
theorem okX8_likeOf_L5 {E : Ev} {Q : Option Value → Wd → Prop} {a0 : Nat} {x1 : Int32} {x2 : Int32} {s : Int32 × Int32 × Wd} {r : Int32 × Wd} (h : fX8_likeOf_L5 a0 x1 x2 s = some r) (hk : (fun q : Int32 × Wd => Q (some (.int q.1)) q.2) r) : PX8_likeOf_L5 E Q a0 x1 x2 s := it_runs (fun s r h hk => okX8_likeOf_L5_body h hk) FU s r h hk
def fX8_likeOf (a0 : Nat) (x1 : Int32) (x2 : Int32) (w : Wd) : Option (Int32 × Wd) :=
  fX8_likeOf_L5 a0 x1 x2 (0, 0, w)
set_option maxHeartbeats 1000000 in
set_option maxRecDepth 20000 in
theorem okX8_likeOf {E : Ev} {Q : Option Value → Wd → Prop} {a0 : Nat} {x1 : Int32} {x2 : Int32} {w : Wd} {q : Int32 × Wd} (h : fX8_likeOf a0 x1 x2 w = some q) (hk : (fun q : Int32 × Wd => Q (some (.int q.1)) q.2) q) : Runs E mX8_likeOf (6, 0, false) Q 0 0 [(0, .ref a0), (1, .int x1), (2, .int x2)] [] w := by
  unfold fX8_likeOf at h
  refine r_iconst (v := 0) dX8_likeOf_0 (by decide) ?_
  refine r_istore_n dX8_likeOf_1 rfl (Nat.le_of_ble_eq_true rfl) [(3, .int 0), (0, .ref a0), (1, .int x1), (2, .int x2)] rfl ?_
  refine r_iconst (v := 0) dX8_likeOf_2 (by decide) ?_
  refine r_istore dX8_likeOf_3 (Nat.le_of_ble_eq_true rfl) [(4, .int 0), (3, .int 0), (0, .ref a0), (1, .int x1), (2, .int x2)] rfl ?_
  refine r_sub [2, 3, 4, 1, 0] [(0, .ref a0), (1, .int x1), (2, .int x2), (3, .int 0), (4, .int 0)] rfl ?_
  exact okX8_likeOf_L5 h hk
set_option maxHeartbeats 1000000 in
set_option maxRecDepth 20000 in
theorem ctX8_likeOf {E : Ev} {a0 : Nat} {x1 : Int32} {x2 : Int32} {w : Wd} {q : Int32 × Wd} (h : fX8_likeOf a0 x1 x2 w = some q) : CT E mX8_likeOf (6, 0, false) [.ref a0, .int x1, .int x2] w (QI q) := CT.of pl_RX8 (Nat.le_of_ble_eq_true rfl) (okX8_likeOf h ⟨rfl, rfl⟩)
def PX8_whoseOf_L4 (E : Ev) (Q : Option Value → Wd → Prop) (a0 : Nat) (x1 : Int32) (s : Int32 × Int32 × Wd) : Prop := Runs E mX8_whoseOf (7, 0, false) Q 0 4 [(0, .ref a0), (1, .int x1), (2, .int s.1), (3, .int s.2.1)] [] s.2.2
def fX8_whoseOf_b38 (a0 : Nat) (x1 : Int32) (x2 : Int32) (x3 : Int32) (w : Wd) : Option ((Int32 × Int32 × Wd) ⊕ (Int32 × Wd)) :=
  some (.inl (x2, (x3 + 1), w))
set_option maxHeartbeats 1000000 in
set_option maxRecDepth 20000 in
theorem okX8_whoseOf_b38 {E : Ev} {Q : Option Value → Wd → Prop} {a0 : Nat} {x1 : Int32} {x2 : Int32} {x3 : Int32} {w : Wd} {q : (Int32 × Int32 × Wd) ⊕ (Int32 × Wd)} (h : fX8_whoseOf_b38 a0 x1 x2 x3 w = some q) (hk : (Sum.elim (PX8_whoseOf_L4 E Q a0 x1) (fun q : Int32 × Wd => Q (some (.int q.1)) q.2)) q) : Runs E mX8_whoseOf (7, 0, false) Q 0 38 [(0, .ref a0), (1, .int x1), (2, .int x2), (3, .int x3)] [] w := by
  unfold fX8_whoseOf_b38 at h
  refine r_iinc (v := (x3 + 1)) dX8_whoseOf_38 3 rfl rfl (Nat.le_of_ble_eq_true rfl) [(3, .int (x3 + 1)), (0, .ref a0), (1, .int x1), (2, .int x2)] rfl ?_
  refine r_goto (tgt := 4) dX8_whoseOf_41 (by decide) ?_
  rw [← Option.some.inj h] at hk
  refine r_sub [1, 2, 3, 0] [(0, .ref a0), (1, .int x1), (2, .int x2), (3, .int (x3 + 1))] rfl ?_
  exact hk
def fX8_whoseOf_b33 (a0 : Nat) (x1 : Int32) (x2 : Int32) (x3 : Int32) (s0 : Int32) (s1 : Int32) (w : Wd) : Option ((Int32 × Int32 × Wd) ⊕ (Int32 × Wd)) :=
  if s1 ≤ s0 then (fX8_whoseOf_b38 a0 x1 x2 x3 w) else (fX8_whoseOf_b38 a0 x1 x3 x3 w)
set_option maxHeartbeats 1000000 in
set_option maxRecDepth 20000 in
theorem okX8_whoseOf_b33 {E : Ev} {Q : Option Value → Wd → Prop} {a0 : Nat} {x1 : Int32} {x2 : Int32} {x3 : Int32} {s0 : Int32} {s1 : Int32} {w : Wd} {q : (Int32 × Int32 × Wd) ⊕ (Int32 × Wd)} (h : fX8_whoseOf_b33 a0 x1 x2 x3 s0 s1 w = some q) (hk : (Sum.elim (PX8_whoseOf_L4 E Q a0 x1) (fun q : Int32 × Wd => Q (some (.int q.1)) q.2)) q) : Runs E mX8_whoseOf (7, 0, false) Q 0 33 [(0, .ref a0), (1, .int x1), (2, .int x2), (3, .int x3)] [.int s0, .int s1] w := by
  unfold fX8_whoseOf_b33 at h
  refine r_icmp_le (tgt := 38) dX8_whoseOf_33 (by decide) (fun c1 => ?_) (fun c1 => ?_)
  · rw [if_pos c1] at h
    refine r_sub [0, 1, 2, 3] [(0, .ref a0), (1, .int x1), (2, .int x2), (3, .int x3)] rfl ?_
    exact okX8_whoseOf_b38 h hk
  · rw [if_neg c1] at h
    refine r_iload_n dX8_whoseOf_36 3 rfl ?_
    refine r_istore_n dX8_whoseOf_37 rfl (Nat.le_of_ble_eq_true rfl) [(2, .int x3), (0, .ref a0), (1, .int x1), (3, .int x3)] rfl ?_
    refine r_sub [1, 2, 0, 3] [(0, .ref a0), (1, .int x1), (2, .int x3), (3, .int x3)] rfl ?_
    exact okX8_whoseOf_b38 h hk
def fX8_whoseOf_L4_body (a0 : Nat) (x1 : Int32) (s : Int32 × Int32 × Wd) : Option ((Int32 × Int32 × Wd) ⊕ (Int32 × Wd)) :=
  chk (isO s.2.2 a0 8) (if (wI s.2.2 a0 3) ≤ s.2.1 then (wr (some (s.1, s.2.2))) else (ob (fX8_likeOf a0 x1 s.2.1 s.2.2) (fun q4 => if s.1 = (-1) then (fX8_whoseOf_b33 a0 x1 s.1 s.2.1 0 q4.1 q4.2) else (chk (isO q4.2 a0 8) (ob (fX8_likeOf a0 x1 s.1 q4.2) (fun q8 => fX8_whoseOf_b33 a0 x1 s.1 s.2.1 q8.1 q4.1 q8.2))))))
set_option maxHeartbeats 1000000 in
set_option maxRecDepth 20000 in
theorem okX8_whoseOf_L4_body {E : Ev} {Q : Option Value → Wd → Prop} {a0 : Nat} {x1 : Int32} {s : Int32 × Int32 × Wd} {r : (Int32 × Int32 × Wd) ⊕ (Int32 × Wd)} (h : fX8_whoseOf_L4_body a0 x1 s = some r) (hk : (Sum.elim (PX8_whoseOf_L4 E Q a0 x1) (fun q : Int32 × Wd => Q (some (.int q.1)) q.2)) r) : PX8_whoseOf_L4 E Q a0 x1 s := by
  unfold fX8_whoseOf_L4_body at h
  unfold PX8_whoseOf_L4
  refine r_iload_n dX8_whoseOf_4 3 rfl ?_
  refine r_aload_n dX8_whoseOf_5 0 rfl ?_
  obtain ⟨h1, h⟩ := chk_some h
  refine r_getI (fl_RX8_83 rfl) rfl dX8_whoseOf_6 h1 ?_
  refine r_icmp_ge (tgt := 44) dX8_whoseOf_9 (by decide) (fun c2 => ?_) (fun c2 => ?_)
  · rw [if_pos c2] at h
    obtain ⟨r3, hr, h⟩ := wr_some h
    rw [hr] at hk
    refine r_iload_n dX8_whoseOf_44 2 rfl ?_
    rw [← Option.some.inj h] at hk
    exact r_ireturn dX8_whoseOf_45 rfl rfl hk
  · rw [if_neg c2] at h
    refine r_aload_n dX8_whoseOf_12 0 rfl ?_
    refine r_iload_n dX8_whoseOf_13 1 rfl ?_
    refine r_iload_n dX8_whoseOf_14 3 rfl ?_
    obtain ⟨q4, g5, h⟩ := ob_some h
    refine r_callV (d' := (6, 0, false)) (As := [.int x1, .int s.2.1]) (st := []) mdv_X8_likeOf tm_RX8_239 (by decide) rfl rfl (by decide) rfl (Nat.le_refl _) (Nat.le_of_ble_eq_true rfl) rfl dX8_whoseOf_15 h1 (ctX8_likeOf g5) (k_I0 ?_)
    refine r_iload_n dX8_whoseOf_18 2 rfl ?_
    refine r_iconst (v := (-1)) dX8_whoseOf_19 (by decide) ?_
    refine r_icmp_ne (tgt := 27) dX8_whoseOf_20 (by decide) (fun c6 => ?_) (fun c6 => ?_)
    · rw [if_neg c6] at h
      refine r_aload_n dX8_whoseOf_27 0 rfl ?_
      refine r_iload_n dX8_whoseOf_28 1 rfl ?_
      refine r_iload_n dX8_whoseOf_29 2 rfl ?_
      obtain ⟨h7, h⟩ := chk_some h
      obtain ⟨q8, g9, h⟩ := ob_some h
      refine r_callV (d' := (6, 0, false)) (As := [.int x1, .int s.1]) (st := [.int q4.1]) mdv_X8_likeOf tm_RX8_239 (by decide) rfl rfl (by decide) rfl (Nat.le_refl _) (Nat.le_of_ble_eq_true rfl) rfl dX8_whoseOf_30 h7 (ctX8_likeOf g9) (k_I0 ?_)
      refine r_sub [0, 1, 2, 3] [(0, .ref a0), (1, .int x1), (2, .int s.1), (3, .int s.2.1)] rfl ?_
      exact okX8_whoseOf_b33 h hk
    · rw [if_pos c6] at h
      refine r_iconst (v := 0) dX8_whoseOf_23 (by decide) ?_
      refine r_goto (tgt := 33) dX8_whoseOf_24 (by decide) ?_
      refine r_sub [0, 1, 2, 3] [(0, .ref a0), (1, .int x1), (2, .int s.1), (3, .int s.2.1)] rfl ?_
      exact okX8_whoseOf_b33 h hk
def fX8_whoseOf_L4 (a0 : Nat) (x1 : Int32) (s : Int32 × Int32 × Wd) : Option (Int32 × Wd) := it (fX8_whoseOf_L4_body a0 x1) FU s
set_option maxHeartbeats 1000000 in
set_option maxRecDepth 20000 in
theorem okX8_whoseOf_L4 {E : Ev} {Q : Option Value → Wd → Prop} {a0 : Nat} {x1 : Int32} {s : Int32 × Int32 × Wd} {r : Int32 × Wd} (h : fX8_whoseOf_L4 a0 x1 s = some r) (hk : (fun q : Int32 × Wd => Q (some (.int q.1)) q.2) r) : PX8_whoseOf_L4 E Q a0 x1 s := it_runs (fun s r h hk => okX8_whoseOf_L4_body h hk) FU s r h hk
def fX8_whoseOf (a0 : Nat) (x1 : Int32) (w : Wd) : Option (Int32 × Wd) :=
  fX8_whoseOf_L4 a0 x1 ((-1), 0, w)
set_option maxHeartbeats 1000000 in
set_option maxRecDepth 20000 in
theorem okX8_whoseOf {E : Ev} {Q : Option Value → Wd → Prop} {a0 : Nat} {x1 : Int32} {w : Wd} {q : Int32 × Wd} (h : fX8_whoseOf a0 x1 w = some q) (hk : (fun q : Int32 × Wd => Q (some (.int q.1)) q.2) q) : Runs E mX8_whoseOf (7, 0, false) Q 0 0 [(0, .ref a0), (1, .int x1)] [] w := by
  unfold fX8_whoseOf at h
  refine r_iconst (v := (-1)) dX8_whoseOf_0 (by decide) ?_
  refine r_istore_n dX8_whoseOf_1 rfl (Nat.le_of_ble_eq_true rfl) [(2, .int (-1)), (0, .ref a0), (1, .int x1)] rfl ?_
  refine r_iconst (v := 0) dX8_whoseOf_2 (by decide) ?_
  refine r_istore_n dX8_whoseOf_3 rfl (Nat.le_of_ble_eq_true rfl) [(3, .int 0), (2, .int (-1)), (0, .ref a0), (1, .int x1)] rfl ?_
  refine r_sub [2, 3, 1, 0] [(0, .ref a0), (1, .int x1), (2, .int (-1)), (3, .int 0)] rfl ?_
  exact okX8_whoseOf_L4 h hk
set_option maxHeartbeats 1000000 in
set_option maxRecDepth 20000 in
theorem ctX8_whoseOf {E : Ev} {a0 : Nat} {x1 : Int32} {w : Wd} {q : Int32 × Wd} (h : fX8_whoseOf a0 x1 w = some q) : CT E mX8_whoseOf (7, 0, false) [.ref a0, .int x1] w (QI q) := CT.of pl_RX8 (Nat.le_of_ble_eq_true rfl) (okX8_whoseOf h ⟨rfl, rfl⟩)
def PX8_home_L22 (E : Ev) (Q : Option Value → Wd → Prop) (a0 : Nat) (x1 : Int32) (x2 : Int32) (s : Int32 × Wd) : Prop := Runs E mX8_home (10, 0, false) Q 0 22 [(0, .ref a0), (1, .int x1), (2, .int x2), (3, .int s.1)] [] s.2
def fX8_home_b52 (s0 : Int32) (w : Wd) : Option (Int32 × Wd) :=
  some (s0, w)
set_option maxHeartbeats 1000000 in
set_option maxRecDepth 20000 in
theorem okX8_home_b52 {E : Ev} {Q : Option Value → Wd → Prop} {s0 : Int32} {w : Wd} {q : Int32 × Wd} (h : fX8_home_b52 s0 w = some q) (hk : (fun q : Int32 × Wd => Q (some (.int q.1)) q.2) q) : Runs E mX8_home (10, 0, false) Q 0 52 [] [.int s0] w := by
  unfold fX8_home_b52 at h
  rw [← Option.some.inj h] at hk
  exact r_ireturn dX8_home_52 rfl rfl hk
def fX8_home_L22_body (a0 : Nat) (x1 : Int32) (x2 : Int32) (s : Int32 × Wd) : Option ((Int32 × Wd) ⊕ (Int32 × Wd)) :=
  if (12 : Int32) ≤ s.1 then (wr (some ((-1), s.2))) else (chk (isO s.2 a0 8) (ob (fX8_goesNow a0 x1 s.1 s.2) (fun q4 => if q4.1 = 0 then (some (.inl ((s.1 + 1), q4.2))) else (wr (if x2 = (-1) then (fX8_home_b52 (-1) q4.2) else (fX8_home_b52 ((100 * x2) + s.1) q4.2))))))
set_option maxHeartbeats 1000000 in
set_option maxRecDepth 20000 in
theorem okX8_home_L22_body {E : Ev} {Q : Option Value → Wd → Prop} {a0 : Nat} {x1 : Int32} {x2 : Int32} {s : Int32 × Wd} {r : (Int32 × Wd) ⊕ (Int32 × Wd)} (h : fX8_home_L22_body a0 x1 x2 s = some r) (hk : (Sum.elim (PX8_home_L22 E Q a0 x1 x2) (fun q : Int32 × Wd => Q (some (.int q.1)) q.2)) r) : PX8_home_L22 E Q a0 x1 x2 s := by
  unfold fX8_home_L22_body at h
  unfold PX8_home_L22
  refine r_iload_n dX8_home_22 3 rfl ?_
  refine r_bipush (v := 12) dX8_home_23 (by decide) ?_
  refine r_icmp_ge (tgt := 59) dX8_home_25 (by decide) (fun c1 => ?_) (fun c1 => ?_)
  · rw [if_pos c1] at h
    obtain ⟨r2, hr, h⟩ := wr_some h
    rw [hr] at hk
    refine r_iconst (v := (-1)) dX8_home_59 (by decide) ?_
    rw [← Option.some.inj h] at hk
    exact r_ireturn dX8_home_60 rfl rfl hk
  · rw [if_neg c1] at h
    refine r_aload_n dX8_home_28 0 rfl ?_
    refine r_iload_n dX8_home_29 1 rfl ?_
    refine r_iload_n dX8_home_30 3 rfl ?_
    obtain ⟨h3, h⟩ := chk_some h
    obtain ⟨q4, g5, h⟩ := ob_some h
    refine r_callV (d' := (9, 0, false)) (As := [.int x1, .int s.1]) (st := []) mdv_X8_goesNow tm_RX8_236 (by decide) rfl rfl (by decide) rfl (Nat.le_refl _) (Nat.le_of_ble_eq_true rfl) rfl dX8_home_31 h3 (ctX8_goesNow g5) (k_I0 ?_)
    refine r_if_eq (tgt := 53) dX8_home_34 (by decide) (fun c6 => ?_) (fun c6 => ?_)
    · rw [if_pos c6] at h
      refine r_iinc (v := (s.1 + 1)) dX8_home_53 3 rfl rfl (Nat.le_of_ble_eq_true rfl) [(3, .int (s.1 + 1)), (0, .ref a0), (1, .int x1), (2, .int x2)] rfl ?_
      refine r_goto (tgt := 22) dX8_home_56 (by decide) ?_
      rw [← Option.some.inj h] at hk
      refine r_sub [1, 2, 3, 0] [(0, .ref a0), (1, .int x1), (2, .int x2), (3, .int (s.1 + 1))] rfl ?_
      exact hk
    · rw [if_neg c6] at h
      obtain ⟨r7, hr, h⟩ := wr_some h
      rw [hr] at hk
      refine r_iload_n dX8_home_37 2 rfl ?_
      refine r_iconst (v := (-1)) dX8_home_38 (by decide) ?_
      refine r_icmp_ne (tgt := 46) dX8_home_39 (by decide) (fun c8 => ?_) (fun c8 => ?_)
      · rw [if_neg c8] at h
        refine r_bipush (v := 100) dX8_home_46 (by decide) ?_
        refine r_iload_n dX8_home_48 2 rfl ?_
        refine r_imul dX8_home_49 ?_
        refine r_iload_n dX8_home_50 3 rfl ?_
        refine r_iadd dX8_home_51 ?_
        refine r_sub [] [] rfl ?_
        exact okX8_home_b52 h hk
      · rw [if_pos c8] at h
        refine r_iconst (v := (-1)) dX8_home_42 (by decide) ?_
        refine r_goto (tgt := 52) dX8_home_43 (by decide) ?_
        refine r_sub [] [] rfl ?_
        exact okX8_home_b52 h hk
def fX8_home_L22 (a0 : Nat) (x1 : Int32) (x2 : Int32) (s : Int32 × Wd) : Option (Int32 × Wd) := it (fX8_home_L22_body a0 x1 x2) FU s
set_option maxHeartbeats 1000000 in
set_option maxRecDepth 20000 in
theorem okX8_home_L22 {E : Ev} {Q : Option Value → Wd → Prop} {a0 : Nat} {x1 : Int32} {x2 : Int32} {s : Int32 × Wd} {r : Int32 × Wd} (h : fX8_home_L22 a0 x1 x2 s = some r) (hk : (fun q : Int32 × Wd => Q (some (.int q.1)) q.2) r) : PX8_home_L22 E Q a0 x1 x2 s := it_runs (fun s r h hk => okX8_home_L22_body h hk) FU s r h hk
def fX8_home (a0 : Nat) (x1 : Int32) (w : Wd) : Option (Int32 × Wd) :=
  chk (isO w a0 8) (ob (fX8_isGarment a0 x1 w) (fun q2 => if q2.1 = 0 then (chk (isO q2.2 a0 8) (ob (fX8_no10 a0 (-1) q2.2) (fun q9 => some (q9.1, q9.2)))) else (chk (isO q2.2 a0 8) (ob (fX8_whoseOf a0 x1 q2.2) (fun q6 => fX8_home_L22 a0 x1 q6.1 (0, q6.2))))))
set_option maxHeartbeats 1000000 in
set_option maxRecDepth 20000 in
theorem okX8_home {E : Ev} {Q : Option Value → Wd → Prop} {a0 : Nat} {x1 : Int32} {w : Wd} {q : Int32 × Wd} (h : fX8_home a0 x1 w = some q) (hk : (fun q : Int32 × Wd => Q (some (.int q.1)) q.2) q) : Runs E mX8_home (10, 0, false) Q 0 0 [(0, .ref a0), (1, .int x1)] [] w := by
  unfold fX8_home at h
  refine r_aload_n dX8_home_0 0 rfl ?_
  refine r_iload_n dX8_home_1 1 rfl ?_
  obtain ⟨h1, h⟩ := chk_some h
  obtain ⟨q2, g3, h⟩ := ob_some h
  refine r_callV (d' := (7, 0, false)) (As := [.int x1]) (st := []) mdv_X8_isGarment tm_RX8_93 (by decide) rfl rfl (by decide) rfl (Nat.le_refl _) (Nat.le_of_ble_eq_true rfl) rfl dX8_home_2 h1 (ctX8_isGarment g3) (k_I0 ?_)
  refine r_if_ne (tgt := 14) dX8_home_5 (by decide) (fun c4 => ?_) (fun c4 => ?_)
  · rw [if_neg c4] at h
    refine r_aload_n dX8_home_14 0 rfl ?_
    refine r_iload_n dX8_home_15 1 rfl ?_
    obtain ⟨h5, h⟩ := chk_some h
    obtain ⟨q6, g7, h⟩ := ob_some h
    refine r_callV (d' := (7, 0, false)) (As := [.int x1]) (st := []) mdv_X8_whoseOf tm_RX8_242 (by decide) rfl rfl (by decide) rfl (Nat.le_refl _) (Nat.le_of_ble_eq_true rfl) rfl dX8_home_16 h5 (ctX8_whoseOf g7) (k_I0 ?_)
    refine r_istore_n dX8_home_19 rfl (Nat.le_of_ble_eq_true rfl) [(2, .int q6.1), (0, .ref a0), (1, .int x1)] rfl ?_
    refine r_iconst (v := 0) dX8_home_20 (by decide) ?_
    refine r_istore_n dX8_home_21 rfl (Nat.le_of_ble_eq_true rfl) [(3, .int 0), (2, .int q6.1), (0, .ref a0), (1, .int x1)] rfl ?_
    refine r_sub [2, 3, 1, 0] [(0, .ref a0), (1, .int x1), (2, .int q6.1), (3, .int 0)] rfl ?_
    exact okX8_home_L22 h hk
  · rw [if_pos c4] at h
    refine r_aload_n dX8_home_8 0 rfl ?_
    refine r_iconst (v := (-1)) dX8_home_9 (by decide) ?_
    obtain ⟨h8, h⟩ := chk_some h
    obtain ⟨q9, g10, h⟩ := ob_some h
    refine r_callV (d' := (7, 0, false)) (As := [.int (-1)]) (st := []) mdv_X8_no10 tm_RX8_132 (by decide) rfl rfl (by decide) rfl (Nat.le_refl _) (Nat.le_of_ble_eq_true rfl) rfl dX8_home_10 h8 (ctX8_no10 g10) (k_I0 ?_)
    rw [← Option.some.inj h] at hk
    exact r_ireturn dX8_home_13 rfl rfl hk
set_option maxHeartbeats 1000000 in
set_option maxRecDepth 20000 in
theorem ctX8_home {E : Ev} {a0 : Nat} {x1 : Int32} {w : Wd} {q : Int32 × Wd} (h : fX8_home a0 x1 w = some q) : CT E mX8_home (10, 0, false) [.ref a0, .int x1] w (QI q) := CT.of pl_RX8 (Nat.le_of_ble_eq_true rfl) (okX8_home h ⟨rfl, rfl⟩)
def fX8_image (a0 : Nat) (w : Wd) : Option (Int32 × Wd) :=
  chk (isO w a0 8) (bnd (sI w a0 18 1) (fun w2 => chk (isO w2 a0 8) (ob (wR w2 a0 19) (fun o5 => ob (fX8_keep a0 o5 w2) (fun q7 => chk (isO q7 a0 8) (some ((wI q7 a0 6), q7)))))))
set_option maxHeartbeats 1000000 in
set_option maxRecDepth 20000 in
theorem okX8_image {E : Ev} {Q : Option Value → Wd → Prop} {a0 : Nat} {w : Wd} {q : Int32 × Wd} (h : fX8_image a0 w = some q) (hk : (fun q : Int32 × Wd => Q (some (.int q.1)) q.2) q) : Runs E mX8_image (7, 0, false) Q 0 0 [(0, .ref a0)] [] w := by
  unfold fX8_image at h
  refine r_aload_n dX8_image_0 0 rfl ?_
  refine r_iconst (v := 1) dX8_image_1 (by decide) ?_
  obtain ⟨h1, h⟩ := chk_some h
  obtain ⟨w2, e3, h⟩ := bnd_some h
  refine r_putI (fl_RX8_284 rfl) rfl rfl (ck_ty (by decide) 18 (by decide)) rfl rfl dX8_image_2 h1 ?_
  refine r_eqW e3 ?_
  refine r_aload_n dX8_image_5 0 rfl ?_
  refine r_aload_n dX8_image_6 0 rfl ?_
  obtain ⟨h4, h⟩ := chk_some h
  obtain ⟨o5, g6, h⟩ := ob_some h
  refine r_getR (fl_RX8_47 rfl) rfl dX8_image_7 h4 g6 ?_
  obtain ⟨q7, g8, h⟩ := ob_some h
  refine r_callV (d' := (6, 0, false)) (As := [.ref o5]) (st := []) mdv_X8_keep tm_RX8_194 (by decide) rfl rfl (by decide) rfl (Nat.le_refl _) (Nat.le_of_ble_eq_true rfl) rfl dX8_image_10 h4 (ctX8_keep g8) (k_V0 ?_)
  refine r_aload_n dX8_image_13 0 rfl ?_
  obtain ⟨h9, h⟩ := chk_some h
  refine r_getI (fl_RX8_76 rfl) rfl dX8_image_14 h9 ?_
  rw [← Option.some.inj h] at hk
  exact r_ireturn dX8_image_17 rfl rfl hk
set_option maxHeartbeats 1000000 in
set_option maxRecDepth 20000 in
theorem ctX8_image {E : Ev} {a0 : Nat} {w : Wd} {q : Int32 × Wd} (h : fX8_image a0 w = some q) : CT E mX8_image (7, 0, false) [.ref a0] w (QI q) := CT.of pl_RX8 (Nat.le_of_ble_eq_true rfl) (okX8_image h ⟨rfl, rfl⟩)
def fX8_sign_b39 (s0 : Int32) (w : Wd) : Option (Int32 × Wd) :=
  some (s0, w)
set_option maxHeartbeats 1000000 in
set_option maxRecDepth 20000 in
theorem okX8_sign_b39 {E : Ev} {Q : Option Value → Wd → Prop} {s0 : Int32} {w : Wd} {q : Int32 × Wd} (h : fX8_sign_b39 s0 w = some q) (hk : (fun q : Int32 × Wd => Q (some (.int q.1)) q.2) q) : Runs E mX8_sign (6, 0, false) Q 0 39 [] [.int s0] w := by
  unfold fX8_sign_b39 at h
  rw [← Option.some.inj h] at hk
  exact r_ireturn dX8_sign_39 rfl rfl hk
def fX8_sign (a0 : Nat) (w : Wd) : Option (Int32 × Wd) :=
  chk (isO w a0 8) (ob (wR w a0 1) (fun o2 => chk (isA w o2 0) (chk (inb (wI w a0 24) (wn w o2)) (if (wI w o2 ((wI w a0 24)).toNatClampNeg) ≤ (wI w a0 25) then (fX8_sign_b39 (-1) w) else (ob (wR w a0 2) (fun o7 => chk (isA w o7 1) (chk (inb ((160 * (wI w a0 24)) + (wI w a0 25)) (wn w o7)) (fX8_sign_b39 ((wL w o7 (((160 * (wI w a0 24)) + (wI w a0 25))).toNatClampNeg)).toInt32 w))))))))
set_option maxHeartbeats 1000000 in
set_option maxRecDepth 20000 in
theorem okX8_sign {E : Ev} {Q : Option Value → Wd → Prop} {a0 : Nat} {w : Wd} {q : Int32 × Wd} (h : fX8_sign a0 w = some q) (hk : (fun q : Int32 × Wd => Q (some (.int q.1)) q.2) q) : Runs E mX8_sign (6, 0, false) Q 0 0 [(0, .ref a0)] [] w := by
  unfold fX8_sign at h
  refine r_aload_n dX8_sign_0 0 rfl ?_
  obtain ⟨h1, h⟩ := chk_some h
  refine r_getI (fl_RX8_138 rfl) rfl dX8_sign_1 h1 ?_
  refine r_aload_n dX8_sign_4 0 rfl ?_
  obtain ⟨o2, g3, h⟩ := ob_some h
  refine r_getR (fl_RX8_13 rfl) rfl dX8_sign_5 h1 g3 ?_
  refine r_aload_n dX8_sign_8 0 rfl ?_
  refine r_getI (fl_RX8_141 rfl) rfl dX8_sign_9 h1 ?_
  obtain ⟨h4, h⟩ := chk_some h
  obtain ⟨h5, h⟩ := chk_some h
  refine r_iaload dX8_sign_12 h4 h5 ?_
  refine r_icmp_ge (tgt := 38) dX8_sign_13 (by decide) (fun c6 => ?_) (fun c6 => ?_)
  · rw [if_pos c6] at h
    refine r_iconst (v := (-1)) dX8_sign_38 (by decide) ?_
    refine r_sub [] [] rfl ?_
    exact okX8_sign_b39 h hk
  · rw [if_neg c6] at h
    refine r_aload_n dX8_sign_16 0 rfl ?_
    obtain ⟨o7, g8, h⟩ := ob_some h
    refine r_getR (fl_RX8_16 rfl) rfl dX8_sign_17 h1 g8 ?_
    refine r_sipush (v := 160) dX8_sign_20 (by decide) ?_
    refine r_aload_n dX8_sign_23 0 rfl ?_
    refine r_getI (fl_RX8_141 rfl) rfl dX8_sign_24 h1 ?_
    refine r_imul dX8_sign_27 ?_
    refine r_aload_n dX8_sign_28 0 rfl ?_
    refine r_getI (fl_RX8_138 rfl) rfl dX8_sign_29 h1 ?_
    refine r_iadd dX8_sign_32 ?_
    obtain ⟨h9, h⟩ := chk_some h
    obtain ⟨h10, h⟩ := chk_some h
    refine r_laload dX8_sign_33 h9 h10 ?_
    refine r_l2i dX8_sign_34 ?_
    refine r_goto (tgt := 39) dX8_sign_35 (by decide) ?_
    refine r_sub [] [] rfl ?_
    exact okX8_sign_b39 h hk
set_option maxHeartbeats 1000000 in
set_option maxRecDepth 20000 in
theorem ctX8_sign {E : Ev} {a0 : Nat} {w : Wd} {q : Int32 × Wd} (h : fX8_sign a0 w = some q) : CT E mX8_sign (6, 0, false) [.ref a0] w (QI q) := CT.of pl_RX8 (Nat.le_of_ble_eq_true rfl) (okX8_sign h ⟨rfl, rfl⟩)
def fX8_is (a0 : Nat) (x1 : Int32) (w : Wd) : Option (Int32 × Wd) :=
  chk (isO w a0 8) (ob (fX8_sign a0 w) (fun q2 => if q2.1 = x1 then (chk (isO q2.2 a0 8) (bnd (sI q2.2 a0 25 ((wI q2.2 a0 25) + 1)) (fun w6 => some (1, w6)))) else (some (0, q2.2))))
set_option maxHeartbeats 1000000 in
set_option maxRecDepth 20000 in
theorem okX8_is {E : Ev} {Q : Option Value → Wd → Prop} {a0 : Nat} {x1 : Int32} {w : Wd} {q : Int32 × Wd} (h : fX8_is a0 x1 w = some q) (hk : (fun q : Int32 × Wd => Q (some (.int q.1)) q.2) q) : Runs E mX8_is (7, 0, false) Q 0 0 [(0, .ref a0), (1, .int x1)] [] w := by
  unfold fX8_is at h
  refine r_aload_n dX8_is_0 0 rfl ?_
  obtain ⟨h1, h⟩ := chk_some h
  obtain ⟨q2, g3, h⟩ := ob_some h
  refine r_callV (d' := (6, 0, false)) (As := []) (st := []) mdv_X8_sign tm_RX8_144 (by decide) rfl rfl (by decide) rfl (Nat.le_refl _) (Nat.le_of_ble_eq_true rfl) rfl dX8_is_1 h1 (ctX8_sign g3) (k_I0 ?_)
  refine r_iload_n dX8_is_4 1 rfl ?_
  refine r_icmp_eq (tgt := 10) dX8_is_5 (by decide) (fun c4 => ?_) (fun c4 => ?_)
  · rw [if_pos c4] at h
    refine r_aload_n dX8_is_10 0 rfl ?_
    refine r_dup dX8_is_11 rfl ?_
    obtain ⟨h5, h⟩ := chk_some h
    refine r_getI (fl_RX8_138 rfl) rfl dX8_is_12 h5 ?_
    refine r_iconst (v := 1) dX8_is_15 (by decide) ?_
    refine r_iadd dX8_is_16 ?_
    obtain ⟨w6, e7, h⟩ := bnd_some h
    refine r_putI (fl_RX8_138 rfl) rfl rfl (ck_ty (by decide) 25 (by decide)) rfl rfl dX8_is_17 h5 ?_
    refine r_eqW e7 ?_
    refine r_iconst (v := 1) dX8_is_20 (by decide) ?_
    rw [← Option.some.inj h] at hk
    exact r_ireturn dX8_is_21 rfl rfl hk
  · rw [if_neg c4] at h
    refine r_iconst (v := 0) dX8_is_8 (by decide) ?_
    rw [← Option.some.inj h] at hk
    exact r_ireturn dX8_is_9 rfl rfl hk
set_option maxHeartbeats 1000000 in
set_option maxRecDepth 20000 in
theorem ctX8_is {E : Ev} {a0 : Nat} {x1 : Int32} {w : Wd} {q : Int32 × Wd} (h : fX8_is a0 x1 w = some q) : CT E mX8_is (7, 0, false) [.ref a0, .int x1] w (QI q) := CT.of pl_RX8 (Nat.le_of_ble_eq_true rfl) (okX8_is h ⟨rfl, rfl⟩)
def PX8_newOne_L12 (E : Ev) (Q : Option Value → Wd → Prop) (a0 : Nat) (s : Int32 × Wd) : Prop := Runs E mX8_newOne (6, 0, false) Q 0 12 [(0, .ref a0), (2, .int s.1)] [] s.2
def fX8_newOne_L12_body (a0 : Nat) (s : Int32 × Wd) : Option ((Int32 × Wd) ⊕ (Int32 × Wd)) :=
  if (12 : Int32) ≤ s.1 then (wr (chk (isO s.2 a0 8) (bnd (sI s.2 a0 3 ((wI s.2 a0 3) + 1)) (fun w4 => some ((wI s.2 a0 3), w4))))) else (chk (isO s.2 a0 8) (ob (wR s.2 a0 5) (fun o7 => chk (isA s.2 o7 0) (chk (inb ((12 * (wI s.2 a0 3)) + s.1) (wn s.2 o7)) (bnd (sI s.2 o7 (((12 * (wI s.2 a0 3)) + s.1)).toNatClampNeg 0) (fun w11 => some (.inl ((s.1 + 1), w11))))))))
set_option maxHeartbeats 1000000 in
set_option maxRecDepth 20000 in
theorem okX8_newOne_L12_body {E : Ev} {Q : Option Value → Wd → Prop} {a0 : Nat} {s : Int32 × Wd} {r : (Int32 × Wd) ⊕ (Int32 × Wd)} (h : fX8_newOne_L12_body a0 s = some r) (hk : (Sum.elim (PX8_newOne_L12 E Q a0) (fun q : Int32 × Wd => Q (some (.int q.1)) q.2)) r) : PX8_newOne_L12 E Q a0 s := by
  unfold fX8_newOne_L12_body at h
  unfold PX8_newOne_L12
  refine r_iload_n dX8_newOne_12 1 rfl ?_
  refine r_bipush (v := 12) dX8_newOne_13 (by decide) ?_
  refine r_icmp_ge (tgt := 39) dX8_newOne_15 (by decide) (fun c1 => ?_) (fun c1 => ?_)
  · rw [if_pos c1] at h
    obtain ⟨r2, hr, h⟩ := wr_some h
    rw [hr] at hk
    refine r_aload_n dX8_newOne_39 0 rfl ?_
    refine r_dup dX8_newOne_40 rfl ?_
    obtain ⟨h3, h⟩ := chk_some h
    refine r_getI (fl_RX8_83 rfl) rfl dX8_newOne_41 h3 ?_
    refine r_dup_x1 dX8_newOne_44 rfl rfl ?_
    refine r_iconst (v := 1) dX8_newOne_45 (by decide) ?_
    refine r_iadd dX8_newOne_46 ?_
    obtain ⟨w4, e5, h⟩ := bnd_some h
    refine r_putI (fl_RX8_83 rfl) rfl rfl (ck_ty (by decide) 3 (by decide)) rfl rfl dX8_newOne_47 h3 ?_
    refine r_eqW e5 ?_
    rw [← Option.some.inj h] at hk
    exact r_ireturn dX8_newOne_50 rfl rfl hk
  · rw [if_neg c1] at h
    refine r_aload_n dX8_newOne_18 0 rfl ?_
    obtain ⟨h6, h⟩ := chk_some h
    obtain ⟨o7, g8, h⟩ := ob_some h
    refine r_getR (fl_RX8_23 rfl) rfl dX8_newOne_19 h6 g8 ?_
    refine r_bipush (v := 12) dX8_newOne_22 (by decide) ?_
    refine r_aload_n dX8_newOne_24 0 rfl ?_
    refine r_getI (fl_RX8_83 rfl) rfl dX8_newOne_25 h6 ?_
    refine r_imul dX8_newOne_28 ?_
    refine r_iload_n dX8_newOne_29 1 rfl ?_
    refine r_iadd dX8_newOne_30 ?_
    refine r_iconst (v := 0) dX8_newOne_31 (by decide) ?_
    obtain ⟨h9, h⟩ := chk_some h
    obtain ⟨h10, h⟩ := chk_some h
    obtain ⟨w11, e12, h⟩ := bnd_some h
    refine r_iastore dX8_newOne_32 h9 h10 ?_
    refine r_eqW e12 ?_
    refine r_iinc (v := (s.1 + 1)) dX8_newOne_33 1 rfl rfl (Nat.le_of_ble_eq_true rfl) [(2, .int (s.1 + 1)), (0, .ref a0)] rfl ?_
    refine r_goto (tgt := 12) dX8_newOne_36 (by decide) ?_
    rw [← Option.some.inj h] at hk
    refine r_sub [1, 0] [(0, .ref a0), (2, .int (s.1 + 1))] rfl ?_
    exact hk
def fX8_newOne_L12 (a0 : Nat) (s : Int32 × Wd) : Option (Int32 × Wd) := it (fX8_newOne_L12_body a0) FU s
set_option maxHeartbeats 1000000 in
set_option maxRecDepth 20000 in
theorem okX8_newOne_L12 {E : Ev} {Q : Option Value → Wd → Prop} {a0 : Nat} {s : Int32 × Wd} {r : Int32 × Wd} (h : fX8_newOne_L12 a0 s = some r) (hk : (fun q : Int32 × Wd => Q (some (.int q.1)) q.2) r) : PX8_newOne_L12 E Q a0 s := it_runs (fun s r h hk => okX8_newOne_L12_body h hk) FU s r h hk
def fX8_newOne (a0 : Nat) (x1 : Int32) (w : Wd) : Option (Int32 × Wd) :=
  chk (isO w a0 8) (ob (wR w a0 4) (fun o2 => chk (isA w o2 0) (chk (inb (wI w a0 3) (wn w o2)) (bnd (sI w o2 ((wI w a0 3)).toNatClampNeg x1) (fun w6 => fX8_newOne_L12 a0 (0, w6))))))
set_option maxHeartbeats 1000000 in
set_option maxRecDepth 20000 in
theorem okX8_newOne {E : Ev} {Q : Option Value → Wd → Prop} {a0 : Nat} {x1 : Int32} {w : Wd} {q : Int32 × Wd} (h : fX8_newOne a0 x1 w = some q) (hk : (fun q : Int32 × Wd => Q (some (.int q.1)) q.2) q) : Runs E mX8_newOne (6, 0, false) Q 0 0 [(0, .ref a0), (1, .int x1)] [] w := by
  unfold fX8_newOne at h
  refine r_aload_n dX8_newOne_0 0 rfl ?_
  obtain ⟨h1, h⟩ := chk_some h
  obtain ⟨o2, g3, h⟩ := ob_some h
  refine r_getR (fl_RX8_20 rfl) rfl dX8_newOne_1 h1 g3 ?_
  refine r_aload_n dX8_newOne_4 0 rfl ?_
  refine r_getI (fl_RX8_83 rfl) rfl dX8_newOne_5 h1 ?_
  refine r_iload_n dX8_newOne_8 1 rfl ?_
  obtain ⟨h4, h⟩ := chk_some h
  obtain ⟨h5, h⟩ := chk_some h
  obtain ⟨w6, e7, h⟩ := bnd_some h
  refine r_iastore dX8_newOne_9 h4 h5 ?_
  refine r_eqW e7 ?_
  refine r_iconst (v := 0) dX8_newOne_10 (by decide) ?_
  refine r_istore_n dX8_newOne_11 rfl (Nat.le_of_ble_eq_true rfl) [(2, .int 0), (0, .ref a0), (1, .int x1)] rfl ?_
  refine r_sub [1, 0] [(0, .ref a0), (2, .int 0)] rfl ?_
  exact okX8_newOne_L12 h hk
set_option maxHeartbeats 1000000 in
set_option maxRecDepth 20000 in
theorem ctX8_newOne {E : Ev} {a0 : Nat} {x1 : Int32} {w : Wd} {q : Int32 × Wd} (h : fX8_newOne a0 x1 w = some q) : CT E mX8_newOne (6, 0, false) [.ref a0, .int x1] w (QI q) := CT.of pl_RX8 (Nat.le_of_ble_eq_true rfl) (okX8_newOne h ⟨rfl, rfl⟩)
def PX8_number_L20 (E : Ev) (Q : Option Value → Wd → Prop) (a0 : Nat) (x1 : Int32) (x2 : Int32) (x3 : Int32) (x4 : Int32) (s : Int32 × Wd) : Prop := Runs E mX8_number (8, 0, false) Q 0 20 [(0, .ref a0), (1, .int x1), (2, .int x2), (3, .int x3), (4, .int x4), (5, .int s.1)] [] s.2
def fX8_number_b116 (x6 : Int32) (w : Wd) : Option (Int32 × Wd) :=
  chk (x6 = 0 ∨ x6 = 1) (some (x6, w))
set_option maxHeartbeats 1000000 in
set_option maxRecDepth 20000 in
theorem okX8_number_b116 {E : Ev} {Q : Option Value → Wd → Prop} {x6 : Int32} {w : Wd} {q : Int32 × Wd} (h : fX8_number_b116 x6 w = some q) (hk : (fun q : Int32 × Wd => Q (some (.int q.1)) q.2) q) : Runs E mX8_number (8, 0, false) Q 0 116 [(6, .int x6)] [] w := by
  unfold fX8_number_b116 at h
  refine r_iload dX8_number_116 0 rfl ?_
  obtain ⟨h1, h⟩ := chk_some h
  rw [← Option.some.inj h] at hk
  exact r_ireturn dX8_number_118 rfl (nb h1) hk
def fX8_number_b77 (a0 : Nat) (x1 : Int32) (x2 : Int32) (x3 : Int32) (x4 : Int32) (x5 : Int32) (w : Wd) : Option (Int32 × Wd) :=
  chk (isO w a0 8) (if (wI w a0 25) = x4 then (some (0, w)) else (ob (wR w a0 26) (fun o3 => chk (isA w o3 0) (chk (inb x1 (wn w o3)) (bnd (sI w o3 (x1).toNatClampNeg x5) (fun w7 => ob (fX8_within x5 x2 x3 w7) (fun q9 => if q9.1 = 0 then (chk (isO q9.2 a0 8) (bnd (sI q9.2 a0 25 x4) (fun w13 => fX8_number_b116 q9.1 w13))) else (fX8_number_b116 q9.1 q9.2))))))))
set_option maxHeartbeats 1000000 in
set_option maxRecDepth 20000 in
theorem okX8_number_b77 {E : Ev} {Q : Option Value → Wd → Prop} {a0 : Nat} {x1 : Int32} {x2 : Int32} {x3 : Int32} {x4 : Int32} {x5 : Int32} {w : Wd} {q : Int32 × Wd} (h : fX8_number_b77 a0 x1 x2 x3 x4 x5 w = some q) (hk : (fun q : Int32 × Wd => Q (some (.int q.1)) q.2) q) : Runs E mX8_number (8, 0, false) Q 0 77 [(0, .ref a0), (1, .int x1), (2, .int x2), (3, .int x3), (4, .int x4), (5, .int x5)] [] w := by
  unfold fX8_number_b77 at h
  refine r_aload_n dX8_number_77 0 rfl ?_
  obtain ⟨h1, h⟩ := chk_some h
  refine r_getI (fl_RX8_138 rfl) rfl dX8_number_78 h1 ?_
  refine r_iload dX8_number_81 4 rfl ?_
  refine r_icmp_ne (tgt := 88) dX8_number_83 (by decide) (fun c2 => ?_) (fun c2 => ?_)
  · rw [if_neg c2] at h
    refine r_aload_n dX8_number_88 0 rfl ?_
    obtain ⟨o3, g4, h⟩ := ob_some h
    refine r_getR (fl_RX8_62 rfl) rfl dX8_number_89 h1 g4 ?_
    refine r_iload_n dX8_number_92 1 rfl ?_
    refine r_iload dX8_number_93 5 rfl ?_
    obtain ⟨h5, h⟩ := chk_some h
    obtain ⟨h6, h⟩ := chk_some h
    obtain ⟨w7, e8, h⟩ := bnd_some h
    refine r_iastore dX8_number_95 h5 h6 ?_
    refine r_eqW e8 ?_
    refine r_iload dX8_number_96 5 rfl ?_
    refine r_iload_n dX8_number_98 2 rfl ?_
    refine r_iload_n dX8_number_99 3 rfl ?_
    obtain ⟨q9, g10, h⟩ := ob_some h
    refine r_callS (d' := (6, 0, false)) (As := [.int x5, .int x2, .int x3]) (st := []) mds_X8_within tm_RX8_79 rfl (by decide) rfl (Nat.le_refl _) (Nat.le_of_ble_eq_true rfl) rfl dX8_number_100 (ctX8_within g10) (k_I0 ?_)
    refine r_istore dX8_number_103 (Nat.le_of_ble_eq_true rfl) [(6, .int q9.1), (0, .ref a0), (1, .int x1), (2, .int x2), (3, .int x3), (4, .int x4), (5, .int x5)] rfl ?_
    refine r_iload dX8_number_105 0 rfl ?_
    refine r_if_ne (tgt := 116) dX8_number_107 (by decide) (fun c11 => ?_) (fun c11 => ?_)
    · rw [if_neg c11] at h
      refine r_sub [0] [(6, .int q9.1)] rfl ?_
      exact okX8_number_b116 h hk
    · rw [if_pos c11] at h
      refine r_aload_n dX8_number_110 1 rfl ?_
      refine r_iload dX8_number_111 5 rfl ?_
      obtain ⟨h12, h⟩ := chk_some h
      obtain ⟨w13, e14, h⟩ := bnd_some h
      refine r_putI (fl_RX8_138 rfl) rfl rfl (ck_ty (by decide) 25 (by decide)) rfl rfl dX8_number_113 h12 ?_
      refine r_eqW e14 ?_
      refine r_sub [0] [(6, .int q9.1)] rfl ?_
      exact okX8_number_b116 h hk
  · rw [if_pos c2] at h
    refine r_iconst (v := 0) dX8_number_86 (by decide) ?_
    rw [← Option.some.inj h] at hk
    exact r_ireturn dX8_number_87 rfl rfl hk
def fX8_number_L20_body (a0 : Nat) (x1 : Int32) (x2 : Int32) (x3 : Int32) (x4 : Int32) (s : Int32 × Wd) : Option ((Int32 × Wd) ⊕ (Int32 × Wd)) :=
  chk (isO s.2 a0 8) (if (2 : Int32) ≤ ((wI s.2 a0 25) - x4) then (wr (fX8_number_b77 a0 x1 x2 x3 x4 s.1 s.2)) else (ob (fX8_sign a0 s.2) (fun q4 => if q4.1 < 48 then (wr (fX8_number_b77 a0 x1 x2 x3 x4 s.1 q4.2)) else (chk (isO q4.2 a0 8) (ob (fX8_sign a0 q4.2) (fun q9 => if (57 : Int32) < q9.1 then (wr (fX8_number_b77 a0 x1 x2 x3 x4 s.1 q9.2)) else (chk (isO q9.2 a0 8) (ob (fX8_sign a0 q9.2) (fun q14 => bnd (((10 * s.1) + q14.1) - 48) (fun u16 => chk (isO q14.2 a0 8) (bnd (sI q14.2 a0 25 ((wI q14.2 a0 25) + 1)) (fun w19 => some (.inl (u16, w19))))))))))))))
set_option maxHeartbeats 1000000 in
set_option maxRecDepth 20000 in
theorem okX8_number_L20_body {E : Ev} {Q : Option Value → Wd → Prop} {a0 : Nat} {x1 : Int32} {x2 : Int32} {x3 : Int32} {x4 : Int32} {s : Int32 × Wd} {r : (Int32 × Wd) ⊕ (Int32 × Wd)} (h : fX8_number_L20_body a0 x1 x2 x3 x4 s = some r) (hk : (Sum.elim (PX8_number_L20 E Q a0 x1 x2 x3 x4) (fun q : Int32 × Wd => Q (some (.int q.1)) q.2)) r) : PX8_number_L20 E Q a0 x1 x2 x3 x4 s := by
  unfold fX8_number_L20_body at h
  unfold PX8_number_L20
  refine r_aload_n dX8_number_20 0 rfl ?_
  obtain ⟨h1, h⟩ := chk_some h
  refine r_getI (fl_RX8_138 rfl) rfl dX8_number_21 h1 ?_
  refine r_iload dX8_number_24 4 rfl ?_
  refine r_isub dX8_number_26 ?_
  refine r_iconst (v := 2) dX8_number_27 (by decide) ?_
  refine r_icmp_ge (tgt := 77) dX8_number_28 (by decide) (fun c2 => ?_) (fun c2 => ?_)
  · rw [if_pos c2] at h
    obtain ⟨r3, hr, h⟩ := wr_some h
    rw [hr] at hk
    refine r_sub [0, 1, 2, 3, 4, 5] [(0, .ref a0), (1, .int x1), (2, .int x2), (3, .int x3), (4, .int x4), (5, .int s.1)] rfl ?_
    exact okX8_number_b77 h hk
  · rw [if_neg c2] at h
    refine r_aload_n dX8_number_31 0 rfl ?_
    obtain ⟨q4, g5, h⟩ := ob_some h
    refine r_callV (d' := (6, 0, false)) (As := []) (st := []) mdv_X8_sign tm_RX8_144 (by decide) rfl rfl (by decide) rfl (Nat.le_refl _) (Nat.le_of_ble_eq_true rfl) rfl dX8_number_32 h1 (ctX8_sign g5) (k_I0 ?_)
    refine r_bipush (v := 48) dX8_number_35 (by decide) ?_
    refine r_icmp_lt (tgt := 77) dX8_number_37 (by decide) (fun c6 => ?_) (fun c6 => ?_)
    · rw [if_pos c6] at h
      obtain ⟨r7, hr, h⟩ := wr_some h
      rw [hr] at hk
      refine r_sub [0, 1, 2, 3, 4, 5] [(0, .ref a0), (1, .int x1), (2, .int x2), (3, .int x3), (4, .int x4), (5, .int s.1)] rfl ?_
      exact okX8_number_b77 h hk
    · rw [if_neg c6] at h
      refine r_aload_n dX8_number_40 0 rfl ?_
      obtain ⟨h8, h⟩ := chk_some h
      obtain ⟨q9, g10, h⟩ := ob_some h
      refine r_callV (d' := (6, 0, false)) (As := []) (st := []) mdv_X8_sign tm_RX8_144 (by decide) rfl rfl (by decide) rfl (Nat.le_refl _) (Nat.le_of_ble_eq_true rfl) rfl dX8_number_41 h8 (ctX8_sign g10) (k_I0 ?_)
      refine r_bipush (v := 57) dX8_number_44 (by decide) ?_
      refine r_icmp_gt (tgt := 77) dX8_number_46 (by decide) (fun c11 => ?_) (fun c11 => ?_)
      · rw [if_pos c11] at h
        obtain ⟨r12, hr, h⟩ := wr_some h
        rw [hr] at hk
        refine r_sub [0, 1, 2, 3, 4, 5] [(0, .ref a0), (1, .int x1), (2, .int x2), (3, .int x3), (4, .int x4), (5, .int s.1)] rfl ?_
        exact okX8_number_b77 h hk
      · rw [if_neg c11] at h
        refine r_bipush (v := 10) dX8_number_49 (by decide) ?_
        refine r_iload dX8_number_51 5 rfl ?_
        refine r_imul dX8_number_53 ?_
        refine r_aload_n dX8_number_54 0 rfl ?_
        obtain ⟨h13, h⟩ := chk_some h
        obtain ⟨q14, g15, h⟩ := ob_some h
        refine r_callV (d' := (6, 0, false)) (As := []) (st := [.int (10 * s.1)]) mdv_X8_sign tm_RX8_144 (by decide) rfl rfl (by decide) rfl (Nat.le_refl _) (Nat.le_of_ble_eq_true rfl) rfl dX8_number_55 h13 (ctX8_sign g15) (k_I0 ?_)
        refine r_iadd dX8_number_58 ?_
        refine r_bipush (v := 48) dX8_number_59 (by decide) ?_
        refine r_isub dX8_number_61 ?_
        obtain ⟨u16, e17, h⟩ := bnd_some h
        refine r_eqI e17 ?_
        refine r_istore dX8_number_62 (Nat.le_of_ble_eq_true rfl) [(5, .int u16), (0, .ref a0), (1, .int x1), (2, .int x2), (3, .int x3), (4, .int x4)] rfl ?_
        refine r_aload_n dX8_number_64 1 rfl ?_
        refine r_dup dX8_number_65 rfl ?_
        obtain ⟨h18, h⟩ := chk_some h
        refine r_getI (fl_RX8_138 rfl) rfl dX8_number_66 h18 ?_
        refine r_iconst (v := 1) dX8_number_69 (by decide) ?_
        refine r_iadd dX8_number_70 ?_
        obtain ⟨w19, e20, h⟩ := bnd_some h
        refine r_putI (fl_RX8_138 rfl) rfl rfl (ck_ty (by decide) 25 (by decide)) rfl rfl dX8_number_71 h18 ?_
        refine r_eqW e20 ?_
        refine r_goto (tgt := 20) dX8_number_74 (by decide) ?_
        rw [← Option.some.inj h] at hk
        refine r_sub [1, 2, 3, 4, 5, 0] [(0, .ref a0), (1, .int x1), (2, .int x2), (3, .int x3), (4, .int x4), (5, .int u16)] rfl ?_
        exact hk
def fX8_number_L20 (a0 : Nat) (x1 : Int32) (x2 : Int32) (x3 : Int32) (x4 : Int32) (s : Int32 × Wd) : Option (Int32 × Wd) := it (fX8_number_L20_body a0 x1 x2 x3 x4) FU s
set_option maxHeartbeats 1000000 in
set_option maxRecDepth 20000 in
theorem okX8_number_L20 {E : Ev} {Q : Option Value → Wd → Prop} {a0 : Nat} {x1 : Int32} {x2 : Int32} {x3 : Int32} {x4 : Int32} {s : Int32 × Wd} {r : Int32 × Wd} (h : fX8_number_L20 a0 x1 x2 x3 x4 s = some r) (hk : (fun q : Int32 × Wd => Q (some (.int q.1)) q.2) r) : PX8_number_L20 E Q a0 x1 x2 x3 x4 s := it_runs (fun s r h hk => okX8_number_L20_body h hk) FU s r h hk
def fX8_number (a0 : Nat) (x1 : Int32) (x2 : Int32) (x3 : Int32) (w : Wd) : Option (Int32 × Wd) :=
  chk (isO w a0 8) (ob (fX8_is a0 32 w) (fun q2 => if q2.1 = 0 then (some (0, q2.2)) else (chk (isO q2.2 a0 8) (bnd (wI q2.2 a0 25) (fun u6 => fX8_number_L20 a0 x1 x2 x3 u6 (0, q2.2))))))
set_option maxHeartbeats 1000000 in
set_option maxRecDepth 20000 in
theorem okX8_number {E : Ev} {Q : Option Value → Wd → Prop} {a0 : Nat} {x1 : Int32} {x2 : Int32} {x3 : Int32} {w : Wd} {q : Int32 × Wd} (h : fX8_number a0 x1 x2 x3 w = some q) (hk : (fun q : Int32 × Wd => Q (some (.int q.1)) q.2) q) : Runs E mX8_number (8, 0, false) Q 0 0 [(0, .ref a0), (1, .int x1), (2, .int x2), (3, .int x3)] [] w := by
  unfold fX8_number at h
  refine r_aload_n dX8_number_0 0 rfl ?_
  refine r_bipush (v := 32) dX8_number_1 (by decide) ?_
  obtain ⟨h1, h⟩ := chk_some h
  obtain ⟨q2, g3, h⟩ := ob_some h
  refine r_callV (d' := (7, 0, false)) (As := [.int 32]) (st := []) mdv_X8_is tm_RX8_157 (by decide) rfl rfl (by decide) rfl (Nat.le_refl _) (Nat.le_of_ble_eq_true rfl) rfl dX8_number_3 h1 (ctX8_is g3) (k_I0 ?_)
  refine r_if_ne (tgt := 11) dX8_number_6 (by decide) (fun c4 => ?_) (fun c4 => ?_)
  · rw [if_neg c4] at h
    refine r_aload_n dX8_number_11 0 rfl ?_
    obtain ⟨h5, h⟩ := chk_some h
    refine r_getI (fl_RX8_138 rfl) rfl dX8_number_12 h5 ?_
    obtain ⟨u6, e7, h⟩ := bnd_some h
    refine r_eqI e7 ?_
    refine r_istore dX8_number_15 (Nat.le_of_ble_eq_true rfl) [(4, .int u6), (0, .ref a0), (1, .int x1), (2, .int x2), (3, .int x3)] rfl ?_
    refine r_iconst (v := 0) dX8_number_17 (by decide) ?_
    refine r_istore dX8_number_18 (Nat.le_of_ble_eq_true rfl) [(5, .int 0), (4, .int u6), (0, .ref a0), (1, .int x1), (2, .int x2), (3, .int x3)] rfl ?_
    refine r_sub [2, 3, 4, 5, 1, 0] [(0, .ref a0), (1, .int x1), (2, .int x2), (3, .int x3), (4, .int u6), (5, .int 0)] rfl ?_
    exact okX8_number_L20 h hk
  · rw [if_pos c4] at h
    refine r_iconst (v := 0) dX8_number_9 (by decide) ?_
    rw [← Option.some.inj h] at hk
    exact r_ireturn dX8_number_10 rfl rfl hk
set_option maxHeartbeats 1000000 in
set_option maxRecDepth 20000 in
theorem ctX8_number {E : Ev} {a0 : Nat} {x1 : Int32} {x2 : Int32} {x3 : Int32} {w : Wd} {q : Int32 × Wd} (h : fX8_number a0 x1 x2 x3 w = some q) : CT E mX8_number (8, 0, false) [.ref a0, .int x1, .int x2, .int x3] w (QI q) := CT.of pl_RX8 (Nat.le_of_ble_eq_true rfl) (okX8_number h ⟨rfl, rfl⟩)
def fX8_then_b48 (s0 : Int32) (w : Wd) : Option (Int32 × Wd) :=
  chk (s0 = 0 ∨ s0 = 1) (some (s0, w))
set_option maxHeartbeats 1000000 in
set_option maxRecDepth 20000 in
theorem okX8_then_b48 {E : Ev} {Q : Option Value → Wd → Prop} {s0 : Int32} {w : Wd} {q : Int32 × Wd} (h : fX8_then_b48 s0 w = some q) (hk : (fun q : Int32 × Wd => Q (some (.int q.1)) q.2) q) : Runs E mX8_then (6, 0, false) Q 0 48 [] [.int s0] w := by
  unfold fX8_then_b48 at h
  obtain ⟨h1, h⟩ := chk_some h
  rw [← Option.some.inj h] at hk
  exact r_ireturn dX8_then_48 rfl (nb h1) hk
def fX8_then_b47 (w : Wd) : Option (Int32 × Wd) :=
  fX8_then_b48 0 w
set_option maxHeartbeats 1000000 in
set_option maxRecDepth 20000 in
theorem okX8_then_b47 {E : Ev} {Q : Option Value → Wd → Prop} {w : Wd} {q : Int32 × Wd} (h : fX8_then_b47 w = some q) (hk : (fun q : Int32 × Wd => Q (some (.int q.1)) q.2) q) : Runs E mX8_then (6, 0, false) Q 0 47 [] [] w := by
  unfold fX8_then_b47 at h
  refine r_iconst (v := 0) dX8_then_47 (by decide) ?_
  refine r_sub [] [] rfl ?_
  exact okX8_then_b48 h hk
def fX8_then (a0 : Nat) (x1 : Int32) (w : Wd) : Option (Int32 × Wd) :=
  chk (isO w a0 8) (ob (wR w a0 1) (fun o2 => chk (isA w o2 0) (chk (inb (wI w a0 24) (wn w o2)) (if (wI w o2 ((wI w a0 24)).toNatClampNeg) ≤ ((wI w a0 25) + 1) then (fX8_then_b47 w) else (ob (wR w a0 2) (fun o7 => chk (isA w o7 1) (chk (inb (((160 * (wI w a0 24)) + (wI w a0 25)) + 1) (wn w o7)) (if ((wL w o7 ((((160 * (wI w a0 24)) + (wI w a0 25)) + 1)).toNatClampNeg)).toInt32 = x1 then (fX8_then_b48 1 w) else (fX8_then_b47 w)))))))))
set_option maxHeartbeats 1000000 in
set_option maxRecDepth 20000 in
theorem okX8_then {E : Ev} {Q : Option Value → Wd → Prop} {a0 : Nat} {x1 : Int32} {w : Wd} {q : Int32 × Wd} (h : fX8_then a0 x1 w = some q) (hk : (fun q : Int32 × Wd => Q (some (.int q.1)) q.2) q) : Runs E mX8_then (6, 0, false) Q 0 0 [(0, .ref a0), (1, .int x1)] [] w := by
  unfold fX8_then at h
  refine r_aload_n dX8_then_0 0 rfl ?_
  obtain ⟨h1, h⟩ := chk_some h
  refine r_getI (fl_RX8_138 rfl) rfl dX8_then_1 h1 ?_
  refine r_iconst (v := 1) dX8_then_4 (by decide) ?_
  refine r_iadd dX8_then_5 ?_
  refine r_aload_n dX8_then_6 0 rfl ?_
  obtain ⟨o2, g3, h⟩ := ob_some h
  refine r_getR (fl_RX8_13 rfl) rfl dX8_then_7 h1 g3 ?_
  refine r_aload_n dX8_then_10 0 rfl ?_
  refine r_getI (fl_RX8_141 rfl) rfl dX8_then_11 h1 ?_
  obtain ⟨h4, h⟩ := chk_some h
  obtain ⟨h5, h⟩ := chk_some h
  refine r_iaload dX8_then_14 h4 h5 ?_
  refine r_icmp_ge (tgt := 47) dX8_then_15 (by decide) (fun c6 => ?_) (fun c6 => ?_)
  · rw [if_pos c6] at h
    refine r_sub [] [] rfl ?_
    exact okX8_then_b47 h hk
  · rw [if_neg c6] at h
    refine r_aload_n dX8_then_18 0 rfl ?_
    obtain ⟨o7, g8, h⟩ := ob_some h
    refine r_getR (fl_RX8_16 rfl) rfl dX8_then_19 h1 g8 ?_
    refine r_sipush (v := 160) dX8_then_22 (by decide) ?_
    refine r_aload_n dX8_then_25 0 rfl ?_
    refine r_getI (fl_RX8_141 rfl) rfl dX8_then_26 h1 ?_
    refine r_imul dX8_then_29 ?_
    refine r_aload_n dX8_then_30 0 rfl ?_
    refine r_getI (fl_RX8_138 rfl) rfl dX8_then_31 h1 ?_
    refine r_iadd dX8_then_34 ?_
    refine r_iconst (v := 1) dX8_then_35 (by decide) ?_
    refine r_iadd dX8_then_36 ?_
    obtain ⟨h9, h⟩ := chk_some h
    obtain ⟨h10, h⟩ := chk_some h
    refine r_laload dX8_then_37 h9 h10 ?_
    refine r_l2i dX8_then_38 ?_
    refine r_iload_n dX8_then_39 1 rfl ?_
    refine r_icmp_ne (tgt := 47) dX8_then_40 (by decide) (fun c11 => ?_) (fun c11 => ?_)
    · rw [if_neg c11] at h
      refine r_sub [] [] rfl ?_
      exact okX8_then_b47 h hk
    · rw [if_pos c11] at h
      refine r_iconst (v := 1) dX8_then_43 (by decide) ?_
      refine r_goto (tgt := 48) dX8_then_44 (by decide) ?_
      refine r_sub [] [] rfl ?_
      exact okX8_then_b48 h hk
set_option maxHeartbeats 1000000 in
set_option maxRecDepth 20000 in
theorem ctX8_then {E : Ev} {a0 : Nat} {x1 : Int32} {w : Wd} {q : Int32 × Wd} (h : fX8_then a0 x1 w = some q) : CT E mX8_then (6, 0, false) [.ref a0, .int x1] w (QI q) := CT.of pl_RX8 (Nat.le_of_ble_eq_true rfl) (okX8_then h ⟨rfl, rfl⟩)
def fX8_washedBy_b40 (w : Wd) : Option (Int32 × Wd) :=
  some (1, w)
set_option maxHeartbeats 1000000 in
set_option maxRecDepth 20000 in
theorem okX8_washedBy_b40 {E : Ev} {Q : Option Value → Wd → Prop} {w : Wd} {q : Int32 × Wd} (h : fX8_washedBy_b40 w = some q) (hk : (fun q : Int32 × Wd => Q (some (.int q.1)) q.2) q) : Runs E mX8_washedBy (6, 0, false) Q 0 40 [] [] w := by
  unfold fX8_washedBy_b40 at h
  refine r_iconst (v := 1) dX8_washedBy_40 (by decide) ?_
  rw [← Option.some.inj h] at hk
  exact r_ireturn dX8_washedBy_41 rfl rfl hk
def fX8_washedBy (x0 : Int32) (w : Wd) : Option (Int32 × Wd) :=
  if x0 = 1 then (fX8_washedBy_b40 w) else (if x0 = 2 then (some (5, w)) else (if x0 = 3 then (fX8_washedBy_b40 w) else (if x0 = 4 then (some (0, w)) else (if x0 = 5 then (some (2, w)) else (if x0 = 6 then (some (9, w)) else (some (3, w)))))))
set_option maxHeartbeats 1000000 in
set_option maxRecDepth 20000 in
theorem okX8_washedBy {E : Ev} {Q : Option Value → Wd → Prop} {x0 : Int32} {w : Wd} {q : Int32 × Wd} (h : fX8_washedBy x0 w = some q) (hk : (fun q : Int32 × Wd => Q (some (.int q.1)) q.2) q) : Runs E mX8_washedBy (6, 0, false) Q 0 0 [(0, .int x0)] [] w := by
  unfold fX8_washedBy at h
  refine r_iload_n dX8_washedBy_0 0 rfl ?_
  by_cases c1 : x0 = 1
  · rw [if_pos c1] at h
    refine r_tabIn (tgt := 40) dX8_washedBy_1 (by rw [c1] <;> decide) (by rw [c1] <;> decide) (by rw [c1] <;> rfl) (by decide) ?_
    refine r_sub [] [] rfl ?_
    exact okX8_washedBy_b40 h hk
  rw [if_neg c1] at h
  by_cases c2 : x0 = 2
  · rw [if_pos c2] at h
    refine r_tabIn (tgt := 42) dX8_washedBy_1 (by rw [c2] <;> decide) (by rw [c2] <;> decide) (by rw [c2] <;> rfl) (by decide) ?_
    refine r_iconst (v := 5) dX8_washedBy_42 (by decide) ?_
    rw [← Option.some.inj h] at hk
    exact r_ireturn dX8_washedBy_43 rfl rfl hk
  rw [if_neg c2] at h
  by_cases c3 : x0 = 3
  · rw [if_pos c3] at h
    refine r_tabIn (tgt := 40) dX8_washedBy_1 (by rw [c3] <;> decide) (by rw [c3] <;> decide) (by rw [c3] <;> rfl) (by decide) ?_
    refine r_sub [] [] rfl ?_
    exact okX8_washedBy_b40 h hk
  rw [if_neg c3] at h
  by_cases c4 : x0 = 4
  · rw [if_pos c4] at h
    refine r_tabIn (tgt := 44) dX8_washedBy_1 (by rw [c4] <;> decide) (by rw [c4] <;> decide) (by rw [c4] <;> rfl) (by decide) ?_
    refine r_iconst (v := 0) dX8_washedBy_44 (by decide) ?_
    rw [← Option.some.inj h] at hk
    exact r_ireturn dX8_washedBy_45 rfl rfl hk
  rw [if_neg c4] at h
  by_cases c5 : x0 = 5
  · rw [if_pos c5] at h
    refine r_tabIn (tgt := 46) dX8_washedBy_1 (by rw [c5] <;> decide) (by rw [c5] <;> decide) (by rw [c5] <;> rfl) (by decide) ?_
    refine r_iconst (v := 2) dX8_washedBy_46 (by decide) ?_
    rw [← Option.some.inj h] at hk
    exact r_ireturn dX8_washedBy_47 rfl rfl hk
  rw [if_neg c5] at h
  by_cases c6 : x0 = 6
  · rw [if_pos c6] at h
    refine r_tabIn (tgt := 48) dX8_washedBy_1 (by rw [c6] <;> decide) (by rw [c6] <;> decide) (by rw [c6] <;> rfl) (by decide) ?_
    refine r_bipush (v := 9) dX8_washedBy_48 (by decide) ?_
    rw [← Option.some.inj h] at hk
    exact r_ireturn dX8_washedBy_50 rfl rfl hk
  rw [if_neg c6] at h
  refine r_tabOut (tgt := 51) dX8_washedBy_1 (by have := lv_neT (k := 1) (a := 1) c1 rfl; have := lv_neT (k := 2) (a := 2) c2 rfl; have := lv_neT (k := 3) (a := 3) c3 rfl; have := lv_neT (k := 4) (a := 4) c4 rfl; have := lv_neT (k := 5) (a := 5) c5 rfl; have := lv_neT (k := 6) (a := 6) c6 rfl; omega) (by decide) ?_
  refine r_iconst (v := 3) dX8_washedBy_51 (by decide) ?_
  rw [← Option.some.inj h] at hk
  exact r_ireturn dX8_washedBy_52 rfl rfl hk
set_option maxHeartbeats 1000000 in
set_option maxRecDepth 20000 in
theorem ctX8_washedBy {E : Ev} {x0 : Int32} {w : Wd} {q : Int32 × Wd} (h : fX8_washedBy x0 w = some q) : CT E mX8_washedBy (6, 0, false) [.int x0] w (QI q) := CT.of pl_RX8 (Nat.le_of_ble_eq_true rfl) (okX8_washedBy h ⟨rfl, rfl⟩)
def PX8_washes_L2 (E : Ev) (Q : Option Value → Wd → Prop) (a0 : Nat) (x1 : Int32) (s : Int32 × Wd) : Prop := Runs E mX8_washes (7, 0, false) Q 0 2 [(0, .ref a0), (1, .int x1), (2, .int s.1)] [] s.2
def fX8_washes_b57 (a0 : Nat) (x1 : Int32) (x2 : Int32) (w : Wd) : Option ((Int32 × Wd) ⊕ (Wd)) :=
  some (.inl ((x2 + 1), w))
set_option maxHeartbeats 1000000 in
set_option maxRecDepth 20000 in
theorem okX8_washes_b57 {E : Ev} {Q : Option Value → Wd → Prop} {a0 : Nat} {x1 : Int32} {x2 : Int32} {w : Wd} {q : (Int32 × Wd) ⊕ (Wd)} (h : fX8_washes_b57 a0 x1 x2 w = some q) (hk : (Sum.elim (PX8_washes_L2 E Q a0 x1) (fun q : Wd => Q none q)) q) : Runs E mX8_washes (7, 0, false) Q 0 57 [(0, .ref a0), (1, .int x1), (2, .int x2)] [] w := by
  unfold fX8_washes_b57 at h
  refine r_iinc (v := (x2 + 1)) dX8_washes_57 2 rfl rfl (Nat.le_of_ble_eq_true rfl) [(2, .int (x2 + 1)), (0, .ref a0), (1, .int x1)] rfl ?_
  refine r_goto (tgt := 2) dX8_washes_60 (by decide) ?_
  rw [← Option.some.inj h] at hk
  refine r_sub [1, 2, 0] [(0, .ref a0), (1, .int x1), (2, .int (x2 + 1))] rfl ?_
  exact hk
def fX8_washes_L2_body (a0 : Nat) (x1 : Int32) (s : Int32 × Wd) : Option ((Int32 × Wd) ⊕ (Wd)) :=
  if (12 : Int32) ≤ s.1 then (wr (some s.2)) else (chk (isO s.2 a0 8) (ob (wR s.2 a0 11) (fun o4 => chk (isA s.2 o4 0) (chk (inb ((12 * x1) + s.1) (wn s.2 o4)) (ob (wR s.2 a0 7) (fun o8 => chk (isA s.2 o8 0) (chk (inb x1 (wn s.2 o8)) (ob (fX8_washedBy (wI s.2 o8 (x1).toNatClampNeg) s.2) (fun q12 => bnd ((wI s.2 o4 (((12 * x1) + s.1)).toNatClampNeg) - q12.1) (fun u14 => if 0 < u14 then (chk (isO q12.2 a0 8) (ob (wR q12.2 a0 11) (fun o18 => chk (isA q12.2 o18 0) (chk (inb ((12 * x1) + s.1) (wn q12.2 o18)) (bnd (sI q12.2 o18 (((12 * x1) + s.1)).toNatClampNeg u14) (fun w22 => fX8_washes_b57 a0 x1 s.1 w22)))))) else (chk (isO q12.2 a0 8) (ob (fX8_becomes a0 x1 s.1 0 0 q12.2) (fun q25 => fX8_washes_b57 a0 x1 s.1 q25)))))))))))))
set_option maxHeartbeats 1000000 in
set_option maxRecDepth 20000 in
theorem okX8_washes_L2_body {E : Ev} {Q : Option Value → Wd → Prop} {a0 : Nat} {x1 : Int32} {s : Int32 × Wd} {r : (Int32 × Wd) ⊕ (Wd)} (h : fX8_washes_L2_body a0 x1 s = some r) (hk : (Sum.elim (PX8_washes_L2 E Q a0 x1) (fun q : Wd => Q none q)) r) : PX8_washes_L2 E Q a0 x1 s := by
  unfold fX8_washes_L2_body at h
  unfold PX8_washes_L2
  refine r_iload_n dX8_washes_2 2 rfl ?_
  refine r_bipush (v := 12) dX8_washes_3 (by decide) ?_
  refine r_icmp_ge (tgt := 63) dX8_washes_5 (by decide) (fun c1 => ?_) (fun c1 => ?_)
  · rw [if_pos c1] at h
    obtain ⟨r2, hr, h⟩ := wr_some h
    rw [hr] at hk
    rw [← Option.some.inj h] at hk
    exact r_return dX8_washes_63 rfl hk
  · rw [if_neg c1] at h
    refine r_aload_n dX8_washes_8 0 rfl ?_
    obtain ⟨h3, h⟩ := chk_some h
    obtain ⟨o4, g5, h⟩ := ob_some h
    refine r_getR (fl_RX8_38 rfl) rfl dX8_washes_9 h3 g5 ?_
    refine r_bipush (v := 12) dX8_washes_12 (by decide) ?_
    refine r_iload_n dX8_washes_14 1 rfl ?_
    refine r_imul dX8_washes_15 ?_
    refine r_iload_n dX8_washes_16 2 rfl ?_
    refine r_iadd dX8_washes_17 ?_
    obtain ⟨h6, h⟩ := chk_some h
    obtain ⟨h7, h⟩ := chk_some h
    refine r_iaload dX8_washes_18 h6 h7 ?_
    refine r_aload_n dX8_washes_19 0 rfl ?_
    obtain ⟨o8, g9, h⟩ := ob_some h
    refine r_getR (fl_RX8_26 rfl) rfl dX8_washes_20 h3 g9 ?_
    refine r_iload_n dX8_washes_23 1 rfl ?_
    obtain ⟨h10, h⟩ := chk_some h
    obtain ⟨h11, h⟩ := chk_some h
    refine r_iaload dX8_washes_24 h10 h11 ?_
    obtain ⟨q12, g13, h⟩ := ob_some h
    refine r_callS (d' := (6, 0, false)) (As := [.int (wI s.2 o8 (x1).toNatClampNeg)]) (st := [.int (wI s.2 o4 (((12 * x1) + s.1)).toNatClampNeg)]) mds_X8_washedBy tm_RX8_227 rfl (by decide) rfl (Nat.le_refl _) (Nat.le_of_ble_eq_true rfl) rfl dX8_washes_25 (ctX8_washedBy g13) (k_I0 ?_)
    refine r_isub dX8_washes_28 ?_
    obtain ⟨u14, e15, h⟩ := bnd_some h
    refine r_eqI e15 ?_
    refine r_istore_n dX8_washes_29 rfl (Nat.le_of_ble_eq_true rfl) [(3, .int u14), (0, .ref a0), (1, .int x1), (2, .int s.1)] rfl ?_
    refine r_iload_n dX8_washes_30 0 rfl ?_
    refine r_if_gt (tgt := 45) dX8_washes_31 (by decide) (fun c16 => ?_) (fun c16 => ?_)
    · rw [if_pos c16] at h
      refine r_aload_n dX8_washes_45 1 rfl ?_
      obtain ⟨h17, h⟩ := chk_some h
      obtain ⟨o18, g19, h⟩ := ob_some h
      refine r_getR (fl_RX8_38 rfl) rfl dX8_washes_46 h17 g19 ?_
      refine r_bipush (v := 12) dX8_washes_49 (by decide) ?_
      refine r_iload_n dX8_washes_51 2 rfl ?_
      refine r_imul dX8_washes_52 ?_
      refine r_iload_n dX8_washes_53 3 rfl ?_
      refine r_iadd dX8_washes_54 ?_
      refine r_iload_n dX8_washes_55 0 rfl ?_
      obtain ⟨h20, h⟩ := chk_some h
      obtain ⟨h21, h⟩ := chk_some h
      obtain ⟨w22, e23, h⟩ := bnd_some h
      refine r_iastore dX8_washes_56 h20 h21 ?_
      refine r_eqW e23 ?_
      refine r_sub [1, 2, 3] [(0, .ref a0), (1, .int x1), (2, .int s.1)] rfl ?_
      exact okX8_washes_b57 h hk
    · rw [if_neg c16] at h
      refine r_aload_n dX8_washes_34 1 rfl ?_
      refine r_iload_n dX8_washes_35 2 rfl ?_
      refine r_iload_n dX8_washes_36 3 rfl ?_
      refine r_iconst (v := 0) dX8_washes_37 (by decide) ?_
      refine r_iconst (v := 0) dX8_washes_38 (by decide) ?_
      obtain ⟨h24, h⟩ := chk_some h
      obtain ⟨q25, g26, h⟩ := ob_some h
      refine r_callV (d' := (6, 0, false)) (As := [.int x1, .int s.1, .int 0, .int 0]) (st := []) mdv_X8_becomes tm_RX8_128 (by decide) rfl rfl (by decide) rfl (Nat.le_refl _) (Nat.le_of_ble_eq_true rfl) rfl dX8_washes_39 h24 (ctX8_becomes g26) (k_V0 ?_)
      refine r_goto (tgt := 57) dX8_washes_42 (by decide) ?_
      refine r_sub [1, 2, 3] [(0, .ref a0), (1, .int x1), (2, .int s.1)] rfl ?_
      exact okX8_washes_b57 h hk
def fX8_washes_L2 (a0 : Nat) (x1 : Int32) (s : Int32 × Wd) : Option (Wd) := it (fX8_washes_L2_body a0 x1) FU s
set_option maxHeartbeats 1000000 in
set_option maxRecDepth 20000 in
theorem okX8_washes_L2 {E : Ev} {Q : Option Value → Wd → Prop} {a0 : Nat} {x1 : Int32} {s : Int32 × Wd} {r : Wd} (h : fX8_washes_L2 a0 x1 s = some r) (hk : (fun q : Wd => Q none q) r) : PX8_washes_L2 E Q a0 x1 s := it_runs (fun s r h hk => okX8_washes_L2_body h hk) FU s r h hk
def fX8_washes (a0 : Nat) (x1 : Int32) (w : Wd) : Option (Wd) :=
  fX8_washes_L2 a0 x1 (0, w)
set_option maxHeartbeats 1000000 in
set_option maxRecDepth 20000 in
theorem okX8_washes {E : Ev} {Q : Option Value → Wd → Prop} {a0 : Nat} {x1 : Int32} {w : Wd} {q : Wd} (h : fX8_washes a0 x1 w = some q) (hk : (fun q : Wd => Q none q) q) : Runs E mX8_washes (7, 0, false) Q 0 0 [(0, .ref a0), (1, .int x1)] [] w := by
  unfold fX8_washes at h
  refine r_iconst (v := 0) dX8_washes_0 (by decide) ?_
  refine r_istore_n dX8_washes_1 rfl (Nat.le_of_ble_eq_true rfl) [(2, .int 0), (0, .ref a0), (1, .int x1)] rfl ?_
  refine r_sub [1, 2, 0] [(0, .ref a0), (1, .int x1), (2, .int 0)] rfl ?_
  exact okX8_washes_L2 h hk
set_option maxHeartbeats 1000000 in
set_option maxRecDepth 20000 in
theorem ctX8_washes {E : Ev} {a0 : Nat} {x1 : Int32} {w : Wd} {q : Wd} (h : fX8_washes a0 x1 w = some q) : CT E mX8_washes (7, 0, false) [.ref a0, .int x1] w (QV q) := CT.of pl_RX8 (Nat.le_of_ble_eq_true rfl) (okX8_washes h ⟨rfl, rfl⟩)
def PX8_word_L2 (E : Ev) (Q : Option Value → Wd → Prop) (a0 : Nat) (z1 : Nat) (s : Int32 × Wd) : Prop := Runs E mX8_word (10, 0, false) Q 0 2 [(0, .ref a0), (1, .ref (1100 + z1)), (2, .int s.1)] [] s.2
def fX8_word_L2_body (a0 : Nat) (z1 : Nat) (s : Int32 × Wd) : Option ((Int32 × Wd) ⊕ (Int32 × Wd)) :=
  ob (fJ0_length_8abf5 z1 s.2) (fun q1 => chk (z1 < 16) (if q1.1 ≤ s.1 then (wr (some (1, q1.2))) else (ob (fJ0_charAt_5068e z1 s.1 q1.2) (fun q6 => chk (isO q6.2 a0 8) (ob (fX8_is a0 q6.1 q6.2) (fun q9 => if q9.1 = 0 then (wr (some (0, q9.2))) else (some (.inl ((s.1 + 1), q9.2)))))))))
set_option maxHeartbeats 1000000 in
set_option maxRecDepth 20000 in
theorem okX8_word_L2_body {E : Ev} {Q : Option Value → Wd → Prop} {a0 : Nat} {z1 : Nat} {s : Int32 × Wd} {r : (Int32 × Wd) ⊕ (Int32 × Wd)} (h : fX8_word_L2_body a0 z1 s = some r) (hk : (Sum.elim (PX8_word_L2 E Q a0 z1) (fun q : Int32 × Wd => Q (some (.int q.1)) q.2)) r) : PX8_word_L2 E Q a0 z1 s := by
  unfold fX8_word_L2_body at h
  unfold PX8_word_L2
  refine r_iload_n dX8_word_2 2 rfl ?_
  refine r_aload_n dX8_word_3 1 rfl ?_
  obtain ⟨q1, g2, h⟩ := ob_some h
  obtain ⟨h3, h⟩ := chk_some h
  refine r_callT (d' := (7, 0, false)) (As := []) (st := [.int s.1]) (i := z1) h3 mdv_J0_length_8abf5 tm_RX8_148 rfl rfl (by decide) rfl (Nat.le_refl _) (Nat.le_of_ble_eq_true rfl) rfl dX8_word_4 (ctJ0_length_8abf5 g2) (k_I0 ?_)
  refine r_icmp_ge (tgt := 30) dX8_word_7 (by decide) (fun c4 => ?_) (fun c4 => ?_)
  · rw [if_pos c4] at h
    obtain ⟨r5, hr, h⟩ := wr_some h
    rw [hr] at hk
    refine r_iconst (v := 1) dX8_word_30 (by decide) ?_
    rw [← Option.some.inj h] at hk
    exact r_ireturn dX8_word_31 rfl rfl hk
  · rw [if_neg c4] at h
    refine r_aload_n dX8_word_10 0 rfl ?_
    refine r_aload_n dX8_word_11 1 rfl ?_
    refine r_iload_n dX8_word_12 2 rfl ?_
    obtain ⟨q6, g7, h⟩ := ob_some h
    refine r_callT (d' := (9, 0, false)) (As := [.int s.1]) (st := [.ref a0]) (i := z1) h3 mdv_J0_charAt_5068e tm_RX8_153 rfl rfl (by decide) rfl (Nat.le_refl _) (Nat.le_of_ble_eq_true rfl) rfl dX8_word_13 (ctJ0_charAt_5068e g7) (k_I0 ?_)
    obtain ⟨h8, h⟩ := chk_some h
    obtain ⟨q9, g10, h⟩ := ob_some h
    refine r_callV (d' := (7, 0, false)) (As := [.int q6.1]) (st := []) mdv_X8_is tm_RX8_157 (by decide) rfl rfl (by decide) rfl (Nat.le_refl _) (Nat.le_of_ble_eq_true rfl) rfl dX8_word_16 h8 (ctX8_is g10) (k_I0 ?_)
    refine r_if_ne (tgt := 24) dX8_word_19 (by decide) (fun c11 => ?_) (fun c11 => ?_)
    · rw [if_neg c11] at h
      refine r_iinc (v := (s.1 + 1)) dX8_word_24 2 rfl rfl (Nat.le_of_ble_eq_true rfl) [(2, .int (s.1 + 1)), (0, .ref a0), (1, .ref (1100 + z1))] rfl ?_
      refine r_goto (tgt := 2) dX8_word_27 (by decide) ?_
      rw [← Option.some.inj h] at hk
      refine r_sub [1, 2, 0] [(0, .ref a0), (1, .ref (1100 + z1)), (2, .int (s.1 + 1))] rfl ?_
      exact hk
    · rw [if_pos c11] at h
      obtain ⟨r12, hr, h⟩ := wr_some h
      rw [hr] at hk
      refine r_iconst (v := 0) dX8_word_22 (by decide) ?_
      rw [← Option.some.inj h] at hk
      exact r_ireturn dX8_word_23 rfl rfl hk
def fX8_word_L2 (a0 : Nat) (z1 : Nat) (s : Int32 × Wd) : Option (Int32 × Wd) := it (fX8_word_L2_body a0 z1) FU s
set_option maxHeartbeats 1000000 in
set_option maxRecDepth 20000 in
theorem okX8_word_L2 {E : Ev} {Q : Option Value → Wd → Prop} {a0 : Nat} {z1 : Nat} {s : Int32 × Wd} {r : Int32 × Wd} (h : fX8_word_L2 a0 z1 s = some r) (hk : (fun q : Int32 × Wd => Q (some (.int q.1)) q.2) r) : PX8_word_L2 E Q a0 z1 s := it_runs (fun s r h hk => okX8_word_L2_body h hk) FU s r h hk
def fX8_word (a0 : Nat) (z1 : Nat) (w : Wd) : Option (Int32 × Wd) :=
  fX8_word_L2 a0 z1 (0, w)
set_option maxHeartbeats 1000000 in
set_option maxRecDepth 20000 in
theorem okX8_word {E : Ev} {Q : Option Value → Wd → Prop} {a0 : Nat} {z1 : Nat} {w : Wd} {q : Int32 × Wd} (h : fX8_word a0 z1 w = some q) (hk : (fun q : Int32 × Wd => Q (some (.int q.1)) q.2) q) : Runs E mX8_word (10, 0, false) Q 0 0 [(0, .ref a0), (1, .ref (1100 + z1))] [] w := by
  unfold fX8_word at h
  refine r_iconst (v := 0) dX8_word_0 (by decide) ?_
  refine r_istore_n dX8_word_1 rfl (Nat.le_of_ble_eq_true rfl) [(2, .int 0), (0, .ref a0), (1, .ref (1100 + z1))] rfl ?_
  refine r_sub [1, 2, 0] [(0, .ref a0), (1, .ref (1100 + z1)), (2, .int 0)] rfl ?_
  exact okX8_word_L2 h hk
set_option maxHeartbeats 1000000 in
set_option maxRecDepth 20000 in
theorem ctX8_word {E : Ev} {a0 : Nat} {z1 : Nat} {w : Wd} {q : Int32 × Wd} (h : fX8_word a0 z1 w = some q) : CT E mX8_word (10, 0, false) [.ref a0, .ref (1100 + z1)] w (QI q) := CT.of pl_RX8 (Nat.le_of_ble_eq_true rfl) (okX8_word h ⟨rfl, rfl⟩)
def fX8_word__b40 (s0 : Int32) (w : Wd) : Option (Int32 × Wd) :=
  chk (s0 = 0 ∨ s0 = 1) (some (s0, w))
set_option maxHeartbeats 1000000 in
set_option maxRecDepth 20000 in
theorem okX8_word__b40 {E : Ev} {Q : Option Value → Wd → Prop} {s0 : Int32} {w : Wd} {q : Int32 × Wd} (h : fX8_word__b40 s0 w = some q) (hk : (fun q : Int32 × Wd => Q (some (.int q.1)) q.2) q) : Runs E mX8_word_ (11, 0, false) Q 0 40 [] [.int s0] w := by
  unfold fX8_word__b40 at h
  obtain ⟨h1, h⟩ := chk_some h
  rw [← Option.some.inj h] at hk
  exact r_ireturn dX8_word__40 rfl (nb h1) hk
def fX8_word__b39 (w : Wd) : Option (Int32 × Wd) :=
  fX8_word__b40 0 w
set_option maxHeartbeats 1000000 in
set_option maxRecDepth 20000 in
theorem okX8_word__b39 {E : Ev} {Q : Option Value → Wd → Prop} {w : Wd} {q : Int32 × Wd} (h : fX8_word__b39 w = some q) (hk : (fun q : Int32 × Wd => Q (some (.int q.1)) q.2) q) : Runs E mX8_word_ (11, 0, false) Q 0 39 [] [] w := by
  unfold fX8_word__b39 at h
  refine r_iconst (v := 0) dX8_word__39 (by decide) ?_
  refine r_sub [] [] rfl ?_
  exact okX8_word__b40 h hk
def fX8_word__b26 (x2 : Int32) (x4 : Int32) (w : Wd) : Option (Int32 × Wd) :=
  if x4 = 0 then (fX8_word__b39 w) else (if x2 = 0 then (fX8_word__b39 w) else (fX8_word__b40 1 w))
set_option maxHeartbeats 1000000 in
set_option maxRecDepth 20000 in
theorem okX8_word__b26 {E : Ev} {Q : Option Value → Wd → Prop} {x2 : Int32} {x4 : Int32} {w : Wd} {q : Int32 × Wd} (h : fX8_word__b26 x2 x4 w = some q) (hk : (fun q : Int32 × Wd => Q (some (.int q.1)) q.2) q) : Runs E mX8_word_ (11, 0, false) Q 0 26 [(2, .int x2), (4, .int x4)] [] w := by
  unfold fX8_word__b26 at h
  refine r_iload dX8_word__26 1 rfl ?_
  refine r_if_eq (tgt := 39) dX8_word__28 (by decide) (fun c1 => ?_) (fun c1 => ?_)
  · rw [if_pos c1] at h
    refine r_sub [] [] rfl ?_
    exact okX8_word__b39 h hk
  · rw [if_neg c1] at h
    refine r_iload_n dX8_word__31 0 rfl ?_
    refine r_if_eq (tgt := 39) dX8_word__32 (by decide) (fun c2 => ?_) (fun c2 => ?_)
    · rw [if_pos c2] at h
      refine r_sub [] [] rfl ?_
      exact okX8_word__b39 h hk
    · rw [if_neg c2] at h
      refine r_iconst (v := 1) dX8_word__35 (by decide) ?_
      refine r_goto (tgt := 40) dX8_word__36 (by decide) ?_
      refine r_sub [] [] rfl ?_
      exact okX8_word__b40 h hk
def fX8_word_ (a0 : Nat) (z1 : Nat) (x2 : Int32) (w : Wd) : Option (Int32 × Wd) :=
  chk (isO w a0 8) (bnd (wI w a0 25) (fun u2 => ob (fX8_word a0 z1 w) (fun q4 => if q4.1 = 0 then (fX8_word__b26 x2 q4.1 q4.2) else (if x2 = 0 then (chk (isO q4.2 a0 8) (bnd (sI q4.2 a0 25 u2) (fun w9 => fX8_word__b26 x2 q4.1 w9))) else (fX8_word__b26 x2 q4.1 q4.2)))))
set_option maxHeartbeats 1000000 in
set_option maxRecDepth 20000 in
theorem okX8_word_ {E : Ev} {Q : Option Value → Wd → Prop} {a0 : Nat} {z1 : Nat} {x2 : Int32} {w : Wd} {q : Int32 × Wd} (h : fX8_word_ a0 z1 x2 w = some q) (hk : (fun q : Int32 × Wd => Q (some (.int q.1)) q.2) q) : Runs E mX8_word_ (11, 0, false) Q 0 0 [(0, .ref a0), (1, .ref (1100 + z1)), (2, .int x2)] [] w := by
  unfold fX8_word_ at h
  refine r_aload_n dX8_word__0 0 rfl ?_
  obtain ⟨h1, h⟩ := chk_some h
  refine r_getI (fl_RX8_138 rfl) rfl dX8_word__1 h1 ?_
  obtain ⟨u2, e3, h⟩ := bnd_some h
  refine r_eqI e3 ?_
  refine r_istore_n dX8_word__4 rfl (Nat.le_of_ble_eq_true rfl) [(3, .int u2), (0, .ref a0), (1, .ref (1100 + z1)), (2, .int x2)] rfl ?_
  refine r_aload_n dX8_word__5 1 rfl ?_
  refine r_aload_n dX8_word__6 2 rfl ?_
  obtain ⟨q4, g5, h⟩ := ob_some h
  refine r_callV (d' := (10, 0, false)) (As := [.ref (1100 + z1)]) (st := []) mdv_X8_word tm_RX8_161 (by decide) rfl rfl (by decide) rfl (Nat.le_refl _) (Nat.le_of_ble_eq_true rfl) rfl dX8_word__7 h1 (ctX8_word g5) (k_I0 ?_)
  refine r_istore dX8_word__10 (Nat.le_of_ble_eq_true rfl) [(4, .int q4.1), (3, .int u2), (0, .ref a0), (1, .ref (1100 + z1)), (2, .int x2)] rfl ?_
  refine r_iload dX8_word__12 0 rfl ?_
  refine r_if_eq (tgt := 26) dX8_word__14 (by decide) (fun c6 => ?_) (fun c6 => ?_)
  · rw [if_pos c6] at h
    refine r_sub [4, 0] [(2, .int x2), (4, .int q4.1)] rfl ?_
    exact okX8_word__b26 h hk
  · rw [if_neg c6] at h
    refine r_iload_n dX8_word__17 4 rfl ?_
    refine r_if_ne (tgt := 26) dX8_word__18 (by decide) (fun c7 => ?_) (fun c7 => ?_)
    · rw [if_neg c7] at h
      refine r_sub [4, 0] [(2, .int x2), (4, .int q4.1)] rfl ?_
      exact okX8_word__b26 h hk
    · rw [if_pos c7] at h
      refine r_aload_n dX8_word__21 2 rfl ?_
      refine r_iload_n dX8_word__22 1 rfl ?_
      obtain ⟨h8, h⟩ := chk_some h
      obtain ⟨w9, e10, h⟩ := bnd_some h
      refine r_putI (fl_RX8_138 rfl) rfl rfl (ck_ty (by decide) 25 (by decide)) rfl rfl dX8_word__23 h8 ?_
      refine r_eqW e10 ?_
      refine r_sub [4, 0] [(2, .int x2), (4, .int q4.1)] rfl ?_
      exact okX8_word__b26 h hk
set_option maxHeartbeats 1000000 in
set_option maxRecDepth 20000 in
theorem ctX8_word_ {E : Ev} {a0 : Nat} {z1 : Nat} {x2 : Int32} {w : Wd} {q : Int32 × Wd} (h : fX8_word_ a0 z1 x2 w = some q) : CT E mX8_word_ (11, 0, false) [.ref a0, .ref (1100 + z1), .int x2] w (QI q) := CT.of pl_RX8 (Nat.le_of_ble_eq_true rfl) (okX8_word_ h ⟨rfl, rfl⟩)
def fX8_item_b555 (w : Wd) : Option (Int32 × Wd) :=
  some (0, w)
set_option maxHeartbeats 1000000 in
set_option maxRecDepth 20000 in
theorem okX8_item_b555 {E : Ev} {Q : Option Value → Wd → Prop} {w : Wd} {q : Int32 × Wd} (h : fX8_item_b555 w = some q) (hk : (fun q : Int32 × Wd => Q (some (.int q.1)) q.2) q) : Runs E mX8_item (12, 0, false) Q 0 555 [] [] w := by
  unfold fX8_item_b555 at h
  refine r_iconst (v := 0) dX8_item_555 (by decide) ?_
  rw [← Option.some.inj h] at hk
  exact r_ireturn dX8_item_556 rfl rfl hk
def fX8_item_b194 (w : Wd) : Option (Int32 × Wd) :=
  some (0, w)
set_option maxHeartbeats 1000000 in
set_option maxRecDepth 20000 in
theorem okX8_item_b194 {E : Ev} {Q : Option Value → Wd → Prop} {w : Wd} {q : Int32 × Wd} (h : fX8_item_b194 w = some q) (hk : (fun q : Int32 × Wd => Q (some (.int q.1)) q.2) q) : Runs E mX8_item (12, 0, false) Q 0 194 [] [] w := by
  unfold fX8_item_b194 at h
  refine r_iconst (v := 0) dX8_item_194 (by decide) ?_
  rw [← Option.some.inj h] at hk
  exact r_ireturn dX8_item_195 rfl rfl hk
def fX8_item_b166 (a0 : Nat) (s0 : Int32) (s1 : Nat) (s2 : Nat) (w : Wd) : Option (Int32 × Wd) :=
  chk (isO w s2 8) (ob (fX8_word_ s2 s1 s0 w) (fun q2 => if q2.1 = 0 then (fX8_item_b194 q2.2) else (chk (isO q2.2 a0 8) (ob (fX8_number a0 0 0 6 q2.2) (fun q6 => if q6.1 = 0 then (fX8_item_b194 q6.2) else (chk (isO q6.2 a0 8) (ob (fX8_number a0 1 0 9 q6.2) (fun q10 => if q10.1 = 0 then (fX8_item_b194 q10.2) else (chk (isO q10.2 a0 8) (ob (wR q10.2 a0 26) (fun o14 => chk (isA q10.2 o14 0) (chk (inb 0 (wn q10.2 o14)) (chk (inb 1 (wn q10.2 o14)) (ob (fX8_newGarment a0 (wI q10.2 o14 (0 : Int32).toNatClampNeg) (wI q10.2 o14 (1 : Int32).toNatClampNeg) q10.2) (fun q19 => some (1, q19.2))))))))))))))))
set_option maxHeartbeats 1000000 in
set_option maxRecDepth 20000 in
theorem okX8_item_b166 {E : Ev} {Q : Option Value → Wd → Prop} {a0 : Nat} {s0 : Int32} {s1 : Nat} {s2 : Nat} {w : Wd} {q : Int32 × Wd} (h : fX8_item_b166 a0 s0 s1 s2 w = some q) (hk : (fun q : Int32 × Wd => Q (some (.int q.1)) q.2) q) : Runs E mX8_item (12, 0, false) Q 0 166 [(0, .ref a0)] [.int s0, .ref (1100 + s1), .ref s2] w := by
  unfold fX8_item_b166 at h
  obtain ⟨h1, h⟩ := chk_some h
  obtain ⟨q2, g3, h⟩ := ob_some h
  refine r_callV (d' := (11, 0, false)) (As := [.ref (1100 + s1), .int s0]) (st := []) mdv_X8_word_ tm_RX8_167 (by decide) rfl rfl (by decide) rfl (Nat.le_refl _) (Nat.le_of_ble_eq_true rfl) rfl dX8_item_166 h1 (ctX8_word_ g3) (k_I0 ?_)
  refine r_if_eq (tgt := 194) dX8_item_169 (by decide) (fun c4 => ?_) (fun c4 => ?_)
  · rw [if_pos c4] at h
    refine r_sub [] [] rfl ?_
    exact okX8_item_b194 h hk
  · rw [if_neg c4] at h
    refine r_aload_n dX8_item_172 0 rfl ?_
    refine r_iconst (v := 0) dX8_item_173 (by decide) ?_
    refine r_iconst (v := 0) dX8_item_174 (by decide) ?_
    refine r_bipush (v := 6) dX8_item_175 (by decide) ?_
    obtain ⟨h5, h⟩ := chk_some h
    obtain ⟨q6, g7, h⟩ := ob_some h
    refine r_callV (d' := (8, 0, false)) (As := [.int 0, .int 0, .int 6]) (st := []) mdv_X8_number tm_RX8_170 (by decide) rfl rfl (by decide) rfl (Nat.le_refl _) (Nat.le_of_ble_eq_true rfl) rfl dX8_item_177 h5 (ctX8_number g7) (k_I0 ?_)
    refine r_if_eq (tgt := 194) dX8_item_180 (by decide) (fun c8 => ?_) (fun c8 => ?_)
    · rw [if_pos c8] at h
      refine r_sub [] [] rfl ?_
      exact okX8_item_b194 h hk
    · rw [if_neg c8] at h
      refine r_aload_n dX8_item_183 0 rfl ?_
      refine r_iconst (v := 1) dX8_item_184 (by decide) ?_
      refine r_iconst (v := 0) dX8_item_185 (by decide) ?_
      refine r_bipush (v := 9) dX8_item_186 (by decide) ?_
      obtain ⟨h9, h⟩ := chk_some h
      obtain ⟨q10, g11, h⟩ := ob_some h
      refine r_callV (d' := (8, 0, false)) (As := [.int 1, .int 0, .int 9]) (st := []) mdv_X8_number tm_RX8_170 (by decide) rfl rfl (by decide) rfl (Nat.le_refl _) (Nat.le_of_ble_eq_true rfl) rfl dX8_item_188 h9 (ctX8_number g11) (k_I0 ?_)
      refine r_if_ne (tgt := 196) dX8_item_191 (by decide) (fun c12 => ?_) (fun c12 => ?_)
      · rw [if_neg c12] at h
        refine r_aload_n dX8_item_196 0 rfl ?_
        refine r_aload_n dX8_item_197 0 rfl ?_
        obtain ⟨h13, h⟩ := chk_some h
        obtain ⟨o14, g15, h⟩ := ob_some h
        refine r_getR (fl_RX8_62 rfl) rfl dX8_item_198 h13 g15 ?_
        refine r_iconst (v := 0) dX8_item_201 (by decide) ?_
        obtain ⟨h16, h⟩ := chk_some h
        obtain ⟨h17, h⟩ := chk_some h
        refine r_iaload dX8_item_202 h16 h17 ?_
        refine r_aload_n dX8_item_203 0 rfl ?_
        refine r_getR (fl_RX8_62 rfl) rfl dX8_item_204 h13 g15 ?_
        refine r_iconst (v := 1) dX8_item_207 (by decide) ?_
        obtain ⟨h18, h⟩ := chk_some h
        refine r_iaload dX8_item_208 h16 h18 ?_
        obtain ⟨q19, g20, h⟩ := ob_some h
        refine r_callV (d' := (6, 0, false)) (As := [.int (wI q10.2 o14 (0 : Int32).toNatClampNeg), .int (wI q10.2 o14 (1 : Int32).toNatClampNeg)]) (st := []) mdv_X8_newGarment tm_RX8_119 (by decide) rfl rfl (by decide) rfl (Nat.le_refl _) (Nat.le_of_ble_eq_true rfl) rfl dX8_item_209 h13 (ctX8_newGarment g20) (k_I0 ?_)
        refine r_pop dX8_item_212 rfl ?_
        refine r_iconst (v := 1) dX8_item_213 (by decide) ?_
        rw [← Option.some.inj h] at hk
        exact r_ireturn dX8_item_214 rfl rfl hk
      · rw [if_pos c12] at h
        refine r_sub [] [] rfl ?_
        exact okX8_item_b194 h hk
def fX8_item_b398 (w : Wd) : Option (Int32 × Wd) :=
  some (0, w)
set_option maxHeartbeats 1000000 in
set_option maxRecDepth 20000 in
theorem okX8_item_b398 {E : Ev} {Q : Option Value → Wd → Prop} {w : Wd} {q : Int32 × Wd} (h : fX8_item_b398 w = some q) (hk : (fun q : Int32 × Wd => Q (some (.int q.1)) q.2) q) : Runs E mX8_item (12, 0, false) Q 0 398 [] [] w := by
  unfold fX8_item_b398 at h
  refine r_iconst (v := 0) dX8_item_398 (by decide) ?_
  rw [← Option.some.inj h] at hk
  exact r_ireturn dX8_item_399 rfl rfl hk
def fX8_item_b310 (w : Wd) : Option (Int32 × Wd) :=
  some (0, w)
set_option maxHeartbeats 1000000 in
set_option maxRecDepth 20000 in
theorem okX8_item_b310 {E : Ev} {Q : Option Value → Wd → Prop} {w : Wd} {q : Int32 × Wd} (h : fX8_item_b310 w = some q) (hk : (fun q : Int32 × Wd => Q (some (.int q.1)) q.2) q) : Runs E mX8_item (12, 0, false) Q 0 310 [] [] w := by
  unfold fX8_item_b310 at h
  refine r_iconst (v := 0) dX8_item_310 (by decide) ?_
  rw [← Option.some.inj h] at hk
  exact r_ireturn dX8_item_311 rfl rfl hk
def fX8_item_b248 (w : Wd) : Option (Int32 × Wd) :=
  some (0, w)
set_option maxHeartbeats 1000000 in
set_option maxRecDepth 20000 in
theorem okX8_item_b248 {E : Ev} {Q : Option Value → Wd → Prop} {w : Wd} {q : Int32 × Wd} (h : fX8_item_b248 w = some q) (hk : (fun q : Int32 × Wd => Q (some (.int q.1)) q.2) q) : Runs E mX8_item (12, 0, false) Q 0 248 [] [] w := by
  unfold fX8_item_b248 at h
  refine r_iconst (v := 0) dX8_item_248 (by decide) ?_
  rw [← Option.some.inj h] at hk
  exact r_ireturn dX8_item_249 rfl rfl hk
def fX8_item_b134 (w : Wd) : Option (Int32 × Wd) :=
  some (0, w)
set_option maxHeartbeats 1000000 in
set_option maxRecDepth 20000 in
theorem okX8_item_b134 {E : Ev} {Q : Option Value → Wd → Prop} {w : Wd} {q : Int32 × Wd} (h : fX8_item_b134 w = some q) (hk : (fun q : Int32 × Wd => Q (some (.int q.1)) q.2) q) : Runs E mX8_item (12, 0, false) Q 0 134 [] [] w := by
  unfold fX8_item_b134 at h
  refine r_iconst (v := 0) dX8_item_134 (by decide) ?_
  rw [← Option.some.inj h] at hk
  exact r_ireturn dX8_item_135 rfl rfl hk
def fX8_item_b117 (a0 : Nat) (s0 : Int32) (s1 : Nat) (s2 : Nat) (w : Wd) : Option (Int32 × Wd) :=
  chk (isO w s2 8) (ob (fX8_word_ s2 s1 s0 w) (fun q2 => if q2.1 = 0 then (fX8_item_b134 q2.2) else (chk (isO q2.2 a0 8) (ob (fX8_number a0 0 0 9 q2.2) (fun q6 => if q6.1 = 0 then (fX8_item_b134 q6.2) else (chk (isO q6.2 a0 8) (ob (wR q6.2 a0 26) (fun o10 => chk (isA q6.2 o10 0) (chk (inb 0 (wn q6.2 o10)) (ob (fX8_newOne a0 (wI q6.2 o10 (0 : Int32).toNatClampNeg) q6.2) (fun q14 => some (1, q14.2))))))))))))
set_option maxHeartbeats 1000000 in
set_option maxRecDepth 20000 in
theorem okX8_item_b117 {E : Ev} {Q : Option Value → Wd → Prop} {a0 : Nat} {s0 : Int32} {s1 : Nat} {s2 : Nat} {w : Wd} {q : Int32 × Wd} (h : fX8_item_b117 a0 s0 s1 s2 w = some q) (hk : (fun q : Int32 × Wd => Q (some (.int q.1)) q.2) q) : Runs E mX8_item (12, 0, false) Q 0 117 [(0, .ref a0)] [.int s0, .ref (1100 + s1), .ref s2] w := by
  unfold fX8_item_b117 at h
  obtain ⟨h1, h⟩ := chk_some h
  obtain ⟨q2, g3, h⟩ := ob_some h
  refine r_callV (d' := (11, 0, false)) (As := [.ref (1100 + s1), .int s0]) (st := []) mdv_X8_word_ tm_RX8_167 (by decide) rfl rfl (by decide) rfl (Nat.le_refl _) (Nat.le_of_ble_eq_true rfl) rfl dX8_item_117 h1 (ctX8_word_ g3) (k_I0 ?_)
  refine r_if_eq (tgt := 134) dX8_item_120 (by decide) (fun c4 => ?_) (fun c4 => ?_)
  · rw [if_pos c4] at h
    refine r_sub [] [] rfl ?_
    exact okX8_item_b134 h hk
  · rw [if_neg c4] at h
    refine r_aload_n dX8_item_123 0 rfl ?_
    refine r_iconst (v := 0) dX8_item_124 (by decide) ?_
    refine r_iconst (v := 0) dX8_item_125 (by decide) ?_
    refine r_bipush (v := 9) dX8_item_126 (by decide) ?_
    obtain ⟨h5, h⟩ := chk_some h
    obtain ⟨q6, g7, h⟩ := ob_some h
    refine r_callV (d' := (8, 0, false)) (As := [.int 0, .int 0, .int 9]) (st := []) mdv_X8_number tm_RX8_170 (by decide) rfl rfl (by decide) rfl (Nat.le_refl _) (Nat.le_of_ble_eq_true rfl) rfl dX8_item_128 h5 (ctX8_number g7) (k_I0 ?_)
    refine r_if_ne (tgt := 136) dX8_item_131 (by decide) (fun c8 => ?_) (fun c8 => ?_)
    · rw [if_neg c8] at h
      refine r_aload_n dX8_item_136 0 rfl ?_
      refine r_aload_n dX8_item_137 0 rfl ?_
      obtain ⟨h9, h⟩ := chk_some h
      obtain ⟨o10, g11, h⟩ := ob_some h
      refine r_getR (fl_RX8_62 rfl) rfl dX8_item_138 h9 g11 ?_
      refine r_iconst (v := 0) dX8_item_141 (by decide) ?_
      obtain ⟨h12, h⟩ := chk_some h
      obtain ⟨h13, h⟩ := chk_some h
      refine r_iaload dX8_item_142 h12 h13 ?_
      obtain ⟨q14, g15, h⟩ := ob_some h
      refine r_callV (d' := (6, 0, false)) (As := [.int (wI q6.2 o10 (0 : Int32).toNatClampNeg)]) (st := []) mdv_X8_newOne tm_RX8_116 (by decide) rfl rfl (by decide) rfl (Nat.le_refl _) (Nat.le_of_ble_eq_true rfl) rfl dX8_item_143 h9 (ctX8_newOne g15) (k_I0 ?_)
      refine r_pop dX8_item_146 rfl ?_
      refine r_iconst (v := 1) dX8_item_147 (by decide) ?_
      rw [← Option.some.inj h] at hk
      exact r_ireturn dX8_item_148 rfl rfl hk
    · rw [if_pos c8] at h
      refine r_sub [] [] rfl ?_
      exact okX8_item_b134 h hk
def fX8_item_b516 (w : Wd) : Option (Int32 × Wd) :=
  some (0, w)
set_option maxHeartbeats 1000000 in
set_option maxRecDepth 20000 in
theorem okX8_item_b516 {E : Ev} {Q : Option Value → Wd → Prop} {w : Wd} {q : Int32 × Wd} (h : fX8_item_b516 w = some q) (hk : (fun q : Int32 × Wd => Q (some (.int q.1)) q.2) q) : Runs E mX8_item (12, 0, false) Q 0 516 [] [] w := by
  unfold fX8_item_b516 at h
  refine r_iconst (v := 0) dX8_item_516 (by decide) ?_
  rw [← Option.some.inj h] at hk
  exact r_ireturn dX8_item_517 rfl rfl hk
def fX8_item_b463 (w : Wd) : Option (Int32 × Wd) :=
  some (0, w)
set_option maxHeartbeats 1000000 in
set_option maxRecDepth 20000 in
theorem okX8_item_b463 {E : Ev} {Q : Option Value → Wd → Prop} {w : Wd} {q : Int32 × Wd} (h : fX8_item_b463 w = some q) (hk : (fun q : Int32 × Wd => Q (some (.int q.1)) q.2) q) : Runs E mX8_item (12, 0, false) Q 0 463 [] [] w := by
  unfold fX8_item_b463 at h
  refine r_iconst (v := 0) dX8_item_463 (by decide) ?_
  rw [← Option.some.inj h] at hk
  exact r_ireturn dX8_item_464 rfl rfl hk
def fX8_item (a0 : Nat) (w : Wd) : Option (Int32 × Wd) :=
  chk (isO w a0 8) (ob (fX8_sign a0 w) (fun q2 => if q2.1 = 100 then (chk (isO q2.2 a0 8) (ob (fX8_word a0 15 q2.2) (fun q6 => if q6.1 = 0 then (some (0, q6.2)) else (chk (isO q6.2 a0 8) (ob (fX8_day a0 q6.2) (fun q10 => some (1, q10.2))))))) else (if q2.1 = 101 then (fX8_item_b555 q2.2) else (if q2.1 = 102 then (fX8_item_b555 q2.2) else (if q2.1 = 103 then (chk (isO q2.2 a0 8) (if (8 : Int32) ≤ (wI q2.2 a0 6) then (fX8_item_b166 a0 0 9 a0 q2.2) else (fX8_item_b166 a0 1 9 a0 q2.2))) else (if q2.1 = 104 then (chk (isO q2.2 a0 8) (ob (fX8_word a0 11 q2.2) (fun q19 => if q19.1 = 0 then (fX8_item_b398 q19.2) else (chk (isO q19.2 a0 8) (ob (fX8_number a0 0 0 ((wI q19.2 a0 6) - 1) q19.2) (fun q23 => if q23.1 = 0 then (fX8_item_b398 q23.2) else (chk (isO q23.2 a0 8) (ob (fX8_number a0 1 0 11 q23.2) (fun q27 => if q27.1 = 0 then (fX8_item_b398 q27.2) else (chk (isO q27.2 a0 8) (ob (fX8_number a0 2 1 9 q27.2) (fun q31 => if q31.1 = 0 then (fX8_item_b398 q31.2) else (chk (isO q31.2 a0 8) (ob (fX8_number a0 3 1 9 q31.2) (fun q35 => if q35.1 = 0 then (fX8_item_b398 q35.2) else (chk (isO q35.2 a0 8) (ob (wR q35.2 a0 26) (fun o39 => chk (isA q35.2 o39 0) (chk (inb 0 (wn q35.2 o39)) (chk (inb 1 (wn q35.2 o39)) (chk (inb 2 (wn q35.2 o39)) (chk (inb 3 (wn q35.2 o39)) (ob (fX8_becomes a0 (wI q35.2 o39 (0 : Int32).toNatClampNeg) (wI q35.2 o39 (1 : Int32).toNatClampNeg) (wI q35.2 o39 (2 : Int32).toNatClampNeg) (wI q35.2 o39 (3 : Int32).toNatClampNeg) q35.2) (fun q46 => some (1, q46))))))))))))))))))))))))) else (if q2.1 = 105 then (fX8_item_b555 q2.2) else (if q2.1 = 106 then (fX8_item_b555 q2.2) else (if q2.1 = 107 then (fX8_item_b555 q2.2) else (if q2.1 = 108 then (fX8_item_b555 q2.2) else (if q2.1 = 109 then (fX8_item_b555 q2.2) else (if q2.1 = 110 then (fX8_item_b555 q2.2) else (if q2.1 = 111 then (chk (isO q2.2 a0 8) (ob (fX8_then a0 102 q2.2) (fun q56 => if q56.1 = 0 then (chk (isO q56.2 a0 8) (ob (fX8_word a0 10 q56.2) (fun q60 => if q60.1 = 0 then (fX8_item_b310 q60.2) else (chk (isO q60.2 a0 8) (ob (fX8_number a0 0 0 ((wI q60.2 a0 3) - 1) q60.2) (fun q64 => if q64.1 = 0 then (fX8_item_b310 q64.2) else (chk (isO q64.2 a0 8) (ob (fX8_number a0 1 0 11 q64.2) (fun q68 => if q68.1 = 0 then (fX8_item_b310 q68.2) else (chk (isO q68.2 a0 8) (ob (fX8_number a0 2 0 9 q68.2) (fun q72 => if q72.1 = 0 then (fX8_item_b310 q72.2) else (chk (isO q72.2 a0 8) (ob (wR q72.2 a0 5) (fun o76 => ob (wR q72.2 a0 26) (fun o78 => chk (isA q72.2 o78 0) (chk (inb 0 (wn q72.2 o78)) (chk (inb 1 (wn q72.2 o78)) (chk (inb 2 (wn q72.2 o78)) (chk (isA q72.2 o76 0) (chk (inb ((12 * (wI q72.2 o78 (0 : Int32).toNatClampNeg)) + (wI q72.2 o78 (1 : Int32).toNatClampNeg)) (wn q72.2 o76)) (bnd (sI q72.2 o76 (((12 * (wI q72.2 o78 (0 : Int32).toNatClampNeg)) + (wI q72.2 o78 (1 : Int32).toNatClampNeg))).toNatClampNeg (wI q72.2 o78 (2 : Int32).toNatClampNeg)) (fun w86 => some (1, w86)))))))))))))))))))))))) else (chk (isO q56.2 a0 8) (ob (fX8_word a0 13 q56.2) (fun q89 => if q89.1 = 0 then (fX8_item_b248 q89.2) else (chk (isO q89.2 a0 8) (ob (fX8_number a0 0 0 ((wI q89.2 a0 6) - 1) q89.2) (fun q93 => if q93.1 = 0 then (fX8_item_b248 q93.2) else (chk (isO q93.2 a0 8) (ob (wR q93.2 a0 9) (fun o97 => ob (wR q93.2 a0 26) (fun o99 => chk (isA q93.2 o99 0) (chk (inb 0 (wn q93.2 o99)) (chk (isA q93.2 o97 0) (chk (inb (wI q93.2 o99 (0 : Int32).toNatClampNeg) (wn q93.2 o97)) (bnd (sI q93.2 o97 ((wI q93.2 o99 (0 : Int32).toNatClampNeg)).toNatClampNeg (-1)) (fun w105 => some (1, w105))))))))))))))))))) else (if q2.1 = 112 then (chk (isO q2.2 a0 8) (if (6 : Int32) ≤ (wI q2.2 a0 3) then (fX8_item_b117 a0 0 8 a0 q2.2) else (fX8_item_b117 a0 1 8 a0 q2.2))) else (if q2.1 = 113 then (fX8_item_b555 q2.2) else (if q2.1 = 114 then (fX8_item_b555 q2.2) else (if q2.1 = 115 then (fX8_item_b555 q2.2) else (if q2.1 = 116 then (fX8_item_b555 q2.2) else (if q2.1 = 117 then (fX8_item_b555 q2.2) else (if q2.1 = 118 then (fX8_item_b555 q2.2) else (if q2.1 = 119 then (chk (isO q2.2 a0 8) (ob (fX8_then a0 97 q2.2) (fun q118 => if q118.1 = 0 then (chk (isO q118.2 a0 8) (ob (fX8_word a0 12 q118.2) (fun q122 => if q122.1 = 0 then (fX8_item_b516 q122.2) else (chk (isO q122.2 a0 8) (ob (fX8_number a0 0 0 ((wI q122.2 a0 6) - 1) q122.2) (fun q126 => if q126.1 = 0 then (fX8_item_b516 q126.2) else (chk (isO q126.2 a0 8) (ob (fX8_number a0 1 0 ((wI q126.2 a0 3) - 1) q126.2) (fun q130 => if q130.1 = 0 then (fX8_item_b516 q130.2) else (chk (isO q130.2 a0 8) (ob (wR q130.2 a0 9) (fun o134 => ob (wR q130.2 a0 26) (fun o136 => chk (isA q130.2 o136 0) (chk (inb 0 (wn q130.2 o136)) (chk (inb 1 (wn q130.2 o136)) (chk (isA q130.2 o134 0) (chk (inb (wI q130.2 o136 (0 : Int32).toNatClampNeg) (wn q130.2 o134)) (bnd (sI q130.2 o134 ((wI q130.2 o136 (0 : Int32).toNatClampNeg)).toNatClampNeg (wI q130.2 o136 (1 : Int32).toNatClampNeg)) (fun w143 => some (1, w143)))))))))))))))))))) else (chk (isO q118.2 a0 8) (ob (fX8_word a0 14 q118.2) (fun q146 => if q146.1 = 0 then (fX8_item_b463 q146.2) else (chk (isO q146.2 a0 8) (ob (fX8_number a0 0 0 ((wI q146.2 a0 6) - 1) q146.2) (fun q150 => if q150.1 = 0 then (fX8_item_b463 q150.2) else (chk (isO q150.2 a0 8) (ob (wR q150.2 a0 26) (fun o154 => chk (isA q150.2 o154 0) (chk (inb 0 (wn q150.2 o154)) (ob (fX8_washes a0 (wI q150.2 o154 (0 : Int32).toNatClampNeg) q150.2) (fun q158 => some (1, q158)))))))))))))))) else (fX8_item_b555 q2.2))))))))))))))))))))))
set_option maxHeartbeats 1000000 in
set_option maxRecDepth 20000 in
theorem okX8_item {E : Ev} {Q : Option Value → Wd → Prop} {a0 : Nat} {w : Wd} {q : Int32 × Wd} (h : fX8_item a0 w = some q) (hk : (fun q : Int32 × Wd => Q (some (.int q.1)) q.2) q) : Runs E mX8_item (12, 0, false) Q 0 0 [(0, .ref a0)] [] w := by
  unfold fX8_item at h
  refine r_aload_n dX8_item_0 0 rfl ?_
  obtain ⟨h1, h⟩ := chk_some h
  obtain ⟨q2, g3, h⟩ := ob_some h
  refine r_callV (d' := (6, 0, false)) (As := []) (st := []) mdv_X8_sign tm_RX8_144 (by decide) rfl rfl (by decide) rfl (Nat.le_refl _) (Nat.le_of_ble_eq_true rfl) rfl dX8_item_1 h1 (ctX8_sign g3) (k_I0 ?_)
  by_cases c4 : q2.1 = 100
  · rw [if_pos c4] at h
    refine r_tabIn (tgt := 537) dX8_item_4 (by rw [c4] <;> decide) (by rw [c4] <;> decide) (by rw [c4] <;> rfl) (by decide) ?_
    refine r_aload_n dX8_item_537 0 rfl ?_
    refine r_ldcS 15 (by decide) rfl rfl dX8_item_538 ?_
    obtain ⟨h5, h⟩ := chk_some h
    obtain ⟨q6, g7, h⟩ := ob_some h
    refine r_callV (d' := (10, 0, false)) (As := [.ref (1100 + 15)]) (st := []) mdv_X8_word tm_RX8_161 (by decide) rfl rfl (by decide) rfl (Nat.le_refl _) (Nat.le_of_ble_eq_true rfl) rfl dX8_item_540 h5 (ctX8_word g7) (k_I0 ?_)
    refine r_if_ne (tgt := 548) dX8_item_543 (by decide) (fun c8 => ?_) (fun c8 => ?_)
    · rw [if_neg c8] at h
      refine r_aload_n dX8_item_548 0 rfl ?_
      obtain ⟨h9, h⟩ := chk_some h
      obtain ⟨q10, g11, h⟩ := ob_some h
      refine r_callV (d' := (9, 0, false)) (As := []) (st := []) mdv_X8_day tm_RX8_192 (by decide) rfl rfl (by decide) rfl (Nat.le_refl _) (Nat.le_of_ble_eq_true rfl) rfl dX8_item_549 h9 (ctX8_day g11) (k_I0 ?_)
      refine r_pop dX8_item_552 rfl ?_
      refine r_iconst (v := 1) dX8_item_553 (by decide) ?_
      rw [← Option.some.inj h] at hk
      exact r_ireturn dX8_item_554 rfl rfl hk
    · rw [if_pos c8] at h
      refine r_iconst (v := 0) dX8_item_546 (by decide) ?_
      rw [← Option.some.inj h] at hk
      exact r_ireturn dX8_item_547 rfl rfl hk
  rw [if_neg c4] at h
  by_cases c12 : q2.1 = 101
  · rw [if_pos c12] at h
    refine r_tabIn (tgt := 555) dX8_item_4 (by rw [c12] <;> decide) (by rw [c12] <;> decide) (by rw [c12] <;> rfl) (by decide) ?_
    refine r_sub [] [] rfl ?_
    exact okX8_item_b555 h hk
  rw [if_neg c12] at h
  by_cases c13 : q2.1 = 102
  · rw [if_pos c13] at h
    refine r_tabIn (tgt := 555) dX8_item_4 (by rw [c13] <;> decide) (by rw [c13] <;> decide) (by rw [c13] <;> rfl) (by decide) ?_
    refine r_sub [] [] rfl ?_
    exact okX8_item_b555 h hk
  rw [if_neg c13] at h
  by_cases c14 : q2.1 = 103
  · rw [if_pos c14] at h
    refine r_tabIn (tgt := 149) dX8_item_4 (by rw [c14] <;> decide) (by rw [c14] <;> decide) (by rw [c14] <;> rfl) (by decide) ?_
    refine r_aload_n dX8_item_149 0 rfl ?_
    refine r_ldcS 9 (by decide) rfl rfl dX8_item_150 ?_
    refine r_aload_n dX8_item_152 0 rfl ?_
    obtain ⟨h15, h⟩ := chk_some h
    refine r_getI (fl_RX8_76 rfl) rfl dX8_item_153 h15 ?_
    refine r_bipush (v := 8) dX8_item_156 (by decide) ?_
    refine r_icmp_ge (tgt := 165) dX8_item_158 (by decide) (fun c16 => ?_) (fun c16 => ?_)
    · rw [if_pos c16] at h
      refine r_iconst (v := 0) dX8_item_165 (by decide) ?_
      refine r_sub [0] [(0, .ref a0)] rfl ?_
      exact okX8_item_b166 h hk
    · rw [if_neg c16] at h
      refine r_iconst (v := 1) dX8_item_161 (by decide) ?_
      refine r_goto (tgt := 166) dX8_item_162 (by decide) ?_
      refine r_sub [0] [(0, .ref a0)] rfl ?_
      exact okX8_item_b166 h hk
  rw [if_neg c14] at h
  by_cases c17 : q2.1 = 104
  · rw [if_pos c17] at h
    refine r_tabIn (tgt := 341) dX8_item_4 (by rw [c17] <;> decide) (by rw [c17] <;> decide) (by rw [c17] <;> rfl) (by decide) ?_
    refine r_aload_n dX8_item_341 0 rfl ?_
    refine r_ldcS 11 (by decide) rfl rfl dX8_item_342 ?_
    obtain ⟨h18, h⟩ := chk_some h
    obtain ⟨q19, g20, h⟩ := ob_some h
    refine r_callV (d' := (10, 0, false)) (As := [.ref (1100 + 11)]) (st := []) mdv_X8_word tm_RX8_161 (by decide) rfl rfl (by decide) rfl (Nat.le_refl _) (Nat.le_of_ble_eq_true rfl) rfl dX8_item_344 h18 (ctX8_word g20) (k_I0 ?_)
    refine r_if_eq (tgt := 398) dX8_item_347 (by decide) (fun c21 => ?_) (fun c21 => ?_)
    · rw [if_pos c21] at h
      refine r_sub [] [] rfl ?_
      exact okX8_item_b398 h hk
    · rw [if_neg c21] at h
      refine r_aload_n dX8_item_350 0 rfl ?_
      refine r_iconst (v := 0) dX8_item_351 (by decide) ?_
      refine r_iconst (v := 0) dX8_item_352 (by decide) ?_
      refine r_aload_n dX8_item_353 0 rfl ?_
      obtain ⟨h22, h⟩ := chk_some h
      refine r_getI (fl_RX8_76 rfl) rfl dX8_item_354 h22 ?_
      refine r_iconst (v := 1) dX8_item_357 (by decide) ?_
      refine r_isub dX8_item_358 ?_
      obtain ⟨q23, g24, h⟩ := ob_some h
      refine r_callV (d' := (8, 0, false)) (As := [.int 0, .int 0, .int ((wI q19.2 a0 6) - 1)]) (st := []) mdv_X8_number tm_RX8_170 (by decide) rfl rfl (by decide) rfl (Nat.le_refl _) (Nat.le_of_ble_eq_true rfl) rfl dX8_item_359 h22 (ctX8_number g24) (k_I0 ?_)
      refine r_if_eq (tgt := 398) dX8_item_362 (by decide) (fun c25 => ?_) (fun c25 => ?_)
      · rw [if_pos c25] at h
        refine r_sub [] [] rfl ?_
        exact okX8_item_b398 h hk
      · rw [if_neg c25] at h
        refine r_aload_n dX8_item_365 0 rfl ?_
        refine r_iconst (v := 1) dX8_item_366 (by decide) ?_
        refine r_iconst (v := 0) dX8_item_367 (by decide) ?_
        refine r_bipush (v := 11) dX8_item_368 (by decide) ?_
        obtain ⟨h26, h⟩ := chk_some h
        obtain ⟨q27, g28, h⟩ := ob_some h
        refine r_callV (d' := (8, 0, false)) (As := [.int 1, .int 0, .int 11]) (st := []) mdv_X8_number tm_RX8_170 (by decide) rfl rfl (by decide) rfl (Nat.le_refl _) (Nat.le_of_ble_eq_true rfl) rfl dX8_item_370 h26 (ctX8_number g28) (k_I0 ?_)
        refine r_if_eq (tgt := 398) dX8_item_373 (by decide) (fun c29 => ?_) (fun c29 => ?_)
        · rw [if_pos c29] at h
          refine r_sub [] [] rfl ?_
          exact okX8_item_b398 h hk
        · rw [if_neg c29] at h
          refine r_aload_n dX8_item_376 0 rfl ?_
          refine r_iconst (v := 2) dX8_item_377 (by decide) ?_
          refine r_iconst (v := 1) dX8_item_378 (by decide) ?_
          refine r_bipush (v := 9) dX8_item_379 (by decide) ?_
          obtain ⟨h30, h⟩ := chk_some h
          obtain ⟨q31, g32, h⟩ := ob_some h
          refine r_callV (d' := (8, 0, false)) (As := [.int 2, .int 1, .int 9]) (st := []) mdv_X8_number tm_RX8_170 (by decide) rfl rfl (by decide) rfl (Nat.le_refl _) (Nat.le_of_ble_eq_true rfl) rfl dX8_item_381 h30 (ctX8_number g32) (k_I0 ?_)
          refine r_if_eq (tgt := 398) dX8_item_384 (by decide) (fun c33 => ?_) (fun c33 => ?_)
          · rw [if_pos c33] at h
            refine r_sub [] [] rfl ?_
            exact okX8_item_b398 h hk
          · rw [if_neg c33] at h
            refine r_aload_n dX8_item_387 0 rfl ?_
            refine r_iconst (v := 3) dX8_item_388 (by decide) ?_
            refine r_iconst (v := 1) dX8_item_389 (by decide) ?_
            refine r_bipush (v := 9) dX8_item_390 (by decide) ?_
            obtain ⟨h34, h⟩ := chk_some h
            obtain ⟨q35, g36, h⟩ := ob_some h
            refine r_callV (d' := (8, 0, false)) (As := [.int 3, .int 1, .int 9]) (st := []) mdv_X8_number tm_RX8_170 (by decide) rfl rfl (by decide) rfl (Nat.le_refl _) (Nat.le_of_ble_eq_true rfl) rfl dX8_item_392 h34 (ctX8_number g36) (k_I0 ?_)
            refine r_if_ne (tgt := 400) dX8_item_395 (by decide) (fun c37 => ?_) (fun c37 => ?_)
            · rw [if_neg c37] at h
              refine r_aload_n dX8_item_400 0 rfl ?_
              refine r_aload_n dX8_item_401 0 rfl ?_
              obtain ⟨h38, h⟩ := chk_some h
              obtain ⟨o39, g40, h⟩ := ob_some h
              refine r_getR (fl_RX8_62 rfl) rfl dX8_item_402 h38 g40 ?_
              refine r_iconst (v := 0) dX8_item_405 (by decide) ?_
              obtain ⟨h41, h⟩ := chk_some h
              obtain ⟨h42, h⟩ := chk_some h
              refine r_iaload dX8_item_406 h41 h42 ?_
              refine r_aload_n dX8_item_407 0 rfl ?_
              refine r_getR (fl_RX8_62 rfl) rfl dX8_item_408 h38 g40 ?_
              refine r_iconst (v := 1) dX8_item_411 (by decide) ?_
              obtain ⟨h43, h⟩ := chk_some h
              refine r_iaload dX8_item_412 h41 h43 ?_
              refine r_aload_n dX8_item_413 0 rfl ?_
              refine r_getR (fl_RX8_62 rfl) rfl dX8_item_414 h38 g40 ?_
              refine r_iconst (v := 2) dX8_item_417 (by decide) ?_
              obtain ⟨h44, h⟩ := chk_some h
              refine r_iaload dX8_item_418 h41 h44 ?_
              refine r_aload_n dX8_item_419 0 rfl ?_
              refine r_getR (fl_RX8_62 rfl) rfl dX8_item_420 h38 g40 ?_
              refine r_iconst (v := 3) dX8_item_423 (by decide) ?_
              obtain ⟨h45, h⟩ := chk_some h
              refine r_iaload dX8_item_424 h41 h45 ?_
              obtain ⟨q46, g47, h⟩ := ob_some h
              refine r_callV (d' := (6, 0, false)) (As := [.int (wI q35.2 o39 (0 : Int32).toNatClampNeg), .int (wI q35.2 o39 (1 : Int32).toNatClampNeg), .int (wI q35.2 o39 (2 : Int32).toNatClampNeg), .int (wI q35.2 o39 (3 : Int32).toNatClampNeg)]) (st := []) mdv_X8_becomes tm_RX8_128 (by decide) rfl rfl (by decide) rfl (Nat.le_refl _) (Nat.le_of_ble_eq_true rfl) rfl dX8_item_425 h38 (ctX8_becomes g47) (k_V0 ?_)
              refine r_iconst (v := 1) dX8_item_428 (by decide) ?_
              rw [← Option.some.inj h] at hk
              exact r_ireturn dX8_item_429 rfl rfl hk
            · rw [if_pos c37] at h
              refine r_sub [] [] rfl ?_
              exact okX8_item_b398 h hk
  rw [if_neg c17] at h
  by_cases c48 : q2.1 = 105
  · rw [if_pos c48] at h
    refine r_tabIn (tgt := 555) dX8_item_4 (by rw [c48] <;> decide) (by rw [c48] <;> decide) (by rw [c48] <;> rfl) (by decide) ?_
    refine r_sub [] [] rfl ?_
    exact okX8_item_b555 h hk
  rw [if_neg c48] at h
  by_cases c49 : q2.1 = 106
  · rw [if_pos c49] at h
    refine r_tabIn (tgt := 555) dX8_item_4 (by rw [c49] <;> decide) (by rw [c49] <;> decide) (by rw [c49] <;> rfl) (by decide) ?_
    refine r_sub [] [] rfl ?_
    exact okX8_item_b555 h hk
  rw [if_neg c49] at h
  by_cases c50 : q2.1 = 107
  · rw [if_pos c50] at h
    refine r_tabIn (tgt := 555) dX8_item_4 (by rw [c50] <;> decide) (by rw [c50] <;> decide) (by rw [c50] <;> rfl) (by decide) ?_
    refine r_sub [] [] rfl ?_
    exact okX8_item_b555 h hk
  rw [if_neg c50] at h
  by_cases c51 : q2.1 = 108
  · rw [if_pos c51] at h
    refine r_tabIn (tgt := 555) dX8_item_4 (by rw [c51] <;> decide) (by rw [c51] <;> decide) (by rw [c51] <;> rfl) (by decide) ?_
    refine r_sub [] [] rfl ?_
    exact okX8_item_b555 h hk
  rw [if_neg c51] at h
  by_cases c52 : q2.1 = 109
  · rw [if_pos c52] at h
    refine r_tabIn (tgt := 555) dX8_item_4 (by rw [c52] <;> decide) (by rw [c52] <;> decide) (by rw [c52] <;> rfl) (by decide) ?_
    refine r_sub [] [] rfl ?_
    exact okX8_item_b555 h hk
  rw [if_neg c52] at h
  by_cases c53 : q2.1 = 110
  · rw [if_pos c53] at h
    refine r_tabIn (tgt := 555) dX8_item_4 (by rw [c53] <;> decide) (by rw [c53] <;> decide) (by rw [c53] <;> rfl) (by decide) ?_
    refine r_sub [] [] rfl ?_
    exact okX8_item_b555 h hk
  rw [if_neg c53] at h
  by_cases c54 : q2.1 = 111
  · rw [if_pos c54] at h
    refine r_tabIn (tgt := 215) dX8_item_4 (by rw [c54] <;> decide) (by rw [c54] <;> decide) (by rw [c54] <;> rfl) (by decide) ?_
    refine r_aload_n dX8_item_215 0 rfl ?_
    refine r_bipush (v := 102) dX8_item_216 (by decide) ?_
    obtain ⟨h55, h⟩ := chk_some h
    obtain ⟨q56, g57, h⟩ := ob_some h
    refine r_callV (d' := (6, 0, false)) (As := [.int 102]) (st := []) mdv_X8_then tm_RX8_175 (by decide) rfl rfl (by decide) rfl (Nat.le_refl _) (Nat.le_of_ble_eq_true rfl) rfl dX8_item_218 h55 (ctX8_then g57) (k_I0 ?_)
    refine r_if_eq (tgt := 264) dX8_item_221 (by decide) (fun c58 => ?_) (fun c58 => ?_)
    · rw [if_pos c58] at h
      refine r_aload_n dX8_item_264 0 rfl ?_
      refine r_ldcS 10 (by decide) rfl rfl dX8_item_265 ?_
      obtain ⟨h59, h⟩ := chk_some h
      obtain ⟨q60, g61, h⟩ := ob_some h
      refine r_callV (d' := (10, 0, false)) (As := [.ref (1100 + 10)]) (st := []) mdv_X8_word tm_RX8_161 (by decide) rfl rfl (by decide) rfl (Nat.le_refl _) (Nat.le_of_ble_eq_true rfl) rfl dX8_item_267 h59 (ctX8_word g61) (k_I0 ?_)
      refine r_if_eq (tgt := 310) dX8_item_270 (by decide) (fun c62 => ?_) (fun c62 => ?_)
      · rw [if_pos c62] at h
        refine r_sub [] [] rfl ?_
        exact okX8_item_b310 h hk
      · rw [if_neg c62] at h
        refine r_aload_n dX8_item_273 0 rfl ?_
        refine r_iconst (v := 0) dX8_item_274 (by decide) ?_
        refine r_iconst (v := 0) dX8_item_275 (by decide) ?_
        refine r_aload_n dX8_item_276 0 rfl ?_
        obtain ⟨h63, h⟩ := chk_some h
        refine r_getI (fl_RX8_83 rfl) rfl dX8_item_277 h63 ?_
        refine r_iconst (v := 1) dX8_item_280 (by decide) ?_
        refine r_isub dX8_item_281 ?_
        obtain ⟨q64, g65, h⟩ := ob_some h
        refine r_callV (d' := (8, 0, false)) (As := [.int 0, .int 0, .int ((wI q60.2 a0 3) - 1)]) (st := []) mdv_X8_number tm_RX8_170 (by decide) rfl rfl (by decide) rfl (Nat.le_refl _) (Nat.le_of_ble_eq_true rfl) rfl dX8_item_282 h63 (ctX8_number g65) (k_I0 ?_)
        refine r_if_eq (tgt := 310) dX8_item_285 (by decide) (fun c66 => ?_) (fun c66 => ?_)
        · rw [if_pos c66] at h
          refine r_sub [] [] rfl ?_
          exact okX8_item_b310 h hk
        · rw [if_neg c66] at h
          refine r_aload_n dX8_item_288 0 rfl ?_
          refine r_iconst (v := 1) dX8_item_289 (by decide) ?_
          refine r_iconst (v := 0) dX8_item_290 (by decide) ?_
          refine r_bipush (v := 11) dX8_item_291 (by decide) ?_
          obtain ⟨h67, h⟩ := chk_some h
          obtain ⟨q68, g69, h⟩ := ob_some h
          refine r_callV (d' := (8, 0, false)) (As := [.int 1, .int 0, .int 11]) (st := []) mdv_X8_number tm_RX8_170 (by decide) rfl rfl (by decide) rfl (Nat.le_refl _) (Nat.le_of_ble_eq_true rfl) rfl dX8_item_293 h67 (ctX8_number g69) (k_I0 ?_)
          refine r_if_eq (tgt := 310) dX8_item_296 (by decide) (fun c70 => ?_) (fun c70 => ?_)
          · rw [if_pos c70] at h
            refine r_sub [] [] rfl ?_
            exact okX8_item_b310 h hk
          · rw [if_neg c70] at h
            refine r_aload_n dX8_item_299 0 rfl ?_
            refine r_iconst (v := 2) dX8_item_300 (by decide) ?_
            refine r_iconst (v := 0) dX8_item_301 (by decide) ?_
            refine r_bipush (v := 9) dX8_item_302 (by decide) ?_
            obtain ⟨h71, h⟩ := chk_some h
            obtain ⟨q72, g73, h⟩ := ob_some h
            refine r_callV (d' := (8, 0, false)) (As := [.int 2, .int 0, .int 9]) (st := []) mdv_X8_number tm_RX8_170 (by decide) rfl rfl (by decide) rfl (Nat.le_refl _) (Nat.le_of_ble_eq_true rfl) rfl dX8_item_304 h71 (ctX8_number g73) (k_I0 ?_)
            refine r_if_ne (tgt := 312) dX8_item_307 (by decide) (fun c74 => ?_) (fun c74 => ?_)
            · rw [if_neg c74] at h
              refine r_aload_n dX8_item_312 0 rfl ?_
              obtain ⟨h75, h⟩ := chk_some h
              obtain ⟨o76, g77, h⟩ := ob_some h
              refine r_getR (fl_RX8_23 rfl) rfl dX8_item_313 h75 g77 ?_
              refine r_bipush (v := 12) dX8_item_316 (by decide) ?_
              refine r_aload_n dX8_item_318 0 rfl ?_
              obtain ⟨o78, g79, h⟩ := ob_some h
              refine r_getR (fl_RX8_62 rfl) rfl dX8_item_319 h75 g79 ?_
              refine r_iconst (v := 0) dX8_item_322 (by decide) ?_
              obtain ⟨h80, h⟩ := chk_some h
              obtain ⟨h81, h⟩ := chk_some h
              refine r_iaload dX8_item_323 h80 h81 ?_
              refine r_imul dX8_item_324 ?_
              refine r_aload_n dX8_item_325 0 rfl ?_
              refine r_getR (fl_RX8_62 rfl) rfl dX8_item_326 h75 g79 ?_
              refine r_iconst (v := 1) dX8_item_329 (by decide) ?_
              obtain ⟨h82, h⟩ := chk_some h
              refine r_iaload dX8_item_330 h80 h82 ?_
              refine r_iadd dX8_item_331 ?_
              refine r_aload_n dX8_item_332 0 rfl ?_
              refine r_getR (fl_RX8_62 rfl) rfl dX8_item_333 h75 g79 ?_
              refine r_iconst (v := 2) dX8_item_336 (by decide) ?_
              obtain ⟨h83, h⟩ := chk_some h
              refine r_iaload dX8_item_337 h80 h83 ?_
              obtain ⟨h84, h⟩ := chk_some h
              obtain ⟨h85, h⟩ := chk_some h
              obtain ⟨w86, e87, h⟩ := bnd_some h
              refine r_iastore dX8_item_338 h84 h85 ?_
              refine r_eqW e87 ?_
              refine r_iconst (v := 1) dX8_item_339 (by decide) ?_
              rw [← Option.some.inj h] at hk
              exact r_ireturn dX8_item_340 rfl rfl hk
            · rw [if_pos c74] at h
              refine r_sub [] [] rfl ?_
              exact okX8_item_b310 h hk
    · rw [if_neg c58] at h
      refine r_aload_n dX8_item_224 0 rfl ?_
      refine r_ldcS 13 (by decide) rfl rfl dX8_item_225 ?_
      obtain ⟨h88, h⟩ := chk_some h
      obtain ⟨q89, g90, h⟩ := ob_some h
      refine r_callV (d' := (10, 0, false)) (As := [.ref (1100 + 13)]) (st := []) mdv_X8_word tm_RX8_161 (by decide) rfl rfl (by decide) rfl (Nat.le_refl _) (Nat.le_of_ble_eq_true rfl) rfl dX8_item_227 h88 (ctX8_word g90) (k_I0 ?_)
      refine r_if_eq (tgt := 248) dX8_item_230 (by decide) (fun c91 => ?_) (fun c91 => ?_)
      · rw [if_pos c91] at h
        refine r_sub [] [] rfl ?_
        exact okX8_item_b248 h hk
      · rw [if_neg c91] at h
        refine r_aload_n dX8_item_233 0 rfl ?_
        refine r_iconst (v := 0) dX8_item_234 (by decide) ?_
        refine r_iconst (v := 0) dX8_item_235 (by decide) ?_
        refine r_aload_n dX8_item_236 0 rfl ?_
        obtain ⟨h92, h⟩ := chk_some h
        refine r_getI (fl_RX8_76 rfl) rfl dX8_item_237 h92 ?_
        refine r_iconst (v := 1) dX8_item_240 (by decide) ?_
        refine r_isub dX8_item_241 ?_
        obtain ⟨q93, g94, h⟩ := ob_some h
        refine r_callV (d' := (8, 0, false)) (As := [.int 0, .int 0, .int ((wI q89.2 a0 6) - 1)]) (st := []) mdv_X8_number tm_RX8_170 (by decide) rfl rfl (by decide) rfl (Nat.le_refl _) (Nat.le_of_ble_eq_true rfl) rfl dX8_item_242 h92 (ctX8_number g94) (k_I0 ?_)
        refine r_if_ne (tgt := 250) dX8_item_245 (by decide) (fun c95 => ?_) (fun c95 => ?_)
        · rw [if_neg c95] at h
          refine r_aload_n dX8_item_250 0 rfl ?_
          obtain ⟨h96, h⟩ := chk_some h
          obtain ⟨o97, g98, h⟩ := ob_some h
          refine r_getR (fl_RX8_32 rfl) rfl dX8_item_251 h96 g98 ?_
          refine r_aload_n dX8_item_254 0 rfl ?_
          obtain ⟨o99, g100, h⟩ := ob_some h
          refine r_getR (fl_RX8_62 rfl) rfl dX8_item_255 h96 g100 ?_
          refine r_iconst (v := 0) dX8_item_258 (by decide) ?_
          obtain ⟨h101, h⟩ := chk_some h
          obtain ⟨h102, h⟩ := chk_some h
          refine r_iaload dX8_item_259 h101 h102 ?_
          refine r_iconst (v := (-1)) dX8_item_260 (by decide) ?_
          obtain ⟨h103, h⟩ := chk_some h
          obtain ⟨h104, h⟩ := chk_some h
          obtain ⟨w105, e106, h⟩ := bnd_some h
          refine r_iastore dX8_item_261 h103 h104 ?_
          refine r_eqW e106 ?_
          refine r_iconst (v := 1) dX8_item_262 (by decide) ?_
          rw [← Option.some.inj h] at hk
          exact r_ireturn dX8_item_263 rfl rfl hk
        · rw [if_pos c95] at h
          refine r_sub [] [] rfl ?_
          exact okX8_item_b248 h hk
  rw [if_neg c54] at h
  by_cases c107 : q2.1 = 112
  · rw [if_pos c107] at h
    refine r_tabIn (tgt := 100) dX8_item_4 (by rw [c107] <;> decide) (by rw [c107] <;> decide) (by rw [c107] <;> rfl) (by decide) ?_
    refine r_aload_n dX8_item_100 0 rfl ?_
    refine r_ldcS 8 (by decide) rfl rfl dX8_item_101 ?_
    refine r_aload_n dX8_item_103 0 rfl ?_
    obtain ⟨h108, h⟩ := chk_some h
    refine r_getI (fl_RX8_83 rfl) rfl dX8_item_104 h108 ?_
    refine r_bipush (v := 6) dX8_item_107 (by decide) ?_
    refine r_icmp_ge (tgt := 116) dX8_item_109 (by decide) (fun c109 => ?_) (fun c109 => ?_)
    · rw [if_pos c109] at h
      refine r_iconst (v := 0) dX8_item_116 (by decide) ?_
      refine r_sub [0] [(0, .ref a0)] rfl ?_
      exact okX8_item_b117 h hk
    · rw [if_neg c109] at h
      refine r_iconst (v := 1) dX8_item_112 (by decide) ?_
      refine r_goto (tgt := 117) dX8_item_113 (by decide) ?_
      refine r_sub [0] [(0, .ref a0)] rfl ?_
      exact okX8_item_b117 h hk
  rw [if_neg c107] at h
  by_cases c110 : q2.1 = 113
  · rw [if_pos c110] at h
    refine r_tabIn (tgt := 555) dX8_item_4 (by rw [c110] <;> decide) (by rw [c110] <;> decide) (by rw [c110] <;> rfl) (by decide) ?_
    refine r_sub [] [] rfl ?_
    exact okX8_item_b555 h hk
  rw [if_neg c110] at h
  by_cases c111 : q2.1 = 114
  · rw [if_pos c111] at h
    refine r_tabIn (tgt := 555) dX8_item_4 (by rw [c111] <;> decide) (by rw [c111] <;> decide) (by rw [c111] <;> rfl) (by decide) ?_
    refine r_sub [] [] rfl ?_
    exact okX8_item_b555 h hk
  rw [if_neg c111] at h
  by_cases c112 : q2.1 = 115
  · rw [if_pos c112] at h
    refine r_tabIn (tgt := 555) dX8_item_4 (by rw [c112] <;> decide) (by rw [c112] <;> decide) (by rw [c112] <;> rfl) (by decide) ?_
    refine r_sub [] [] rfl ?_
    exact okX8_item_b555 h hk
  rw [if_neg c112] at h
  by_cases c113 : q2.1 = 116
  · rw [if_pos c113] at h
    refine r_tabIn (tgt := 555) dX8_item_4 (by rw [c113] <;> decide) (by rw [c113] <;> decide) (by rw [c113] <;> rfl) (by decide) ?_
    refine r_sub [] [] rfl ?_
    exact okX8_item_b555 h hk
  rw [if_neg c113] at h
  by_cases c114 : q2.1 = 117
  · rw [if_pos c114] at h
    refine r_tabIn (tgt := 555) dX8_item_4 (by rw [c114] <;> decide) (by rw [c114] <;> decide) (by rw [c114] <;> rfl) (by decide) ?_
    refine r_sub [] [] rfl ?_
    exact okX8_item_b555 h hk
  rw [if_neg c114] at h
  by_cases c115 : q2.1 = 118
  · rw [if_pos c115] at h
    refine r_tabIn (tgt := 555) dX8_item_4 (by rw [c115] <;> decide) (by rw [c115] <;> decide) (by rw [c115] <;> rfl) (by decide) ?_
    refine r_sub [] [] rfl ?_
    exact okX8_item_b555 h hk
  rw [if_neg c115] at h
  by_cases c116 : q2.1 = 119
  · rw [if_pos c116] at h
    refine r_tabIn (tgt := 430) dX8_item_4 (by rw [c116] <;> decide) (by rw [c116] <;> decide) (by rw [c116] <;> rfl) (by decide) ?_
    refine r_aload_n dX8_item_430 0 rfl ?_
    refine r_bipush (v := 97) dX8_item_431 (by decide) ?_
    obtain ⟨h117, h⟩ := chk_some h
    obtain ⟨q118, g119, h⟩ := ob_some h
    refine r_callV (d' := (6, 0, false)) (As := [.int 97]) (st := []) mdv_X8_then tm_RX8_175 (by decide) rfl rfl (by decide) rfl (Nat.le_refl _) (Nat.le_of_ble_eq_true rfl) rfl dX8_item_433 h117 (ctX8_then g119) (k_I0 ?_)
    refine r_if_eq (tgt := 477) dX8_item_436 (by decide) (fun c120 => ?_) (fun c120 => ?_)
    · rw [if_pos c120] at h
      refine r_aload_n dX8_item_477 0 rfl ?_
      refine r_ldcS 12 (by decide) rfl rfl dX8_item_478 ?_
      obtain ⟨h121, h⟩ := chk_some h
      obtain ⟨q122, g123, h⟩ := ob_some h
      refine r_callV (d' := (10, 0, false)) (As := [.ref (1100 + 12)]) (st := []) mdv_X8_word tm_RX8_161 (by decide) rfl rfl (by decide) rfl (Nat.le_refl _) (Nat.le_of_ble_eq_true rfl) rfl dX8_item_480 h121 (ctX8_word g123) (k_I0 ?_)
      refine r_if_eq (tgt := 516) dX8_item_483 (by decide) (fun c124 => ?_) (fun c124 => ?_)
      · rw [if_pos c124] at h
        refine r_sub [] [] rfl ?_
        exact okX8_item_b516 h hk
      · rw [if_neg c124] at h
        refine r_aload_n dX8_item_486 0 rfl ?_
        refine r_iconst (v := 0) dX8_item_487 (by decide) ?_
        refine r_iconst (v := 0) dX8_item_488 (by decide) ?_
        refine r_aload_n dX8_item_489 0 rfl ?_
        obtain ⟨h125, h⟩ := chk_some h
        refine r_getI (fl_RX8_76 rfl) rfl dX8_item_490 h125 ?_
        refine r_iconst (v := 1) dX8_item_493 (by decide) ?_
        refine r_isub dX8_item_494 ?_
        obtain ⟨q126, g127, h⟩ := ob_some h
        refine r_callV (d' := (8, 0, false)) (As := [.int 0, .int 0, .int ((wI q122.2 a0 6) - 1)]) (st := []) mdv_X8_number tm_RX8_170 (by decide) rfl rfl (by decide) rfl (Nat.le_refl _) (Nat.le_of_ble_eq_true rfl) rfl dX8_item_495 h125 (ctX8_number g127) (k_I0 ?_)
        refine r_if_eq (tgt := 516) dX8_item_498 (by decide) (fun c128 => ?_) (fun c128 => ?_)
        · rw [if_pos c128] at h
          refine r_sub [] [] rfl ?_
          exact okX8_item_b516 h hk
        · rw [if_neg c128] at h
          refine r_aload_n dX8_item_501 0 rfl ?_
          refine r_iconst (v := 1) dX8_item_502 (by decide) ?_
          refine r_iconst (v := 0) dX8_item_503 (by decide) ?_
          refine r_aload_n dX8_item_504 0 rfl ?_
          obtain ⟨h129, h⟩ := chk_some h
          refine r_getI (fl_RX8_83 rfl) rfl dX8_item_505 h129 ?_
          refine r_iconst (v := 1) dX8_item_508 (by decide) ?_
          refine r_isub dX8_item_509 ?_
          obtain ⟨q130, g131, h⟩ := ob_some h
          refine r_callV (d' := (8, 0, false)) (As := [.int 1, .int 0, .int ((wI q126.2 a0 3) - 1)]) (st := []) mdv_X8_number tm_RX8_170 (by decide) rfl rfl (by decide) rfl (Nat.le_refl _) (Nat.le_of_ble_eq_true rfl) rfl dX8_item_510 h129 (ctX8_number g131) (k_I0 ?_)
          refine r_if_ne (tgt := 518) dX8_item_513 (by decide) (fun c132 => ?_) (fun c132 => ?_)
          · rw [if_neg c132] at h
            refine r_aload_n dX8_item_518 0 rfl ?_
            obtain ⟨h133, h⟩ := chk_some h
            obtain ⟨o134, g135, h⟩ := ob_some h
            refine r_getR (fl_RX8_32 rfl) rfl dX8_item_519 h133 g135 ?_
            refine r_aload_n dX8_item_522 0 rfl ?_
            obtain ⟨o136, g137, h⟩ := ob_some h
            refine r_getR (fl_RX8_62 rfl) rfl dX8_item_523 h133 g137 ?_
            refine r_iconst (v := 0) dX8_item_526 (by decide) ?_
            obtain ⟨h138, h⟩ := chk_some h
            obtain ⟨h139, h⟩ := chk_some h
            refine r_iaload dX8_item_527 h138 h139 ?_
            refine r_aload_n dX8_item_528 0 rfl ?_
            refine r_getR (fl_RX8_62 rfl) rfl dX8_item_529 h133 g137 ?_
            refine r_iconst (v := 1) dX8_item_532 (by decide) ?_
            obtain ⟨h140, h⟩ := chk_some h
            refine r_iaload dX8_item_533 h138 h140 ?_
            obtain ⟨h141, h⟩ := chk_some h
            obtain ⟨h142, h⟩ := chk_some h
            obtain ⟨w143, e144, h⟩ := bnd_some h
            refine r_iastore dX8_item_534 h141 h142 ?_
            refine r_eqW e144 ?_
            refine r_iconst (v := 1) dX8_item_535 (by decide) ?_
            rw [← Option.some.inj h] at hk
            exact r_ireturn dX8_item_536 rfl rfl hk
          · rw [if_pos c132] at h
            refine r_sub [] [] rfl ?_
            exact okX8_item_b516 h hk
    · rw [if_neg c120] at h
      refine r_aload_n dX8_item_439 0 rfl ?_
      refine r_ldcS 14 (by decide) rfl rfl dX8_item_440 ?_
      obtain ⟨h145, h⟩ := chk_some h
      obtain ⟨q146, g147, h⟩ := ob_some h
      refine r_callV (d' := (10, 0, false)) (As := [.ref (1100 + 14)]) (st := []) mdv_X8_word tm_RX8_161 (by decide) rfl rfl (by decide) rfl (Nat.le_refl _) (Nat.le_of_ble_eq_true rfl) rfl dX8_item_442 h145 (ctX8_word g147) (k_I0 ?_)
      refine r_if_eq (tgt := 463) dX8_item_445 (by decide) (fun c148 => ?_) (fun c148 => ?_)
      · rw [if_pos c148] at h
        refine r_sub [] [] rfl ?_
        exact okX8_item_b463 h hk
      · rw [if_neg c148] at h
        refine r_aload_n dX8_item_448 0 rfl ?_
        refine r_iconst (v := 0) dX8_item_449 (by decide) ?_
        refine r_iconst (v := 0) dX8_item_450 (by decide) ?_
        refine r_aload_n dX8_item_451 0 rfl ?_
        obtain ⟨h149, h⟩ := chk_some h
        refine r_getI (fl_RX8_76 rfl) rfl dX8_item_452 h149 ?_
        refine r_iconst (v := 1) dX8_item_455 (by decide) ?_
        refine r_isub dX8_item_456 ?_
        obtain ⟨q150, g151, h⟩ := ob_some h
        refine r_callV (d' := (8, 0, false)) (As := [.int 0, .int 0, .int ((wI q146.2 a0 6) - 1)]) (st := []) mdv_X8_number tm_RX8_170 (by decide) rfl rfl (by decide) rfl (Nat.le_refl _) (Nat.le_of_ble_eq_true rfl) rfl dX8_item_457 h149 (ctX8_number g151) (k_I0 ?_)
        refine r_if_ne (tgt := 465) dX8_item_460 (by decide) (fun c152 => ?_) (fun c152 => ?_)
        · rw [if_neg c152] at h
          refine r_aload_n dX8_item_465 0 rfl ?_
          refine r_aload_n dX8_item_466 0 rfl ?_
          obtain ⟨h153, h⟩ := chk_some h
          obtain ⟨o154, g155, h⟩ := ob_some h
          refine r_getR (fl_RX8_62 rfl) rfl dX8_item_467 h153 g155 ?_
          refine r_iconst (v := 0) dX8_item_470 (by decide) ?_
          obtain ⟨h156, h⟩ := chk_some h
          obtain ⟨h157, h⟩ := chk_some h
          refine r_iaload dX8_item_471 h156 h157 ?_
          obtain ⟨q158, g159, h⟩ := ob_some h
          refine r_callV (d' := (7, 0, false)) (As := [.int (wI q150.2 o154 (0 : Int32).toNatClampNeg)]) (st := []) mdv_X8_washes tm_RX8_184 (by decide) rfl rfl (by decide) rfl (Nat.le_refl _) (Nat.le_of_ble_eq_true rfl) rfl dX8_item_472 h153 (ctX8_washes g159) (k_V0 ?_)
          refine r_iconst (v := 1) dX8_item_475 (by decide) ?_
          rw [← Option.some.inj h] at hk
          exact r_ireturn dX8_item_476 rfl rfl hk
        · rw [if_pos c152] at h
          refine r_sub [] [] rfl ?_
          exact okX8_item_b463 h hk
  rw [if_neg c116] at h
  refine r_tabOut (tgt := 555) dX8_item_4 (by have := lv_neT (k := 100) (a := 100) c4 rfl; have := lv_neT (k := 101) (a := 101) c12 rfl; have := lv_neT (k := 102) (a := 102) c13 rfl; have := lv_neT (k := 103) (a := 103) c14 rfl; have := lv_neT (k := 104) (a := 104) c17 rfl; have := lv_neT (k := 105) (a := 105) c48 rfl; have := lv_neT (k := 106) (a := 106) c49 rfl; have := lv_neT (k := 107) (a := 107) c50 rfl; have := lv_neT (k := 108) (a := 108) c51 rfl; have := lv_neT (k := 109) (a := 109) c52 rfl; have := lv_neT (k := 110) (a := 110) c53 rfl; have := lv_neT (k := 111) (a := 111) c54 rfl; have := lv_neT (k := 112) (a := 112) c107 rfl; have := lv_neT (k := 113) (a := 113) c110 rfl; have := lv_neT (k := 114) (a := 114) c111 rfl; have := lv_neT (k := 115) (a := 115) c112 rfl; have := lv_neT (k := 116) (a := 116) c113 rfl; have := lv_neT (k := 117) (a := 117) c114 rfl; have := lv_neT (k := 118) (a := 118) c115 rfl; have := lv_neT (k := 119) (a := 119) c116 rfl; omega) (by decide) ?_
  refine r_sub [] [] rfl ?_
  exact okX8_item_b555 h hk
set_option maxHeartbeats 1000000 in
set_option maxRecDepth 20000 in
theorem ctX8_item {E : Ev} {a0 : Nat} {w : Wd} {q : Int32 × Wd} (h : fX8_item a0 w = some q) : CT E mX8_item (12, 0, false) [.ref a0] w (QI q) := CT.of pl_RX8 (Nat.le_of_ble_eq_true rfl) (okX8_item h ⟨rfl, rfl⟩)
