def fX2_start (a0 : Nat) (x1 : Int32) (x2 : Int32) (w : Wd) : Option (Wd) :=
  chk (isO w a0 2) (bnd (sI w a0 2 x1) (fun w2 => chk (isO w2 a0 2) (bnd (sI w2 a0 3 x2) (fun w5 => chk (isO w5 a0 2) (bnd (sI w5 a0 4 (-1)) (fun w8 => chk (isO w8 a0 2) (ob (wR w8 a0 0) (fun o11 => ob (fJ7_fill_53178 o11 0 w8) (fun q13 => chk (isO q13 a0 2) (ob (wR q13 a0 1) (fun o16 => ob (fJ7_fill_53178 o16 0 q13) (fun q18 => some q18))))))))))))
set_option maxHeartbeats 1000000 in
set_option maxRecDepth 20000 in
theorem okX2_start {E : Ev} {Q : Option Value → Wd → Prop} {a0 : Nat} {x1 : Int32} {x2 : Int32} {w : Wd} {q : Wd} (h : fX2_start a0 x1 x2 w = some q) (hk : (fun q : Wd => Q none q) q) : Runs E mX2_start (7, 0, false) Q 0 0 [(0, .ref a0), (1, .int x1), (2, .int x2)] [] w := by
  unfold fX2_start at h
  refine r_aload_n dX2_start_0 0 rfl ?_
  refine r_iload_n dX2_start_1 1 rfl ?_
  obtain ⟨h1, h⟩ := chk_some h
  obtain ⟨w2, e3, h⟩ := bnd_some h
  refine r_putI (fl_RX2_18 rfl) rfl rfl (ck_ty (by decide) 2 (by decide)) rfl rfl dX2_start_2 h1 ?_
  refine r_eqW e3 ?_
  refine r_aload_n dX2_start_5 0 rfl ?_
  refine r_iload_n dX2_start_6 2 rfl ?_
  obtain ⟨h4, h⟩ := chk_some h
  obtain ⟨w5, e6, h⟩ := bnd_some h
  refine r_putI (fl_RX2_22 rfl) rfl rfl (ck_ty (by decide) 3 (by decide)) rfl rfl dX2_start_7 h4 ?_
  refine r_eqW e6 ?_
  refine r_aload_n dX2_start_10 0 rfl ?_
  refine r_iconst (v := (-1)) dX2_start_11 (by decide) ?_
  obtain ⟨h7, h⟩ := chk_some h
  obtain ⟨w8, e9, h⟩ := bnd_some h
  refine r_putI (fl_RX2_25 rfl) rfl rfl (ck_ty (by decide) 4 (by decide)) rfl rfl dX2_start_12 h7 ?_
  refine r_eqW e9 ?_
  refine r_aload_n dX2_start_15 0 rfl ?_
  obtain ⟨h10, h⟩ := chk_some h
  obtain ⟨o11, g12, h⟩ := ob_some h
  refine r_getR (fl_RX2_9 rfl) rfl dX2_start_16 h10 g12 ?_
  refine r_iconst (v := 0) dX2_start_19 (by decide) ?_
  obtain ⟨q13, g14, h⟩ := ob_some h
  refine r_callS (d' := (6, 0, false)) (As := [.ref o11, .int 0]) (st := []) mds_J7_fill_53178 tm_RX2_28 rfl (by decide) rfl (Nat.le_refl _) (Nat.le_of_ble_eq_true rfl) rfl dX2_start_20 (ctJ7_fill_53178 g14) (k_V0 ?_)
  refine r_aload_n dX2_start_23 0 rfl ?_
  obtain ⟨h15, h⟩ := chk_some h
  obtain ⟨o16, g17, h⟩ := ob_some h
  refine r_getR (fl_RX2_15 rfl) rfl dX2_start_24 h15 g17 ?_
  refine r_iconst (v := 0) dX2_start_27 (by decide) ?_
  obtain ⟨q18, g19, h⟩ := ob_some h
  refine r_callS (d' := (6, 0, false)) (As := [.ref o16, .int 0]) (st := []) mds_J7_fill_53178 tm_RX2_28 rfl (by decide) rfl (Nat.le_refl _) (Nat.le_of_ble_eq_true rfl) rfl dX2_start_28 (ctJ7_fill_53178 g19) (k_V0 ?_)
  rw [← Option.some.inj h] at hk
  exact r_return dX2_start_31 rfl hk
set_option maxHeartbeats 1000000 in
set_option maxRecDepth 20000 in
theorem ctX2_start {E : Ev} {a0 : Nat} {x1 : Int32} {x2 : Int32} {w : Wd} {q : Wd} (h : fX2_start a0 x1 x2 w = some q) : CT E mX2_start (7, 0, false) [.ref a0, .int x1, .int x2] w (QV q) := CT.of pl_RX2 (Nat.le_of_ble_eq_true rfl) (okX2_start h ⟨rfl, rfl⟩)
def fX0_addGarment (a0 : Nat) (x1 : Int32) (x2 : Int32) (w : Wd) : Option (Int32 × Wd) :=
  chk (isO w a0 0) (ob (wR w a0 1) (fun o2 => chk (isA w o2 2) (chk (inb (wI w a0 4) (wn w o2)) (ob (wR w o2 ((wI w a0 4)).toNatClampNeg) (fun o6 => chk (isO w o6 2) (ob (fX2_start o6 x1 x2 w) (fun q9 => chk (isO q9 a0 0) (bnd (sI q9 a0 4 ((wI q9 a0 4) + 1)) (fun w12 => some ((wI q9 a0 4), w12))))))))))
set_option maxHeartbeats 1000000 in
set_option maxRecDepth 20000 in
theorem okX0_addGarment {E : Ev} {Q : Option Value → Wd → Prop} {a0 : Nat} {x1 : Int32} {x2 : Int32} {w : Wd} {q : Int32 × Wd} (h : fX0_addGarment a0 x1 x2 w = some q) (hk : (fun q : Int32 × Wd => Q (some (.int q.1)) q.2) q) : Runs E mX0_addGarment (8, 0, false) Q 0 0 [(0, .ref a0), (1, .int x1), (2, .int x2)] [] w := by
  unfold fX0_addGarment at h
  refine r_aload_n dX0_addGarment_0 0 rfl ?_
  obtain ⟨h1, h⟩ := chk_some h
  obtain ⟨o2, g3, h⟩ := ob_some h
  refine r_getR (fl_RX0_19 rfl) rfl dX0_addGarment_1 h1 g3 ?_
  refine r_aload_n dX0_addGarment_4 0 rfl ?_
  refine r_getI (fl_RX0_31 rfl) rfl dX0_addGarment_5 h1 ?_
  obtain ⟨h4, h⟩ := chk_some h
  obtain ⟨h5, h⟩ := chk_some h
  obtain ⟨o6, g7, h⟩ := ob_some h
  refine r_aaload 2 (by decide) (by decide) dX0_addGarment_8 h4 h5 g7 ?_
  refine r_iload_n dX0_addGarment_9 1 rfl ?_
  refine r_iload_n dX0_addGarment_10 2 rfl ?_
  obtain ⟨h8, h⟩ := chk_some h
  obtain ⟨q9, g10, h⟩ := ob_some h
  refine r_callV (d' := (7, 0, false)) (As := [.int x1, .int x2]) (st := []) mdv_X2_start tm_RX0_57 (by decide) rfl rfl (by decide) rfl (Nat.le_refl _) (Nat.le_of_ble_eq_true rfl) rfl dX0_addGarment_11 h8 (ctX2_start g10) (k_V0 ?_)
  refine r_aload_n dX0_addGarment_14 0 rfl ?_
  refine r_dup dX0_addGarment_15 rfl ?_
  obtain ⟨h11, h⟩ := chk_some h
  refine r_getI (fl_RX0_31 rfl) rfl dX0_addGarment_16 h11 ?_
  refine r_dup_x1 dX0_addGarment_19 rfl rfl ?_
  refine r_iconst (v := 1) dX0_addGarment_20 (by decide) ?_
  refine r_iadd dX0_addGarment_21 ?_
  obtain ⟨w12, e13, h⟩ := bnd_some h
  refine r_putI (fl_RX0_31 rfl) rfl rfl (ck_ty (by decide) 4 (by decide)) rfl rfl dX0_addGarment_22 h11 ?_
  refine r_eqW e13 ?_
  rw [← Option.some.inj h] at hk
  exact r_ireturn dX0_addGarment_25 rfl rfl hk
set_option maxHeartbeats 1000000 in
set_option maxRecDepth 20000 in
theorem ctX0_addGarment {E : Ev} {a0 : Nat} {x1 : Int32} {x2 : Int32} {w : Wd} {q : Int32 × Wd} (h : fX0_addGarment a0 x1 x2 w = some q) : CT E mX0_addGarment (8, 0, false) [.ref a0, .int x1, .int x2] w (QI q) := CT.of pl_RX0 (Nat.le_of_ble_eq_true rfl) (okX0_addGarment h ⟨rfl, rfl⟩)
def fX4_start (a0 : Nat) (x1 : Int32) (w : Wd) : Option (Wd) :=
  chk (isO w a0 4) (bnd (sI w a0 1 x1) (fun w2 => chk (isO w2 a0 4) (ob (wR w2 a0 0) (fun o5 => ob (fJ7_fill_53178 o5 0 w2) (fun q7 => some q7)))))
set_option maxHeartbeats 1000000 in
set_option maxRecDepth 20000 in
theorem okX4_start {E : Ev} {Q : Option Value → Wd → Prop} {a0 : Nat} {x1 : Int32} {w : Wd} {q : Wd} (h : fX4_start a0 x1 w = some q) (hk : (fun q : Wd => Q none q) q) : Runs E mX4_start (7, 0, false) Q 0 0 [(0, .ref a0), (1, .int x1)] [] w := by
  unfold fX4_start at h
  refine r_aload_n dX4_start_0 0 rfl ?_
  refine r_iload_n dX4_start_1 1 rfl ?_
  obtain ⟨h1, h⟩ := chk_some h
  obtain ⟨w2, e3, h⟩ := bnd_some h
  refine r_putI (fl_RX4_15 rfl) rfl rfl (ck_ty (by decide) 1 (by decide)) rfl rfl dX4_start_2 h1 ?_
  refine r_eqW e3 ?_
  refine r_aload_n dX4_start_5 0 rfl ?_
  obtain ⟨h4, h⟩ := chk_some h
  obtain ⟨o5, g6, h⟩ := ob_some h
  refine r_getR (fl_RX4_9 rfl) rfl dX4_start_6 h4 g6 ?_
  refine r_iconst (v := 0) dX4_start_9 (by decide) ?_
  obtain ⟨q7, g8, h⟩ := ob_some h
  refine r_callS (d' := (6, 0, false)) (As := [.ref o5, .int 0]) (st := []) mds_J7_fill_53178 tm_RX4_19 rfl (by decide) rfl (Nat.le_refl _) (Nat.le_of_ble_eq_true rfl) rfl dX4_start_10 (ctJ7_fill_53178 g8) (k_V0 ?_)
  rw [← Option.some.inj h] at hk
  exact r_return dX4_start_13 rfl hk
set_option maxHeartbeats 1000000 in
set_option maxRecDepth 20000 in
theorem ctX4_start {E : Ev} {a0 : Nat} {x1 : Int32} {w : Wd} {q : Wd} (h : fX4_start a0 x1 w = some q) : CT E mX4_start (7, 0, false) [.ref a0, .int x1] w (QV q) := CT.of pl_RX4 (Nat.le_of_ble_eq_true rfl) (okX4_start h ⟨rfl, rfl⟩)
def fX0_addPerson (a0 : Nat) (x1 : Int32) (w : Wd) : Option (Int32 × Wd) :=
  chk (isO w a0 0) (ob (wR w a0 0) (fun o2 => chk (isA w o2 3) (chk (inb (wI w a0 3) (wn w o2)) (ob (wR w o2 ((wI w a0 3)).toNatClampNeg) (fun o6 => chk (isO w o6 4) (ob (fX4_start o6 x1 w) (fun q9 => chk (isO q9 a0 0) (bnd (sI q9 a0 3 ((wI q9 a0 3) + 1)) (fun w12 => some ((wI q9 a0 3), w12))))))))))
set_option maxHeartbeats 1000000 in
set_option maxRecDepth 20000 in
theorem okX0_addPerson {E : Ev} {Q : Option Value → Wd → Prop} {a0 : Nat} {x1 : Int32} {w : Wd} {q : Int32 × Wd} (h : fX0_addPerson a0 x1 w = some q) (hk : (fun q : Int32 × Wd => Q (some (.int q.1)) q.2) q) : Runs E mX0_addPerson (8, 0, false) Q 0 0 [(0, .ref a0), (1, .int x1)] [] w := by
  unfold fX0_addPerson at h
  refine r_aload_n dX0_addPerson_0 0 rfl ?_
  obtain ⟨h1, h⟩ := chk_some h
  obtain ⟨o2, g3, h⟩ := ob_some h
  refine r_getR (fl_RX0_11 rfl) rfl dX0_addPerson_1 h1 g3 ?_
  refine r_aload_n dX0_addPerson_4 0 rfl ?_
  refine r_getI (fl_RX0_27 rfl) rfl dX0_addPerson_5 h1 ?_
  obtain ⟨h4, h⟩ := chk_some h
  obtain ⟨h5, h⟩ := chk_some h
  obtain ⟨o6, g7, h⟩ := ob_some h
  refine r_aaload 3 (by decide) (by decide) dX0_addPerson_8 h4 h5 g7 ?_
  refine r_iload_n dX0_addPerson_9 1 rfl ?_
  obtain ⟨h8, h⟩ := chk_some h
  obtain ⟨q9, g10, h⟩ := ob_some h
  refine r_callV (d' := (7, 0, false)) (As := [.int x1]) (st := []) mdv_X4_start tm_RX0_53 (by decide) rfl rfl (by decide) rfl (Nat.le_refl _) (Nat.le_of_ble_eq_true rfl) rfl dX0_addPerson_10 h8 (ctX4_start g10) (k_V0 ?_)
  refine r_aload_n dX0_addPerson_13 0 rfl ?_
  refine r_dup dX0_addPerson_14 rfl ?_
  obtain ⟨h11, h⟩ := chk_some h
  refine r_getI (fl_RX0_27 rfl) rfl dX0_addPerson_15 h11 ?_
  refine r_dup_x1 dX0_addPerson_18 rfl rfl ?_
  refine r_iconst (v := 1) dX0_addPerson_19 (by decide) ?_
  refine r_iadd dX0_addPerson_20 ?_
  obtain ⟨w12, e13, h⟩ := bnd_some h
  refine r_putI (fl_RX0_27 rfl) rfl rfl (ck_ty (by decide) 3 (by decide)) rfl rfl dX0_addPerson_21 h11 ?_
  refine r_eqW e13 ?_
  rw [← Option.some.inj h] at hk
  exact r_ireturn dX0_addPerson_24 rfl rfl hk
set_option maxHeartbeats 1000000 in
set_option maxRecDepth 20000 in
theorem ctX0_addPerson {E : Ev} {a0 : Nat} {x1 : Int32} {w : Wd} {q : Int32 × Wd} (h : fX0_addPerson a0 x1 w = some q) : CT E mX0_addPerson (8, 0, false) [.ref a0, .int x1] w (QI q) := CT.of pl_RX0 (Nat.le_of_ble_eq_true rfl) (okX0_addPerson h ⟨rfl, rfl⟩)
def PX2_countHabits_L4 (E : Ev) (Q : Option Value → Wd → Prop) (a0 : Nat) (s : Int32 × Int32 × Wd) : Prop := Runs E mX2_countHabits (6, 0, false) Q 0 4 [(0, .ref a0), (1, .int s.1), (2, .int s.2.1)] [] s.2.2
def fX2_countHabits_b22 (a0 : Nat) (x1 : Int32) (x2 : Int32) (w : Wd) : Option ((Int32 × Int32 × Wd) ⊕ (Int32 × Wd)) :=
  some (.inl (x1, (x2 + 1), w))
set_option maxHeartbeats 1000000 in
set_option maxRecDepth 20000 in
theorem okX2_countHabits_b22 {E : Ev} {Q : Option Value → Wd → Prop} {a0 : Nat} {x1 : Int32} {x2 : Int32} {w : Wd} {q : (Int32 × Int32 × Wd) ⊕ (Int32 × Wd)} (h : fX2_countHabits_b22 a0 x1 x2 w = some q) (hk : (Sum.elim (PX2_countHabits_L4 E Q a0) (fun q : Int32 × Wd => Q (some (.int q.1)) q.2)) q) : Runs E mX2_countHabits (6, 0, false) Q 0 22 [(0, .ref a0), (1, .int x1), (2, .int x2)] [] w := by
  unfold fX2_countHabits_b22 at h
  refine r_iinc (v := (x2 + 1)) dX2_countHabits_22 2 rfl rfl (Nat.le_of_ble_eq_true rfl) [(2, .int (x2 + 1)), (0, .ref a0), (1, .int x1)] rfl ?_
  refine r_goto (tgt := 4) dX2_countHabits_25 (by decide) ?_
  rw [← Option.some.inj h] at hk
  refine r_sub [1, 2, 0] [(0, .ref a0), (1, .int x1), (2, .int (x2 + 1))] rfl ?_
  exact hk
def fX2_countHabits_L4_body (a0 : Nat) (s : Int32 × Int32 × Wd) : Option ((Int32 × Int32 × Wd) ⊕ (Int32 × Wd)) :=
  if (12 : Int32) ≤ s.2.1 then (wr (some (s.1, s.2.2))) else (chk (isO s.2.2 a0 2) (ob (wR s.2.2 a0 0) (fun o4 => chk (isA s.2.2 o4 0) (chk (inb s.2.1 (wn s.2.2 o4)) (if (wI s.2.2 o4 (s.2.1).toNatClampNeg) = 0 then (fX2_countHabits_b22 a0 s.1 s.2.1 s.2.2) else (fX2_countHabits_b22 a0 (s.1 + 1) s.2.1 s.2.2))))))
set_option maxHeartbeats 1000000 in
set_option maxRecDepth 20000 in
theorem okX2_countHabits_L4_body {E : Ev} {Q : Option Value → Wd → Prop} {a0 : Nat} {s : Int32 × Int32 × Wd} {r : (Int32 × Int32 × Wd) ⊕ (Int32 × Wd)} (h : fX2_countHabits_L4_body a0 s = some r) (hk : (Sum.elim (PX2_countHabits_L4 E Q a0) (fun q : Int32 × Wd => Q (some (.int q.1)) q.2)) r) : PX2_countHabits_L4 E Q a0 s := by
  unfold fX2_countHabits_L4_body at h
  unfold PX2_countHabits_L4
  refine r_iload_n dX2_countHabits_4 2 rfl ?_
  refine r_bipush (v := 12) dX2_countHabits_5 (by decide) ?_
  refine r_icmp_ge (tgt := 28) dX2_countHabits_7 (by decide) (fun c1 => ?_) (fun c1 => ?_)
  · rw [if_pos c1] at h
    obtain ⟨r2, hr, h⟩ := wr_some h
    rw [hr] at hk
    refine r_iload_n dX2_countHabits_28 1 rfl ?_
    rw [← Option.some.inj h] at hk
    exact r_ireturn dX2_countHabits_29 rfl rfl hk
  · rw [if_neg c1] at h
    refine r_aload_n dX2_countHabits_10 0 rfl ?_
    obtain ⟨h3, h⟩ := chk_some h
    obtain ⟨o4, g5, h⟩ := ob_some h
    refine r_getR (fl_RX2_9 rfl) rfl dX2_countHabits_11 h3 g5 ?_
    refine r_iload_n dX2_countHabits_14 2 rfl ?_
    obtain ⟨h6, h⟩ := chk_some h
    obtain ⟨h7, h⟩ := chk_some h
    refine r_iaload dX2_countHabits_15 h6 h7 ?_
    refine r_if_eq (tgt := 22) dX2_countHabits_16 (by decide) (fun c8 => ?_) (fun c8 => ?_)
    · rw [if_pos c8] at h
      refine r_sub [0, 1, 2] [(0, .ref a0), (1, .int s.1), (2, .int s.2.1)] rfl ?_
      exact okX2_countHabits_b22 h hk
    · rw [if_neg c8] at h
      refine r_iinc (v := (s.1 + 1)) dX2_countHabits_19 1 rfl rfl (Nat.le_of_ble_eq_true rfl) [(1, .int (s.1 + 1)), (0, .ref a0), (2, .int s.2.1)] rfl ?_
      refine r_sub [1, 0, 2] [(0, .ref a0), (1, .int (s.1 + 1)), (2, .int s.2.1)] rfl ?_
      exact okX2_countHabits_b22 h hk
def fX2_countHabits_L4 (a0 : Nat) (s : Int32 × Int32 × Wd) : Option (Int32 × Wd) := it (fX2_countHabits_L4_body a0) FU s
set_option maxHeartbeats 1000000 in
set_option maxRecDepth 20000 in
theorem okX2_countHabits_L4 {E : Ev} {Q : Option Value → Wd → Prop} {a0 : Nat} {s : Int32 × Int32 × Wd} {r : Int32 × Wd} (h : fX2_countHabits_L4 a0 s = some r) (hk : (fun q : Int32 × Wd => Q (some (.int q.1)) q.2) r) : PX2_countHabits_L4 E Q a0 s := it_runs (fun s r h hk => okX2_countHabits_L4_body h hk) FU s r h hk
def fX2_countHabits (a0 : Nat) (w : Wd) : Option (Int32 × Wd) :=
  fX2_countHabits_L4 a0 (0, 0, w)
set_option maxHeartbeats 1000000 in
set_option maxRecDepth 20000 in
theorem okX2_countHabits {E : Ev} {Q : Option Value → Wd → Prop} {a0 : Nat} {w : Wd} {q : Int32 × Wd} (h : fX2_countHabits a0 w = some q) (hk : (fun q : Int32 × Wd => Q (some (.int q.1)) q.2) q) : Runs E mX2_countHabits (6, 0, false) Q 0 0 [(0, .ref a0)] [] w := by
  unfold fX2_countHabits at h
  refine r_iconst (v := 0) dX2_countHabits_0 (by decide) ?_
  refine r_istore_n dX2_countHabits_1 rfl (Nat.le_of_ble_eq_true rfl) [(1, .int 0), (0, .ref a0)] rfl ?_
  refine r_iconst (v := 0) dX2_countHabits_2 (by decide) ?_
  refine r_istore_n dX2_countHabits_3 rfl (Nat.le_of_ble_eq_true rfl) [(2, .int 0), (1, .int 0), (0, .ref a0)] rfl ?_
  refine r_sub [2, 1, 0] [(0, .ref a0), (1, .int 0), (2, .int 0)] rfl ?_
  exact okX2_countHabits_L4 h hk
set_option maxHeartbeats 1000000 in
set_option maxRecDepth 20000 in
theorem ctX2_countHabits {E : Ev} {a0 : Nat} {w : Wd} {q : Int32 × Wd} (h : fX2_countHabits a0 w = some q) : CT E mX2_countHabits (6, 0, false) [.ref a0] w (QI q) := CT.of pl_RX2 (Nat.le_of_ble_eq_true rfl) (okX2_countHabits h ⟨rfl, rfl⟩)
def PX0_countHabits_L4 (E : Ev) (Q : Option Value → Wd → Prop) (a0 : Nat) (s : Int32 × Int32 × Wd) : Prop := Runs E mX0_countHabits (7, 0, false) Q 0 4 [(0, .ref a0), (1, .int s.1), (2, .int s.2.1)] [] s.2.2
def fX0_countHabits_L4_body (a0 : Nat) (s : Int32 × Int32 × Wd) : Option ((Int32 × Int32 × Wd) ⊕ (Int32 × Wd)) :=
  chk (isO s.2.2 a0 0) (if (wI s.2.2 a0 4) ≤ s.2.1 then (wr (some (s.1, s.2.2))) else (ob (wR s.2.2 a0 1) (fun o4 => chk (isA s.2.2 o4 2) (chk (inb s.2.1 (wn s.2.2 o4)) (ob (wR s.2.2 o4 (s.2.1).toNatClampNeg) (fun o8 => chk (isO s.2.2 o8 2) (ob (fX2_countHabits o8 s.2.2) (fun q11 => bnd (s.1 + q11.1) (fun u13 => some (.inl (u13, (s.2.1 + 1), q11.2)))))))))))
set_option maxHeartbeats 1000000 in
set_option maxRecDepth 20000 in
theorem okX0_countHabits_L4_body {E : Ev} {Q : Option Value → Wd → Prop} {a0 : Nat} {s : Int32 × Int32 × Wd} {r : (Int32 × Int32 × Wd) ⊕ (Int32 × Wd)} (h : fX0_countHabits_L4_body a0 s = some r) (hk : (Sum.elim (PX0_countHabits_L4 E Q a0) (fun q : Int32 × Wd => Q (some (.int q.1)) q.2)) r) : PX0_countHabits_L4 E Q a0 s := by
  unfold fX0_countHabits_L4_body at h
  unfold PX0_countHabits_L4
  refine r_iload_n dX0_countHabits_4 2 rfl ?_
  refine r_aload_n dX0_countHabits_5 0 rfl ?_
  obtain ⟨h1, h⟩ := chk_some h
  refine r_getI (fl_RX0_31 rfl) rfl dX0_countHabits_6 h1 ?_
  refine r_icmp_ge (tgt := 30) dX0_countHabits_9 (by decide) (fun c2 => ?_) (fun c2 => ?_)
  · rw [if_pos c2] at h
    obtain ⟨r3, hr, h⟩ := wr_some h
    rw [hr] at hk
    refine r_iload_n dX0_countHabits_30 1 rfl ?_
    rw [← Option.some.inj h] at hk
    exact r_ireturn dX0_countHabits_31 rfl rfl hk
  · rw [if_neg c2] at h
    refine r_iload_n dX0_countHabits_12 1 rfl ?_
    refine r_aload_n dX0_countHabits_13 0 rfl ?_
    obtain ⟨o4, g5, h⟩ := ob_some h
    refine r_getR (fl_RX0_19 rfl) rfl dX0_countHabits_14 h1 g5 ?_
    refine r_iload_n dX0_countHabits_17 2 rfl ?_
    obtain ⟨h6, h⟩ := chk_some h
    obtain ⟨h7, h⟩ := chk_some h
    obtain ⟨o8, g9, h⟩ := ob_some h
    refine r_aaload 2 (by decide) (by decide) dX0_countHabits_18 h6 h7 g9 ?_
    obtain ⟨h10, h⟩ := chk_some h
    obtain ⟨q11, g12, h⟩ := ob_some h
    refine r_callV (d' := (6, 0, false)) (As := []) (st := [.int s.1]) mdv_X2_countHabits tm_RX0_72 (by decide) rfl rfl (by decide) rfl (Nat.le_refl _) (Nat.le_of_ble_eq_true rfl) rfl dX0_countHabits_19 h10 (ctX2_countHabits g12) (k_I0 ?_)
    refine r_iadd dX0_countHabits_22 ?_
    obtain ⟨u13, e14, h⟩ := bnd_some h
    refine r_eqI e14 ?_
    refine r_istore_n dX0_countHabits_23 rfl (Nat.le_of_ble_eq_true rfl) [(1, .int u13), (0, .ref a0), (2, .int s.2.1)] rfl ?_
    refine r_iinc (v := (s.2.1 + 1)) dX0_countHabits_24 2 rfl rfl (Nat.le_of_ble_eq_true rfl) [(2, .int (s.2.1 + 1)), (1, .int u13), (0, .ref a0)] rfl ?_
    refine r_goto (tgt := 4) dX0_countHabits_27 (by decide) ?_
    rw [← Option.some.inj h] at hk
    refine r_sub [2, 1, 0] [(0, .ref a0), (1, .int u13), (2, .int (s.2.1 + 1))] rfl ?_
    exact hk
def fX0_countHabits_L4 (a0 : Nat) (s : Int32 × Int32 × Wd) : Option (Int32 × Wd) := it (fX0_countHabits_L4_body a0) FU s
set_option maxHeartbeats 1000000 in
set_option maxRecDepth 20000 in
theorem okX0_countHabits_L4 {E : Ev} {Q : Option Value → Wd → Prop} {a0 : Nat} {s : Int32 × Int32 × Wd} {r : Int32 × Wd} (h : fX0_countHabits_L4 a0 s = some r) (hk : (fun q : Int32 × Wd => Q (some (.int q.1)) q.2) r) : PX0_countHabits_L4 E Q a0 s := it_runs (fun s r h hk => okX0_countHabits_L4_body h hk) FU s r h hk
def fX0_countHabits (a0 : Nat) (w : Wd) : Option (Int32 × Wd) :=
  fX0_countHabits_L4 a0 (0, 0, w)
set_option maxHeartbeats 1000000 in
set_option maxRecDepth 20000 in
theorem okX0_countHabits {E : Ev} {Q : Option Value → Wd → Prop} {a0 : Nat} {w : Wd} {q : Int32 × Wd} (h : fX0_countHabits a0 w = some q) (hk : (fun q : Int32 × Wd => Q (some (.int q.1)) q.2) q) : Runs E mX0_countHabits (7, 0, false) Q 0 0 [(0, .ref a0)] [] w := by
  unfold fX0_countHabits at h
  refine r_iconst (v := 0) dX0_countHabits_0 (by decide) ?_
  refine r_istore_n dX0_countHabits_1 rfl (Nat.le_of_ble_eq_true rfl) [(1, .int 0), (0, .ref a0)] rfl ?_
  refine r_iconst (v := 0) dX0_countHabits_2 (by decide) ?_
  refine r_istore_n dX0_countHabits_3 rfl (Nat.le_of_ble_eq_true rfl) [(2, .int 0), (1, .int 0), (0, .ref a0)] rfl ?_
  refine r_sub [2, 1, 0] [(0, .ref a0), (1, .int 0), (2, .int 0)] rfl ?_
  exact okX0_countHabits_L4 h hk
set_option maxHeartbeats 1000000 in
set_option maxRecDepth 20000 in
theorem ctX0_countHabits {E : Ev} {a0 : Nat} {w : Wd} {q : Int32 × Wd} (h : fX0_countHabits a0 w = some q) : CT E mX0_countHabits (7, 0, false) [.ref a0] w (QI q) := CT.of pl_RX0 (Nat.le_of_ble_eq_true rfl) (okX0_countHabits h ⟨rfl, rfl⟩)
def PX0_wornBy_L4 (E : Ev) (Q : Option Value → Wd → Prop) (a0 : Nat) (x1 : Int32) (s : Int32 × Int32 × Wd) : Prop := Runs E mX0_wornBy (6, 0, false) Q 0 4 [(0, .ref a0), (1, .int x1), (2, .int s.1), (3, .int s.2.1)] [] s.2.2
def fX0_wornBy_b31 (a0 : Nat) (x1 : Int32) (x2 : Int32) (x3 : Int32) (w : Wd) : Option ((Int32 × Int32 × Wd) ⊕ (Int32 × Wd)) :=
  some (.inl (x2, (x3 + 1), w))
set_option maxHeartbeats 1000000 in
set_option maxRecDepth 20000 in
theorem okX0_wornBy_b31 {E : Ev} {Q : Option Value → Wd → Prop} {a0 : Nat} {x1 : Int32} {x2 : Int32} {x3 : Int32} {w : Wd} {q : (Int32 × Int32 × Wd) ⊕ (Int32 × Wd)} (h : fX0_wornBy_b31 a0 x1 x2 x3 w = some q) (hk : (Sum.elim (PX0_wornBy_L4 E Q a0 x1) (fun q : Int32 × Wd => Q (some (.int q.1)) q.2)) q) : Runs E mX0_wornBy (6, 0, false) Q 0 31 [(0, .ref a0), (1, .int x1), (2, .int x2), (3, .int x3)] [] w := by
  unfold fX0_wornBy_b31 at h
  refine r_iinc (v := (x3 + 1)) dX0_wornBy_31 3 rfl rfl (Nat.le_of_ble_eq_true rfl) [(3, .int (x3 + 1)), (0, .ref a0), (1, .int x1), (2, .int x2)] rfl ?_
  refine r_goto (tgt := 4) dX0_wornBy_34 (by decide) ?_
  rw [← Option.some.inj h] at hk
  refine r_sub [1, 2, 3, 0] [(0, .ref a0), (1, .int x1), (2, .int x2), (3, .int (x3 + 1))] rfl ?_
  exact hk
def fX0_wornBy_L4_body (a0 : Nat) (x1 : Int32) (s : Int32 × Int32 × Wd) : Option ((Int32 × Int32 × Wd) ⊕ (Int32 × Wd)) :=
  chk (isO s.2.2 a0 0) (if (wI s.2.2 a0 4) ≤ s.2.1 then (wr (some (s.1, s.2.2))) else (ob (wR s.2.2 a0 1) (fun o4 => chk (isA s.2.2 o4 2) (chk (inb s.2.1 (wn s.2.2 o4)) (ob (wR s.2.2 o4 (s.2.1).toNatClampNeg) (fun o8 => chk (isO s.2.2 o8 2) (if (wI s.2.2 o8 4) = x1 then (bnd (s.1 ||| (1 <<< (s.2.1 &&& 31))) (fun u12 => fX0_wornBy_b31 a0 x1 u12 s.2.1 s.2.2)) else (fX0_wornBy_b31 a0 x1 s.1 s.2.1 s.2.2))))))))
set_option maxHeartbeats 1000000 in
set_option maxRecDepth 20000 in
theorem okX0_wornBy_L4_body {E : Ev} {Q : Option Value → Wd → Prop} {a0 : Nat} {x1 : Int32} {s : Int32 × Int32 × Wd} {r : (Int32 × Int32 × Wd) ⊕ (Int32 × Wd)} (h : fX0_wornBy_L4_body a0 x1 s = some r) (hk : (Sum.elim (PX0_wornBy_L4 E Q a0 x1) (fun q : Int32 × Wd => Q (some (.int q.1)) q.2)) r) : PX0_wornBy_L4 E Q a0 x1 s := by
  unfold fX0_wornBy_L4_body at h
  unfold PX0_wornBy_L4
  refine r_iload_n dX0_wornBy_4 3 rfl ?_
  refine r_aload_n dX0_wornBy_5 0 rfl ?_
  obtain ⟨h1, h⟩ := chk_some h
  refine r_getI (fl_RX0_31 rfl) rfl dX0_wornBy_6 h1 ?_
  refine r_icmp_ge (tgt := 37) dX0_wornBy_9 (by decide) (fun c2 => ?_) (fun c2 => ?_)
  · rw [if_pos c2] at h
    obtain ⟨r3, hr, h⟩ := wr_some h
    rw [hr] at hk
    refine r_iload_n dX0_wornBy_37 2 rfl ?_
    rw [← Option.some.inj h] at hk
    exact r_ireturn dX0_wornBy_38 rfl rfl hk
  · rw [if_neg c2] at h
    refine r_aload_n dX0_wornBy_12 0 rfl ?_
    obtain ⟨o4, g5, h⟩ := ob_some h
    refine r_getR (fl_RX0_19 rfl) rfl dX0_wornBy_13 h1 g5 ?_
    refine r_iload_n dX0_wornBy_16 3 rfl ?_
    obtain ⟨h6, h⟩ := chk_some h
    obtain ⟨h7, h⟩ := chk_some h
    obtain ⟨o8, g9, h⟩ := ob_some h
    refine r_aaload 2 (by decide) (by decide) dX0_wornBy_17 h6 h7 g9 ?_
    obtain ⟨h10, h⟩ := chk_some h
    refine r_getI (fl_RX0_60 rfl) rfl dX0_wornBy_18 h10 ?_
    refine r_iload_n dX0_wornBy_21 1 rfl ?_
    refine r_icmp_ne (tgt := 31) dX0_wornBy_22 (by decide) (fun c11 => ?_) (fun c11 => ?_)
    · rw [if_neg c11] at h
      refine r_sub [0, 1, 2, 3] [(0, .ref a0), (1, .int x1), (2, .int s.1), (3, .int s.2.1)] rfl ?_
      exact okX0_wornBy_b31 h hk
    · rw [if_pos c11] at h
      refine r_iload_n dX0_wornBy_25 2 rfl ?_
      refine r_iconst (v := 1) dX0_wornBy_26 (by decide) ?_
      refine r_iload_n dX0_wornBy_27 3 rfl ?_
      refine r_ishl dX0_wornBy_28 ?_
      refine r_ior dX0_wornBy_29 ?_
      obtain ⟨u12, e13, h⟩ := bnd_some h
      refine r_eqI e13 ?_
      refine r_istore_n dX0_wornBy_30 rfl (Nat.le_of_ble_eq_true rfl) [(2, .int u12), (0, .ref a0), (1, .int x1), (3, .int s.2.1)] rfl ?_
      refine r_sub [1, 2, 0, 3] [(0, .ref a0), (1, .int x1), (2, .int u12), (3, .int s.2.1)] rfl ?_
      exact okX0_wornBy_b31 h hk
def fX0_wornBy_L4 (a0 : Nat) (x1 : Int32) (s : Int32 × Int32 × Wd) : Option (Int32 × Wd) := it (fX0_wornBy_L4_body a0 x1) FU s
set_option maxHeartbeats 1000000 in
set_option maxRecDepth 20000 in
theorem okX0_wornBy_L4 {E : Ev} {Q : Option Value → Wd → Prop} {a0 : Nat} {x1 : Int32} {s : Int32 × Int32 × Wd} {r : Int32 × Wd} (h : fX0_wornBy_L4 a0 x1 s = some r) (hk : (fun q : Int32 × Wd => Q (some (.int q.1)) q.2) r) : PX0_wornBy_L4 E Q a0 x1 s := it_runs (fun s r h hk => okX0_wornBy_L4_body h hk) FU s r h hk
def fX0_wornBy (a0 : Nat) (x1 : Int32) (w : Wd) : Option (Int32 × Wd) :=
  fX0_wornBy_L4 a0 x1 (0, 0, w)
set_option maxHeartbeats 1000000 in
set_option maxRecDepth 20000 in
theorem okX0_wornBy {E : Ev} {Q : Option Value → Wd → Prop} {a0 : Nat} {x1 : Int32} {w : Wd} {q : Int32 × Wd} (h : fX0_wornBy a0 x1 w = some q) (hk : (fun q : Int32 × Wd => Q (some (.int q.1)) q.2) q) : Runs E mX0_wornBy (6, 0, false) Q 0 0 [(0, .ref a0), (1, .int x1)] [] w := by
  unfold fX0_wornBy at h
  refine r_iconst (v := 0) dX0_wornBy_0 (by decide) ?_
  refine r_istore_n dX0_wornBy_1 rfl (Nat.le_of_ble_eq_true rfl) [(2, .int 0), (0, .ref a0), (1, .int x1)] rfl ?_
  refine r_iconst (v := 0) dX0_wornBy_2 (by decide) ?_
  refine r_istore_n dX0_wornBy_3 rfl (Nat.le_of_ble_eq_true rfl) [(3, .int 0), (2, .int 0), (0, .ref a0), (1, .int x1)] rfl ?_
  refine r_sub [2, 3, 1, 0] [(0, .ref a0), (1, .int x1), (2, .int 0), (3, .int 0)] rfl ?_
  exact okX0_wornBy_L4 h hk
set_option maxHeartbeats 1000000 in
set_option maxRecDepth 20000 in
theorem ctX0_wornBy {E : Ev} {a0 : Nat} {x1 : Int32} {w : Wd} {q : Int32 × Wd} (h : fX0_wornBy a0 x1 w = some q) : CT E mX0_wornBy (6, 0, false) [.ref a0, .int x1] w (QI q) := CT.of pl_RX0 (Nat.le_of_ble_eq_true rfl) (okX0_wornBy h ⟨rfl, rfl⟩)
def fX0_countWorn (a0 : Nat) (w : Wd) : Option (Int32 × Wd) :=
  chk (isO w a0 0) (ob (fX0_wornBy a0 (-1) w) (fun q2 => ob (fJ6_bitCount_0f7a4 q2.1 q2.2) (fun q4 => some (((wI w a0 4) - q4.1), q4.2))))
set_option maxHeartbeats 1000000 in
set_option maxRecDepth 20000 in
theorem okX0_countWorn {E : Ev} {Q : Option Value → Wd → Prop} {a0 : Nat} {w : Wd} {q : Int32 × Wd} (h : fX0_countWorn a0 w = some q) (hk : (fun q : Int32 × Wd => Q (some (.int q.1)) q.2) q) : Runs E mX0_countWorn (7, 0, false) Q 0 0 [(0, .ref a0)] [] w := by
  unfold fX0_countWorn at h
  refine r_aload_n dX0_countWorn_0 0 rfl ?_
  obtain ⟨h1, h⟩ := chk_some h
  refine r_getI (fl_RX0_31 rfl) rfl dX0_countWorn_1 h1 ?_
  refine r_aload_n dX0_countWorn_4 0 rfl ?_
  refine r_iconst (v := (-1)) dX0_countWorn_5 (by decide) ?_
  obtain ⟨q2, g3, h⟩ := ob_some h
  refine r_callV (d' := (6, 0, false)) (As := [.int (-1)]) (st := [.int (wI w a0 4)]) mdv_X0_wornBy tm_RX0_63 (by decide) rfl rfl (by decide) rfl (Nat.le_refl _) (Nat.le_of_ble_eq_true rfl) rfl dX0_countWorn_6 h1 (ctX0_wornBy g3) (k_I0 ?_)
  obtain ⟨q4, g5, h⟩ := ob_some h
  refine r_callS (d' := (6, 0, false)) (As := [.int q2.1]) (st := [.int (wI w a0 4)]) mds_J6_bitCount_0f7a4 tm_RX0_67 rfl (by decide) rfl (Nat.le_refl _) (Nat.le_of_ble_eq_true rfl) rfl dX0_countWorn_9 (ctJ6_bitCount_0f7a4 g5) (k_I0 ?_)
  refine r_isub dX0_countWorn_12 ?_
  rw [← Option.some.inj h] at hk
  exact r_ireturn dX0_countWorn_13 rfl rfl hk
set_option maxHeartbeats 1000000 in
set_option maxRecDepth 20000 in
theorem ctX0_countWorn {E : Ev} {a0 : Nat} {w : Wd} {q : Int32 × Wd} (h : fX0_countWorn a0 w = some q) : CT E mX0_countWorn (7, 0, false) [.ref a0] w (QI q) := CT.of pl_RX0 (Nat.le_of_ble_eq_true rfl) (okX0_countWorn h ⟨rfl, rfl⟩)
def fX0_pullOf_b168 (x5 : Int32) (w : Wd) : Option (Int32 × Wd) :=
  some (x5, w)
set_option maxHeartbeats 1000000 in
set_option maxRecDepth 20000 in
theorem okX0_pullOf_b168 {E : Ev} {Q : Option Value → Wd → Prop} {x5 : Int32} {w : Wd} {q : Int32 × Wd} (h : fX0_pullOf_b168 x5 w = some q) (hk : (fun q : Int32 × Wd => Q (some (.int q.1)) q.2) q) : Runs E mX0_pullOf (6, 0, false) Q 0 168 [(5, .int x5)] [] w := by
  unfold fX0_pullOf_b168 at h
  refine r_iload dX0_pullOf_168 0 rfl ?_
  rw [← Option.some.inj h] at hk
  exact r_ireturn dX0_pullOf_170 rfl rfl hk
def PX0_pullOf_L86 (E : Ev) (Q : Option Value → Wd → Prop) (a0 : Nat) (x2 : Int32) (x4 : Int32) (s : Int32 × Int32 × Wd) : Prop := Runs E mX0_pullOf (6, 0, false) Q 0 86 [(0, .ref a0), (2, .int x2), (4, .int x4), (6, .int s.1), (7, .int s.2.1)] [] s.2.2
def fX0_pullOf_b129 (a0 : Nat) (x2 : Int32) (x4 : Int32) (x6 : Int32) (x7 : Int32) (w : Wd) : Option ((Int32 × Int32 × Wd) ⊕ (Int32 × Wd)) :=
  some (.inl (x6, (x7 + 1), w))
set_option maxHeartbeats 1000000 in
set_option maxRecDepth 20000 in
theorem okX0_pullOf_b129 {E : Ev} {Q : Option Value → Wd → Prop} {a0 : Nat} {x2 : Int32} {x4 : Int32} {x6 : Int32} {x7 : Int32} {w : Wd} {q : (Int32 × Int32 × Wd) ⊕ (Int32 × Wd)} (h : fX0_pullOf_b129 a0 x2 x4 x6 x7 w = some q) (hk : (Sum.elim (PX0_pullOf_L86 E Q a0 x2 x4) (fun q : Int32 × Wd => Q (some (.int q.1)) q.2)) q) : Runs E mX0_pullOf (6, 0, false) Q 0 129 [(0, .ref a0), (2, .int x2), (4, .int x4), (6, .int x6), (7, .int x7)] [] w := by
  unfold fX0_pullOf_b129 at h
  refine r_iinc (v := (x7 + 1)) dX0_pullOf_129 4 rfl rfl (Nat.le_of_ble_eq_true rfl) [(7, .int (x7 + 1)), (0, .ref a0), (2, .int x2), (4, .int x4), (6, .int x6)] rfl ?_
  refine r_goto (tgt := 86) dX0_pullOf_132 (by decide) ?_
  rw [← Option.some.inj h] at hk
  refine r_sub [1, 2, 3, 4, 0] [(0, .ref a0), (2, .int x2), (4, .int x4), (6, .int x6), (7, .int (x7 + 1))] rfl ?_
  exact hk
def fX0_pullOf_L86_body (a0 : Nat) (x2 : Int32) (x4 : Int32) (s : Int32 × Int32 × Wd) : Option ((Int32 × Int32 × Wd) ⊕ (Int32 × Wd)) :=
  chk (isO s.2.2 a0 0) (if (wI s.2.2 a0 4) ≤ s.2.1 then (wr (some (s.1, s.2.2))) else (ob (wR s.2.2 a0 1) (fun o4 => chk (isA s.2.2 o4 2) (chk (inb s.2.1 (wn s.2.2 o4)) (ob (wR s.2.2 o4 (s.2.1).toNatClampNeg) (fun o8 => chk (isO s.2.2 o8 2) (if (wI s.2.2 o8 2) = 3 then (ob (wR s.2.2 o8 0) (fun o12 => chk (isA s.2.2 o12 0) (chk (inb x2 (wn s.2.2 o12)) (if (wI s.2.2 o12 (x2).toNatClampNeg) = x4 then (fX0_pullOf_b129 a0 x2 x4 (s.1 + 1) s.2.1 s.2.2) else (fX0_pullOf_b129 a0 x2 x4 s.1 s.2.1 s.2.2))))) else (fX0_pullOf_b129 a0 x2 x4 s.1 s.2.1 s.2.2))))))))
set_option maxHeartbeats 1000000 in
set_option maxRecDepth 20000 in
theorem okX0_pullOf_L86_body {E : Ev} {Q : Option Value → Wd → Prop} {a0 : Nat} {x2 : Int32} {x4 : Int32} {s : Int32 × Int32 × Wd} {r : (Int32 × Int32 × Wd) ⊕ (Int32 × Wd)} (h : fX0_pullOf_L86_body a0 x2 x4 s = some r) (hk : (Sum.elim (PX0_pullOf_L86 E Q a0 x2 x4) (fun q : Int32 × Wd => Q (some (.int q.1)) q.2)) r) : PX0_pullOf_L86 E Q a0 x2 x4 s := by
  unfold fX0_pullOf_L86_body at h
  unfold PX0_pullOf_L86
  refine r_iload dX0_pullOf_86 4 rfl ?_
  refine r_aload_n dX0_pullOf_88 0 rfl ?_
  obtain ⟨h1, h⟩ := chk_some h
  refine r_getI (fl_RX0_31 rfl) rfl dX0_pullOf_89 h1 ?_
  refine r_icmp_ge (tgt := 135) dX0_pullOf_92 (by decide) (fun c2 => ?_) (fun c2 => ?_)
  · rw [if_pos c2] at h
    obtain ⟨r3, hr, h⟩ := wr_some h
    rw [hr] at hk
    refine r_iload dX0_pullOf_135 3 rfl ?_
    rw [← Option.some.inj h] at hk
    exact r_ireturn dX0_pullOf_137 rfl rfl hk
  · rw [if_neg c2] at h
    refine r_aload_n dX0_pullOf_95 0 rfl ?_
    obtain ⟨o4, g5, h⟩ := ob_some h
    refine r_getR (fl_RX0_19 rfl) rfl dX0_pullOf_96 h1 g5 ?_
    refine r_iload dX0_pullOf_99 4 rfl ?_
    obtain ⟨h6, h⟩ := chk_some h
    obtain ⟨h7, h⟩ := chk_some h
    obtain ⟨o8, g9, h⟩ := ob_some h
    refine r_aaload 2 (by decide) (by decide) dX0_pullOf_101 h6 h7 g9 ?_
    obtain ⟨h10, h⟩ := chk_some h
    refine r_getI (fl_RX0_85 rfl) rfl dX0_pullOf_102 h10 ?_
    refine r_iconst (v := 3) dX0_pullOf_105 (by decide) ?_
    refine r_icmp_ne (tgt := 129) dX0_pullOf_106 (by decide) (fun c11 => ?_) (fun c11 => ?_)
    · rw [if_neg c11] at h
      refine r_sub [0, 1, 2, 3, 4] [(0, .ref a0), (2, .int x2), (4, .int x4), (6, .int s.1), (7, .int s.2.1)] rfl ?_
      exact okX0_pullOf_b129 h hk
    · rw [if_pos c11] at h
      refine r_aload_n dX0_pullOf_109 0 rfl ?_
      refine r_getR (fl_RX0_19 rfl) rfl dX0_pullOf_110 h1 g5 ?_
      refine r_iload dX0_pullOf_113 4 rfl ?_
      refine r_aaload 2 (by decide) (by decide) dX0_pullOf_115 h6 h7 g9 ?_
      obtain ⟨o12, g13, h⟩ := ob_some h
      refine r_getR (fl_RX0_76 rfl) rfl dX0_pullOf_116 h10 g13 ?_
      refine r_iload_n dX0_pullOf_119 1 rfl ?_
      obtain ⟨h14, h⟩ := chk_some h
      obtain ⟨h15, h⟩ := chk_some h
      refine r_iaload dX0_pullOf_120 h14 h15 ?_
      refine r_iload dX0_pullOf_121 2 rfl ?_
      refine r_icmp_ne (tgt := 129) dX0_pullOf_123 (by decide) (fun c16 => ?_) (fun c16 => ?_)
      · rw [if_neg c16] at h
        refine r_sub [0, 1, 2, 3, 4] [(0, .ref a0), (2, .int x2), (4, .int x4), (6, .int s.1), (7, .int s.2.1)] rfl ?_
        exact okX0_pullOf_b129 h hk
      · rw [if_pos c16] at h
        refine r_iinc (v := (s.1 + 1)) dX0_pullOf_126 3 rfl rfl (Nat.le_of_ble_eq_true rfl) [(6, .int (s.1 + 1)), (0, .ref a0), (2, .int x2), (4, .int x4), (7, .int s.2.1)] rfl ?_
        refine r_sub [1, 2, 3, 0, 4] [(0, .ref a0), (2, .int x2), (4, .int x4), (6, .int (s.1 + 1)), (7, .int s.2.1)] rfl ?_
        exact okX0_pullOf_b129 h hk
def fX0_pullOf_L86 (a0 : Nat) (x2 : Int32) (x4 : Int32) (s : Int32 × Int32 × Wd) : Option (Int32 × Wd) := it (fX0_pullOf_L86_body a0 x2 x4) FU s
set_option maxHeartbeats 1000000 in
set_option maxRecDepth 20000 in
theorem okX0_pullOf_L86 {E : Ev} {Q : Option Value → Wd → Prop} {a0 : Nat} {x2 : Int32} {x4 : Int32} {s : Int32 × Int32 × Wd} {r : Int32 × Wd} (h : fX0_pullOf_L86 a0 x2 x4 s = some r) (hk : (fun q : Int32 × Wd => Q (some (.int q.1)) q.2) r) : PX0_pullOf_L86 E Q a0 x2 x4 s := it_runs (fun s r h hk => okX0_pullOf_L86_body h hk) FU s r h hk
def fX0_pullOf_b166 (s0 : Int32) (s1 : Int32) (w : Wd) : Option (Int32 × Wd) :=
  some ((s1 + s0), w)
set_option maxHeartbeats 1000000 in
set_option maxRecDepth 20000 in
theorem okX0_pullOf_b166 {E : Ev} {Q : Option Value → Wd → Prop} {s0 : Int32} {s1 : Int32} {w : Wd} {q : Int32 × Wd} (h : fX0_pullOf_b166 s0 s1 w = some q) (hk : (fun q : Int32 × Wd => Q (some (.int q.1)) q.2) q) : Runs E mX0_pullOf (6, 0, false) Q 0 166 [] [.int s0, .int s1] w := by
  unfold fX0_pullOf_b166 at h
  refine r_iadd dX0_pullOf_166 ?_
  rw [← Option.some.inj h] at hk
  exact r_ireturn dX0_pullOf_167 rfl rfl hk
def fX0_pullOf (a0 : Nat) (x1 : Int32) (x2 : Int32) (w : Wd) : Option (Int32 × Wd) :=
  chk (isO w a0 0) (ob (wR w a0 1) (fun o2 => chk (isA w o2 2) (chk (inb x1 (wn w o2)) (ob (wR w o2 (x1).toNatClampNeg) (fun o6 => chk (isO w o6 2) (ob (wR w o6 0) (fun o9 => chk (isA w o9 0) (chk (inb x2 (wn w o9)) (bnd (wI w o9 (x2).toNatClampNeg) (fun u13 => ob (wR w o6 1) (fun o15 => chk (isA w o15 0) (chk (inb x2 (wn w o15)) (bnd (wI w o15 (x2).toNatClampNeg) (fun u19 => bnd (u19 + (wI w o6 3)) (fun u21 => if u13 = 0 then (some (0, w)) else (if (wI w o6 2) = 1 then (some (u21, w)) else (if (wI w o6 2) = 2 then (fX0_pullOf_b168 u19 w) else (if (wI w o6 2) = 3 then (fX0_pullOf_L86 a0 x2 u13 (u21, 0, w)) else (if (wI w o6 2) = 4 then (some ((2 * u19), w)) else (if (wI w o6 2) = 5 then (chk (¬ (2 : Int32) = 0) (some ((u19 / 2), w))) else (if (wI w o6 2) = 6 then (if x2 = (wI w o6 3) then (fX0_pullOf_b166 9 (2 * u19) w) else (fX0_pullOf_b166 0 (2 * u19) w)) else (fX0_pullOf_b168 u19 w))))))))))))))))))))))
set_option maxHeartbeats 1000000 in
set_option maxRecDepth 20000 in
theorem okX0_pullOf {E : Ev} {Q : Option Value → Wd → Prop} {a0 : Nat} {x1 : Int32} {x2 : Int32} {w : Wd} {q : Int32 × Wd} (h : fX0_pullOf a0 x1 x2 w = some q) (hk : (fun q : Int32 × Wd => Q (some (.int q.1)) q.2) q) : Runs E mX0_pullOf (6, 0, false) Q 0 0 [(0, .ref a0), (1, .int x1), (2, .int x2)] [] w := by
  unfold fX0_pullOf at h
  refine r_aload_n dX0_pullOf_0 0 rfl ?_
  obtain ⟨h1, h⟩ := chk_some h
  obtain ⟨o2, g3, h⟩ := ob_some h
  refine r_getR (fl_RX0_19 rfl) rfl dX0_pullOf_1 h1 g3 ?_
  refine r_iload_n dX0_pullOf_4 1 rfl ?_
  obtain ⟨h4, h⟩ := chk_some h
  obtain ⟨h5, h⟩ := chk_some h
  obtain ⟨o6, g7, h⟩ := ob_some h
  refine r_aaload 2 (by decide) (by decide) dX0_pullOf_5 h4 h5 g7 ?_
  refine r_astore_n dX0_pullOf_6 rfl (Nat.le_of_ble_eq_true rfl) [(3, .ref o6), (0, .ref a0), (1, .int x1), (2, .int x2)] rfl ?_
  refine r_aload_n dX0_pullOf_7 0 rfl ?_
  obtain ⟨h8, h⟩ := chk_some h
  obtain ⟨o9, g10, h⟩ := ob_some h
  refine r_getR (fl_RX0_76 rfl) rfl dX0_pullOf_8 h8 g10 ?_
  refine r_iload_n dX0_pullOf_11 3 rfl ?_
  obtain ⟨h11, h⟩ := chk_some h
  obtain ⟨h12, h⟩ := chk_some h
  refine r_iaload dX0_pullOf_12 h11 h12 ?_
  obtain ⟨u13, e14, h⟩ := bnd_some h
  refine r_eqI e14 ?_
  refine r_istore dX0_pullOf_13 (Nat.le_of_ble_eq_true rfl) [(4, .int u13), (3, .ref o6), (0, .ref a0), (1, .int x1), (2, .int x2)] rfl ?_
  refine r_aload_n dX0_pullOf_15 1 rfl ?_
  obtain ⟨o15, g16, h⟩ := ob_some h
  refine r_getR (fl_RX0_79 rfl) rfl dX0_pullOf_16 h8 g16 ?_
  refine r_iload_n dX0_pullOf_19 4 rfl ?_
  obtain ⟨h17, h⟩ := chk_some h
  obtain ⟨h18, h⟩ := chk_some h
  refine r_iaload dX0_pullOf_20 h17 h18 ?_
  obtain ⟨u19, e20, h⟩ := bnd_some h
  refine r_eqI e20 ?_
  refine r_istore dX0_pullOf_21 (Nat.le_of_ble_eq_true rfl) [(5, .int u19), (4, .int u13), (3, .ref o6), (0, .ref a0), (1, .int x1), (2, .int x2)] rfl ?_
  refine r_iload dX0_pullOf_23 0 rfl ?_
  refine r_aload_n dX0_pullOf_25 2 rfl ?_
  refine r_getI (fl_RX0_82 rfl) rfl dX0_pullOf_26 h8 ?_
  refine r_iadd dX0_pullOf_29 ?_
  obtain ⟨u21, e22, h⟩ := bnd_some h
  refine r_eqI e22 ?_
  refine r_istore dX0_pullOf_30 (Nat.le_of_ble_eq_true rfl) [(6, .int u21), (5, .int u19), (4, .int u13), (3, .ref o6), (0, .ref a0), (1, .int x1), (2, .int x2)] rfl ?_
  refine r_iload dX0_pullOf_32 2 rfl ?_
  refine r_if_ne (tgt := 39) dX0_pullOf_34 (by decide) (fun c23 => ?_) (fun c23 => ?_)
  · rw [if_neg c23] at h
    refine r_aload_n dX0_pullOf_39 3 rfl ?_
    refine r_getI (fl_RX0_85 rfl) rfl dX0_pullOf_40 h8 ?_
    by_cases c24 : (wI w o6 2) = 1
    · rw [if_pos c24] at h
      refine r_tabIn (tgt := 80) dX0_pullOf_43 (by rw [c24] <;> decide) (by rw [c24] <;> decide) (by rw [c24] <;> rfl) (by decide) ?_
      refine r_iload dX0_pullOf_80 0 rfl ?_
      rw [← Option.some.inj h] at hk
      exact r_ireturn dX0_pullOf_82 rfl rfl hk
    rw [if_neg c24] at h
    by_cases c25 : (wI w o6 2) = 2
    · rw [if_pos c25] at h
      refine r_tabIn (tgt := 168) dX0_pullOf_43 (by rw [c25] <;> decide) (by rw [c25] <;> decide) (by rw [c25] <;> rfl) (by decide) ?_
      refine r_sub [1] [(5, .int u19)] rfl ?_
      exact okX0_pullOf_b168 h hk
    rw [if_neg c25] at h
    by_cases c26 : (wI w o6 2) = 3
    · rw [if_pos c26] at h
      refine r_tabIn (tgt := 83) dX0_pullOf_43 (by rw [c26] <;> decide) (by rw [c26] <;> decide) (by rw [c26] <;> rfl) (by decide) ?_
      refine r_iconst (v := 0) dX0_pullOf_83 (by decide) ?_
      refine r_istore dX0_pullOf_84 (Nat.le_of_ble_eq_true rfl) [(7, .int 0), (6, .int u21), (5, .int u19), (4, .int u13), (3, .ref o6), (0, .ref a0), (1, .int x1), (2, .int x2)] rfl ?_
      refine r_sub [5, 7, 3, 1, 0] [(0, .ref a0), (2, .int x2), (4, .int u13), (6, .int u21), (7, .int 0)] rfl ?_
      exact okX0_pullOf_L86 h hk
    rw [if_neg c26] at h
    by_cases c27 : (wI w o6 2) = 4
    · rw [if_pos c27] at h
      refine r_tabIn (tgt := 143) dX0_pullOf_43 (by rw [c27] <;> decide) (by rw [c27] <;> decide) (by rw [c27] <;> rfl) (by decide) ?_
      refine r_iconst (v := 2) dX0_pullOf_143 (by decide) ?_
      refine r_iload dX0_pullOf_144 1 rfl ?_
      refine r_imul dX0_pullOf_146 ?_
      rw [← Option.some.inj h] at hk
      exact r_ireturn dX0_pullOf_147 rfl rfl hk
    rw [if_neg c27] at h
    by_cases c28 : (wI w o6 2) = 5
    · rw [if_pos c28] at h
      refine r_tabIn (tgt := 138) dX0_pullOf_43 (by rw [c28] <;> decide) (by rw [c28] <;> decide) (by rw [c28] <;> rfl) (by decide) ?_
      refine r_iload dX0_pullOf_138 1 rfl ?_
      refine r_iconst (v := 2) dX0_pullOf_140 (by decide) ?_
      obtain ⟨h29, h⟩ := chk_some h
      refine r_idiv dX0_pullOf_141 h29 ?_
      rw [← Option.some.inj h] at hk
      exact r_ireturn dX0_pullOf_142 rfl rfl hk
    rw [if_neg c28] at h
    by_cases c30 : (wI w o6 2) = 6
    · rw [if_pos c30] at h
      refine r_tabIn (tgt := 148) dX0_pullOf_43 (by rw [c30] <;> decide) (by rw [c30] <;> decide) (by rw [c30] <;> rfl) (by decide) ?_
      refine r_iconst (v := 2) dX0_pullOf_148 (by decide) ?_
      refine r_iload dX0_pullOf_149 1 rfl ?_
      refine r_imul dX0_pullOf_151 ?_
      refine r_iload_n dX0_pullOf_152 6 rfl ?_
      refine r_aload_n dX0_pullOf_153 3 rfl ?_
      refine r_getI (fl_RX0_82 rfl) rfl dX0_pullOf_154 h8 ?_
      refine r_icmp_ne (tgt := 165) dX0_pullOf_157 (by decide) (fun c31 => ?_) (fun c31 => ?_)
      · rw [if_neg c31] at h
        refine r_iconst (v := 0) dX0_pullOf_165 (by decide) ?_
        refine r_sub [] [] rfl ?_
        exact okX0_pullOf_b166 h hk
      · rw [if_pos c31] at h
        refine r_bipush (v := 9) dX0_pullOf_160 (by decide) ?_
        refine r_goto (tgt := 166) dX0_pullOf_162 (by decide) ?_
        refine r_sub [] [] rfl ?_
        exact okX0_pullOf_b166 h hk
    rw [if_neg c30] at h
    refine r_tabOut (tgt := 168) dX0_pullOf_43 (by have := lv_neT (k := 1) (a := 1) c24 rfl; have := lv_neT (k := 2) (a := 2) c25 rfl; have := lv_neT (k := 3) (a := 3) c26 rfl; have := lv_neT (k := 4) (a := 4) c27 rfl; have := lv_neT (k := 5) (a := 5) c28 rfl; have := lv_neT (k := 6) (a := 6) c30 rfl; omega) (by decide) ?_
    refine r_sub [1] [(5, .int u19)] rfl ?_
    exact okX0_pullOf_b168 h hk
  · rw [if_pos c23] at h
    refine r_iconst (v := 0) dX0_pullOf_37 (by decide) ?_
    rw [← Option.some.inj h] at hk
    exact r_ireturn dX0_pullOf_38 rfl rfl hk
set_option maxHeartbeats 1000000 in
set_option maxRecDepth 20000 in
theorem ctX0_pullOf {E : Ev} {a0 : Nat} {x1 : Int32} {x2 : Int32} {w : Wd} {q : Int32 × Wd} (h : fX0_pullOf a0 x1 x2 w = some q) : CT E mX0_pullOf (6, 0, false) [.ref a0, .int x1, .int x2] w (QI q) := CT.of pl_RX0 (Nat.le_of_ble_eq_true rfl) (okX0_pullOf h ⟨rfl, rfl⟩)
def PX0_deedIn_L20 (E : Ev) (Q : Option Value → Wd → Prop) (a0 : Nat) (x2 : Int32) (x3 : Int32) (s : Int32 × Int32 × Int32 × Wd) : Prop := Runs E mX0_deedIn (7, 0, false) Q 0 20 [(0, .ref a0), (2, .int x2), (3, .int x3), (5, .int s.1), (6, .int s.2.1), (7, .int s.2.2.1)] [] s.2.2.2
def fX0_deedIn_b72 (a0 : Nat) (x2 : Int32) (x3 : Int32) (x5 : Int32) (x6 : Int32) (x7 : Int32) (w : Wd) : Option ((Int32 × Int32 × Int32 × Wd) ⊕ (Int32 × Wd)) :=
  some (.inl (x5, x6, (x7 + 1), w))
set_option maxHeartbeats 1000000 in
set_option maxRecDepth 20000 in
theorem okX0_deedIn_b72 {E : Ev} {Q : Option Value → Wd → Prop} {a0 : Nat} {x2 : Int32} {x3 : Int32} {x5 : Int32} {x6 : Int32} {x7 : Int32} {w : Wd} {q : (Int32 × Int32 × Int32 × Wd) ⊕ (Int32 × Wd)} (h : fX0_deedIn_b72 a0 x2 x3 x5 x6 x7 w = some q) (hk : (Sum.elim (PX0_deedIn_L20 E Q a0 x2 x3) (fun q : Int32 × Wd => Q (some (.int q.1)) q.2)) q) : Runs E mX0_deedIn (7, 0, false) Q 0 72 [(0, .ref a0), (2, .int x2), (3, .int x3), (5, .int x5), (6, .int x6), (7, .int x7)] [] w := by
  unfold fX0_deedIn_b72 at h
  refine r_iinc (v := (x7 + 1)) dX0_deedIn_72 5 rfl rfl (Nat.le_of_ble_eq_true rfl) [(7, .int (x7 + 1)), (0, .ref a0), (2, .int x2), (3, .int x3), (5, .int x5), (6, .int x6)] rfl ?_
  refine r_goto (tgt := 20) dX0_deedIn_75 (by decide) ?_
  rw [← Option.some.inj h] at hk
  refine r_sub [1, 2, 3, 4, 5, 0] [(0, .ref a0), (2, .int x2), (3, .int x3), (5, .int x5), (6, .int x6), (7, .int (x7 + 1))] rfl ?_
  exact hk
def fX0_deedIn_L20_body (a0 : Nat) (x2 : Int32) (x3 : Int32) (s : Int32 × Int32 × Int32 × Wd) : Option ((Int32 × Int32 × Int32 × Wd) ⊕ (Int32 × Wd)) :=
  chk (isO s.2.2.2 a0 0) (if (wI s.2.2.2 a0 4) ≤ s.2.2.1 then (wr (some (s.1, s.2.2.2))) else (if ((x3 >>> (s.2.2.1 &&& 31)) &&& 1) = 0 then (fX0_deedIn_b72 a0 x2 x3 s.1 s.2.1 s.2.2.1 s.2.2.2) else (ob (fX0_pullOf a0 s.2.2.1 x2 s.2.2.2) (fun q5 => if q5.1 ≤ s.2.1 then (fX0_deedIn_b72 a0 x2 x3 s.1 s.2.1 s.2.2.1 q5.2) else (chk (isO q5.2 a0 0) (ob (wR q5.2 a0 1) (fun o9 => chk (isA q5.2 o9 2) (chk (inb s.2.2.1 (wn q5.2 o9)) (ob (wR q5.2 o9 (s.2.2.1).toNatClampNeg) (fun o13 => chk (isO q5.2 o13 2) (ob (wR q5.2 o13 0) (fun o16 => chk (isA q5.2 o16 0) (chk (inb x2 (wn q5.2 o16)) (bnd (wI q5.2 o16 (x2).toNatClampNeg) (fun u20 => fX0_deedIn_b72 a0 x2 x3 u20 q5.1 s.2.2.1 q5.2)))))))))))))))
set_option maxHeartbeats 1000000 in
set_option maxRecDepth 20000 in
theorem okX0_deedIn_L20_body {E : Ev} {Q : Option Value → Wd → Prop} {a0 : Nat} {x2 : Int32} {x3 : Int32} {s : Int32 × Int32 × Int32 × Wd} {r : (Int32 × Int32 × Int32 × Wd) ⊕ (Int32 × Wd)} (h : fX0_deedIn_L20_body a0 x2 x3 s = some r) (hk : (Sum.elim (PX0_deedIn_L20 E Q a0 x2 x3) (fun q : Int32 × Wd => Q (some (.int q.1)) q.2)) r) : PX0_deedIn_L20 E Q a0 x2 x3 s := by
  unfold fX0_deedIn_L20_body at h
  unfold PX0_deedIn_L20
  refine r_iload dX0_deedIn_20 5 rfl ?_
  refine r_aload_n dX0_deedIn_22 0 rfl ?_
  obtain ⟨h1, h⟩ := chk_some h
  refine r_getI (fl_RX0_31 rfl) rfl dX0_deedIn_23 h1 ?_
  refine r_icmp_ge (tgt := 78) dX0_deedIn_26 (by decide) (fun c2 => ?_) (fun c2 => ?_)
  · rw [if_pos c2] at h
    obtain ⟨r3, hr, h⟩ := wr_some h
    rw [hr] at hk
    refine r_iload dX0_deedIn_78 3 rfl ?_
    rw [← Option.some.inj h] at hk
    exact r_ireturn dX0_deedIn_80 rfl rfl hk
  · rw [if_neg c2] at h
    refine r_iload_n dX0_deedIn_29 2 rfl ?_
    refine r_iload dX0_deedIn_30 5 rfl ?_
    refine r_ishr dX0_deedIn_32 ?_
    refine r_iconst (v := 1) dX0_deedIn_33 (by decide) ?_
    refine r_iand dX0_deedIn_34 ?_
    refine r_if_eq (tgt := 72) dX0_deedIn_35 (by decide) (fun c4 => ?_) (fun c4 => ?_)
    · rw [if_pos c4] at h
      refine r_sub [0, 1, 2, 3, 4, 5] [(0, .ref a0), (2, .int x2), (3, .int x3), (5, .int s.1), (6, .int s.2.1), (7, .int s.2.2.1)] rfl ?_
      exact okX0_deedIn_b72 h hk
    · rw [if_neg c4] at h
      refine r_aload_n dX0_deedIn_38 0 rfl ?_
      refine r_iload dX0_deedIn_39 5 rfl ?_
      refine r_iload_n dX0_deedIn_41 1 rfl ?_
      obtain ⟨q5, g6, h⟩ := ob_some h
      refine r_callV (d' := (6, 0, false)) (As := [.int s.2.2.1, .int x2]) (st := []) mdv_X0_pullOf tm_RX0_91 (by decide) rfl rfl (by decide) rfl (Nat.le_refl _) (Nat.le_of_ble_eq_true rfl) rfl dX0_deedIn_42 h1 (ctX0_pullOf g6) (k_I0 ?_)
      refine r_istore dX0_deedIn_45 (Nat.le_of_ble_eq_true rfl) [(8, .int q5.1), (0, .ref a0), (2, .int x2), (3, .int x3), (5, .int s.1), (6, .int s.2.1), (7, .int s.2.2.1)] rfl ?_
      refine r_iload dX0_deedIn_47 0 rfl ?_
      refine r_iload dX0_deedIn_49 5 rfl ?_
      refine r_icmp_le (tgt := 72) dX0_deedIn_51 (by decide) (fun c7 => ?_) (fun c7 => ?_)
      · rw [if_pos c7] at h
        refine r_sub [1, 2, 3, 4, 5, 6] [(0, .ref a0), (2, .int x2), (3, .int x3), (5, .int s.1), (6, .int s.2.1), (7, .int s.2.2.1)] rfl ?_
        exact okX0_deedIn_b72 h hk
      · rw [if_neg c7] at h
        refine r_iload dX0_deedIn_54 0 rfl ?_
        refine r_istore dX0_deedIn_56 (Nat.le_of_ble_eq_true rfl) [(6, .int q5.1), (8, .int q5.1), (0, .ref a0), (2, .int x2), (3, .int x3), (5, .int s.1), (7, .int s.2.2.1)] rfl ?_
        refine r_aload_n dX0_deedIn_58 2 rfl ?_
        obtain ⟨h8, h⟩ := chk_some h
        obtain ⟨o9, g10, h⟩ := ob_some h
        refine r_getR (fl_RX0_19 rfl) rfl dX0_deedIn_59 h8 g10 ?_
        refine r_iload dX0_deedIn_62 6 rfl ?_
        obtain ⟨h11, h⟩ := chk_some h
        obtain ⟨h12, h⟩ := chk_some h
        obtain ⟨o13, g14, h⟩ := ob_some h
        refine r_aaload 2 (by decide) (by decide) dX0_deedIn_64 h11 h12 g14 ?_
        obtain ⟨h15, h⟩ := chk_some h
        obtain ⟨o16, g17, h⟩ := ob_some h
        refine r_getR (fl_RX0_76 rfl) rfl dX0_deedIn_65 h15 g17 ?_
        refine r_iload_n dX0_deedIn_68 3 rfl ?_
        obtain ⟨h18, h⟩ := chk_some h
        obtain ⟨h19, h⟩ := chk_some h
        refine r_iaload dX0_deedIn_69 h18 h19 ?_
        obtain ⟨u20, e21, h⟩ := bnd_some h
        refine r_eqI e21 ?_
        refine r_istore dX0_deedIn_70 (Nat.le_of_ble_eq_true rfl) [(5, .int u20), (6, .int q5.1), (8, .int q5.1), (0, .ref a0), (2, .int x2), (3, .int x3), (7, .int s.2.2.1)] rfl ?_
        refine r_sub [3, 4, 5, 0, 1, 6] [(0, .ref a0), (2, .int x2), (3, .int x3), (5, .int u20), (6, .int q5.1), (7, .int s.2.2.1)] rfl ?_
        exact okX0_deedIn_b72 h hk
def fX0_deedIn_L20 (a0 : Nat) (x2 : Int32) (x3 : Int32) (s : Int32 × Int32 × Int32 × Wd) : Option (Int32 × Wd) := it (fX0_deedIn_L20_body a0 x2 x3) FU s
set_option maxHeartbeats 1000000 in
set_option maxRecDepth 20000 in
theorem okX0_deedIn_L20 {E : Ev} {Q : Option Value → Wd → Prop} {a0 : Nat} {x2 : Int32} {x3 : Int32} {s : Int32 × Int32 × Int32 × Wd} {r : Int32 × Wd} (h : fX0_deedIn_L20 a0 x2 x3 s = some r) (hk : (fun q : Int32 × Wd => Q (some (.int q.1)) q.2) r) : PX0_deedIn_L20 E Q a0 x2 x3 s := it_runs (fun s r h hk => okX0_deedIn_L20_body h hk) FU s r h hk
def fX0_deedIn (a0 : Nat) (x1 : Int32) (x2 : Int32) (x3 : Int32) (x4 : Int32) (w : Wd) : Option (Int32 × Wd) :=
  chk (isO w a0 0) (ob (wR w a0 0) (fun o2 => chk (isA w o2 3) (chk (inb x1 (wn w o2)) (ob (wR w o2 (x1).toNatClampNeg) (fun o6 => chk (isO w o6 4) (ob (wR w o6 0) (fun o9 => chk (isA w o9 0) (chk (inb x2 (wn w o9)) (bnd (wI w o9 (x2).toNatClampNeg) (fun u13 => fX0_deedIn_L20 a0 x2 x3 (u13, x4, 0, w)))))))))))
set_option maxHeartbeats 1000000 in
set_option maxRecDepth 20000 in
theorem okX0_deedIn {E : Ev} {Q : Option Value → Wd → Prop} {a0 : Nat} {x1 : Int32} {x2 : Int32} {x3 : Int32} {x4 : Int32} {w : Wd} {q : Int32 × Wd} (h : fX0_deedIn a0 x1 x2 x3 x4 w = some q) (hk : (fun q : Int32 × Wd => Q (some (.int q.1)) q.2) q) : Runs E mX0_deedIn (7, 0, false) Q 0 0 [(0, .ref a0), (1, .int x1), (2, .int x2), (3, .int x3), (4, .int x4)] [] w := by
  unfold fX0_deedIn at h
  refine r_aload_n dX0_deedIn_0 0 rfl ?_
  obtain ⟨h1, h⟩ := chk_some h
  obtain ⟨o2, g3, h⟩ := ob_some h
  refine r_getR (fl_RX0_11 rfl) rfl dX0_deedIn_1 h1 g3 ?_
  refine r_iload_n dX0_deedIn_4 1 rfl ?_
  obtain ⟨h4, h⟩ := chk_some h
  obtain ⟨h5, h⟩ := chk_some h
  obtain ⟨o6, g7, h⟩ := ob_some h
  refine r_aaload 3 (by decide) (by decide) dX0_deedIn_5 h4 h5 g7 ?_
  obtain ⟨h8, h⟩ := chk_some h
  obtain ⟨o9, g10, h⟩ := ob_some h
  refine r_getR (fl_RX0_88 rfl) rfl dX0_deedIn_6 h8 g10 ?_
  refine r_iload_n dX0_deedIn_9 2 rfl ?_
  obtain ⟨h11, h⟩ := chk_some h
  obtain ⟨h12, h⟩ := chk_some h
  refine r_iaload dX0_deedIn_10 h11 h12 ?_
  obtain ⟨u13, e14, h⟩ := bnd_some h
  refine r_eqI e14 ?_
  refine r_istore dX0_deedIn_11 (Nat.le_of_ble_eq_true rfl) [(5, .int u13), (0, .ref a0), (1, .int x1), (2, .int x2), (3, .int x3), (4, .int x4)] rfl ?_
  refine r_iload dX0_deedIn_13 5 rfl ?_
  refine r_istore dX0_deedIn_15 (Nat.le_of_ble_eq_true rfl) [(6, .int x4), (5, .int u13), (0, .ref a0), (1, .int x1), (2, .int x2), (3, .int x3), (4, .int x4)] rfl ?_
  refine r_iconst (v := 0) dX0_deedIn_17 (by decide) ?_
  refine r_istore dX0_deedIn_18 (Nat.le_of_ble_eq_true rfl) [(7, .int 0), (6, .int x4), (5, .int u13), (0, .ref a0), (1, .int x1), (2, .int x2), (3, .int x3), (4, .int x4)] rfl ?_
  refine r_sub [3, 5, 6, 2, 1, 0] [(0, .ref a0), (2, .int x2), (3, .int x3), (5, .int u13), (6, .int x4), (7, .int 0)] rfl ?_
  exact okX0_deedIn_L20 h hk
set_option maxHeartbeats 1000000 in
set_option maxRecDepth 20000 in
theorem ctX0_deedIn {E : Ev} {a0 : Nat} {x1 : Int32} {x2 : Int32} {x3 : Int32} {x4 : Int32} {w : Wd} {q : Int32 × Wd} (h : fX0_deedIn a0 x1 x2 x3 x4 w = some q) : CT E mX0_deedIn (7, 0, false) [.ref a0, .int x1, .int x2, .int x3, .int x4] w (QI q) := CT.of pl_RX0 (Nat.le_of_ble_eq_true rfl) (okX0_deedIn h ⟨rfl, rfl⟩)
def fX7_isWithin_b15 (s0 : Int32) (w : Wd) : Option (Int32 × Wd) :=
  chk (s0 = 0 ∨ s0 = 1) (some (s0, w))
set_option maxHeartbeats 1000000 in
set_option maxRecDepth 20000 in
theorem okX7_isWithin_b15 {E : Ev} {Q : Option Value → Wd → Prop} {s0 : Int32} {w : Wd} {q : Int32 × Wd} (h : fX7_isWithin_b15 s0 w = some q) (hk : (fun q : Int32 × Wd => Q (some (.int q.1)) q.2) q) : Runs E mX7_isWithin (6, 0, false) Q 0 15 [] [.int s0] w := by
  unfold fX7_isWithin_b15 at h
  obtain ⟨h1, h⟩ := chk_some h
  rw [← Option.some.inj h] at hk
  exact r_ireturn dX7_isWithin_15 rfl (nb h1) hk
def fX7_isWithin_b14 (w : Wd) : Option (Int32 × Wd) :=
  fX7_isWithin_b15 0 w
set_option maxHeartbeats 1000000 in
set_option maxRecDepth 20000 in
theorem okX7_isWithin_b14 {E : Ev} {Q : Option Value → Wd → Prop} {w : Wd} {q : Int32 × Wd} (h : fX7_isWithin_b14 w = some q) (hk : (fun q : Int32 × Wd => Q (some (.int q.1)) q.2) q) : Runs E mX7_isWithin (6, 0, false) Q 0 14 [] [] w := by
  unfold fX7_isWithin_b14 at h
  refine r_iconst (v := 0) dX7_isWithin_14 (by decide) ?_
  refine r_sub [] [] rfl ?_
  exact okX7_isWithin_b15 h hk
def fX7_isWithin (x0 : Int32) (x1 : Int32) (x2 : Int32) (w : Wd) : Option (Int32 × Wd) :=
  if x0 < x1 then (fX7_isWithin_b14 w) else (if x2 < x0 then (fX7_isWithin_b14 w) else (fX7_isWithin_b15 1 w))
set_option maxHeartbeats 1000000 in
set_option maxRecDepth 20000 in
theorem okX7_isWithin {E : Ev} {Q : Option Value → Wd → Prop} {x0 : Int32} {x1 : Int32} {x2 : Int32} {w : Wd} {q : Int32 × Wd} (h : fX7_isWithin x0 x1 x2 w = some q) (hk : (fun q : Int32 × Wd => Q (some (.int q.1)) q.2) q) : Runs E mX7_isWithin (6, 0, false) Q 0 0 [(0, .int x0), (1, .int x1), (2, .int x2)] [] w := by
  unfold fX7_isWithin at h
  refine r_iload_n dX7_isWithin_0 0 rfl ?_
  refine r_iload_n dX7_isWithin_1 1 rfl ?_
  refine r_icmp_lt (tgt := 14) dX7_isWithin_2 (by decide) (fun c1 => ?_) (fun c1 => ?_)
  · rw [if_pos c1] at h
    refine r_sub [] [] rfl ?_
    exact okX7_isWithin_b14 h hk
  · rw [if_neg c1] at h
    refine r_iload_n dX7_isWithin_5 0 rfl ?_
    refine r_iload_n dX7_isWithin_6 2 rfl ?_
    refine r_icmp_gt (tgt := 14) dX7_isWithin_7 (by decide) (fun c2 => ?_) (fun c2 => ?_)
    · rw [if_pos c2] at h
      refine r_sub [] [] rfl ?_
      exact okX7_isWithin_b14 h hk
    · rw [if_neg c2] at h
      refine r_iconst (v := 1) dX7_isWithin_10 (by decide) ?_
      refine r_goto (tgt := 15) dX7_isWithin_11 (by decide) ?_
      refine r_sub [] [] rfl ?_
      exact okX7_isWithin_b15 h hk
set_option maxHeartbeats 1000000 in
set_option maxRecDepth 20000 in
theorem ctX7_isWithin {E : Ev} {x0 : Int32} {x1 : Int32} {x2 : Int32} {w : Wd} {q : Int32 × Wd} (h : fX7_isWithin x0 x1 x2 w = some q) : CT E mX7_isWithin (6, 0, false) [.int x0, .int x1, .int x2] w (QI q) := CT.of pl_RX7 (Nat.le_of_ble_eq_true rfl) (okX7_isWithin h ⟨rfl, rfl⟩)
def fX0_hasPerson (a0 : Nat) (x1 : Int32) (w : Wd) : Option (Int32 × Wd) :=
  chk (isO w a0 0) (ob (fX7_isWithin x1 0 ((wI w a0 3) - 1) w) (fun q2 => chk (q2.1 = 0 ∨ q2.1 = 1) (some (q2.1, q2.2))))
set_option maxHeartbeats 1000000 in
set_option maxRecDepth 20000 in
theorem okX0_hasPerson {E : Ev} {Q : Option Value → Wd → Prop} {a0 : Nat} {x1 : Int32} {w : Wd} {q : Int32 × Wd} (h : fX0_hasPerson a0 x1 w = some q) (hk : (fun q : Int32 × Wd => Q (some (.int q.1)) q.2) q) : Runs E mX0_hasPerson (7, 0, false) Q 0 0 [(0, .ref a0), (1, .int x1)] [] w := by
  unfold fX0_hasPerson at h
  refine r_iload_n dX0_hasPerson_0 1 rfl ?_
  refine r_iconst (v := 0) dX0_hasPerson_1 (by decide) ?_
  refine r_aload_n dX0_hasPerson_2 0 rfl ?_
  obtain ⟨h1, h⟩ := chk_some h
  refine r_getI (fl_RX0_27 rfl) rfl dX0_hasPerson_3 h1 ?_
  refine r_iconst (v := 1) dX0_hasPerson_6 (by decide) ?_
  refine r_isub dX0_hasPerson_7 ?_
  obtain ⟨q2, g3, h⟩ := ob_some h
  refine r_callSN (d' := (6, 0, false)) (As := [.int x1, .int 0, .int ((wI w a0 3) - 1)]) (st := []) mds_X7_isWithin (by decide) rfl (by decide) rfl (Nat.le_refl _) (Nat.le_of_ble_eq_true rfl) rfl dX0_hasPerson_8 (ctX7_isWithin g3) (k_I0 ?_)
  obtain ⟨h4, h⟩ := chk_some h
  rw [← Option.some.inj h] at hk
  exact r_ireturn dX0_hasPerson_11 rfl (nb h4) hk
set_option maxHeartbeats 1000000 in
set_option maxRecDepth 20000 in
theorem ctX0_hasPerson {E : Ev} {a0 : Nat} {x1 : Int32} {w : Wd} {q : Int32 × Wd} (h : fX0_hasPerson a0 x1 w = some q) : CT E mX0_hasPerson (7, 0, false) [.ref a0, .int x1] w (QI q) := CT.of pl_RX0 (Nat.le_of_ble_eq_true rfl) (okX0_hasPerson h ⟨rfl, rfl⟩)
def fX2_accustom (a0 : Nat) (x1 : Int32) (x2 : Int32) (x3 : Int32) (w : Wd) : Option (Wd) :=
  chk (isO w a0 2) (ob (wR w a0 0) (fun o2 => chk (isA w o2 0) (chk (inb x1 (wn w o2)) (bnd (sI w o2 (x1).toNatClampNeg x2) (fun w6 => chk (isO w6 a0 2) (ob (wR w6 a0 1) (fun o9 => chk (isA w6 o9 0) (chk (inb x1 (wn w6 o9)) (bnd (sI w6 o9 (x1).toNatClampNeg x3) (fun w13 => some w13))))))))))
set_option maxHeartbeats 1000000 in
set_option maxRecDepth 20000 in
theorem okX2_accustom {E : Ev} {Q : Option Value → Wd → Prop} {a0 : Nat} {x1 : Int32} {x2 : Int32} {x3 : Int32} {w : Wd} {q : Wd} (h : fX2_accustom a0 x1 x2 x3 w = some q) (hk : (fun q : Wd => Q none q) q) : Runs E mX2_accustom (6, 0, false) Q 0 0 [(0, .ref a0), (1, .int x1), (2, .int x2), (3, .int x3)] [] w := by
  unfold fX2_accustom at h
  refine r_aload_n dX2_accustom_0 0 rfl ?_
  obtain ⟨h1, h⟩ := chk_some h
  obtain ⟨o2, g3, h⟩ := ob_some h
  refine r_getR (fl_RX2_9 rfl) rfl dX2_accustom_1 h1 g3 ?_
  refine r_iload_n dX2_accustom_4 1 rfl ?_
  refine r_iload_n dX2_accustom_5 2 rfl ?_
  obtain ⟨h4, h⟩ := chk_some h
  obtain ⟨h5, h⟩ := chk_some h
  obtain ⟨w6, e7, h⟩ := bnd_some h
  refine r_iastore dX2_accustom_6 h4 h5 ?_
  refine r_eqW e7 ?_
  refine r_aload_n dX2_accustom_7 0 rfl ?_
  obtain ⟨h8, h⟩ := chk_some h
  obtain ⟨o9, g10, h⟩ := ob_some h
  refine r_getR (fl_RX2_15 rfl) rfl dX2_accustom_8 h8 g10 ?_
  refine r_iload_n dX2_accustom_11 1 rfl ?_
  refine r_iload_n dX2_accustom_12 3 rfl ?_
  obtain ⟨h11, h⟩ := chk_some h
  obtain ⟨h12, h⟩ := chk_some h
  obtain ⟨w13, e14, h⟩ := bnd_some h
  refine r_iastore dX2_accustom_13 h11 h12 ?_
  refine r_eqW e14 ?_
  rw [← Option.some.inj h] at hk
  exact r_return dX2_accustom_14 rfl hk
set_option maxHeartbeats 1000000 in
set_option maxRecDepth 20000 in
theorem ctX2_accustom {E : Ev} {a0 : Nat} {x1 : Int32} {x2 : Int32} {x3 : Int32} {w : Wd} {q : Wd} (h : fX2_accustom a0 x1 x2 x3 w = some q) : CT E mX2_accustom (6, 0, false) [.ref a0, .int x1, .int x2, .int x3] w (QV q) := CT.of pl_RX2 (Nat.le_of_ble_eq_true rfl) (okX2_accustom h ⟨rfl, rfl⟩)
def fX2_learnsOnce_b22 (s0 : Int32) (w : Wd) : Option (Int32 × Wd) :=
  chk (s0 = 0 ∨ s0 = 1) (some (s0, w))
set_option maxHeartbeats 1000000 in
set_option maxRecDepth 20000 in
theorem okX2_learnsOnce_b22 {E : Ev} {Q : Option Value → Wd → Prop} {s0 : Int32} {w : Wd} {q : Int32 × Wd} (h : fX2_learnsOnce_b22 s0 w = some q) (hk : (fun q : Int32 × Wd => Q (some (.int q.1)) q.2) q) : Runs E mX2_learnsOnce (6, 0, false) Q 0 22 [] [.int s0] w := by
  unfold fX2_learnsOnce_b22 at h
  obtain ⟨h1, h⟩ := chk_some h
  rw [← Option.some.inj h] at hk
  exact r_ireturn dX2_learnsOnce_22 rfl (nb h1) hk
def fX2_learnsOnce_b17 (w : Wd) : Option (Int32 × Wd) :=
  fX2_learnsOnce_b22 1 w
set_option maxHeartbeats 1000000 in
set_option maxRecDepth 20000 in
theorem okX2_learnsOnce_b17 {E : Ev} {Q : Option Value → Wd → Prop} {w : Wd} {q : Int32 × Wd} (h : fX2_learnsOnce_b17 w = some q) (hk : (fun q : Int32 × Wd => Q (some (.int q.1)) q.2) q) : Runs E mX2_learnsOnce (6, 0, false) Q 0 17 [] [] w := by
  unfold fX2_learnsOnce_b17 at h
  refine r_iconst (v := 1) dX2_learnsOnce_17 (by decide) ?_
  refine r_goto (tgt := 22) dX2_learnsOnce_18 (by decide) ?_
  refine r_sub [] [] rfl ?_
  exact okX2_learnsOnce_b22 h hk
def fX2_learnsOnce (a0 : Nat) (w : Wd) : Option (Int32 × Wd) :=
  chk (isO w a0 2) (if (wI w a0 2) = 4 then (fX2_learnsOnce_b17 w) else (if (wI w a0 2) = 6 then (fX2_learnsOnce_b17 w) else (fX2_learnsOnce_b22 0 w)))
set_option maxHeartbeats 1000000 in
set_option maxRecDepth 20000 in
theorem okX2_learnsOnce {E : Ev} {Q : Option Value → Wd → Prop} {a0 : Nat} {w : Wd} {q : Int32 × Wd} (h : fX2_learnsOnce a0 w = some q) (hk : (fun q : Int32 × Wd => Q (some (.int q.1)) q.2) q) : Runs E mX2_learnsOnce (6, 0, false) Q 0 0 [(0, .ref a0)] [] w := by
  unfold fX2_learnsOnce at h
  refine r_aload_n dX2_learnsOnce_0 0 rfl ?_
  obtain ⟨h1, h⟩ := chk_some h
  refine r_getI (fl_RX2_18 rfl) rfl dX2_learnsOnce_1 h1 ?_
  refine r_iconst (v := 4) dX2_learnsOnce_4 (by decide) ?_
  refine r_icmp_eq (tgt := 17) dX2_learnsOnce_5 (by decide) (fun c2 => ?_) (fun c2 => ?_)
  · rw [if_pos c2] at h
    refine r_sub [] [] rfl ?_
    exact okX2_learnsOnce_b17 h hk
  · rw [if_neg c2] at h
    refine r_aload_n dX2_learnsOnce_8 0 rfl ?_
    refine r_getI (fl_RX2_18 rfl) rfl dX2_learnsOnce_9 h1 ?_
    refine r_bipush (v := 6) dX2_learnsOnce_12 (by decide) ?_
    refine r_icmp_ne (tgt := 21) dX2_learnsOnce_14 (by decide) (fun c3 => ?_) (fun c3 => ?_)
    · rw [if_neg c3] at h
      refine r_iconst (v := 0) dX2_learnsOnce_21 (by decide) ?_
      refine r_sub [] [] rfl ?_
      exact okX2_learnsOnce_b22 h hk
    · rw [if_pos c3] at h
      refine r_sub [] [] rfl ?_
      exact okX2_learnsOnce_b17 h hk
set_option maxHeartbeats 1000000 in
set_option maxRecDepth 20000 in
theorem ctX2_learnsOnce {E : Ev} {a0 : Nat} {w : Wd} {q : Int32 × Wd} (h : fX2_learnsOnce a0 w = some q) : CT E mX2_learnsOnce (6, 0, false) [.ref a0] w (QI q) := CT.of pl_RX2 (Nat.le_of_ble_eq_true rfl) (okX2_learnsOnce h ⟨rfl, rfl⟩)
def fX2_step (a0 : Nat) (w : Wd) : Option (Int32 × Wd) :=
  chk (isO w a0 2) (chk (inb (wI w a0 2) (saV 1).length) (some (((saV 1).getD ((wI w a0 2)).toNatClampNeg 0), w)))
set_option maxHeartbeats 1000000 in
set_option maxRecDepth 20000 in
theorem okX2_step {E : Ev} {Q : Option Value → Wd → Prop} {a0 : Nat} {w : Wd} {q : Int32 × Wd} (h : fX2_step a0 w = some q) (hk : (fun q : Int32 × Wd => Q (some (.int q.1)) q.2) q) : Runs E mX2_step (6, 0, false) Q 0 0 [(0, .ref a0)] [] w := by
  unfold fX2_step at h
  refine r_getsN 1 (by decide) rfl (by decide) dX2_step_0 ?_
  refine r_aload_n dX2_step_3 0 rfl ?_
  obtain ⟨h1, h⟩ := chk_some h
  refine r_getI (fl_RX2_18 rfl) rfl dX2_step_4 h1 ?_
  obtain ⟨h2, h⟩ := chk_some h
  refine r_siaload 1 (by decide) dX2_step_7 h2 ?_
  rw [← Option.some.inj h] at hk
  exact r_ireturn dX2_step_8 rfl rfl hk
set_option maxHeartbeats 1000000 in
set_option maxRecDepth 20000 in
theorem ctX2_step {E : Ev} {a0 : Nat} {w : Wd} {q : Int32 × Wd} (h : fX2_step a0 w = some q) : CT E mX2_step (6, 0, false) [.ref a0] w (QI q) := CT.of pl_RX2 (Nat.le_of_ble_eq_true rfl) (okX2_step h ⟨rfl, rfl⟩)
def fX2_learn_b20 (w : Wd) : Option (Int32 × Wd) :=
  some (0, w)
set_option maxHeartbeats 1000000 in
set_option maxRecDepth 20000 in
theorem okX2_learn_b20 {E : Ev} {Q : Option Value → Wd → Prop} {w : Wd} {q : Int32 × Wd} (h : fX2_learn_b20 w = some q) (hk : (fun q : Int32 × Wd => Q (some (.int q.1)) q.2) q) : Runs E mX2_learn (7, 0, false) Q 0 20 [] [] w := by
  unfold fX2_learn_b20 at h
  refine r_iconst (v := 0) dX2_learn_20 (by decide) ?_
  rw [← Option.some.inj h] at hk
  exact r_ireturn dX2_learn_21 rfl rfl hk
def fX2_learn_b114 (w : Wd) : Option (Int32 × Wd) :=
  some (1, w)
set_option maxHeartbeats 1000000 in
set_option maxRecDepth 20000 in
theorem okX2_learn_b114 {E : Ev} {Q : Option Value → Wd → Prop} {w : Wd} {q : Int32 × Wd} (h : fX2_learn_b114 w = some q) (hk : (fun q : Int32 × Wd => Q (some (.int q.1)) q.2) q) : Runs E mX2_learn (7, 0, false) Q 0 114 [] [] w := by
  unfold fX2_learn_b114 at h
  refine r_iconst (v := 1) dX2_learn_114 (by decide) ?_
  rw [← Option.some.inj h] at hk
  exact r_ireturn dX2_learn_115 rfl rfl hk
def fX2_learn_b111 (s0 : Int32) (s1 : Int32) (s2 : Int32) (s3 : Nat) (w : Wd) : Option (Int32 × Wd) :=
  chk (isO w s3 2) (ob (fX2_accustom s3 s2 s1 s0 w) (fun q2 => fX2_learn_b114 q2))
set_option maxHeartbeats 1000000 in
set_option maxRecDepth 20000 in
theorem okX2_learn_b111 {E : Ev} {Q : Option Value → Wd → Prop} {s0 : Int32} {s1 : Int32} {s2 : Int32} {s3 : Nat} {w : Wd} {q : Int32 × Wd} (h : fX2_learn_b111 s0 s1 s2 s3 w = some q) (hk : (fun q : Int32 × Wd => Q (some (.int q.1)) q.2) q) : Runs E mX2_learn (7, 0, false) Q 0 111 [] [.int s0, .int s1, .int s2, .ref s3] w := by
  unfold fX2_learn_b111 at h
  obtain ⟨h1, h⟩ := chk_some h
  obtain ⟨q2, g3, h⟩ := ob_some h
  refine r_callV (d' := (6, 0, false)) (As := [.int s2, .int s1, .int s0]) (st := []) mdv_X2_accustom tm_RX2_60 (by decide) rfl rfl (by decide) rfl (Nat.le_refl _) (Nat.le_of_ble_eq_true rfl) rfl dX2_learn_111 h1 (ctX2_accustom g3) (k_V0 ?_)
  refine r_sub [] [] rfl ?_
  exact okX2_learn_b114 h hk
def fX2_learn_b71 (s0 : Int32) (w : Wd) : Option (Int32 × Wd) :=
  chk (s0 = 0 ∨ s0 = 1) (some (s0, w))
set_option maxHeartbeats 1000000 in
set_option maxRecDepth 20000 in
theorem okX2_learn_b71 {E : Ev} {Q : Option Value → Wd → Prop} {s0 : Int32} {w : Wd} {q : Int32 × Wd} (h : fX2_learn_b71 s0 w = some q) (hk : (fun q : Int32 × Wd => Q (some (.int q.1)) q.2) q) : Runs E mX2_learn (7, 0, false) Q 0 71 [] [.int s0] w := by
  unfold fX2_learn_b71 at h
  obtain ⟨h1, h⟩ := chk_some h
  rw [← Option.some.inj h] at hk
  exact r_ireturn dX2_learn_71 rfl (nb h1) hk
def fX2_learn_b22 (a0 : Nat) (x1 : Int32) (x2 : Int32) (w : Wd) : Option (Int32 × Wd) :=
  chk (isO w a0 2) (ob (wR w a0 1) (fun o2 => chk (isA w o2 0) (chk (inb x1 (wn w o2)) (bnd (wI w o2 (x1).toNatClampNeg) (fun u6 => ob (wR w a0 0) (fun o8 => chk (isA w o8 0) (chk (inb x1 (wn w o8)) (if (wI w o8 (x1).toNatClampNeg) = x2 then (ob (fX2_step a0 w) (fun q29 => chk (isA q29.2 o2 0) (chk (inb x1 (wn q29.2 o2)) (bnd (sI q29.2 o2 (x1).toNatClampNeg (if (u6 + q29.1) < 9 then (u6 + q29.1) else 9)) (fun w33 => chk (isO w33 a0 2) (ob (wR w33 a0 1) (fun o36 => chk (isA w33 o36 0) (chk (inb x1 (wn w33 o36)) (if (wI w33 o36 (x1).toNatClampNeg) = u6 then (fX2_learn_b71 0 w33) else (fX2_learn_b71 1 w33)))))))))) else (ob (fX2_step a0 w) (fun q13 => if u6 ≤ q13.1 then (chk (isO q13.2 a0 2) (ob (fX2_learnsOnce a0 q13.2) (fun q17 => if q17.1 = 0 then (fX2_learn_b111 1 x2 x1 a0 q17.2) else (fX2_learn_b111 9 x2 x1 a0 q17.2)))) else (chk (isO q13.2 a0 2) (ob (wR q13.2 a0 1) (fun o21 => ob (fX2_step a0 q13.2) (fun q23 => chk (isA q23.2 o21 0) (chk (inb x1 (wn q23.2 o21)) (bnd (sI q23.2 o21 (x1).toNatClampNeg (u6 - q23.1)) (fun w27 => fX2_learn_b114 w27)))))))))))))))))
set_option maxHeartbeats 1000000 in
set_option maxRecDepth 20000 in
theorem okX2_learn_b22 {E : Ev} {Q : Option Value → Wd → Prop} {a0 : Nat} {x1 : Int32} {x2 : Int32} {w : Wd} {q : Int32 × Wd} (h : fX2_learn_b22 a0 x1 x2 w = some q) (hk : (fun q : Int32 × Wd => Q (some (.int q.1)) q.2) q) : Runs E mX2_learn (7, 0, false) Q 0 22 [(0, .ref a0), (1, .int x1), (2, .int x2)] [] w := by
  unfold fX2_learn_b22 at h
  refine r_aload_n dX2_learn_22 0 rfl ?_
  obtain ⟨h1, h⟩ := chk_some h
  obtain ⟨o2, g3, h⟩ := ob_some h
  refine r_getR (fl_RX2_15 rfl) rfl dX2_learn_23 h1 g3 ?_
  refine r_iload_n dX2_learn_26 1 rfl ?_
  obtain ⟨h4, h⟩ := chk_some h
  obtain ⟨h5, h⟩ := chk_some h
  refine r_iaload dX2_learn_27 h4 h5 ?_
  obtain ⟨u6, e7, h⟩ := bnd_some h
  refine r_eqI e7 ?_
  refine r_istore_n dX2_learn_28 rfl (Nat.le_of_ble_eq_true rfl) [(3, .int u6), (0, .ref a0), (1, .int x1), (2, .int x2)] rfl ?_
  refine r_aload_n dX2_learn_29 1 rfl ?_
  obtain ⟨o8, g9, h⟩ := ob_some h
  refine r_getR (fl_RX2_9 rfl) rfl dX2_learn_30 h1 g9 ?_
  refine r_iload_n dX2_learn_33 2 rfl ?_
  obtain ⟨h10, h⟩ := chk_some h
  obtain ⟨h11, h⟩ := chk_some h
  refine r_iaload dX2_learn_34 h10 h11 ?_
  refine r_iload_n dX2_learn_35 3 rfl ?_
  refine r_icmp_ne (tgt := 72) dX2_learn_36 (by decide) (fun c12 => ?_) (fun c12 => ?_)
  · rw [if_neg c12] at h
    refine r_iload_n dX2_learn_72 0 rfl ?_
    refine r_aload_n dX2_learn_73 1 rfl ?_
    obtain ⟨q13, g14, h⟩ := ob_some h
    refine r_callV (d' := (6, 0, false)) (As := []) (st := [.int u6]) mdv_X2_step tm_RX2_50 (by decide) rfl rfl (by decide) rfl (Nat.le_refl _) (Nat.le_of_ble_eq_true rfl) rfl dX2_learn_74 h1 (ctX2_step g14) (k_I0 ?_)
    refine r_icmp_le (tgt := 95) dX2_learn_77 (by decide) (fun c15 => ?_) (fun c15 => ?_)
    · rw [if_pos c15] at h
      refine r_aload_n dX2_learn_95 1 rfl ?_
      refine r_iload_n dX2_learn_96 2 rfl ?_
      refine r_iload_n dX2_learn_97 3 rfl ?_
      refine r_aload_n dX2_learn_98 1 rfl ?_
      obtain ⟨h16, h⟩ := chk_some h
      obtain ⟨q17, g18, h⟩ := ob_some h
      refine r_callV (d' := (6, 0, false)) (As := []) (st := [.int x2, .int x1, .ref a0]) mdv_X2_learnsOnce tm_RX2_46 (by decide) rfl rfl (by decide) rfl (Nat.le_refl _) (Nat.le_of_ble_eq_true rfl) rfl dX2_learn_99 h16 (ctX2_learnsOnce g18) (k_I0 ?_)
      refine r_if_eq (tgt := 110) dX2_learn_102 (by decide) (fun c19 => ?_) (fun c19 => ?_)
      · rw [if_pos c19] at h
        refine r_iconst (v := 1) dX2_learn_110 (by decide) ?_
        refine r_sub [] [] rfl ?_
        exact okX2_learn_b111 h hk
      · rw [if_neg c19] at h
        refine r_bipush (v := 9) dX2_learn_105 (by decide) ?_
        refine r_goto (tgt := 111) dX2_learn_107 (by decide) ?_
        refine r_sub [] [] rfl ?_
        exact okX2_learn_b111 h hk
    · rw [if_neg c15] at h
      refine r_aload_n dX2_learn_80 1 rfl ?_
      obtain ⟨h20, h⟩ := chk_some h
      obtain ⟨o21, g22, h⟩ := ob_some h
      refine r_getR (fl_RX2_15 rfl) rfl dX2_learn_81 h20 g22 ?_
      refine r_iload_n dX2_learn_84 2 rfl ?_
      refine r_iload_n dX2_learn_85 0 rfl ?_
      refine r_aload_n dX2_learn_86 1 rfl ?_
      obtain ⟨q23, g24, h⟩ := ob_some h
      refine r_callV (d' := (6, 0, false)) (As := []) (st := [.int u6, .int x1, .ref o21]) mdv_X2_step tm_RX2_50 (by decide) rfl rfl (by decide) rfl (Nat.le_refl _) (Nat.le_of_ble_eq_true rfl) rfl dX2_learn_87 h20 (ctX2_step g24) (k_I0 ?_)
      refine r_isub dX2_learn_90 ?_
      obtain ⟨h25, h⟩ := chk_some h
      obtain ⟨h26, h⟩ := chk_some h
      obtain ⟨w27, e28, h⟩ := bnd_some h
      refine r_iastore dX2_learn_91 h25 h26 ?_
      refine r_eqW e28 ?_
      refine r_goto (tgt := 114) dX2_learn_92 (by decide) ?_
      refine r_sub [] [] rfl ?_
      exact okX2_learn_b114 h hk
  · rw [if_pos c12] at h
    refine r_aload_n dX2_learn_39 1 rfl ?_
    refine r_getR (fl_RX2_15 rfl) rfl dX2_learn_40 h1 g3 ?_
    refine r_iload_n dX2_learn_43 2 rfl ?_
    refine r_bipush (v := 9) dX2_learn_44 (by decide) ?_
    refine r_iload_n dX2_learn_46 0 rfl ?_
    refine r_aload_n dX2_learn_47 1 rfl ?_
    obtain ⟨q29, g30, h⟩ := ob_some h
    refine r_callV (d' := (6, 0, false)) (As := []) (st := [.int u6, .int 9, .int x1, .ref o2]) mdv_X2_step tm_RX2_50 (by decide) rfl rfl (by decide) rfl (Nat.le_refl _) (Nat.le_of_ble_eq_true rfl) rfl dX2_learn_48 h1 (ctX2_step g30) (k_I0 ?_)
    refine r_iadd dX2_learn_51 ?_
    refine r_mmin (Nat.le_of_ble_eq_true rfl) (Nat.le_of_ble_eq_true rfl) tmm_RX2_54 tst_mmin ti_RJ9 tcode_mmin (by decide) dX2_learn_52 ?_
    obtain ⟨h31, h⟩ := chk_some h
    obtain ⟨h32, h⟩ := chk_some h
    obtain ⟨w33, e34, h⟩ := bnd_some h
    refine r_iastore dX2_learn_55 h31 h32 ?_
    refine r_eqW e34 ?_
    refine r_aload_n dX2_learn_56 1 rfl ?_
    obtain ⟨h35, h⟩ := chk_some h
    obtain ⟨o36, g37, h⟩ := ob_some h
    refine r_getR (fl_RX2_15 rfl) rfl dX2_learn_57 h35 g37 ?_
    refine r_iload_n dX2_learn_60 2 rfl ?_
    obtain ⟨h38, h⟩ := chk_some h
    obtain ⟨h39, h⟩ := chk_some h
    refine r_iaload dX2_learn_61 h38 h39 ?_
    refine r_iload_n dX2_learn_62 0 rfl ?_
    refine r_icmp_eq (tgt := 70) dX2_learn_63 (by decide) (fun c40 => ?_) (fun c40 => ?_)
    · rw [if_pos c40] at h
      refine r_iconst (v := 0) dX2_learn_70 (by decide) ?_
      refine r_sub [] [] rfl ?_
      exact okX2_learn_b71 h hk
    · rw [if_neg c40] at h
      refine r_iconst (v := 1) dX2_learn_66 (by decide) ?_
      refine r_goto (tgt := 71) dX2_learn_67 (by decide) ?_
      refine r_sub [] [] rfl ?_
      exact okX2_learn_b71 h hk
def fX2_learn (a0 : Nat) (x1 : Int32) (x2 : Int32) (w : Wd) : Option (Int32 × Wd) :=
  if x2 = 0 then (fX2_learn_b20 w) else (chk (isO w a0 2) (ob (fX2_learnsOnce a0 w) (fun q3 => if q3.1 = 0 then (fX2_learn_b22 a0 x1 x2 q3.2) else (chk (isO q3.2 a0 2) (ob (wR q3.2 a0 0) (fun o7 => chk (isA q3.2 o7 0) (chk (inb x1 (wn q3.2 o7)) (if (wI q3.2 o7 (x1).toNatClampNeg) = 0 then (fX2_learn_b22 a0 x1 x2 q3.2) else (fX2_learn_b20 q3.2)))))))))
set_option maxHeartbeats 1000000 in
set_option maxRecDepth 20000 in
theorem okX2_learn {E : Ev} {Q : Option Value → Wd → Prop} {a0 : Nat} {x1 : Int32} {x2 : Int32} {w : Wd} {q : Int32 × Wd} (h : fX2_learn a0 x1 x2 w = some q) (hk : (fun q : Int32 × Wd => Q (some (.int q.1)) q.2) q) : Runs E mX2_learn (7, 0, false) Q 0 0 [(0, .ref a0), (1, .int x1), (2, .int x2)] [] w := by
  unfold fX2_learn at h
  refine r_iload_n dX2_learn_0 2 rfl ?_
  refine r_if_eq (tgt := 20) dX2_learn_1 (by decide) (fun c1 => ?_) (fun c1 => ?_)
  · rw [if_pos c1] at h
    refine r_sub [] [] rfl ?_
    exact okX2_learn_b20 h hk
  · rw [if_neg c1] at h
    refine r_aload_n dX2_learn_4 0 rfl ?_
    obtain ⟨h2, h⟩ := chk_some h
    obtain ⟨q3, g4, h⟩ := ob_some h
    refine r_callV (d' := (6, 0, false)) (As := []) (st := []) mdv_X2_learnsOnce tm_RX2_46 (by decide) rfl rfl (by decide) rfl (Nat.le_refl _) (Nat.le_of_ble_eq_true rfl) rfl dX2_learn_5 h2 (ctX2_learnsOnce g4) (k_I0 ?_)
    refine r_if_eq (tgt := 22) dX2_learn_8 (by decide) (fun c5 => ?_) (fun c5 => ?_)
    · rw [if_pos c5] at h
      refine r_sub [0, 1, 2] [(0, .ref a0), (1, .int x1), (2, .int x2)] rfl ?_
      exact okX2_learn_b22 h hk
    · rw [if_neg c5] at h
      refine r_aload_n dX2_learn_11 0 rfl ?_
      obtain ⟨h6, h⟩ := chk_some h
      obtain ⟨o7, g8, h⟩ := ob_some h
      refine r_getR (fl_RX2_9 rfl) rfl dX2_learn_12 h6 g8 ?_
      refine r_iload_n dX2_learn_15 1 rfl ?_
      obtain ⟨h9, h⟩ := chk_some h
      obtain ⟨h10, h⟩ := chk_some h
      refine r_iaload dX2_learn_16 h9 h10 ?_
      refine r_if_eq (tgt := 22) dX2_learn_17 (by decide) (fun c11 => ?_) (fun c11 => ?_)
      · rw [if_pos c11] at h
        refine r_sub [0, 1, 2] [(0, .ref a0), (1, .int x1), (2, .int x2)] rfl ?_
        exact okX2_learn_b22 h hk
      · rw [if_neg c11] at h
        refine r_sub [] [] rfl ?_
        exact okX2_learn_b20 h hk
set_option maxHeartbeats 1000000 in
set_option maxRecDepth 20000 in
theorem ctX2_learn {E : Ev} {a0 : Nat} {x1 : Int32} {x2 : Int32} {w : Wd} {q : Int32 × Wd} (h : fX2_learn a0 x1 x2 w = some q) : CT E mX2_learn (7, 0, false) [.ref a0, .int x1, .int x2] w (QI q) := CT.of pl_RX2 (Nat.le_of_ble_eq_true rfl) (okX2_learn h ⟨rfl, rfl⟩)
def PX0_passHour_L2 (E : Ev) (Q : Option Value → Wd → Prop) (a0 : Nat) (x1 : Int32) (s : Int32 × Wd) : Prop := Runs E mX0_passHour (8, 0, false) Q 0 2 [(0, .ref a0), (1, .int x1), (2, .int s.1)] [] s.2
def PX0_passHour_L46 (E : Ev) (Q : Option Value → Wd → Prop) (a0 : Nat) (x1 : Int32) (s : Int32 × Int32 × Wd) : Prop := Runs E mX0_passHour (8, 0, false) Q 0 46 [(0, .ref a0), (1, .int x1), (2, .int s.1), (3, .int s.2.1)] [] s.2.2
def fX0_passHour_b96 (a0 : Nat) (x1 : Int32) (x2 : Int32) (x3 : Int32) (w : Wd) : Option ((Int32 × Int32 × Wd) ⊕ (Int32 × Wd)) :=
  some (.inl (x2, (x3 + 1), w))
set_option maxHeartbeats 1000000 in
set_option maxRecDepth 20000 in
theorem okX0_passHour_b96 {E : Ev} {Q : Option Value → Wd → Prop} {a0 : Nat} {x1 : Int32} {x2 : Int32} {x3 : Int32} {w : Wd} {q : (Int32 × Int32 × Wd) ⊕ (Int32 × Wd)} (h : fX0_passHour_b96 a0 x1 x2 x3 w = some q) (hk : (Sum.elim (PX0_passHour_L46 E Q a0 x1) (fun q : Int32 × Wd => Q (some (.int q.1)) q.2)) q) : Runs E mX0_passHour (8, 0, false) Q 0 96 [(0, .ref a0), (1, .int x1), (2, .int x2), (3, .int x3)] [] w := by
  unfold fX0_passHour_b96 at h
  refine r_iinc (v := (x3 + 1)) dX0_passHour_96 3 rfl rfl (Nat.le_of_ble_eq_true rfl) [(3, .int (x3 + 1)), (0, .ref a0), (1, .int x1), (2, .int x2)] rfl ?_
  refine r_goto (tgt := 46) dX0_passHour_99 (by decide) ?_
  rw [← Option.some.inj h] at hk
  refine r_sub [1, 2, 3, 0] [(0, .ref a0), (1, .int x1), (2, .int x2), (3, .int (x3 + 1))] rfl ?_
  exact hk
def fX0_passHour_L46_body (a0 : Nat) (x1 : Int32) (s : Int32 × Int32 × Wd) : Option ((Int32 × Int32 × Wd) ⊕ (Int32 × Wd)) :=
  chk (isO s.2.2 a0 0) (if (wI s.2.2 a0 4) ≤ s.2.1 then (wr (chk (s.1 = 0 ∨ s.1 = 1) (some (s.1, s.2.2)))) else (ob (wR s.2.2 a0 1) (fun o5 => chk (isA s.2.2 o5 2) (chk (inb s.2.1 (wn s.2.2 o5)) (ob (wR s.2.2 o5 (s.2.1).toNatClampNeg) (fun o9 => chk (isO s.2.2 o9 2) (bnd (wI s.2.2 o9 4) (fun u12 => ob (fX0_hasPerson a0 u12 s.2.2) (fun q14 => if q14.1 = 0 then (fX0_passHour_b96 a0 x1 s.1 s.2.1 q14.2) else (chk (isO q14.2 a0 0) (ob (wR q14.2 a0 1) (fun o18 => chk (isA q14.2 o18 2) (chk (inb s.2.1 (wn q14.2 o18)) (ob (wR q14.2 o18 (s.2.1).toNatClampNeg) (fun o22 => ob (wR q14.2 a0 2) (fun o24 => chk (isA q14.2 o24 0) (chk (inb u12 (wn q14.2 o24)) (chk (isO q14.2 o22 2) (ob (fX2_learn o22 x1 (wI q14.2 o24 (u12).toNatClampNeg) q14.2) (fun q29 => if q29.1 = 0 then (fX0_passHour_b96 a0 x1 s.1 s.2.1 q29.2) else (fX0_passHour_b96 a0 x1 1 s.2.1 q29.2)))))))))))))))))))))
set_option maxHeartbeats 1000000 in
set_option maxRecDepth 20000 in
theorem okX0_passHour_L46_body {E : Ev} {Q : Option Value → Wd → Prop} {a0 : Nat} {x1 : Int32} {s : Int32 × Int32 × Wd} {r : (Int32 × Int32 × Wd) ⊕ (Int32 × Wd)} (h : fX0_passHour_L46_body a0 x1 s = some r) (hk : (Sum.elim (PX0_passHour_L46 E Q a0 x1) (fun q : Int32 × Wd => Q (some (.int q.1)) q.2)) r) : PX0_passHour_L46 E Q a0 x1 s := by
  unfold fX0_passHour_L46_body at h
  unfold PX0_passHour_L46
  refine r_iload_n dX0_passHour_46 3 rfl ?_
  refine r_aload_n dX0_passHour_47 0 rfl ?_
  obtain ⟨h1, h⟩ := chk_some h
  refine r_getI (fl_RX0_31 rfl) rfl dX0_passHour_48 h1 ?_
  refine r_icmp_ge (tgt := 102) dX0_passHour_51 (by decide) (fun c2 => ?_) (fun c2 => ?_)
  · rw [if_pos c2] at h
    obtain ⟨r3, hr, h⟩ := wr_some h
    rw [hr] at hk
    refine r_iload_n dX0_passHour_102 2 rfl ?_
    obtain ⟨h4, h⟩ := chk_some h
    rw [← Option.some.inj h] at hk
    exact r_ireturn dX0_passHour_103 rfl (nb h4) hk
  · rw [if_neg c2] at h
    refine r_aload_n dX0_passHour_54 0 rfl ?_
    obtain ⟨o5, g6, h⟩ := ob_some h
    refine r_getR (fl_RX0_19 rfl) rfl dX0_passHour_55 h1 g6 ?_
    refine r_iload_n dX0_passHour_58 3 rfl ?_
    obtain ⟨h7, h⟩ := chk_some h
    obtain ⟨h8, h⟩ := chk_some h
    obtain ⟨o9, g10, h⟩ := ob_some h
    refine r_aaload 2 (by decide) (by decide) dX0_passHour_59 h7 h8 g10 ?_
    obtain ⟨h11, h⟩ := chk_some h
    refine r_getI (fl_RX0_60 rfl) rfl dX0_passHour_60 h11 ?_
    obtain ⟨u12, e13, h⟩ := bnd_some h
    refine r_eqI e13 ?_
    refine r_istore dX0_passHour_63 (Nat.le_of_ble_eq_true rfl) [(4, .int u12), (0, .ref a0), (1, .int x1), (2, .int s.1), (3, .int s.2.1)] rfl ?_
    refine r_aload_n dX0_passHour_65 1 rfl ?_
    refine r_iload dX0_passHour_66 0 rfl ?_
    obtain ⟨q14, g15, h⟩ := ob_some h
    refine r_callV (d' := (7, 0, false)) (As := [.int u12]) (st := []) mdv_X0_hasPerson tm_RX0_110 (by decide) rfl rfl (by decide) rfl (Nat.le_refl _) (Nat.le_of_ble_eq_true rfl) rfl dX0_passHour_68 h1 (ctX0_hasPerson g15) (k_I0 ?_)
    refine r_if_eq (tgt := 96) dX0_passHour_71 (by decide) (fun c16 => ?_) (fun c16 => ?_)
    · rw [if_pos c16] at h
      refine r_sub [1, 2, 3, 4] [(0, .ref a0), (1, .int x1), (2, .int s.1), (3, .int s.2.1)] rfl ?_
      exact okX0_passHour_b96 h hk
    · rw [if_neg c16] at h
      refine r_aload_n dX0_passHour_74 1 rfl ?_
      obtain ⟨h17, h⟩ := chk_some h
      obtain ⟨o18, g19, h⟩ := ob_some h
      refine r_getR (fl_RX0_19 rfl) rfl dX0_passHour_75 h17 g19 ?_
      refine r_iload_n dX0_passHour_78 4 rfl ?_
      obtain ⟨h20, h⟩ := chk_some h
      obtain ⟨h21, h⟩ := chk_some h
      obtain ⟨o22, g23, h⟩ := ob_some h
      refine r_aaload 2 (by decide) (by decide) dX0_passHour_79 h20 h21 g23 ?_
      refine r_iload_n dX0_passHour_80 2 rfl ?_
      refine r_aload_n dX0_passHour_81 1 rfl ?_
      obtain ⟨o24, g25, h⟩ := ob_some h
      refine r_getR (fl_RX0_23 rfl) rfl dX0_passHour_82 h17 g25 ?_
      refine r_iload dX0_passHour_85 0 rfl ?_
      obtain ⟨h26, h⟩ := chk_some h
      obtain ⟨h27, h⟩ := chk_some h
      refine r_iaload dX0_passHour_87 h26 h27 ?_
      obtain ⟨h28, h⟩ := chk_some h
      obtain ⟨q29, g30, h⟩ := ob_some h
      refine r_callV (d' := (7, 0, false)) (As := [.int x1, .int (wI q14.2 o24 (u12).toNatClampNeg)]) (st := []) mdv_X2_learn tm_RX0_114 (by decide) rfl rfl (by decide) rfl (Nat.le_refl _) (Nat.le_of_ble_eq_true rfl) rfl dX0_passHour_88 h28 (ctX2_learn g30) (k_I0 ?_)
      refine r_if_eq (tgt := 96) dX0_passHour_91 (by decide) (fun c31 => ?_) (fun c31 => ?_)
      · rw [if_pos c31] at h
        refine r_sub [1, 2, 3, 4] [(0, .ref a0), (1, .int x1), (2, .int s.1), (3, .int s.2.1)] rfl ?_
        exact okX0_passHour_b96 h hk
      · rw [if_neg c31] at h
        refine r_iconst (v := 1) dX0_passHour_94 (by decide) ?_
        refine r_istore_n dX0_passHour_95 rfl (Nat.le_of_ble_eq_true rfl) [(2, .int 1), (4, .int u12), (0, .ref a0), (1, .int x1), (3, .int s.2.1)] rfl ?_
        refine r_sub [2, 3, 0, 4] [(0, .ref a0), (1, .int x1), (2, .int 1), (3, .int s.2.1)] rfl ?_
        exact okX0_passHour_b96 h hk
def fX0_passHour_L46 (a0 : Nat) (x1 : Int32) (s : Int32 × Int32 × Wd) : Option (Int32 × Wd) := it (fX0_passHour_L46_body a0 x1) FU s
set_option maxHeartbeats 1000000 in
set_option maxRecDepth 20000 in
theorem okX0_passHour_L46 {E : Ev} {Q : Option Value → Wd → Prop} {a0 : Nat} {x1 : Int32} {s : Int32 × Int32 × Wd} {r : Int32 × Wd} (h : fX0_passHour_L46 a0 x1 s = some r) (hk : (fun q : Int32 × Wd => Q (some (.int q.1)) q.2) r) : PX0_passHour_L46 E Q a0 x1 s := it_runs (fun s r h hk => okX0_passHour_L46_body h hk) FU s r h hk
def fX0_passHour_L2_body (a0 : Nat) (x1 : Int32) (s : Int32 × Wd) : Option ((Int32 × Wd) ⊕ (Int32 × Wd)) :=
  chk (isO s.2 a0 0) (if (wI s.2 a0 3) ≤ s.1 then (wr (fX0_passHour_L46 a0 x1 (0, 0, s.2))) else (ob (wR s.2 a0 2) (fun o4 => ob (fX0_wornBy a0 s.1 s.2) (fun q6 => chk (isO q6.2 a0 0) (ob (wR q6.2 a0 0) (fun o9 => chk (isA q6.2 o9 3) (chk (inb s.1 (wn q6.2 o9)) (ob (wR q6.2 o9 (s.1).toNatClampNeg) (fun o13 => chk (isO q6.2 o13 4) (ob (fX0_deedIn a0 s.1 x1 q6.1 (wI q6.2 o13 1) q6.2) (fun q16 => chk (isA q16.2 o4 0) (chk (inb s.1 (wn q16.2 o4)) (bnd (sI q16.2 o4 (s.1).toNatClampNeg q16.1) (fun w20 => some (.inl ((s.1 + 1), w20))))))))))))))))
set_option maxHeartbeats 1000000 in
set_option maxRecDepth 20000 in
theorem okX0_passHour_L2_body {E : Ev} {Q : Option Value → Wd → Prop} {a0 : Nat} {x1 : Int32} {s : Int32 × Wd} {r : (Int32 × Wd) ⊕ (Int32 × Wd)} (h : fX0_passHour_L2_body a0 x1 s = some r) (hk : (Sum.elim (PX0_passHour_L2 E Q a0 x1) (fun q : Int32 × Wd => Q (some (.int q.1)) q.2)) r) : PX0_passHour_L2 E Q a0 x1 s := by
  unfold fX0_passHour_L2_body at h
  unfold PX0_passHour_L2
  refine r_iload_n dX0_passHour_2 2 rfl ?_
  refine r_aload_n dX0_passHour_3 0 rfl ?_
  obtain ⟨h1, h⟩ := chk_some h
  refine r_getI (fl_RX0_27 rfl) rfl dX0_passHour_4 h1 ?_
  refine r_icmp_ge (tgt := 42) dX0_passHour_7 (by decide) (fun c2 => ?_) (fun c2 => ?_)
  · rw [if_pos c2] at h
    obtain ⟨r3, hr, h⟩ := wr_some h
    rw [hr] at hk
    refine r_iconst (v := 0) dX0_passHour_42 (by decide) ?_
    refine r_istore_n dX0_passHour_43 rfl (Nat.le_of_ble_eq_true rfl) [(2, .int 0), (0, .ref a0), (1, .int x1)] rfl ?_
    refine r_iconst (v := 0) dX0_passHour_44 (by decide) ?_
    refine r_istore_n dX0_passHour_45 rfl (Nat.le_of_ble_eq_true rfl) [(3, .int 0), (2, .int 0), (0, .ref a0), (1, .int x1)] rfl ?_
    refine r_sub [2, 3, 1, 0] [(0, .ref a0), (1, .int x1), (2, .int 0), (3, .int 0)] rfl ?_
    exact okX0_passHour_L46 h hk
  · rw [if_neg c2] at h
    refine r_aload_n dX0_passHour_10 0 rfl ?_
    obtain ⟨o4, g5, h⟩ := ob_some h
    refine r_getR (fl_RX0_23 rfl) rfl dX0_passHour_11 h1 g5 ?_
    refine r_iload_n dX0_passHour_14 2 rfl ?_
    refine r_aload_n dX0_passHour_15 0 rfl ?_
    refine r_iload_n dX0_passHour_16 2 rfl ?_
    refine r_iload_n dX0_passHour_17 1 rfl ?_
    refine r_aload_n dX0_passHour_18 0 rfl ?_
    refine r_iload_n dX0_passHour_19 2 rfl ?_
    obtain ⟨q6, g7, h⟩ := ob_some h
    refine r_callV (d' := (6, 0, false)) (As := [.int s.1]) (st := [.int x1, .int s.1, .ref a0, .int s.1, .ref o4]) mdv_X0_wornBy tm_RX0_63 (by decide) rfl rfl (by decide) rfl (Nat.le_refl _) (Nat.le_of_ble_eq_true rfl) rfl dX0_passHour_20 h1 (ctX0_wornBy g7) (k_I0 ?_)
    refine r_aload_n dX0_passHour_23 0 rfl ?_
    obtain ⟨h8, h⟩ := chk_some h
    obtain ⟨o9, g10, h⟩ := ob_some h
    refine r_getR (fl_RX0_11 rfl) rfl dX0_passHour_24 h8 g10 ?_
    refine r_iload_n dX0_passHour_27 2 rfl ?_
    obtain ⟨h11, h⟩ := chk_some h
    obtain ⟨h12, h⟩ := chk_some h
    obtain ⟨o13, g14, h⟩ := ob_some h
    refine r_aaload 3 (by decide) (by decide) dX0_passHour_28 h11 h12 g14 ?_
    obtain ⟨h15, h⟩ := chk_some h
    refine r_getI (fl_RX0_95 rfl) rfl dX0_passHour_29 h15 ?_
    obtain ⟨q16, g17, h⟩ := ob_some h
    refine r_callV (d' := (7, 0, false)) (As := [.int s.1, .int x1, .int q6.1, .int (wI q6.2 o13 1)]) (st := [.int s.1, .ref o4]) mdv_X0_deedIn tm_RX0_98 (by decide) rfl rfl (by decide) rfl (Nat.le_refl _) (Nat.le_of_ble_eq_true rfl) rfl dX0_passHour_32 h8 (ctX0_deedIn g17) (k_I0 ?_)
    obtain ⟨h18, h⟩ := chk_some h
    obtain ⟨h19, h⟩ := chk_some h
    obtain ⟨w20, e21, h⟩ := bnd_some h
    refine r_iastore dX0_passHour_35 h18 h19 ?_
    refine r_eqW e21 ?_
    refine r_iinc (v := (s.1 + 1)) dX0_passHour_36 2 rfl rfl (Nat.le_of_ble_eq_true rfl) [(2, .int (s.1 + 1)), (0, .ref a0), (1, .int x1)] rfl ?_
    refine r_goto (tgt := 2) dX0_passHour_39 (by decide) ?_
    rw [← Option.some.inj h] at hk
    refine r_sub [1, 2, 0] [(0, .ref a0), (1, .int x1), (2, .int (s.1 + 1))] rfl ?_
    exact hk
def fX0_passHour_L2 (a0 : Nat) (x1 : Int32) (s : Int32 × Wd) : Option (Int32 × Wd) := it (fX0_passHour_L2_body a0 x1) FU s
set_option maxHeartbeats 1000000 in
set_option maxRecDepth 20000 in
theorem okX0_passHour_L2 {E : Ev} {Q : Option Value → Wd → Prop} {a0 : Nat} {x1 : Int32} {s : Int32 × Wd} {r : Int32 × Wd} (h : fX0_passHour_L2 a0 x1 s = some r) (hk : (fun q : Int32 × Wd => Q (some (.int q.1)) q.2) r) : PX0_passHour_L2 E Q a0 x1 s := it_runs (fun s r h hk => okX0_passHour_L2_body h hk) FU s r h hk
def fX0_passHour (a0 : Nat) (x1 : Int32) (w : Wd) : Option (Int32 × Wd) :=
  fX0_passHour_L2 a0 x1 (0, w)
set_option maxHeartbeats 1000000 in
set_option maxRecDepth 20000 in
theorem okX0_passHour {E : Ev} {Q : Option Value → Wd → Prop} {a0 : Nat} {x1 : Int32} {w : Wd} {q : Int32 × Wd} (h : fX0_passHour a0 x1 w = some q) (hk : (fun q : Int32 × Wd => Q (some (.int q.1)) q.2) q) : Runs E mX0_passHour (8, 0, false) Q 0 0 [(0, .ref a0), (1, .int x1)] [] w := by
  unfold fX0_passHour at h
  refine r_iconst (v := 0) dX0_passHour_0 (by decide) ?_
  refine r_istore_n dX0_passHour_1 rfl (Nat.le_of_ble_eq_true rfl) [(2, .int 0), (0, .ref a0), (1, .int x1)] rfl ?_
  refine r_sub [1, 2, 0] [(0, .ref a0), (1, .int x1), (2, .int 0)] rfl ?_
  exact okX0_passHour_L2 h hk
set_option maxHeartbeats 1000000 in
set_option maxRecDepth 20000 in
theorem ctX0_passHour {E : Ev} {a0 : Nat} {x1 : Int32} {w : Wd} {q : Int32 × Wd} (h : fX0_passHour a0 x1 w = some q) : CT E mX0_passHour (8, 0, false) [.ref a0, .int x1] w (QI q) := CT.of pl_RX0 (Nat.le_of_ble_eq_true rfl) (okX0_passHour h ⟨rfl, rfl⟩)
def PX0_daysTillSettled_L2 (E : Ev) (Q : Option Value → Wd → Prop) (a0 : Nat) (x1 : Int32) (s : Int32 × Wd) : Prop := Runs E mX0_daysTillSettled (9, 0, false) Q 0 2 [(0, .ref a0), (1, .int x1), (2, .int s.1)] [] s.2
def fX0_daysTillSettled_L2_body (a0 : Nat) (x1 : Int32) (s : Int32 × Wd) : Option ((Int32 × Wd) ⊕ (Int32 × Wd)) :=
  if (60 : Int32) < s.1 then (wr (some ((-1), s.2))) else (chk (isO s.2 a0 0) (ob (fX0_passHour a0 x1 s.2) (fun q4 => if q4.1 = 0 then (wr (some (s.1, q4.2))) else (some (.inl ((s.1 + 1), q4.2))))))
set_option maxHeartbeats 1000000 in
set_option maxRecDepth 20000 in
theorem okX0_daysTillSettled_L2_body {E : Ev} {Q : Option Value → Wd → Prop} {a0 : Nat} {x1 : Int32} {s : Int32 × Wd} {r : (Int32 × Wd) ⊕ (Int32 × Wd)} (h : fX0_daysTillSettled_L2_body a0 x1 s = some r) (hk : (Sum.elim (PX0_daysTillSettled_L2 E Q a0 x1) (fun q : Int32 × Wd => Q (some (.int q.1)) q.2)) r) : PX0_daysTillSettled_L2 E Q a0 x1 s := by
  unfold fX0_daysTillSettled_L2_body at h
  unfold PX0_daysTillSettled_L2
  refine r_iload_n dX0_daysTillSettled_2 2 rfl ?_
  refine r_bipush (v := 60) dX0_daysTillSettled_3 (by decide) ?_
  refine r_icmp_gt (tgt := 24) dX0_daysTillSettled_5 (by decide) (fun c1 => ?_) (fun c1 => ?_)
  · rw [if_pos c1] at h
    obtain ⟨r2, hr, h⟩ := wr_some h
    rw [hr] at hk
    refine r_iconst (v := (-1)) dX0_daysTillSettled_24 (by decide) ?_
    rw [← Option.some.inj h] at hk
    exact r_ireturn dX0_daysTillSettled_25 rfl rfl hk
  · rw [if_neg c1] at h
    refine r_aload_n dX0_daysTillSettled_8 0 rfl ?_
    refine r_iload_n dX0_daysTillSettled_9 1 rfl ?_
    obtain ⟨h3, h⟩ := chk_some h
    obtain ⟨q4, g5, h⟩ := ob_some h
    refine r_callV (d' := (8, 0, false)) (As := [.int x1]) (st := []) mdv_X0_passHour tm_RX0_117 (by decide) rfl rfl (by decide) rfl (Nat.le_refl _) (Nat.le_of_ble_eq_true rfl) rfl dX0_daysTillSettled_10 h3 (ctX0_passHour g5) (k_I0 ?_)
    refine r_if_ne (tgt := 18) dX0_daysTillSettled_13 (by decide) (fun c6 => ?_) (fun c6 => ?_)
    · rw [if_neg c6] at h
      refine r_iinc (v := (s.1 + 1)) dX0_daysTillSettled_18 2 rfl rfl (Nat.le_of_ble_eq_true rfl) [(2, .int (s.1 + 1)), (0, .ref a0), (1, .int x1)] rfl ?_
      refine r_goto (tgt := 2) dX0_daysTillSettled_21 (by decide) ?_
      rw [← Option.some.inj h] at hk
      refine r_sub [1, 2, 0] [(0, .ref a0), (1, .int x1), (2, .int (s.1 + 1))] rfl ?_
      exact hk
    · rw [if_pos c6] at h
      obtain ⟨r7, hr, h⟩ := wr_some h
      rw [hr] at hk
      refine r_iload_n dX0_daysTillSettled_16 2 rfl ?_
      rw [← Option.some.inj h] at hk
      exact r_ireturn dX0_daysTillSettled_17 rfl rfl hk
def fX0_daysTillSettled_L2 (a0 : Nat) (x1 : Int32) (s : Int32 × Wd) : Option (Int32 × Wd) := it (fX0_daysTillSettled_L2_body a0 x1) FU s
set_option maxHeartbeats 1000000 in
set_option maxRecDepth 20000 in
theorem okX0_daysTillSettled_L2 {E : Ev} {Q : Option Value → Wd → Prop} {a0 : Nat} {x1 : Int32} {s : Int32 × Wd} {r : Int32 × Wd} (h : fX0_daysTillSettled_L2 a0 x1 s = some r) (hk : (fun q : Int32 × Wd => Q (some (.int q.1)) q.2) r) : PX0_daysTillSettled_L2 E Q a0 x1 s := it_runs (fun s r h hk => okX0_daysTillSettled_L2_body h hk) FU s r h hk
def fX0_daysTillSettled (a0 : Nat) (x1 : Int32) (w : Wd) : Option (Int32 × Wd) :=
  fX0_daysTillSettled_L2 a0 x1 (0, w)
set_option maxHeartbeats 1000000 in
set_option maxRecDepth 20000 in
theorem okX0_daysTillSettled {E : Ev} {Q : Option Value → Wd → Prop} {a0 : Nat} {x1 : Int32} {w : Wd} {q : Int32 × Wd} (h : fX0_daysTillSettled a0 x1 w = some q) (hk : (fun q : Int32 × Wd => Q (some (.int q.1)) q.2) q) : Runs E mX0_daysTillSettled (9, 0, false) Q 0 0 [(0, .ref a0), (1, .int x1)] [] w := by
  unfold fX0_daysTillSettled at h
  refine r_iconst (v := 0) dX0_daysTillSettled_0 (by decide) ?_
  refine r_istore_n dX0_daysTillSettled_1 rfl (Nat.le_of_ble_eq_true rfl) [(2, .int 0), (0, .ref a0), (1, .int x1)] rfl ?_
  refine r_sub [1, 2, 0] [(0, .ref a0), (1, .int x1), (2, .int 0)] rfl ?_
  exact okX0_daysTillSettled_L2 h hk
set_option maxHeartbeats 1000000 in
set_option maxRecDepth 20000 in
theorem ctX0_daysTillSettled {E : Ev} {a0 : Nat} {x1 : Int32} {w : Wd} {q : Int32 × Wd} (h : fX0_daysTillSettled a0 x1 w = some q) : CT E mX0_daysTillSettled (9, 0, false) [.ref a0, .int x1] w (QI q) := CT.of pl_RX0 (Nat.le_of_ble_eq_true rfl) (okX0_daysTillSettled h ⟨rfl, rfl⟩)
def fX0_deedOf (a0 : Nat) (x1 : Int32) (x2 : Int32) (w : Wd) : Option (Int32 × Wd) :=
  chk (isO w a0 0) (ob (fX0_wornBy a0 x1 w) (fun q2 => chk (isO q2.2 a0 0) (ob (wR q2.2 a0 0) (fun o5 => chk (isA q2.2 o5 3) (chk (inb x1 (wn q2.2 o5)) (ob (wR q2.2 o5 (x1).toNatClampNeg) (fun o9 => chk (isO q2.2 o9 4) (ob (fX0_deedIn a0 x1 x2 q2.1 (wI q2.2 o9 1) q2.2) (fun q12 => some (q12.1, q12.2))))))))))
set_option maxHeartbeats 1000000 in
set_option maxRecDepth 20000 in
theorem okX0_deedOf {E : Ev} {Q : Option Value → Wd → Prop} {a0 : Nat} {x1 : Int32} {x2 : Int32} {w : Wd} {q : Int32 × Wd} (h : fX0_deedOf a0 x1 x2 w = some q) (hk : (fun q : Int32 × Wd => Q (some (.int q.1)) q.2) q) : Runs E mX0_deedOf (8, 0, false) Q 0 0 [(0, .ref a0), (1, .int x1), (2, .int x2)] [] w := by
  unfold fX0_deedOf at h
  refine r_aload_n dX0_deedOf_0 0 rfl ?_
  refine r_iload_n dX0_deedOf_1 1 rfl ?_
  refine r_iload_n dX0_deedOf_2 2 rfl ?_
  refine r_aload_n dX0_deedOf_3 0 rfl ?_
  refine r_iload_n dX0_deedOf_4 1 rfl ?_
  obtain ⟨h1, h⟩ := chk_some h
  obtain ⟨q2, g3, h⟩ := ob_some h
  refine r_callV (d' := (6, 0, false)) (As := [.int x1]) (st := [.int x2, .int x1, .ref a0]) mdv_X0_wornBy tm_RX0_63 (by decide) rfl rfl (by decide) rfl (Nat.le_refl _) (Nat.le_of_ble_eq_true rfl) rfl dX0_deedOf_5 h1 (ctX0_wornBy g3) (k_I0 ?_)
  refine r_aload_n dX0_deedOf_8 0 rfl ?_
  obtain ⟨h4, h⟩ := chk_some h
  obtain ⟨o5, g6, h⟩ := ob_some h
  refine r_getR (fl_RX0_11 rfl) rfl dX0_deedOf_9 h4 g6 ?_
  refine r_iload_n dX0_deedOf_12 1 rfl ?_
  obtain ⟨h7, h⟩ := chk_some h
  obtain ⟨h8, h⟩ := chk_some h
  obtain ⟨o9, g10, h⟩ := ob_some h
  refine r_aaload 3 (by decide) (by decide) dX0_deedOf_13 h7 h8 g10 ?_
  obtain ⟨h11, h⟩ := chk_some h
  refine r_getI (fl_RX0_95 rfl) rfl dX0_deedOf_14 h11 ?_
  obtain ⟨q12, g13, h⟩ := ob_some h
  refine r_callV (d' := (7, 0, false)) (As := [.int x1, .int x2, .int q2.1, .int (wI q2.2 o9 1)]) (st := []) mdv_X0_deedIn tm_RX0_98 (by decide) rfl rfl (by decide) rfl (Nat.le_refl _) (Nat.le_of_ble_eq_true rfl) rfl dX0_deedOf_17 h4 (ctX0_deedIn g13) (k_I0 ?_)
  rw [← Option.some.inj h] at hk
  exact r_ireturn dX0_deedOf_20 rfl rfl hk
set_option maxHeartbeats 1000000 in
set_option maxRecDepth 20000 in
theorem ctX0_deedOf {E : Ev} {a0 : Nat} {x1 : Int32} {x2 : Int32} {w : Wd} {q : Int32 × Wd} (h : fX0_deedOf a0 x1 x2 w = some q) : CT E mX0_deedOf (8, 0, false) [.ref a0, .int x1, .int x2] w (QI q) := CT.of pl_RX0 (Nat.le_of_ble_eq_true rfl) (okX0_deedOf h ⟨rfl, rfl⟩)
def PX0_doesAllOwn_L3 (E : Ev) (Q : Option Value → Wd → Prop) (a0 : Nat) (x1 : Int32) (x2 : Int32) (x3 : Int32) (s : Int32 × Wd) : Prop := Runs E mX0_doesAllOwn (8, 0, false) Q 0 3 [(0, .ref a0), (1, .int x1), (2, .int x2), (3, .int x3), (4, .int s.1)] [] s.2
def fX0_doesAllOwn_L3_body (a0 : Nat) (x1 : Int32) (x2 : Int32) (x3 : Int32) (s : Int32 × Wd) : Option ((Int32 × Wd) ⊕ (Int32 × Wd)) :=
  if (12 : Int32) ≤ s.1 then (wr (some (1, s.2))) else (chk (isO s.2 a0 0) (ob (fX0_deedIn a0 x1 s.1 x2 x3 s.2) (fun q4 => chk (isO q4.2 a0 0) (ob (wR q4.2 a0 0) (fun o7 => chk (isA q4.2 o7 3) (chk (inb x1 (wn q4.2 o7)) (ob (wR q4.2 o7 (x1).toNatClampNeg) (fun o11 => chk (isO q4.2 o11 4) (ob (wR q4.2 o11 0) (fun o14 => chk (isA q4.2 o14 0) (chk (inb s.1 (wn q4.2 o14)) (if q4.1 = (wI q4.2 o14 (s.1).toNatClampNeg) then (some (.inl ((s.1 + 1), q4.2))) else (wr (some (0, q4.2)))))))))))))))
set_option maxHeartbeats 1000000 in
set_option maxRecDepth 20000 in
theorem okX0_doesAllOwn_L3_body {E : Ev} {Q : Option Value → Wd → Prop} {a0 : Nat} {x1 : Int32} {x2 : Int32} {x3 : Int32} {s : Int32 × Wd} {r : (Int32 × Wd) ⊕ (Int32 × Wd)} (h : fX0_doesAllOwn_L3_body a0 x1 x2 x3 s = some r) (hk : (Sum.elim (PX0_doesAllOwn_L3 E Q a0 x1 x2 x3) (fun q : Int32 × Wd => Q (some (.int q.1)) q.2)) r) : PX0_doesAllOwn_L3 E Q a0 x1 x2 x3 s := by
  unfold fX0_doesAllOwn_L3_body at h
  unfold PX0_doesAllOwn_L3
  refine r_iload dX0_doesAllOwn_3 4 rfl ?_
  refine r_bipush (v := 12) dX0_doesAllOwn_5 (by decide) ?_
  refine r_icmp_ge (tgt := 42) dX0_doesAllOwn_7 (by decide) (fun c1 => ?_) (fun c1 => ?_)
  · rw [if_pos c1] at h
    obtain ⟨r2, hr, h⟩ := wr_some h
    rw [hr] at hk
    refine r_iconst (v := 1) dX0_doesAllOwn_42 (by decide) ?_
    rw [← Option.some.inj h] at hk
    exact r_ireturn dX0_doesAllOwn_43 rfl rfl hk
  · rw [if_neg c1] at h
    refine r_aload_n dX0_doesAllOwn_10 0 rfl ?_
    refine r_iload_n dX0_doesAllOwn_11 1 rfl ?_
    refine r_iload dX0_doesAllOwn_12 4 rfl ?_
    refine r_iload_n dX0_doesAllOwn_14 2 rfl ?_
    refine r_iload_n dX0_doesAllOwn_15 3 rfl ?_
    obtain ⟨h3, h⟩ := chk_some h
    obtain ⟨q4, g5, h⟩ := ob_some h
    refine r_callV (d' := (7, 0, false)) (As := [.int x1, .int s.1, .int x2, .int x3]) (st := []) mdv_X0_deedIn tm_RX0_98 (by decide) rfl rfl (by decide) rfl (Nat.le_refl _) (Nat.le_of_ble_eq_true rfl) rfl dX0_doesAllOwn_16 h3 (ctX0_deedIn g5) (k_I0 ?_)
    refine r_aload_n dX0_doesAllOwn_19 0 rfl ?_
    obtain ⟨h6, h⟩ := chk_some h
    obtain ⟨o7, g8, h⟩ := ob_some h
    refine r_getR (fl_RX0_11 rfl) rfl dX0_doesAllOwn_20 h6 g8 ?_
    refine r_iload_n dX0_doesAllOwn_23 1 rfl ?_
    obtain ⟨h9, h⟩ := chk_some h
    obtain ⟨h10, h⟩ := chk_some h
    obtain ⟨o11, g12, h⟩ := ob_some h
    refine r_aaload 3 (by decide) (by decide) dX0_doesAllOwn_24 h9 h10 g12 ?_
    obtain ⟨h13, h⟩ := chk_some h
    obtain ⟨o14, g15, h⟩ := ob_some h
    refine r_getR (fl_RX0_88 rfl) rfl dX0_doesAllOwn_25 h13 g15 ?_
    refine r_iload dX0_doesAllOwn_28 4 rfl ?_
    obtain ⟨h16, h⟩ := chk_some h
    obtain ⟨h17, h⟩ := chk_some h
    refine r_iaload dX0_doesAllOwn_30 h16 h17 ?_
    refine r_icmp_eq (tgt := 36) dX0_doesAllOwn_31 (by decide) (fun c18 => ?_) (fun c18 => ?_)
    · rw [if_pos c18] at h
      refine r_iinc (v := (s.1 + 1)) dX0_doesAllOwn_36 4 rfl rfl (Nat.le_of_ble_eq_true rfl) [(4, .int (s.1 + 1)), (0, .ref a0), (1, .int x1), (2, .int x2), (3, .int x3)] rfl ?_
      refine r_goto (tgt := 3) dX0_doesAllOwn_39 (by decide) ?_
      rw [← Option.some.inj h] at hk
      refine r_sub [1, 2, 3, 4, 0] [(0, .ref a0), (1, .int x1), (2, .int x2), (3, .int x3), (4, .int (s.1 + 1))] rfl ?_
      exact hk
    · rw [if_neg c18] at h
      obtain ⟨r19, hr, h⟩ := wr_some h
      rw [hr] at hk
      refine r_iconst (v := 0) dX0_doesAllOwn_34 (by decide) ?_
      rw [← Option.some.inj h] at hk
      exact r_ireturn dX0_doesAllOwn_35 rfl rfl hk
def fX0_doesAllOwn_L3 (a0 : Nat) (x1 : Int32) (x2 : Int32) (x3 : Int32) (s : Int32 × Wd) : Option (Int32 × Wd) := it (fX0_doesAllOwn_L3_body a0 x1 x2 x3) FU s
set_option maxHeartbeats 1000000 in
set_option maxRecDepth 20000 in
theorem okX0_doesAllOwn_L3 {E : Ev} {Q : Option Value → Wd → Prop} {a0 : Nat} {x1 : Int32} {x2 : Int32} {x3 : Int32} {s : Int32 × Wd} {r : Int32 × Wd} (h : fX0_doesAllOwn_L3 a0 x1 x2 x3 s = some r) (hk : (fun q : Int32 × Wd => Q (some (.int q.1)) q.2) r) : PX0_doesAllOwn_L3 E Q a0 x1 x2 x3 s := it_runs (fun s r h hk => okX0_doesAllOwn_L3_body h hk) FU s r h hk
def fX0_doesAllOwn (a0 : Nat) (x1 : Int32) (x2 : Int32) (x3 : Int32) (w : Wd) : Option (Int32 × Wd) :=
  fX0_doesAllOwn_L3 a0 x1 x2 x3 (0, w)
set_option maxHeartbeats 1000000 in
set_option maxRecDepth 20000 in
theorem okX0_doesAllOwn {E : Ev} {Q : Option Value → Wd → Prop} {a0 : Nat} {x1 : Int32} {x2 : Int32} {x3 : Int32} {w : Wd} {q : Int32 × Wd} (h : fX0_doesAllOwn a0 x1 x2 x3 w = some q) (hk : (fun q : Int32 × Wd => Q (some (.int q.1)) q.2) q) : Runs E mX0_doesAllOwn (8, 0, false) Q 0 0 [(0, .ref a0), (1, .int x1), (2, .int x2), (3, .int x3)] [] w := by
  unfold fX0_doesAllOwn at h
  refine r_iconst (v := 0) dX0_doesAllOwn_0 (by decide) ?_
  refine r_istore dX0_doesAllOwn_1 (Nat.le_of_ble_eq_true rfl) [(4, .int 0), (0, .ref a0), (1, .int x1), (2, .int x2), (3, .int x3)] rfl ?_
  refine r_sub [1, 2, 3, 4, 0] [(0, .ref a0), (1, .int x1), (2, .int x2), (3, .int x3), (4, .int 0)] rfl ?_
  exact okX0_doesAllOwn_L3 h hk
set_option maxHeartbeats 1000000 in
set_option maxRecDepth 20000 in
theorem ctX0_doesAllOwn {E : Ev} {a0 : Nat} {x1 : Int32} {x2 : Int32} {x3 : Int32} {w : Wd} {q : Int32 × Wd} (h : fX0_doesAllOwn a0 x1 x2 x3 w = some q) : CT E mX0_doesAllOwn (8, 0, false) [.ref a0, .int x1, .int x2, .int x3] w (QI q) := CT.of pl_RX0 (Nat.le_of_ble_eq_true rfl) (okX0_doesAllOwn h ⟨rfl, rfl⟩)
def fX0_draw_b32 (s0 : Int32) (w : Wd) : Option (Int32 × Wd) :=
  some (s0, w)
set_option maxHeartbeats 1000000 in
set_option maxRecDepth 20000 in
theorem okX0_draw_b32 {E : Ev} {Q : Option Value → Wd → Prop} {s0 : Int32} {w : Wd} {q : Int32 × Wd} (h : fX0_draw_b32 s0 w = some q) (hk : (fun q : Int32 × Wd => Q (some (.int q.1)) q.2) q) : Runs E mX0_draw (6, 0, false) Q 0 32 [] [.int s0] w := by
  unfold fX0_draw_b32 at h
  rw [← Option.some.inj h] at hk
  exact r_ireturn dX0_draw_32 rfl rfl hk
def fX0_draw (a0 : Nat) (x1 : Int32) (w : Wd) : Option (Int32 × Wd) :=
  chk (isO w a0 0) (bnd (sI w a0 5 (((wI w a0 5) * 1103515245) + 12345)) (fun w2 => if x1 ≤ 0 then (fX0_draw_b32 0 w2) else (chk (isO w2 a0 0) (chk (¬ x1 = 0) (fX0_draw_b32 (((((wI w2 a0 5)).toUInt32 >>> ((16 : Int32).toUInt32 &&& Int32.toUInt32 31)).toInt32) - (((((wI w2 a0 5)).toUInt32 >>> ((16 : Int32).toUInt32 &&& Int32.toUInt32 31)).toInt32) / x1) * x1) w2)))))
set_option maxHeartbeats 1000000 in
set_option maxRecDepth 20000 in
theorem okX0_draw {E : Ev} {Q : Option Value → Wd → Prop} {a0 : Nat} {x1 : Int32} {w : Wd} {q : Int32 × Wd} (h : fX0_draw a0 x1 w = some q) (hk : (fun q : Int32 × Wd => Q (some (.int q.1)) q.2) q) : Runs E mX0_draw (6, 0, false) Q 0 0 [(0, .ref a0), (1, .int x1)] [] w := by
  unfold fX0_draw at h
  refine r_aload_n dX0_draw_0 0 rfl ?_
  refine r_aload_n dX0_draw_1 0 rfl ?_
  obtain ⟨h1, h⟩ := chk_some h
  refine r_getI (fl_RX0_34 rfl) rfl dX0_draw_2 h1 ?_
  refine r_ldc tk_RX0_120 dX0_draw_5 ?_
  refine r_imul dX0_draw_7 ?_
  refine r_sipush (v := 12345) dX0_draw_8 (by decide) ?_
  refine r_iadd dX0_draw_11 ?_
  obtain ⟨w2, e3, h⟩ := bnd_some h
  refine r_putI (fl_RX0_34 rfl) rfl rfl (ck_ty (by decide) 5 (by decide)) rfl rfl dX0_draw_12 h1 ?_
  refine r_eqW e3 ?_
  refine r_iload_n dX0_draw_15 1 rfl ?_
  refine r_if_le (tgt := 31) dX0_draw_16 (by decide) (fun c4 => ?_) (fun c4 => ?_)
  · rw [if_pos c4] at h
    refine r_iconst (v := 0) dX0_draw_31 (by decide) ?_
    refine r_sub [] [] rfl ?_
    exact okX0_draw_b32 h hk
  · rw [if_neg c4] at h
    refine r_aload_n dX0_draw_19 0 rfl ?_
    obtain ⟨h5, h⟩ := chk_some h
    refine r_getI (fl_RX0_34 rfl) rfl dX0_draw_20 h5 ?_
    refine r_bipush (v := 16) dX0_draw_23 (by decide) ?_
    refine r_iushr dX0_draw_25 ?_
    refine r_iload_n dX0_draw_26 1 rfl ?_
    obtain ⟨h6, h⟩ := chk_some h
    refine r_irem dX0_draw_27 h6 ?_
    refine r_goto (tgt := 32) dX0_draw_28 (by decide) ?_
    refine r_sub [] [] rfl ?_
    exact okX0_draw_b32 h hk
set_option maxHeartbeats 1000000 in
set_option maxRecDepth 20000 in
theorem ctX0_draw {E : Ev} {a0 : Nat} {x1 : Int32} {w : Wd} {q : Int32 × Wd} (h : fX0_draw a0 x1 w = some q) : CT E mX0_draw (6, 0, false) [.ref a0, .int x1] w (QI q) := CT.of pl_RX0 (Nat.le_of_ble_eq_true rfl) (okX0_draw h ⟨rfl, rfl⟩)
def PX0_fewestOff_L11 (E : Ev) (Q : Option Value → Wd → Prop) (a0 : Nat) (x1 : Int32) (x2 : Int32) (s : Int32 × Int32 × Wd) : Prop := Runs E mX0_fewestOff (9, 0, false) Q 0 11 [(0, .ref a0), (1, .int x1), (2, .int x2), (3, .int s.1), (4, .int s.2.1)] [] s.2.2
def fX0_fewestOff_b64 (a0 : Nat) (x1 : Int32) (x2 : Int32) (x3 : Int32) (x4 : Int32) (w : Wd) : Option ((Int32 × Int32 × Wd) ⊕ (Int32 × Wd)) :=
  some (.inl (x3, (x4 + 1), w))
set_option maxHeartbeats 1000000 in
set_option maxRecDepth 20000 in
theorem okX0_fewestOff_b64 {E : Ev} {Q : Option Value → Wd → Prop} {a0 : Nat} {x1 : Int32} {x2 : Int32} {x3 : Int32} {x4 : Int32} {w : Wd} {q : (Int32 × Int32 × Wd) ⊕ (Int32 × Wd)} (h : fX0_fewestOff_b64 a0 x1 x2 x3 x4 w = some q) (hk : (Sum.elim (PX0_fewestOff_L11 E Q a0 x1 x2) (fun q : Int32 × Wd => Q (some (.int q.1)) q.2)) q) : Runs E mX0_fewestOff (9, 0, false) Q 0 64 [(0, .ref a0), (1, .int x1), (2, .int x2), (3, .int x3), (4, .int x4)] [] w := by
  unfold fX0_fewestOff_b64 at h
  refine r_iinc (v := (x4 + 1)) dX0_fewestOff_64 4 rfl rfl (Nat.le_of_ble_eq_true rfl) [(4, .int (x4 + 1)), (0, .ref a0), (1, .int x1), (2, .int x2), (3, .int x3)] rfl ?_
  refine r_goto (tgt := 11) dX0_fewestOff_67 (by decide) ?_
  rw [← Option.some.inj h] at hk
  refine r_sub [1, 2, 3, 4, 0] [(0, .ref a0), (1, .int x1), (2, .int x2), (3, .int x3), (4, .int (x4 + 1))] rfl ?_
  exact hk
def fX0_fewestOff_L11_body (a0 : Nat) (x1 : Int32) (x2 : Int32) (s : Int32 × Int32 × Wd) : Option ((Int32 × Int32 × Wd) ⊕ (Int32 × Wd)) :=
  if x2 ≤ s.2.1 then (wr (some (s.1, s.2.2))) else (if (s.2.1 &&& (x2 ^^^ (-1))) = 0 then (ob (fJ6_bitCount_0f7a4 s.2.1 s.2.2) (fun q4 => ob (fJ6_bitCount_0f7a4 s.1 q4.2) (fun q6 => if q6.1 ≤ q4.1 then (fX0_fewestOff_b64 a0 x1 x2 s.1 s.2.1 q6.2) else (chk (isO q6.2 a0 0) (ob (wR q6.2 a0 0) (fun o10 => chk (isA q6.2 o10 3) (chk (inb x1 (wn q6.2 o10)) (ob (wR q6.2 o10 (x1).toNatClampNeg) (fun o14 => chk (isO q6.2 o14 4) (ob (fX0_doesAllOwn a0 x1 (x2 &&& (s.2.1 ^^^ (-1))) (wI q6.2 o14 1) q6.2) (fun q17 => if q17.1 = 0 then (fX0_fewestOff_b64 a0 x1 x2 s.1 s.2.1 q17.2) else (fX0_fewestOff_b64 a0 x1 x2 s.2.1 s.2.1 q17.2)))))))))))) else (fX0_fewestOff_b64 a0 x1 x2 s.1 s.2.1 s.2.2))
set_option maxHeartbeats 1000000 in
set_option maxRecDepth 20000 in
theorem okX0_fewestOff_L11_body {E : Ev} {Q : Option Value → Wd → Prop} {a0 : Nat} {x1 : Int32} {x2 : Int32} {s : Int32 × Int32 × Wd} {r : (Int32 × Int32 × Wd) ⊕ (Int32 × Wd)} (h : fX0_fewestOff_L11_body a0 x1 x2 s = some r) (hk : (Sum.elim (PX0_fewestOff_L11 E Q a0 x1 x2) (fun q : Int32 × Wd => Q (some (.int q.1)) q.2)) r) : PX0_fewestOff_L11 E Q a0 x1 x2 s := by
  unfold fX0_fewestOff_L11_body at h
  unfold PX0_fewestOff_L11
  refine r_iload dX0_fewestOff_11 4 rfl ?_
  refine r_iload_n dX0_fewestOff_13 2 rfl ?_
  refine r_icmp_ge (tgt := 70) dX0_fewestOff_14 (by decide) (fun c1 => ?_) (fun c1 => ?_)
  · rw [if_pos c1] at h
    obtain ⟨r2, hr, h⟩ := wr_some h
    rw [hr] at hk
    refine r_iload_n dX0_fewestOff_70 3 rfl ?_
    rw [← Option.some.inj h] at hk
    exact r_ireturn dX0_fewestOff_71 rfl rfl hk
  · rw [if_neg c1] at h
    refine r_iload dX0_fewestOff_17 4 rfl ?_
    refine r_iload_n dX0_fewestOff_19 2 rfl ?_
    refine r_iconst (v := (-1)) dX0_fewestOff_20 (by decide) ?_
    refine r_ixor dX0_fewestOff_21 ?_
    refine r_iand dX0_fewestOff_22 ?_
    refine r_if_ne (tgt := 64) dX0_fewestOff_23 (by decide) (fun c3 => ?_) (fun c3 => ?_)
    · rw [if_neg c3] at h
      refine r_sub [0, 1, 2, 3, 4] [(0, .ref a0), (1, .int x1), (2, .int x2), (3, .int s.1), (4, .int s.2.1)] rfl ?_
      exact okX0_fewestOff_b64 h hk
    · rw [if_pos c3] at h
      refine r_iload dX0_fewestOff_26 4 rfl ?_
      obtain ⟨q4, g5, h⟩ := ob_some h
      refine r_callS (d' := (6, 0, false)) (As := [.int s.2.1]) (st := []) mds_J6_bitCount_0f7a4 tm_RX0_67 rfl (by decide) rfl (Nat.le_refl _) (Nat.le_of_ble_eq_true rfl) rfl dX0_fewestOff_28 (ctJ6_bitCount_0f7a4 g5) (k_I0 ?_)
      refine r_iload_n dX0_fewestOff_31 3 rfl ?_
      obtain ⟨q6, g7, h⟩ := ob_some h
      refine r_callS (d' := (6, 0, false)) (As := [.int s.1]) (st := [.int q4.1]) mds_J6_bitCount_0f7a4 tm_RX0_67 rfl (by decide) rfl (Nat.le_refl _) (Nat.le_of_ble_eq_true rfl) rfl dX0_fewestOff_32 (ctJ6_bitCount_0f7a4 g7) (k_I0 ?_)
      refine r_icmp_ge (tgt := 64) dX0_fewestOff_35 (by decide) (fun c8 => ?_) (fun c8 => ?_)
      · rw [if_pos c8] at h
        refine r_sub [0, 1, 2, 3, 4] [(0, .ref a0), (1, .int x1), (2, .int x2), (3, .int s.1), (4, .int s.2.1)] rfl ?_
        exact okX0_fewestOff_b64 h hk
      · rw [if_neg c8] at h
        refine r_aload_n dX0_fewestOff_38 0 rfl ?_
        refine r_iload_n dX0_fewestOff_39 1 rfl ?_
        refine r_iload_n dX0_fewestOff_40 2 rfl ?_
        refine r_iload dX0_fewestOff_41 4 rfl ?_
        refine r_iconst (v := (-1)) dX0_fewestOff_43 (by decide) ?_
        refine r_ixor dX0_fewestOff_44 ?_
        refine r_iand dX0_fewestOff_45 ?_
        refine r_aload_n dX0_fewestOff_46 0 rfl ?_
        obtain ⟨h9, h⟩ := chk_some h
        obtain ⟨o10, g11, h⟩ := ob_some h
        refine r_getR (fl_RX0_11 rfl) rfl dX0_fewestOff_47 h9 g11 ?_
        refine r_iload_n dX0_fewestOff_50 1 rfl ?_
        obtain ⟨h12, h⟩ := chk_some h
        obtain ⟨h13, h⟩ := chk_some h
        obtain ⟨o14, g15, h⟩ := ob_some h
        refine r_aaload 3 (by decide) (by decide) dX0_fewestOff_51 h12 h13 g15 ?_
        obtain ⟨h16, h⟩ := chk_some h
        refine r_getI (fl_RX0_95 rfl) rfl dX0_fewestOff_52 h16 ?_
        obtain ⟨q17, g18, h⟩ := ob_some h
        refine r_callV (d' := (8, 0, false)) (As := [.int x1, .int (x2 &&& (s.2.1 ^^^ (-1))), .int (wI q6.2 o14 1)]) (st := []) mdv_X0_doesAllOwn tm_RX0_139 (by decide) rfl rfl (by decide) rfl (Nat.le_refl _) (Nat.le_of_ble_eq_true rfl) rfl dX0_fewestOff_55 h9 (ctX0_doesAllOwn g18) (k_I0 ?_)
        refine r_if_eq (tgt := 64) dX0_fewestOff_58 (by decide) (fun c19 => ?_) (fun c19 => ?_)
        · rw [if_pos c19] at h
          refine r_sub [0, 1, 2, 3, 4] [(0, .ref a0), (1, .int x1), (2, .int x2), (3, .int s.1), (4, .int s.2.1)] rfl ?_
          exact okX0_fewestOff_b64 h hk
        · rw [if_neg c19] at h
          refine r_iload dX0_fewestOff_61 4 rfl ?_
          refine r_istore_n dX0_fewestOff_63 rfl (Nat.le_of_ble_eq_true rfl) [(3, .int s.2.1), (0, .ref a0), (1, .int x1), (2, .int x2), (4, .int s.2.1)] rfl ?_
          refine r_sub [1, 2, 3, 0, 4] [(0, .ref a0), (1, .int x1), (2, .int x2), (3, .int s.2.1), (4, .int s.2.1)] rfl ?_
          exact okX0_fewestOff_b64 h hk
def fX0_fewestOff_L11 (a0 : Nat) (x1 : Int32) (x2 : Int32) (s : Int32 × Int32 × Wd) : Option (Int32 × Wd) := it (fX0_fewestOff_L11_body a0 x1 x2) FU s
set_option maxHeartbeats 1000000 in
set_option maxRecDepth 20000 in
theorem okX0_fewestOff_L11 {E : Ev} {Q : Option Value → Wd → Prop} {a0 : Nat} {x1 : Int32} {x2 : Int32} {s : Int32 × Int32 × Wd} {r : Int32 × Wd} (h : fX0_fewestOff_L11 a0 x1 x2 s = some r) (hk : (fun q : Int32 × Wd => Q (some (.int q.1)) q.2) r) : PX0_fewestOff_L11 E Q a0 x1 x2 s := it_runs (fun s r h hk => okX0_fewestOff_L11_body h hk) FU s r h hk
def fX0_fewestOff (a0 : Nat) (x1 : Int32) (w : Wd) : Option (Int32 × Wd) :=
  chk (isO w a0 0) (ob (fX0_wornBy a0 x1 w) (fun q2 => fX0_fewestOff_L11 a0 x1 q2.1 (q2.1, 0, q2.2)))
set_option maxHeartbeats 1000000 in
set_option maxRecDepth 20000 in
theorem okX0_fewestOff {E : Ev} {Q : Option Value → Wd → Prop} {a0 : Nat} {x1 : Int32} {w : Wd} {q : Int32 × Wd} (h : fX0_fewestOff a0 x1 w = some q) (hk : (fun q : Int32 × Wd => Q (some (.int q.1)) q.2) q) : Runs E mX0_fewestOff (9, 0, false) Q 0 0 [(0, .ref a0), (1, .int x1)] [] w := by
  unfold fX0_fewestOff at h
  refine r_aload_n dX0_fewestOff_0 0 rfl ?_
  refine r_iload_n dX0_fewestOff_1 1 rfl ?_
  obtain ⟨h1, h⟩ := chk_some h
  obtain ⟨q2, g3, h⟩ := ob_some h
  refine r_callV (d' := (6, 0, false)) (As := [.int x1]) (st := []) mdv_X0_wornBy tm_RX0_63 (by decide) rfl rfl (by decide) rfl (Nat.le_refl _) (Nat.le_of_ble_eq_true rfl) rfl dX0_fewestOff_2 h1 (ctX0_wornBy g3) (k_I0 ?_)
  refine r_istore_n dX0_fewestOff_5 rfl (Nat.le_of_ble_eq_true rfl) [(2, .int q2.1), (0, .ref a0), (1, .int x1)] rfl ?_
  refine r_iload_n dX0_fewestOff_6 0 rfl ?_
  refine r_istore_n dX0_fewestOff_7 rfl (Nat.le_of_ble_eq_true rfl) [(3, .int q2.1), (2, .int q2.1), (0, .ref a0), (1, .int x1)] rfl ?_
  refine r_iconst (v := 0) dX0_fewestOff_8 (by decide) ?_
  refine r_istore dX0_fewestOff_9 (Nat.le_of_ble_eq_true rfl) [(4, .int 0), (3, .int q2.1), (2, .int q2.1), (0, .ref a0), (1, .int x1)] rfl ?_
  refine r_sub [3, 4, 2, 1, 0] [(0, .ref a0), (1, .int x1), (2, .int q2.1), (3, .int q2.1), (4, .int 0)] rfl ?_
  exact okX0_fewestOff_L11 h hk
set_option maxHeartbeats 1000000 in
set_option maxRecDepth 20000 in
theorem ctX0_fewestOff {E : Ev} {a0 : Nat} {x1 : Int32} {w : Wd} {q : Int32 × Wd} (h : fX0_fewestOff a0 x1 w = some q) : CT E mX0_fewestOff (9, 0, false) [.ref a0, .int x1] w (QI q) := CT.of pl_RX0 (Nat.le_of_ble_eq_true rfl) (okX0_fewestOff h ⟨rfl, rfl⟩)
def PX0_habitsPatched_L5 (E : Ev) (Q : Option Value → Wd → Prop) (a0 : Nat) (x1 : Int32) (x2 : Int32) (s : Int32 × Int32 × Wd) : Prop := Runs E mX0_habitsPatched (7, 0, false) Q 0 5 [(0, .ref a0), (1, .int x1), (2, .int x2), (3, .int s.1), (4, .int s.2.1)] [] s.2.2
def fX0_habitsPatched_b32 (a0 : Nat) (x1 : Int32) (x2 : Int32) (x3 : Int32) (x4 : Int32) (w : Wd) : Option ((Int32 × Int32 × Wd) ⊕ (Int32 × Wd)) :=
  some (.inl (x3, (x4 + 1), w))
set_option maxHeartbeats 1000000 in
set_option maxRecDepth 20000 in
theorem okX0_habitsPatched_b32 {E : Ev} {Q : Option Value → Wd → Prop} {a0 : Nat} {x1 : Int32} {x2 : Int32} {x3 : Int32} {x4 : Int32} {w : Wd} {q : (Int32 × Int32 × Wd) ⊕ (Int32 × Wd)} (h : fX0_habitsPatched_b32 a0 x1 x2 x3 x4 w = some q) (hk : (Sum.elim (PX0_habitsPatched_L5 E Q a0 x1 x2) (fun q : Int32 × Wd => Q (some (.int q.1)) q.2)) q) : Runs E mX0_habitsPatched (7, 0, false) Q 0 32 [(0, .ref a0), (1, .int x1), (2, .int x2), (3, .int x3), (4, .int x4)] [] w := by
  unfold fX0_habitsPatched_b32 at h
  refine r_iinc (v := (x4 + 1)) dX0_habitsPatched_32 4 rfl rfl (Nat.le_of_ble_eq_true rfl) [(4, .int (x4 + 1)), (0, .ref a0), (1, .int x1), (2, .int x2), (3, .int x3)] rfl ?_
  refine r_goto (tgt := 5) dX0_habitsPatched_35 (by decide) ?_
  rw [← Option.some.inj h] at hk
  refine r_sub [1, 2, 3, 4, 0] [(0, .ref a0), (1, .int x1), (2, .int x2), (3, .int x3), (4, .int (x4 + 1))] rfl ?_
  exact hk
def fX0_habitsPatched_L5_body (a0 : Nat) (x1 : Int32) (x2 : Int32) (s : Int32 × Int32 × Wd) : Option ((Int32 × Int32 × Wd) ⊕ (Int32 × Wd)) :=
  if (12 : Int32) ≤ s.2.1 then (wr (some (s.1, s.2.2))) else (chk (isO s.2.2 a0 0) (ob (fX0_pullOf a0 x1 s.2.1 s.2.2) (fun q4 => chk (isO q4.2 a0 0) (ob (fX0_pullOf a0 x2 s.2.1 q4.2) (fun q7 => if q4.1 ≤ q7.1 then (fX0_habitsPatched_b32 a0 x1 x2 s.1 s.2.1 q7.2) else (fX0_habitsPatched_b32 a0 x1 x2 (s.1 + 1) s.2.1 q7.2))))))
set_option maxHeartbeats 1000000 in
set_option maxRecDepth 20000 in
theorem okX0_habitsPatched_L5_body {E : Ev} {Q : Option Value → Wd → Prop} {a0 : Nat} {x1 : Int32} {x2 : Int32} {s : Int32 × Int32 × Wd} {r : (Int32 × Int32 × Wd) ⊕ (Int32 × Wd)} (h : fX0_habitsPatched_L5_body a0 x1 x2 s = some r) (hk : (Sum.elim (PX0_habitsPatched_L5 E Q a0 x1 x2) (fun q : Int32 × Wd => Q (some (.int q.1)) q.2)) r) : PX0_habitsPatched_L5 E Q a0 x1 x2 s := by
  unfold fX0_habitsPatched_L5_body at h
  unfold PX0_habitsPatched_L5
  refine r_iload dX0_habitsPatched_5 4 rfl ?_
  refine r_bipush (v := 12) dX0_habitsPatched_7 (by decide) ?_
  refine r_icmp_ge (tgt := 38) dX0_habitsPatched_9 (by decide) (fun c1 => ?_) (fun c1 => ?_)
  · rw [if_pos c1] at h
    obtain ⟨r2, hr, h⟩ := wr_some h
    rw [hr] at hk
    refine r_iload_n dX0_habitsPatched_38 3 rfl ?_
    rw [← Option.some.inj h] at hk
    exact r_ireturn dX0_habitsPatched_39 rfl rfl hk
  · rw [if_neg c1] at h
    refine r_aload_n dX0_habitsPatched_12 0 rfl ?_
    refine r_iload_n dX0_habitsPatched_13 1 rfl ?_
    refine r_iload dX0_habitsPatched_14 4 rfl ?_
    obtain ⟨h3, h⟩ := chk_some h
    obtain ⟨q4, g5, h⟩ := ob_some h
    refine r_callV (d' := (6, 0, false)) (As := [.int x1, .int s.2.1]) (st := []) mdv_X0_pullOf tm_RX0_91 (by decide) rfl rfl (by decide) rfl (Nat.le_refl _) (Nat.le_of_ble_eq_true rfl) rfl dX0_habitsPatched_16 h3 (ctX0_pullOf g5) (k_I0 ?_)
    refine r_aload_n dX0_habitsPatched_19 0 rfl ?_
    refine r_iload_n dX0_habitsPatched_20 2 rfl ?_
    refine r_iload dX0_habitsPatched_21 4 rfl ?_
    obtain ⟨h6, h⟩ := chk_some h
    obtain ⟨q7, g8, h⟩ := ob_some h
    refine r_callV (d' := (6, 0, false)) (As := [.int x2, .int s.2.1]) (st := [.int q4.1]) mdv_X0_pullOf tm_RX0_91 (by decide) rfl rfl (by decide) rfl (Nat.le_refl _) (Nat.le_of_ble_eq_true rfl) rfl dX0_habitsPatched_23 h6 (ctX0_pullOf g8) (k_I0 ?_)
    refine r_icmp_le (tgt := 32) dX0_habitsPatched_26 (by decide) (fun c9 => ?_) (fun c9 => ?_)
    · rw [if_pos c9] at h
      refine r_sub [0, 1, 2, 3, 4] [(0, .ref a0), (1, .int x1), (2, .int x2), (3, .int s.1), (4, .int s.2.1)] rfl ?_
      exact okX0_habitsPatched_b32 h hk
    · rw [if_neg c9] at h
      refine r_iinc (v := (s.1 + 1)) dX0_habitsPatched_29 3 rfl rfl (Nat.le_of_ble_eq_true rfl) [(3, .int (s.1 + 1)), (0, .ref a0), (1, .int x1), (2, .int x2), (4, .int s.2.1)] rfl ?_
      refine r_sub [1, 2, 3, 0, 4] [(0, .ref a0), (1, .int x1), (2, .int x2), (3, .int (s.1 + 1)), (4, .int s.2.1)] rfl ?_
      exact okX0_habitsPatched_b32 h hk
def fX0_habitsPatched_L5 (a0 : Nat) (x1 : Int32) (x2 : Int32) (s : Int32 × Int32 × Wd) : Option (Int32 × Wd) := it (fX0_habitsPatched_L5_body a0 x1 x2) FU s
set_option maxHeartbeats 1000000 in
set_option maxRecDepth 20000 in
theorem okX0_habitsPatched_L5 {E : Ev} {Q : Option Value → Wd → Prop} {a0 : Nat} {x1 : Int32} {x2 : Int32} {s : Int32 × Int32 × Wd} {r : Int32 × Wd} (h : fX0_habitsPatched_L5 a0 x1 x2 s = some r) (hk : (fun q : Int32 × Wd => Q (some (.int q.1)) q.2) r) : PX0_habitsPatched_L5 E Q a0 x1 x2 s := it_runs (fun s r h hk => okX0_habitsPatched_L5_body h hk) FU s r h hk
def fX0_habitsPatched (a0 : Nat) (x1 : Int32) (x2 : Int32) (w : Wd) : Option (Int32 × Wd) :=
  fX0_habitsPatched_L5 a0 x1 x2 (0, 0, w)
set_option maxHeartbeats 1000000 in
set_option maxRecDepth 20000 in
theorem okX0_habitsPatched {E : Ev} {Q : Option Value → Wd → Prop} {a0 : Nat} {x1 : Int32} {x2 : Int32} {w : Wd} {q : Int32 × Wd} (h : fX0_habitsPatched a0 x1 x2 w = some q) (hk : (fun q : Int32 × Wd => Q (some (.int q.1)) q.2) q) : Runs E mX0_habitsPatched (7, 0, false) Q 0 0 [(0, .ref a0), (1, .int x1), (2, .int x2)] [] w := by
  unfold fX0_habitsPatched at h
  refine r_iconst (v := 0) dX0_habitsPatched_0 (by decide) ?_
  refine r_istore_n dX0_habitsPatched_1 rfl (Nat.le_of_ble_eq_true rfl) [(3, .int 0), (0, .ref a0), (1, .int x1), (2, .int x2)] rfl ?_
  refine r_iconst (v := 0) dX0_habitsPatched_2 (by decide) ?_
  refine r_istore dX0_habitsPatched_3 (Nat.le_of_ble_eq_true rfl) [(4, .int 0), (3, .int 0), (0, .ref a0), (1, .int x1), (2, .int x2)] rfl ?_
  refine r_sub [2, 3, 4, 1, 0] [(0, .ref a0), (1, .int x1), (2, .int x2), (3, .int 0), (4, .int 0)] rfl ?_
  exact okX0_habitsPatched_L5 h hk
set_option maxHeartbeats 1000000 in
set_option maxRecDepth 20000 in
theorem ctX0_habitsPatched {E : Ev} {a0 : Nat} {x1 : Int32} {x2 : Int32} {w : Wd} {q : Int32 × Wd} (h : fX0_habitsPatched a0 x1 x2 w = some q) : CT E mX0_habitsPatched (7, 0, false) [.ref a0, .int x1, .int x2] w (QI q) := CT.of pl_RX0 (Nat.le_of_ble_eq_true rfl) (okX0_habitsPatched h ⟨rfl, rfl⟩)
def fX0_hasGarment (a0 : Nat) (x1 : Int32) (w : Wd) : Option (Int32 × Wd) :=
  chk (isO w a0 0) (ob (fX7_isWithin x1 0 ((wI w a0 4) - 1) w) (fun q2 => chk (q2.1 = 0 ∨ q2.1 = 1) (some (q2.1, q2.2))))
set_option maxHeartbeats 1000000 in
set_option maxRecDepth 20000 in
theorem okX0_hasGarment {E : Ev} {Q : Option Value → Wd → Prop} {a0 : Nat} {x1 : Int32} {w : Wd} {q : Int32 × Wd} (h : fX0_hasGarment a0 x1 w = some q) (hk : (fun q : Int32 × Wd => Q (some (.int q.1)) q.2) q) : Runs E mX0_hasGarment (7, 0, false) Q 0 0 [(0, .ref a0), (1, .int x1)] [] w := by
  unfold fX0_hasGarment at h
  refine r_iload_n dX0_hasGarment_0 1 rfl ?_
  refine r_iconst (v := 0) dX0_hasGarment_1 (by decide) ?_
  refine r_aload_n dX0_hasGarment_2 0 rfl ?_
  obtain ⟨h1, h⟩ := chk_some h
  refine r_getI (fl_RX0_31 rfl) rfl dX0_hasGarment_3 h1 ?_
  refine r_iconst (v := 1) dX0_hasGarment_6 (by decide) ?_
  refine r_isub dX0_hasGarment_7 ?_
  obtain ⟨q2, g3, h⟩ := ob_some h
  refine r_callSN (d' := (6, 0, false)) (As := [.int x1, .int 0, .int ((wI w a0 4) - 1)]) (st := []) mds_X7_isWithin (by decide) rfl (by decide) rfl (Nat.le_refl _) (Nat.le_of_ble_eq_true rfl) rfl dX0_hasGarment_8 (ctX7_isWithin g3) (k_I0 ?_)
  obtain ⟨h4, h⟩ := chk_some h
  rw [← Option.some.inj h] at hk
  exact r_ireturn dX0_hasGarment_11 rfl (nb h4) hk
set_option maxHeartbeats 1000000 in
set_option maxRecDepth 20000 in
theorem ctX0_hasGarment {E : Ev} {a0 : Nat} {x1 : Int32} {w : Wd} {q : Int32 × Wd} (h : fX0_hasGarment a0 x1 w = some q) : CT E mX0_hasGarment (7, 0, false) [.ref a0, .int x1] w (QI q) := CT.of pl_RX0 (Nat.le_of_ble_eq_true rfl) (okX0_hasGarment h ⟨rfl, rfl⟩)
def PX0_hoursInStrife_L5 (E : Ev) (Q : Option Value → Wd → Prop) (a0 : Nat) (x1 : Int32) (x2 : Int32) (s : Int32 × Int32 × Wd) : Prop := Runs E mX0_hoursInStrife (6, 0, false) Q 0 5 [(0, .ref a0), (1, .int x1), (2, .int x2), (3, .int s.1), (4, .int s.2.1)] [] s.2.2
def fX0_hoursInStrife_b60 (a0 : Nat) (x1 : Int32) (x2 : Int32) (x3 : Int32) (x4 : Int32) (w : Wd) : Option ((Int32 × Int32 × Wd) ⊕ (Int32 × Wd)) :=
  some (.inl (x3, (x4 + 1), w))
set_option maxHeartbeats 1000000 in
set_option maxRecDepth 20000 in
theorem okX0_hoursInStrife_b60 {E : Ev} {Q : Option Value → Wd → Prop} {a0 : Nat} {x1 : Int32} {x2 : Int32} {x3 : Int32} {x4 : Int32} {w : Wd} {q : (Int32 × Int32 × Wd) ⊕ (Int32 × Wd)} (h : fX0_hoursInStrife_b60 a0 x1 x2 x3 x4 w = some q) (hk : (Sum.elim (PX0_hoursInStrife_L5 E Q a0 x1 x2) (fun q : Int32 × Wd => Q (some (.int q.1)) q.2)) q) : Runs E mX0_hoursInStrife (6, 0, false) Q 0 60 [(0, .ref a0), (1, .int x1), (2, .int x2), (3, .int x3), (4, .int x4)] [] w := by
  unfold fX0_hoursInStrife_b60 at h
  refine r_iinc (v := (x4 + 1)) dX0_hoursInStrife_60 4 rfl rfl (Nat.le_of_ble_eq_true rfl) [(4, .int (x4 + 1)), (0, .ref a0), (1, .int x1), (2, .int x2), (3, .int x3)] rfl ?_
  refine r_goto (tgt := 5) dX0_hoursInStrife_63 (by decide) ?_
  rw [← Option.some.inj h] at hk
  refine r_sub [1, 2, 3, 4, 0] [(0, .ref a0), (1, .int x1), (2, .int x2), (3, .int x3), (4, .int (x4 + 1))] rfl ?_
  exact hk
def fX0_hoursInStrife_L5_body (a0 : Nat) (x1 : Int32) (x2 : Int32) (s : Int32 × Int32 × Wd) : Option ((Int32 × Int32 × Wd) ⊕ (Int32 × Wd)) :=
  if (12 : Int32) ≤ s.2.1 then (wr (some (s.1, s.2.2))) else (chk (isO s.2.2 a0 0) (ob (wR s.2.2 a0 1) (fun o4 => chk (isA s.2.2 o4 2) (chk (inb x1 (wn s.2.2 o4)) (ob (wR s.2.2 o4 (x1).toNatClampNeg) (fun o8 => chk (isO s.2.2 o8 2) (ob (wR s.2.2 o8 0) (fun o11 => chk (isA s.2.2 o11 0) (chk (inb s.2.1 (wn s.2.2 o11)) (bnd (wI s.2.2 o11 (s.2.1).toNatClampNeg) (fun u15 => chk (inb x2 (wn s.2.2 o4)) (ob (wR s.2.2 o4 (x2).toNatClampNeg) (fun o18 => chk (isO s.2.2 o18 2) (ob (wR s.2.2 o18 0) (fun o21 => chk (isA s.2.2 o21 0) (chk (inb s.2.1 (wn s.2.2 o21)) (bnd (wI s.2.2 o21 (s.2.1).toNatClampNeg) (fun u25 => if u15 = 0 then (fX0_hoursInStrife_b60 a0 x1 x2 s.1 s.2.1 s.2.2) else (if u25 = 0 then (fX0_hoursInStrife_b60 a0 x1 x2 s.1 s.2.1 s.2.2) else (if u15 = u25 then (fX0_hoursInStrife_b60 a0 x1 x2 s.1 s.2.1 s.2.2) else (fX0_hoursInStrife_b60 a0 x1 x2 (s.1 + 1) s.2.1 s.2.2)))))))))))))))))))))
set_option maxHeartbeats 1000000 in
set_option maxRecDepth 20000 in
theorem okX0_hoursInStrife_L5_body {E : Ev} {Q : Option Value → Wd → Prop} {a0 : Nat} {x1 : Int32} {x2 : Int32} {s : Int32 × Int32 × Wd} {r : (Int32 × Int32 × Wd) ⊕ (Int32 × Wd)} (h : fX0_hoursInStrife_L5_body a0 x1 x2 s = some r) (hk : (Sum.elim (PX0_hoursInStrife_L5 E Q a0 x1 x2) (fun q : Int32 × Wd => Q (some (.int q.1)) q.2)) r) : PX0_hoursInStrife_L5 E Q a0 x1 x2 s := by
  unfold fX0_hoursInStrife_L5_body at h
  unfold PX0_hoursInStrife_L5
  refine r_iload dX0_hoursInStrife_5 4 rfl ?_
  refine r_bipush (v := 12) dX0_hoursInStrife_7 (by decide) ?_
  refine r_icmp_ge (tgt := 66) dX0_hoursInStrife_9 (by decide) (fun c1 => ?_) (fun c1 => ?_)
  · rw [if_pos c1] at h
    obtain ⟨r2, hr, h⟩ := wr_some h
    rw [hr] at hk
    refine r_iload_n dX0_hoursInStrife_66 3 rfl ?_
    rw [← Option.some.inj h] at hk
    exact r_ireturn dX0_hoursInStrife_67 rfl rfl hk
  · rw [if_neg c1] at h
    refine r_aload_n dX0_hoursInStrife_12 0 rfl ?_
    obtain ⟨h3, h⟩ := chk_some h
    obtain ⟨o4, g5, h⟩ := ob_some h
    refine r_getR (fl_RX0_19 rfl) rfl dX0_hoursInStrife_13 h3 g5 ?_
    refine r_iload_n dX0_hoursInStrife_16 1 rfl ?_
    obtain ⟨h6, h⟩ := chk_some h
    obtain ⟨h7, h⟩ := chk_some h
    obtain ⟨o8, g9, h⟩ := ob_some h
    refine r_aaload 2 (by decide) (by decide) dX0_hoursInStrife_17 h6 h7 g9 ?_
    obtain ⟨h10, h⟩ := chk_some h
    obtain ⟨o11, g12, h⟩ := ob_some h
    refine r_getR (fl_RX0_76 rfl) rfl dX0_hoursInStrife_18 h10 g12 ?_
    refine r_iload dX0_hoursInStrife_21 4 rfl ?_
    obtain ⟨h13, h⟩ := chk_some h
    obtain ⟨h14, h⟩ := chk_some h
    refine r_iaload dX0_hoursInStrife_23 h13 h14 ?_
    obtain ⟨u15, e16, h⟩ := bnd_some h
    refine r_eqI e16 ?_
    refine r_istore dX0_hoursInStrife_24 (Nat.le_of_ble_eq_true rfl) [(5, .int u15), (0, .ref a0), (1, .int x1), (2, .int x2), (3, .int s.1), (4, .int s.2.1)] rfl ?_
    refine r_aload_n dX0_hoursInStrife_26 1 rfl ?_
    refine r_getR (fl_RX0_19 rfl) rfl dX0_hoursInStrife_27 h3 g5 ?_
    refine r_iload_n dX0_hoursInStrife_30 3 rfl ?_
    obtain ⟨h17, h⟩ := chk_some h
    obtain ⟨o18, g19, h⟩ := ob_some h
    refine r_aaload 2 (by decide) (by decide) dX0_hoursInStrife_31 h6 h17 g19 ?_
    obtain ⟨h20, h⟩ := chk_some h
    obtain ⟨o21, g22, h⟩ := ob_some h
    refine r_getR (fl_RX0_76 rfl) rfl dX0_hoursInStrife_32 h20 g22 ?_
    refine r_iload dX0_hoursInStrife_35 5 rfl ?_
    obtain ⟨h23, h⟩ := chk_some h
    obtain ⟨h24, h⟩ := chk_some h
    refine r_iaload dX0_hoursInStrife_37 h23 h24 ?_
    obtain ⟨u25, e26, h⟩ := bnd_some h
    refine r_eqI e26 ?_
    refine r_istore dX0_hoursInStrife_38 (Nat.le_of_ble_eq_true rfl) [(6, .int u25), (5, .int u15), (0, .ref a0), (1, .int x1), (2, .int x2), (3, .int s.1), (4, .int s.2.1)] rfl ?_
    refine r_iload dX0_hoursInStrife_40 1 rfl ?_
    refine r_if_eq (tgt := 60) dX0_hoursInStrife_42 (by decide) (fun c27 => ?_) (fun c27 => ?_)
    · rw [if_pos c27] at h
      refine r_sub [2, 3, 4, 5, 6] [(0, .ref a0), (1, .int x1), (2, .int x2), (3, .int s.1), (4, .int s.2.1)] rfl ?_
      exact okX0_hoursInStrife_b60 h hk
    · rw [if_neg c27] at h
      refine r_iload dX0_hoursInStrife_45 0 rfl ?_
      refine r_if_eq (tgt := 60) dX0_hoursInStrife_47 (by decide) (fun c28 => ?_) (fun c28 => ?_)
      · rw [if_pos c28] at h
        refine r_sub [2, 3, 4, 5, 6] [(0, .ref a0), (1, .int x1), (2, .int x2), (3, .int s.1), (4, .int s.2.1)] rfl ?_
        exact okX0_hoursInStrife_b60 h hk
      · rw [if_neg c28] at h
        refine r_iload dX0_hoursInStrife_50 1 rfl ?_
        refine r_iload dX0_hoursInStrife_52 0 rfl ?_
        refine r_icmp_eq (tgt := 60) dX0_hoursInStrife_54 (by decide) (fun c29 => ?_) (fun c29 => ?_)
        · rw [if_pos c29] at h
          refine r_sub [2, 3, 4, 5, 6] [(0, .ref a0), (1, .int x1), (2, .int x2), (3, .int s.1), (4, .int s.2.1)] rfl ?_
          exact okX0_hoursInStrife_b60 h hk
        · rw [if_neg c29] at h
          refine r_iinc (v := (s.1 + 1)) dX0_hoursInStrife_57 5 rfl rfl (Nat.le_of_ble_eq_true rfl) [(3, .int (s.1 + 1)), (6, .int u25), (5, .int u15), (0, .ref a0), (1, .int x1), (2, .int x2), (4, .int s.2.1)] rfl ?_
          refine r_sub [3, 4, 5, 0, 6] [(0, .ref a0), (1, .int x1), (2, .int x2), (3, .int (s.1 + 1)), (4, .int s.2.1)] rfl ?_
          exact okX0_hoursInStrife_b60 h hk
def fX0_hoursInStrife_L5 (a0 : Nat) (x1 : Int32) (x2 : Int32) (s : Int32 × Int32 × Wd) : Option (Int32 × Wd) := it (fX0_hoursInStrife_L5_body a0 x1 x2) FU s
set_option maxHeartbeats 1000000 in
set_option maxRecDepth 20000 in
theorem okX0_hoursInStrife_L5 {E : Ev} {Q : Option Value → Wd → Prop} {a0 : Nat} {x1 : Int32} {x2 : Int32} {s : Int32 × Int32 × Wd} {r : Int32 × Wd} (h : fX0_hoursInStrife_L5 a0 x1 x2 s = some r) (hk : (fun q : Int32 × Wd => Q (some (.int q.1)) q.2) r) : PX0_hoursInStrife_L5 E Q a0 x1 x2 s := it_runs (fun s r h hk => okX0_hoursInStrife_L5_body h hk) FU s r h hk
def fX0_hoursInStrife (a0 : Nat) (x1 : Int32) (x2 : Int32) (w : Wd) : Option (Int32 × Wd) :=
  fX0_hoursInStrife_L5 a0 x1 x2 (0, 0, w)
set_option maxHeartbeats 1000000 in
set_option maxRecDepth 20000 in
theorem okX0_hoursInStrife {E : Ev} {Q : Option Value → Wd → Prop} {a0 : Nat} {x1 : Int32} {x2 : Int32} {w : Wd} {q : Int32 × Wd} (h : fX0_hoursInStrife a0 x1 x2 w = some q) (hk : (fun q : Int32 × Wd => Q (some (.int q.1)) q.2) q) : Runs E mX0_hoursInStrife (6, 0, false) Q 0 0 [(0, .ref a0), (1, .int x1), (2, .int x2)] [] w := by
  unfold fX0_hoursInStrife at h
  refine r_iconst (v := 0) dX0_hoursInStrife_0 (by decide) ?_
  refine r_istore_n dX0_hoursInStrife_1 rfl (Nat.le_of_ble_eq_true rfl) [(3, .int 0), (0, .ref a0), (1, .int x1), (2, .int x2)] rfl ?_
  refine r_iconst (v := 0) dX0_hoursInStrife_2 (by decide) ?_
  refine r_istore dX0_hoursInStrife_3 (Nat.le_of_ble_eq_true rfl) [(4, .int 0), (3, .int 0), (0, .ref a0), (1, .int x1), (2, .int x2)] rfl ?_
  refine r_sub [2, 3, 4, 1, 0] [(0, .ref a0), (1, .int x1), (2, .int x2), (3, .int 0), (4, .int 0)] rfl ?_
  exact okX0_hoursInStrife_L5 h hk
set_option maxHeartbeats 1000000 in
set_option maxRecDepth 20000 in
theorem ctX0_hoursInStrife {E : Ev} {a0 : Nat} {x1 : Int32} {x2 : Int32} {w : Wd} {q : Int32 × Wd} (h : fX0_hoursInStrife a0 x1 x2 w = some q) : CT E mX0_hoursInStrife (6, 0, false) [.ref a0, .int x1, .int x2] w (QI q) := CT.of pl_RX0 (Nat.le_of_ble_eq_true rfl) (okX0_hoursInStrife h ⟨rfl, rfl⟩)
def fX2_canGo_b30 (s0 : Int32) (w : Wd) : Option (Int32 × Wd) :=
  chk (s0 = 0 ∨ s0 = 1) (some (s0, w))
set_option maxHeartbeats 1000000 in
set_option maxRecDepth 20000 in
theorem okX2_canGo_b30 {E : Ev} {Q : Option Value → Wd → Prop} {s0 : Int32} {w : Wd} {q : Int32 × Wd} (h : fX2_canGo_b30 s0 w = some q) (hk : (fun q : Int32 × Wd => Q (some (.int q.1)) q.2) q) : Runs E mX2_canGo (6, 0, false) Q 0 30 [] [.int s0] w := by
  unfold fX2_canGo_b30 at h
  obtain ⟨h1, h⟩ := chk_some h
  rw [← Option.some.inj h] at hk
  exact r_ireturn dX2_canGo_30 rfl (nb h1) hk
def fX2_canGo_b25 (w : Wd) : Option (Int32 × Wd) :=
  fX2_canGo_b30 1 w
set_option maxHeartbeats 1000000 in
set_option maxRecDepth 20000 in
theorem okX2_canGo_b25 {E : Ev} {Q : Option Value → Wd → Prop} {w : Wd} {q : Int32 × Wd} (h : fX2_canGo_b25 w = some q) (hk : (fun q : Int32 × Wd => Q (some (.int q.1)) q.2) q) : Runs E mX2_canGo (6, 0, false) Q 0 25 [] [] w := by
  unfold fX2_canGo_b25 at h
  refine r_iconst (v := 1) dX2_canGo_25 (by decide) ?_
  refine r_goto (tgt := 30) dX2_canGo_26 (by decide) ?_
  refine r_sub [] [] rfl ?_
  exact okX2_canGo_b30 h hk
def fX2_canGo (a0 : Nat) (w : Wd) : Option (Int32 × Wd) :=
  chk (isO w a0 2) (if (wI w a0 2) = 1 then (fX2_canGo_b25 w) else (if (wI w a0 2) = 3 then (fX2_canGo_b25 w) else (if (wI w a0 2) = 6 then (fX2_canGo_b25 w) else (fX2_canGo_b30 0 w))))
set_option maxHeartbeats 1000000 in
set_option maxRecDepth 20000 in
theorem okX2_canGo {E : Ev} {Q : Option Value → Wd → Prop} {a0 : Nat} {w : Wd} {q : Int32 × Wd} (h : fX2_canGo a0 w = some q) (hk : (fun q : Int32 × Wd => Q (some (.int q.1)) q.2) q) : Runs E mX2_canGo (6, 0, false) Q 0 0 [(0, .ref a0)] [] w := by
  unfold fX2_canGo at h
  refine r_aload_n dX2_canGo_0 0 rfl ?_
  obtain ⟨h1, h⟩ := chk_some h
  refine r_getI (fl_RX2_18 rfl) rfl dX2_canGo_1 h1 ?_
  refine r_iconst (v := 1) dX2_canGo_4 (by decide) ?_
  refine r_icmp_eq (tgt := 25) dX2_canGo_5 (by decide) (fun c2 => ?_) (fun c2 => ?_)
  · rw [if_pos c2] at h
    refine r_sub [] [] rfl ?_
    exact okX2_canGo_b25 h hk
  · rw [if_neg c2] at h
    refine r_aload_n dX2_canGo_8 0 rfl ?_
    refine r_getI (fl_RX2_18 rfl) rfl dX2_canGo_9 h1 ?_
    refine r_iconst (v := 3) dX2_canGo_12 (by decide) ?_
    refine r_icmp_eq (tgt := 25) dX2_canGo_13 (by decide) (fun c3 => ?_) (fun c3 => ?_)
    · rw [if_pos c3] at h
      refine r_sub [] [] rfl ?_
      exact okX2_canGo_b25 h hk
    · rw [if_neg c3] at h
      refine r_aload_n dX2_canGo_16 0 rfl ?_
      refine r_getI (fl_RX2_18 rfl) rfl dX2_canGo_17 h1 ?_
      refine r_bipush (v := 6) dX2_canGo_20 (by decide) ?_
      refine r_icmp_ne (tgt := 29) dX2_canGo_22 (by decide) (fun c4 => ?_) (fun c4 => ?_)
      · rw [if_neg c4] at h
        refine r_iconst (v := 0) dX2_canGo_29 (by decide) ?_
        refine r_sub [] [] rfl ?_
        exact okX2_canGo_b30 h hk
      · rw [if_pos c4] at h
        refine r_sub [] [] rfl ?_
        exact okX2_canGo_b25 h hk
set_option maxHeartbeats 1000000 in
set_option maxRecDepth 20000 in
theorem ctX2_canGo {E : Ev} {a0 : Nat} {w : Wd} {q : Int32 × Wd} (h : fX2_canGo a0 w = some q) : CT E mX2_canGo (6, 0, false) [.ref a0] w (QI q) := CT.of pl_RX2 (Nat.le_of_ble_eq_true rfl) (okX2_canGo h ⟨rfl, rfl⟩)
def fX0_wouldGo_b28 (s0 : Int32) (w : Wd) : Option (Int32 × Wd) :=
  chk (s0 = 0 ∨ s0 = 1) (some (s0, w))
set_option maxHeartbeats 1000000 in
set_option maxRecDepth 20000 in
theorem okX0_wouldGo_b28 {E : Ev} {Q : Option Value → Wd → Prop} {s0 : Int32} {w : Wd} {q : Int32 × Wd} (h : fX0_wouldGo_b28 s0 w = some q) (hk : (fun q : Int32 × Wd => Q (some (.int q.1)) q.2) q) : Runs E mX0_wouldGo (7, 0, false) Q 0 28 [] [.int s0] w := by
  unfold fX0_wouldGo_b28 at h
  obtain ⟨h1, h⟩ := chk_some h
  rw [← Option.some.inj h] at hk
  exact r_ireturn dX0_wouldGo_28 rfl (nb h1) hk
def fX0_wouldGo_b27 (w : Wd) : Option (Int32 × Wd) :=
  fX0_wouldGo_b28 0 w
set_option maxHeartbeats 1000000 in
set_option maxRecDepth 20000 in
theorem okX0_wouldGo_b27 {E : Ev} {Q : Option Value → Wd → Prop} {w : Wd} {q : Int32 × Wd} (h : fX0_wouldGo_b27 w = some q) (hk : (fun q : Int32 × Wd => Q (some (.int q.1)) q.2) q) : Runs E mX0_wouldGo (7, 0, false) Q 0 27 [] [] w := by
  unfold fX0_wouldGo_b27 at h
  refine r_iconst (v := 0) dX0_wouldGo_27 (by decide) ?_
  refine r_sub [] [] rfl ?_
  exact okX0_wouldGo_b28 h hk
def fX0_wouldGo (a0 : Nat) (x1 : Int32) (x2 : Int32) (w : Wd) : Option (Int32 × Wd) :=
  chk (isO w a0 0) (ob (wR w a0 1) (fun o2 => chk (isA w o2 2) (chk (inb x1 (wn w o2)) (ob (wR w o2 (x1).toNatClampNeg) (fun o6 => chk (isO w o6 2) (ob (fX2_canGo o6 w) (fun q9 => if q9.1 = 0 then (fX0_wouldGo_b27 q9.2) else (chk (isO q9.2 a0 0) (ob (fX0_pullOf a0 x1 x2 q9.2) (fun q13 => if q13.1 < 10 then (fX0_wouldGo_b27 q13.2) else (fX0_wouldGo_b28 1 q13.2)))))))))))
set_option maxHeartbeats 1000000 in
set_option maxRecDepth 20000 in
theorem okX0_wouldGo {E : Ev} {Q : Option Value → Wd → Prop} {a0 : Nat} {x1 : Int32} {x2 : Int32} {w : Wd} {q : Int32 × Wd} (h : fX0_wouldGo a0 x1 x2 w = some q) (hk : (fun q : Int32 × Wd => Q (some (.int q.1)) q.2) q) : Runs E mX0_wouldGo (7, 0, false) Q 0 0 [(0, .ref a0), (1, .int x1), (2, .int x2)] [] w := by
  unfold fX0_wouldGo at h
  refine r_aload_n dX0_wouldGo_0 0 rfl ?_
  obtain ⟨h1, h⟩ := chk_some h
  obtain ⟨o2, g3, h⟩ := ob_some h
  refine r_getR (fl_RX0_19 rfl) rfl dX0_wouldGo_1 h1 g3 ?_
  refine r_iload_n dX0_wouldGo_4 1 rfl ?_
  obtain ⟨h4, h⟩ := chk_some h
  obtain ⟨h5, h⟩ := chk_some h
  obtain ⟨o6, g7, h⟩ := ob_some h
  refine r_aaload 2 (by decide) (by decide) dX0_wouldGo_5 h4 h5 g7 ?_
  obtain ⟨h8, h⟩ := chk_some h
  obtain ⟨q9, g10, h⟩ := ob_some h
  refine r_callV (d' := (6, 0, false)) (As := []) (st := []) mdv_X2_canGo tm_RX0_102 (by decide) rfl rfl (by decide) rfl (Nat.le_refl _) (Nat.le_of_ble_eq_true rfl) rfl dX0_wouldGo_6 h8 (ctX2_canGo g10) (k_I0 ?_)
  refine r_if_eq (tgt := 27) dX0_wouldGo_9 (by decide) (fun c11 => ?_) (fun c11 => ?_)
  · rw [if_pos c11] at h
    refine r_sub [] [] rfl ?_
    exact okX0_wouldGo_b27 h hk
  · rw [if_neg c11] at h
    refine r_aload_n dX0_wouldGo_12 0 rfl ?_
    refine r_iload_n dX0_wouldGo_13 1 rfl ?_
    refine r_iload_n dX0_wouldGo_14 2 rfl ?_
    obtain ⟨h12, h⟩ := chk_some h
    obtain ⟨q13, g14, h⟩ := ob_some h
    refine r_callV (d' := (6, 0, false)) (As := [.int x1, .int x2]) (st := []) mdv_X0_pullOf tm_RX0_91 (by decide) rfl rfl (by decide) rfl (Nat.le_refl _) (Nat.le_of_ble_eq_true rfl) rfl dX0_wouldGo_15 h12 (ctX0_pullOf g14) (k_I0 ?_)
    refine r_bipush (v := 10) dX0_wouldGo_18 (by decide) ?_
    refine r_icmp_lt (tgt := 27) dX0_wouldGo_20 (by decide) (fun c15 => ?_) (fun c15 => ?_)
    · rw [if_pos c15] at h
      refine r_sub [] [] rfl ?_
      exact okX0_wouldGo_b27 h hk
    · rw [if_neg c15] at h
      refine r_iconst (v := 1) dX0_wouldGo_23 (by decide) ?_
      refine r_goto (tgt := 28) dX0_wouldGo_24 (by decide) ?_
      refine r_sub [] [] rfl ?_
      exact okX0_wouldGo_b28 h hk
set_option maxHeartbeats 1000000 in
set_option maxRecDepth 20000 in
theorem ctX0_wouldGo {E : Ev} {a0 : Nat} {x1 : Int32} {x2 : Int32} {w : Wd} {q : Int32 × Wd} (h : fX0_wouldGo a0 x1 x2 w = some q) : CT E mX0_wouldGo (7, 0, false) [.ref a0, .int x1, .int x2] w (QI q) := CT.of pl_RX0 (Nat.le_of_ble_eq_true rfl) (okX0_wouldGo h ⟨rfl, rfl⟩)
def PX0_hoursToGo_L4 (E : Ev) (Q : Option Value → Wd → Prop) (a0 : Nat) (x1 : Int32) (s : Int32 × Int32 × Wd) : Prop := Runs E mX0_hoursToGo (8, 0, false) Q 0 4 [(0, .ref a0), (1, .int x1), (2, .int s.1), (3, .int s.2.1)] [] s.2.2
def fX0_hoursToGo_b22 (a0 : Nat) (x1 : Int32) (x2 : Int32) (x3 : Int32) (w : Wd) : Option ((Int32 × Int32 × Wd) ⊕ (Int32 × Wd)) :=
  some (.inl (x2, (x3 + 1), w))
set_option maxHeartbeats 1000000 in
set_option maxRecDepth 20000 in
theorem okX0_hoursToGo_b22 {E : Ev} {Q : Option Value → Wd → Prop} {a0 : Nat} {x1 : Int32} {x2 : Int32} {x3 : Int32} {w : Wd} {q : (Int32 × Int32 × Wd) ⊕ (Int32 × Wd)} (h : fX0_hoursToGo_b22 a0 x1 x2 x3 w = some q) (hk : (Sum.elim (PX0_hoursToGo_L4 E Q a0 x1) (fun q : Int32 × Wd => Q (some (.int q.1)) q.2)) q) : Runs E mX0_hoursToGo (8, 0, false) Q 0 22 [(0, .ref a0), (1, .int x1), (2, .int x2), (3, .int x3)] [] w := by
  unfold fX0_hoursToGo_b22 at h
  refine r_iinc (v := (x3 + 1)) dX0_hoursToGo_22 3 rfl rfl (Nat.le_of_ble_eq_true rfl) [(3, .int (x3 + 1)), (0, .ref a0), (1, .int x1), (2, .int x2)] rfl ?_
  refine r_goto (tgt := 4) dX0_hoursToGo_25 (by decide) ?_
  rw [← Option.some.inj h] at hk
  refine r_sub [1, 2, 3, 0] [(0, .ref a0), (1, .int x1), (2, .int x2), (3, .int (x3 + 1))] rfl ?_
  exact hk
def fX0_hoursToGo_L4_body (a0 : Nat) (x1 : Int32) (s : Int32 × Int32 × Wd) : Option ((Int32 × Int32 × Wd) ⊕ (Int32 × Wd)) :=
  if (12 : Int32) ≤ s.2.1 then (wr (some (s.1, s.2.2))) else (chk (isO s.2.2 a0 0) (ob (fX0_wouldGo a0 x1 s.2.1 s.2.2) (fun q4 => if q4.1 = 0 then (fX0_hoursToGo_b22 a0 x1 s.1 s.2.1 q4.2) else (fX0_hoursToGo_b22 a0 x1 (s.1 + 1) s.2.1 q4.2))))
set_option maxHeartbeats 1000000 in
set_option maxRecDepth 20000 in
theorem okX0_hoursToGo_L4_body {E : Ev} {Q : Option Value → Wd → Prop} {a0 : Nat} {x1 : Int32} {s : Int32 × Int32 × Wd} {r : (Int32 × Int32 × Wd) ⊕ (Int32 × Wd)} (h : fX0_hoursToGo_L4_body a0 x1 s = some r) (hk : (Sum.elim (PX0_hoursToGo_L4 E Q a0 x1) (fun q : Int32 × Wd => Q (some (.int q.1)) q.2)) r) : PX0_hoursToGo_L4 E Q a0 x1 s := by
  unfold fX0_hoursToGo_L4_body at h
  unfold PX0_hoursToGo_L4
  refine r_iload_n dX0_hoursToGo_4 3 rfl ?_
  refine r_bipush (v := 12) dX0_hoursToGo_5 (by decide) ?_
  refine r_icmp_ge (tgt := 28) dX0_hoursToGo_7 (by decide) (fun c1 => ?_) (fun c1 => ?_)
  · rw [if_pos c1] at h
    obtain ⟨r2, hr, h⟩ := wr_some h
    rw [hr] at hk
    refine r_iload_n dX0_hoursToGo_28 2 rfl ?_
    rw [← Option.some.inj h] at hk
    exact r_ireturn dX0_hoursToGo_29 rfl rfl hk
  · rw [if_neg c1] at h
    refine r_aload_n dX0_hoursToGo_10 0 rfl ?_
    refine r_iload_n dX0_hoursToGo_11 1 rfl ?_
    refine r_iload_n dX0_hoursToGo_12 3 rfl ?_
    obtain ⟨h3, h⟩ := chk_some h
    obtain ⟨q4, g5, h⟩ := ob_some h
    refine r_callV (d' := (7, 0, false)) (As := [.int x1, .int s.2.1]) (st := []) mdv_X0_wouldGo tm_RX0_106 (by decide) rfl rfl (by decide) rfl (Nat.le_refl _) (Nat.le_of_ble_eq_true rfl) rfl dX0_hoursToGo_13 h3 (ctX0_wouldGo g5) (k_I0 ?_)
    refine r_if_eq (tgt := 22) dX0_hoursToGo_16 (by decide) (fun c6 => ?_) (fun c6 => ?_)
    · rw [if_pos c6] at h
      refine r_sub [0, 1, 2, 3] [(0, .ref a0), (1, .int x1), (2, .int s.1), (3, .int s.2.1)] rfl ?_
      exact okX0_hoursToGo_b22 h hk
    · rw [if_neg c6] at h
      refine r_iinc (v := (s.1 + 1)) dX0_hoursToGo_19 2 rfl rfl (Nat.le_of_ble_eq_true rfl) [(2, .int (s.1 + 1)), (0, .ref a0), (1, .int x1), (3, .int s.2.1)] rfl ?_
      refine r_sub [1, 2, 0, 3] [(0, .ref a0), (1, .int x1), (2, .int (s.1 + 1)), (3, .int s.2.1)] rfl ?_
      exact okX0_hoursToGo_b22 h hk
def fX0_hoursToGo_L4 (a0 : Nat) (x1 : Int32) (s : Int32 × Int32 × Wd) : Option (Int32 × Wd) := it (fX0_hoursToGo_L4_body a0 x1) FU s
set_option maxHeartbeats 1000000 in
set_option maxRecDepth 20000 in
theorem okX0_hoursToGo_L4 {E : Ev} {Q : Option Value → Wd → Prop} {a0 : Nat} {x1 : Int32} {s : Int32 × Int32 × Wd} {r : Int32 × Wd} (h : fX0_hoursToGo_L4 a0 x1 s = some r) (hk : (fun q : Int32 × Wd => Q (some (.int q.1)) q.2) r) : PX0_hoursToGo_L4 E Q a0 x1 s := it_runs (fun s r h hk => okX0_hoursToGo_L4_body h hk) FU s r h hk
def fX0_hoursToGo (a0 : Nat) (x1 : Int32) (w : Wd) : Option (Int32 × Wd) :=
  fX0_hoursToGo_L4 a0 x1 (0, 0, w)
set_option maxHeartbeats 1000000 in
set_option maxRecDepth 20000 in
theorem okX0_hoursToGo {E : Ev} {Q : Option Value → Wd → Prop} {a0 : Nat} {x1 : Int32} {w : Wd} {q : Int32 × Wd} (h : fX0_hoursToGo a0 x1 w = some q) (hk : (fun q : Int32 × Wd => Q (some (.int q.1)) q.2) q) : Runs E mX0_hoursToGo (8, 0, false) Q 0 0 [(0, .ref a0), (1, .int x1)] [] w := by
  unfold fX0_hoursToGo at h
  refine r_iconst (v := 0) dX0_hoursToGo_0 (by decide) ?_
  refine r_istore_n dX0_hoursToGo_1 rfl (Nat.le_of_ble_eq_true rfl) [(2, .int 0), (0, .ref a0), (1, .int x1)] rfl ?_
  refine r_iconst (v := 0) dX0_hoursToGo_2 (by decide) ?_
  refine r_istore_n dX0_hoursToGo_3 rfl (Nat.le_of_ble_eq_true rfl) [(3, .int 0), (2, .int 0), (0, .ref a0), (1, .int x1)] rfl ?_
  refine r_sub [2, 3, 1, 0] [(0, .ref a0), (1, .int x1), (2, .int 0), (3, .int 0)] rfl ?_
  exact okX0_hoursToGo_L4 h hk
set_option maxHeartbeats 1000000 in
set_option maxRecDepth 20000 in
theorem ctX0_hoursToGo {E : Ev} {a0 : Nat} {x1 : Int32} {w : Wd} {q : Int32 × Wd} (h : fX0_hoursToGo a0 x1 w = some q) : CT E mX0_hoursToGo (8, 0, false) [.ref a0, .int x1] w (QI q) := CT.of pl_RX0 (Nat.le_of_ble_eq_true rfl) (okX0_hoursToGo h ⟨rfl, rfl⟩)
def fX0_isFullOfGarments_b14 (s0 : Int32) (w : Wd) : Option (Int32 × Wd) :=
  chk (s0 = 0 ∨ s0 = 1) (some (s0, w))
set_option maxHeartbeats 1000000 in
set_option maxRecDepth 20000 in
theorem okX0_isFullOfGarments_b14 {E : Ev} {Q : Option Value → Wd → Prop} {s0 : Int32} {w : Wd} {q : Int32 × Wd} (h : fX0_isFullOfGarments_b14 s0 w = some q) (hk : (fun q : Int32 × Wd => Q (some (.int q.1)) q.2) q) : Runs E mX0_isFullOfGarments (6, 0, false) Q 0 14 [] [.int s0] w := by
  unfold fX0_isFullOfGarments_b14 at h
  obtain ⟨h1, h⟩ := chk_some h
  rw [← Option.some.inj h] at hk
  exact r_ireturn dX0_isFullOfGarments_14 rfl (nb h1) hk
def fX0_isFullOfGarments (a0 : Nat) (w : Wd) : Option (Int32 × Wd) :=
  chk (isO w a0 0) (if (wI w a0 4) < 8 then (fX0_isFullOfGarments_b14 0 w) else (fX0_isFullOfGarments_b14 1 w))
set_option maxHeartbeats 1000000 in
set_option maxRecDepth 20000 in
theorem okX0_isFullOfGarments {E : Ev} {Q : Option Value → Wd → Prop} {a0 : Nat} {w : Wd} {q : Int32 × Wd} (h : fX0_isFullOfGarments a0 w = some q) (hk : (fun q : Int32 × Wd => Q (some (.int q.1)) q.2) q) : Runs E mX0_isFullOfGarments (6, 0, false) Q 0 0 [(0, .ref a0)] [] w := by
  unfold fX0_isFullOfGarments at h
  refine r_aload_n dX0_isFullOfGarments_0 0 rfl ?_
  obtain ⟨h1, h⟩ := chk_some h
  refine r_getI (fl_RX0_31 rfl) rfl dX0_isFullOfGarments_1 h1 ?_
  refine r_bipush (v := 8) dX0_isFullOfGarments_4 (by decide) ?_
  refine r_icmp_lt (tgt := 13) dX0_isFullOfGarments_6 (by decide) (fun c2 => ?_) (fun c2 => ?_)
  · rw [if_pos c2] at h
    refine r_iconst (v := 0) dX0_isFullOfGarments_13 (by decide) ?_
    refine r_sub [] [] rfl ?_
    exact okX0_isFullOfGarments_b14 h hk
  · rw [if_neg c2] at h
    refine r_iconst (v := 1) dX0_isFullOfGarments_9 (by decide) ?_
    refine r_goto (tgt := 14) dX0_isFullOfGarments_10 (by decide) ?_
    refine r_sub [] [] rfl ?_
    exact okX0_isFullOfGarments_b14 h hk
set_option maxHeartbeats 1000000 in
set_option maxRecDepth 20000 in
theorem ctX0_isFullOfGarments {E : Ev} {a0 : Nat} {w : Wd} {q : Int32 × Wd} (h : fX0_isFullOfGarments a0 w = some q) : CT E mX0_isFullOfGarments (6, 0, false) [.ref a0] w (QI q) := CT.of pl_RX0 (Nat.le_of_ble_eq_true rfl) (okX0_isFullOfGarments h ⟨rfl, rfl⟩)
def fX0_isFullOfPeople_b14 (s0 : Int32) (w : Wd) : Option (Int32 × Wd) :=
  chk (s0 = 0 ∨ s0 = 1) (some (s0, w))
set_option maxHeartbeats 1000000 in
set_option maxRecDepth 20000 in
theorem okX0_isFullOfPeople_b14 {E : Ev} {Q : Option Value → Wd → Prop} {s0 : Int32} {w : Wd} {q : Int32 × Wd} (h : fX0_isFullOfPeople_b14 s0 w = some q) (hk : (fun q : Int32 × Wd => Q (some (.int q.1)) q.2) q) : Runs E mX0_isFullOfPeople (6, 0, false) Q 0 14 [] [.int s0] w := by
  unfold fX0_isFullOfPeople_b14 at h
  obtain ⟨h1, h⟩ := chk_some h
  rw [← Option.some.inj h] at hk
  exact r_ireturn dX0_isFullOfPeople_14 rfl (nb h1) hk
def fX0_isFullOfPeople (a0 : Nat) (w : Wd) : Option (Int32 × Wd) :=
  chk (isO w a0 0) (if (wI w a0 3) < 6 then (fX0_isFullOfPeople_b14 0 w) else (fX0_isFullOfPeople_b14 1 w))
set_option maxHeartbeats 1000000 in
set_option maxRecDepth 20000 in
theorem okX0_isFullOfPeople {E : Ev} {Q : Option Value → Wd → Prop} {a0 : Nat} {w : Wd} {q : Int32 × Wd} (h : fX0_isFullOfPeople a0 w = some q) (hk : (fun q : Int32 × Wd => Q (some (.int q.1)) q.2) q) : Runs E mX0_isFullOfPeople (6, 0, false) Q 0 0 [(0, .ref a0)] [] w := by
  unfold fX0_isFullOfPeople at h
  refine r_aload_n dX0_isFullOfPeople_0 0 rfl ?_
  obtain ⟨h1, h⟩ := chk_some h
  refine r_getI (fl_RX0_27 rfl) rfl dX0_isFullOfPeople_1 h1 ?_
  refine r_bipush (v := 6) dX0_isFullOfPeople_4 (by decide) ?_
  refine r_icmp_lt (tgt := 13) dX0_isFullOfPeople_6 (by decide) (fun c2 => ?_) (fun c2 => ?_)
  · rw [if_pos c2] at h
    refine r_iconst (v := 0) dX0_isFullOfPeople_13 (by decide) ?_
    refine r_sub [] [] rfl ?_
    exact okX0_isFullOfPeople_b14 h hk
  · rw [if_neg c2] at h
    refine r_iconst (v := 1) dX0_isFullOfPeople_9 (by decide) ?_
    refine r_goto (tgt := 14) dX0_isFullOfPeople_10 (by decide) ?_
    refine r_sub [] [] rfl ?_
    exact okX0_isFullOfPeople_b14 h hk
set_option maxHeartbeats 1000000 in
set_option maxRecDepth 20000 in
theorem ctX0_isFullOfPeople {E : Ev} {a0 : Nat} {w : Wd} {q : Int32 × Wd} (h : fX0_isFullOfPeople a0 w = some q) : CT E mX0_isFullOfPeople (6, 0, false) [.ref a0] w (QI q) := CT.of pl_RX0 (Nat.le_of_ble_eq_true rfl) (okX0_isFullOfPeople h ⟨rfl, rfl⟩)
def fX0_isGoing_b27 (s0 : Int32) (w : Wd) : Option (Int32 × Wd) :=
  chk (s0 = 0 ∨ s0 = 1) (some (s0, w))
set_option maxHeartbeats 1000000 in
set_option maxRecDepth 20000 in
theorem okX0_isGoing_b27 {E : Ev} {Q : Option Value → Wd → Prop} {s0 : Int32} {w : Wd} {q : Int32 × Wd} (h : fX0_isGoing_b27 s0 w = some q) (hk : (fun q : Int32 × Wd => Q (some (.int q.1)) q.2) q) : Runs E mX0_isGoing (8, 0, false) Q 0 27 [] [.int s0] w := by
  unfold fX0_isGoing_b27 at h
  obtain ⟨h1, h⟩ := chk_some h
  rw [← Option.some.inj h] at hk
  exact r_ireturn dX0_isGoing_27 rfl (nb h1) hk
def fX0_isGoing_b26 (w : Wd) : Option (Int32 × Wd) :=
  fX0_isGoing_b27 0 w
set_option maxHeartbeats 1000000 in
set_option maxRecDepth 20000 in
theorem okX0_isGoing_b26 {E : Ev} {Q : Option Value → Wd → Prop} {w : Wd} {q : Int32 × Wd} (h : fX0_isGoing_b26 w = some q) (hk : (fun q : Int32 × Wd => Q (some (.int q.1)) q.2) q) : Runs E mX0_isGoing (8, 0, false) Q 0 26 [] [] w := by
  unfold fX0_isGoing_b26 at h
  refine r_iconst (v := 0) dX0_isGoing_26 (by decide) ?_
  refine r_sub [] [] rfl ?_
  exact okX0_isGoing_b27 h hk
def fX0_isGoing (a0 : Nat) (x1 : Int32) (x2 : Int32) (w : Wd) : Option (Int32 × Wd) :=
  chk (isO w a0 0) (ob (wR w a0 1) (fun o2 => chk (isA w o2 2) (chk (inb x1 (wn w o2)) (ob (wR w o2 (x1).toNatClampNeg) (fun o6 => chk (isO w o6 2) (if (wI w o6 4) = (-1) then (ob (fX0_wouldGo a0 x1 x2 w) (fun q10 => if q10.1 = 0 then (fX0_isGoing_b26 q10.2) else (fX0_isGoing_b27 1 q10.2))) else (fX0_isGoing_b26 w)))))))
set_option maxHeartbeats 1000000 in
set_option maxRecDepth 20000 in
theorem okX0_isGoing {E : Ev} {Q : Option Value → Wd → Prop} {a0 : Nat} {x1 : Int32} {x2 : Int32} {w : Wd} {q : Int32 × Wd} (h : fX0_isGoing a0 x1 x2 w = some q) (hk : (fun q : Int32 × Wd => Q (some (.int q.1)) q.2) q) : Runs E mX0_isGoing (8, 0, false) Q 0 0 [(0, .ref a0), (1, .int x1), (2, .int x2)] [] w := by
  unfold fX0_isGoing at h
  refine r_aload_n dX0_isGoing_0 0 rfl ?_
  obtain ⟨h1, h⟩ := chk_some h
  obtain ⟨o2, g3, h⟩ := ob_some h
  refine r_getR (fl_RX0_19 rfl) rfl dX0_isGoing_1 h1 g3 ?_
  refine r_iload_n dX0_isGoing_4 1 rfl ?_
  obtain ⟨h4, h⟩ := chk_some h
  obtain ⟨h5, h⟩ := chk_some h
  obtain ⟨o6, g7, h⟩ := ob_some h
  refine r_aaload 2 (by decide) (by decide) dX0_isGoing_5 h4 h5 g7 ?_
  obtain ⟨h8, h⟩ := chk_some h
  refine r_getI (fl_RX0_60 rfl) rfl dX0_isGoing_6 h8 ?_
  refine r_iconst (v := (-1)) dX0_isGoing_9 (by decide) ?_
  refine r_icmp_ne (tgt := 26) dX0_isGoing_10 (by decide) (fun c9 => ?_) (fun c9 => ?_)
  · rw [if_neg c9] at h
    refine r_sub [] [] rfl ?_
    exact okX0_isGoing_b26 h hk
  · rw [if_pos c9] at h
    refine r_aload_n dX0_isGoing_13 0 rfl ?_
    refine r_iload_n dX0_isGoing_14 1 rfl ?_
    refine r_iload_n dX0_isGoing_15 2 rfl ?_
    obtain ⟨q10, g11, h⟩ := ob_some h
    refine r_callV (d' := (7, 0, false)) (As := [.int x1, .int x2]) (st := []) mdv_X0_wouldGo tm_RX0_106 (by decide) rfl rfl (by decide) rfl (Nat.le_refl _) (Nat.le_of_ble_eq_true rfl) rfl dX0_isGoing_16 h1 (ctX0_wouldGo g11) (k_I0 ?_)
    refine r_if_eq (tgt := 26) dX0_isGoing_19 (by decide) (fun c12 => ?_) (fun c12 => ?_)
    · rw [if_pos c12] at h
      refine r_sub [] [] rfl ?_
      exact okX0_isGoing_b26 h hk
    · rw [if_neg c12] at h
      refine r_iconst (v := 1) dX0_isGoing_22 (by decide) ?_
      refine r_goto (tgt := 27) dX0_isGoing_23 (by decide) ?_
      refine r_sub [] [] rfl ?_
      exact okX0_isGoing_b27 h hk
set_option maxHeartbeats 1000000 in
set_option maxRecDepth 20000 in
theorem ctX0_isGoing {E : Ev} {a0 : Nat} {x1 : Int32} {x2 : Int32} {w : Wd} {q : Int32 × Wd} (h : fX0_isGoing a0 x1 x2 w = some q) : CT E mX0_isGoing (8, 0, false) [.ref a0, .int x1, .int x2] w (QI q) := CT.of pl_RX0 (Nat.le_of_ble_eq_true rfl) (okX0_isGoing h ⟨rfl, rfl⟩)
def PX0_leastWill_L8 (E : Ev) (Q : Option Value → Wd → Prop) (a0 : Nat) (x1 : Int32) (x2 : Int32) (s : Int32 × Wd) : Prop := Runs E mX0_leastWill (9, 0, false) Q 0 8 [(0, .ref a0), (1, .int x1), (2, .int x2), (3, .int s.1)] [] s.2
def fX0_leastWill_L8_body (a0 : Nat) (x1 : Int32) (x2 : Int32) (s : Int32 × Wd) : Option ((Int32 × Wd) ⊕ (Int32 × Wd)) :=
  if (9 : Int32) < s.1 then (wr (some ((-1), s.2))) else (chk (isO s.2 a0 0) (ob (fX0_doesAllOwn a0 x1 x2 s.1 s.2) (fun q4 => if q4.1 = 0 then (some (.inl ((s.1 + 1), q4.2))) else (wr (some (s.1, q4.2))))))
set_option maxHeartbeats 1000000 in
set_option maxRecDepth 20000 in
theorem okX0_leastWill_L8_body {E : Ev} {Q : Option Value → Wd → Prop} {a0 : Nat} {x1 : Int32} {x2 : Int32} {s : Int32 × Wd} {r : (Int32 × Wd) ⊕ (Int32 × Wd)} (h : fX0_leastWill_L8_body a0 x1 x2 s = some r) (hk : (Sum.elim (PX0_leastWill_L8 E Q a0 x1 x2) (fun q : Int32 × Wd => Q (some (.int q.1)) q.2)) r) : PX0_leastWill_L8 E Q a0 x1 x2 s := by
  unfold fX0_leastWill_L8_body at h
  unfold PX0_leastWill_L8
  refine r_iload_n dX0_leastWill_8 3 rfl ?_
  refine r_bipush (v := 9) dX0_leastWill_9 (by decide) ?_
  refine r_icmp_gt (tgt := 32) dX0_leastWill_11 (by decide) (fun c1 => ?_) (fun c1 => ?_)
  · rw [if_pos c1] at h
    obtain ⟨r2, hr, h⟩ := wr_some h
    rw [hr] at hk
    refine r_iconst (v := (-1)) dX0_leastWill_32 (by decide) ?_
    rw [← Option.some.inj h] at hk
    exact r_ireturn dX0_leastWill_33 rfl rfl hk
  · rw [if_neg c1] at h
    refine r_aload_n dX0_leastWill_14 0 rfl ?_
    refine r_iload_n dX0_leastWill_15 1 rfl ?_
    refine r_iload_n dX0_leastWill_16 2 rfl ?_
    refine r_iload_n dX0_leastWill_17 3 rfl ?_
    obtain ⟨h3, h⟩ := chk_some h
    obtain ⟨q4, g5, h⟩ := ob_some h
    refine r_callV (d' := (8, 0, false)) (As := [.int x1, .int x2, .int s.1]) (st := []) mdv_X0_doesAllOwn tm_RX0_139 (by decide) rfl rfl (by decide) rfl (Nat.le_refl _) (Nat.le_of_ble_eq_true rfl) rfl dX0_leastWill_18 h3 (ctX0_doesAllOwn g5) (k_I0 ?_)
    refine r_if_eq (tgt := 26) dX0_leastWill_21 (by decide) (fun c6 => ?_) (fun c6 => ?_)
    · rw [if_pos c6] at h
      refine r_iinc (v := (s.1 + 1)) dX0_leastWill_26 3 rfl rfl (Nat.le_of_ble_eq_true rfl) [(3, .int (s.1 + 1)), (0, .ref a0), (1, .int x1), (2, .int x2)] rfl ?_
      refine r_goto (tgt := 8) dX0_leastWill_29 (by decide) ?_
      rw [← Option.some.inj h] at hk
      refine r_sub [1, 2, 3, 0] [(0, .ref a0), (1, .int x1), (2, .int x2), (3, .int (s.1 + 1))] rfl ?_
      exact hk
    · rw [if_neg c6] at h
      obtain ⟨r7, hr, h⟩ := wr_some h
      rw [hr] at hk
      refine r_iload_n dX0_leastWill_24 3 rfl ?_
      rw [← Option.some.inj h] at hk
      exact r_ireturn dX0_leastWill_25 rfl rfl hk
def fX0_leastWill_L8 (a0 : Nat) (x1 : Int32) (x2 : Int32) (s : Int32 × Wd) : Option (Int32 × Wd) := it (fX0_leastWill_L8_body a0 x1 x2) FU s
set_option maxHeartbeats 1000000 in
set_option maxRecDepth 20000 in
theorem okX0_leastWill_L8 {E : Ev} {Q : Option Value → Wd → Prop} {a0 : Nat} {x1 : Int32} {x2 : Int32} {s : Int32 × Wd} {r : Int32 × Wd} (h : fX0_leastWill_L8 a0 x1 x2 s = some r) (hk : (fun q : Int32 × Wd => Q (some (.int q.1)) q.2) r) : PX0_leastWill_L8 E Q a0 x1 x2 s := it_runs (fun s r h hk => okX0_leastWill_L8_body h hk) FU s r h hk
def fX0_leastWill (a0 : Nat) (x1 : Int32) (w : Wd) : Option (Int32 × Wd) :=
  chk (isO w a0 0) (ob (fX0_wornBy a0 x1 w) (fun q2 => fX0_leastWill_L8 a0 x1 q2.1 (0, q2.2)))
set_option maxHeartbeats 1000000 in
set_option maxRecDepth 20000 in
theorem okX0_leastWill {E : Ev} {Q : Option Value → Wd → Prop} {a0 : Nat} {x1 : Int32} {w : Wd} {q : Int32 × Wd} (h : fX0_leastWill a0 x1 w = some q) (hk : (fun q : Int32 × Wd => Q (some (.int q.1)) q.2) q) : Runs E mX0_leastWill (9, 0, false) Q 0 0 [(0, .ref a0), (1, .int x1)] [] w := by
  unfold fX0_leastWill at h
  refine r_aload_n dX0_leastWill_0 0 rfl ?_
  refine r_iload_n dX0_leastWill_1 1 rfl ?_
  obtain ⟨h1, h⟩ := chk_some h
  obtain ⟨q2, g3, h⟩ := ob_some h
  refine r_callV (d' := (6, 0, false)) (As := [.int x1]) (st := []) mdv_X0_wornBy tm_RX0_63 (by decide) rfl rfl (by decide) rfl (Nat.le_refl _) (Nat.le_of_ble_eq_true rfl) rfl dX0_leastWill_2 h1 (ctX0_wornBy g3) (k_I0 ?_)
  refine r_istore_n dX0_leastWill_5 rfl (Nat.le_of_ble_eq_true rfl) [(2, .int q2.1), (0, .ref a0), (1, .int x1)] rfl ?_
  refine r_iconst (v := 0) dX0_leastWill_6 (by decide) ?_
  refine r_istore_n dX0_leastWill_7 rfl (Nat.le_of_ble_eq_true rfl) [(3, .int 0), (2, .int q2.1), (0, .ref a0), (1, .int x1)] rfl ?_
  refine r_sub [2, 3, 1, 0] [(0, .ref a0), (1, .int x1), (2, .int q2.1), (3, .int 0)] rfl ?_
  exact okX0_leastWill_L8 h hk
set_option maxHeartbeats 1000000 in
set_option maxRecDepth 20000 in
theorem ctX0_leastWill {E : Ev} {a0 : Nat} {x1 : Int32} {w : Wd} {q : Int32 × Wd} (h : fX0_leastWill a0 x1 w = some q) : CT E mX0_leastWill (9, 0, false) [.ref a0, .int x1] w (QI q) := CT.of pl_RX0 (Nat.le_of_ble_eq_true rfl) (okX0_leastWill h ⟨rfl, rfl⟩)
