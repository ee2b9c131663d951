def fX3_make (a0 : Nat) (a1 : Nat) (x2 : Int32) (x3 : Int32) (x4 : Int32) (w : Wd) : Option (Int32 × Wd) :=
  chk (isO w a1 2) (chk (isO w a0 3) (bnd (sI w a0 2 (wI w a1 2)) (fun w3 => chk (isO w3 a0 3) (bnd (sI w3 a0 3 x2) (fun w6 => chk (isO w6 a1 2) (chk (isO w6 a0 3) (bnd (sI w6 a0 4 (wI w6 a1 3)) (fun w10 => chk (isO w10 a0 3) (ob (fX3_run_12 a0 (wI w10 a0 2) x3 x4 0 w10) (fun q13 => some (q13.1, q13.2)))))))))))
set_option maxHeartbeats 1000000 in
set_option maxRecDepth 20000 in
theorem okX3_make {E : Ev} {Q : Option Value → Wd → Prop} {a0 : Nat} {a1 : Nat} {x2 : Int32} {x3 : Int32} {x4 : Int32} {w : Wd} {q : Int32 × Wd} (h : fX3_make a0 a1 x2 x3 x4 w = some q) (hk : (fun q : Int32 × Wd => Q (some (.int q.1)) q.2) q) : Runs E mX3_make (19, 0, false) Q 0 0 [(0, .ref a0), (1, .ref a1), (2, .int x2), (3, .int x3), (4, .int x4)] [] w := by
  unfold fX3_make at h
  refine r_aload_n dX3_make_0 0 rfl ?_
  refine r_aload_n dX3_make_1 1 rfl ?_
  obtain ⟨h1, h⟩ := chk_some h
  refine r_getI (fl_RX3_28 rfl) rfl dX3_make_2 h1 ?_
  obtain ⟨h2, h⟩ := chk_some h
  obtain ⟨w3, e4, h⟩ := bnd_some h
  refine r_putI (fl_RX3_19 rfl) rfl rfl (ck_ty (by decide) 2 (by decide)) rfl rfl dX3_make_5 h2 ?_
  refine r_eqW e4 ?_
  refine r_aload_n dX3_make_8 0 rfl ?_
  refine r_iload_n dX3_make_9 2 rfl ?_
  obtain ⟨h5, h⟩ := chk_some h
  obtain ⟨w6, e7, h⟩ := bnd_some h
  refine r_putI (fl_RX3_22 rfl) rfl rfl (ck_ty (by decide) 3 (by decide)) rfl rfl dX3_make_10 h5 ?_
  refine r_eqW e7 ?_
  refine r_aload_n dX3_make_13 0 rfl ?_
  refine r_aload_n dX3_make_14 1 rfl ?_
  obtain ⟨h8, h⟩ := chk_some h
  refine r_getI (fl_RX3_31 rfl) rfl dX3_make_15 h8 ?_
  obtain ⟨h9, h⟩ := chk_some h
  obtain ⟨w10, e11, h⟩ := bnd_some h
  refine r_putI (fl_RX3_25 rfl) rfl rfl (ck_ty (by decide) 4 (by decide)) rfl rfl dX3_make_18 h9 ?_
  refine r_eqW e11 ?_
  refine r_aload_n dX3_make_21 0 rfl ?_
  refine r_aload_n dX3_make_22 0 rfl ?_
  obtain ⟨h12, h⟩ := chk_some h
  refine r_getI (fl_RX3_19 rfl) rfl dX3_make_23 h12 ?_
  refine r_iload_n dX3_make_26 3 rfl ?_
  refine r_iload dX3_make_27 4 rfl ?_
  refine r_iconst (v := 0) dX3_make_29 (by decide) ?_
  obtain ⟨q13, g14, h⟩ := ob_some h
  refine r_callV (d' := (18, 0, false)) (As := [.int (wI w10 a0 2), .int x3, .int x4, .int 0]) (st := []) mdv_X3_run tm_RX3_34 (by decide) rfl rfl (by decide) rfl (Nat.le_refl _) (Nat.le_of_ble_eq_true rfl) rfl dX3_make_30 h12 (ctX3_run_12 g14) (k_I0 ?_)
  rw [← Option.some.inj h] at hk
  exact r_ireturn dX3_make_33 rfl rfl hk
set_option maxHeartbeats 1000000 in
set_option maxRecDepth 20000 in
theorem ctX3_make {E : Ev} {a0 : Nat} {a1 : Nat} {x2 : Int32} {x3 : Int32} {x4 : Int32} {w : Wd} {q : Int32 × Wd} (h : fX3_make a0 a1 x2 x3 x4 w = some q) : CT E mX3_make (19, 0, false) [.ref a0, .ref a1, .int x2, .int x3, .int x4] w (QI q) := CT.of pl_RX3 (Nat.le_of_ble_eq_true rfl) (okX3_make h ⟨rfl, rfl⟩)
def fX5_highest (a0 : Nat) (x1 : Int32) (w : Wd) : Option (Int32 × Wd) :=
  if x1 = 3 then (some (6, w)) else (if x1 = 4 then (some (11, w)) else (if x1 = 5 then (chk (isO w a0 5) (ob (wR w a0 3) (fun o5 => chk (isO w o5 0) (some (((wI w o5 3) - 1), w))))) else (if x1 = 6 then (chk (isO w a0 5) (ob (wR w a0 3) (fun o10 => chk (isO w o10 0) (some (((wI w o10 4) - 1), w))))) else (some (9, w)))))
set_option maxHeartbeats 1000000 in
set_option maxRecDepth 20000 in
theorem okX5_highest {E : Ev} {Q : Option Value → Wd → Prop} {a0 : Nat} {x1 : Int32} {w : Wd} {q : Int32 × Wd} (h : fX5_highest a0 x1 w = some q) (hk : (fun q : Int32 × Wd => Q (some (.int q.1)) q.2) q) : Runs E mX5_highest (6, 0, false) Q 0 0 [(0, .ref a0), (1, .int x1)] [] w := by
  unfold fX5_highest at h
  refine r_iload_n dX5_highest_0 1 rfl ?_
  by_cases c1 : x1 = 3
  · rw [if_pos c1] at h
    refine r_tabIn (tgt := 32) dX5_highest_1 (by rw [c1] <;> decide) (by rw [c1] <;> decide) (by rw [c1] <;> rfl) (by decide) ?_
    refine r_bipush (v := 6) dX5_highest_32 (by decide) ?_
    rw [← Option.some.inj h] at hk
    exact r_ireturn dX5_highest_34 rfl rfl hk
  rw [if_neg c1] at h
  by_cases c2 : x1 = 4
  · rw [if_pos c2] at h
    refine r_tabIn (tgt := 35) dX5_highest_1 (by rw [c2] <;> decide) (by rw [c2] <;> decide) (by rw [c2] <;> rfl) (by decide) ?_
    refine r_bipush (v := 11) dX5_highest_35 (by decide) ?_
    rw [← Option.some.inj h] at hk
    exact r_ireturn dX5_highest_37 rfl rfl hk
  rw [if_neg c2] at h
  by_cases c3 : x1 = 5
  · rw [if_pos c3] at h
    refine r_tabIn (tgt := 38) dX5_highest_1 (by rw [c3] <;> decide) (by rw [c3] <;> decide) (by rw [c3] <;> rfl) (by decide) ?_
    refine r_aload_n dX5_highest_38 0 rfl ?_
    obtain ⟨h4, h⟩ := chk_some h
    obtain ⟨o5, g6, h⟩ := ob_some h
    refine r_getR (fl_RX5_23 rfl) rfl dX5_highest_39 h4 g6 ?_
    obtain ⟨h7, h⟩ := chk_some h
    refine r_getI (fl_RX5_113 rfl) rfl dX5_highest_42 h7 ?_
    refine r_iconst (v := 1) dX5_highest_45 (by decide) ?_
    refine r_isub dX5_highest_46 ?_
    rw [← Option.some.inj h] at hk
    exact r_ireturn dX5_highest_47 rfl rfl hk
  rw [if_neg c3] at h
  by_cases c8 : x1 = 6
  · rw [if_pos c8] at h
    refine r_tabIn (tgt := 48) dX5_highest_1 (by rw [c8] <;> decide) (by rw [c8] <;> decide) (by rw [c8] <;> rfl) (by decide) ?_
    refine r_aload_n dX5_highest_48 0 rfl ?_
    obtain ⟨h9, h⟩ := chk_some h
    obtain ⟨o10, g11, h⟩ := ob_some h
    refine r_getR (fl_RX5_23 rfl) rfl dX5_highest_49 h9 g11 ?_
    obtain ⟨h12, h⟩ := chk_some h
    refine r_getI (fl_RX5_116 rfl) rfl dX5_highest_52 h12 ?_
    refine r_iconst (v := 1) dX5_highest_55 (by decide) ?_
    refine r_isub dX5_highest_56 ?_
    rw [← Option.some.inj h] at hk
    exact r_ireturn dX5_highest_57 rfl rfl hk
  rw [if_neg c8] at h
  refine r_tabOut (tgt := 58) dX5_highest_1 (by have := lv_neT (k := 3) (a := 3) c1 rfl; have := lv_neT (k := 4) (a := 4) c2 rfl; have := lv_neT (k := 5) (a := 5) c3 rfl; have := lv_neT (k := 6) (a := 6) c8 rfl; omega) (by decide) ?_
  refine r_bipush (v := 9) dX5_highest_58 (by decide) ?_
  rw [← Option.some.inj h] at hk
  exact r_ireturn dX5_highest_60 rfl rfl hk
set_option maxHeartbeats 1000000 in
set_option maxRecDepth 20000 in
theorem ctX5_highest {E : Ev} {a0 : Nat} {x1 : Int32} {w : Wd} {q : Int32 × Wd} (h : fX5_highest a0 x1 w = some q) : CT E mX5_highest (6, 0, false) [.ref a0, .int x1] w (QI q) := CT.of pl_RX5 (Nat.le_of_ble_eq_true rfl) (okX5_highest h ⟨rfl, rfl⟩)
def fX5_isDigitSign (a0 : Nat) (x1 : Int32) (w : Wd) : Option (Int32 × Wd) :=
  chk (isO w a0 5) (ob (wR w a0 2) (fun o2 => chk (isO w o2 6) (ob (fX6_intAt o2 x1 w) (fun q5 => ob (fX7_isWithin q5.1 48 57 q5.2) (fun q7 => chk (q7.1 = 0 ∨ q7.1 = 1) (some (q7.1, q7.2)))))))
set_option maxHeartbeats 1000000 in
set_option maxRecDepth 20000 in
theorem okX5_isDigitSign {E : Ev} {Q : Option Value → Wd → Prop} {a0 : Nat} {x1 : Int32} {w : Wd} {q : Int32 × Wd} (h : fX5_isDigitSign a0 x1 w = some q) (hk : (fun q : Int32 × Wd => Q (some (.int q.1)) q.2) q) : Runs E mX5_isDigitSign (7, 0, false) Q 0 0 [(0, .ref a0), (1, .int x1)] [] w := by
  unfold fX5_isDigitSign at h
  refine r_aload_n dX5_isDigitSign_0 0 rfl ?_
  obtain ⟨h1, h⟩ := chk_some h
  obtain ⟨o2, g3, h⟩ := ob_some h
  refine r_getR (fl_RX5_19 rfl) rfl dX5_isDigitSign_1 h1 g3 ?_
  refine r_iload_n dX5_isDigitSign_4 1 rfl ?_
  obtain ⟨h4, h⟩ := chk_some h
  obtain ⟨q5, g6, h⟩ := ob_some h
  refine r_callV (d' := (6, 0, false)) (As := [.int x1]) (st := []) mdv_X6_intAt tm_RX5_63 (by decide) rfl rfl (by decide) rfl (Nat.le_refl _) (Nat.le_of_ble_eq_true rfl) rfl dX5_isDigitSign_5 h4 (ctX6_intAt g6) (k_I0 ?_)
  refine r_bipush (v := 48) dX5_isDigitSign_8 (by decide) ?_
  refine r_bipush (v := 57) dX5_isDigitSign_10 (by decide) ?_
  obtain ⟨q7, g8, h⟩ := ob_some h
  refine r_callSN (d' := (6, 0, false)) (As := [.int q5.1, .int 48, .int 57]) (st := []) mds_X7_isWithin (by decide) rfl (by decide) rfl (Nat.le_refl _) (Nat.le_of_ble_eq_true rfl) rfl dX5_isDigitSign_12 (ctX7_isWithin g8) (k_I0 ?_)
  obtain ⟨h9, h⟩ := chk_some h
  rw [← Option.some.inj h] at hk
  exact r_ireturn dX5_isDigitSign_15 rfl (nb h9) hk
set_option maxHeartbeats 1000000 in
set_option maxRecDepth 20000 in
theorem ctX5_isDigitSign {E : Ev} {a0 : Nat} {x1 : Int32} {w : Wd} {q : Int32 × Wd} (h : fX5_isDigitSign a0 x1 w = some q) : CT E mX5_isDigitSign (7, 0, false) [.ref a0, .int x1] w (QI q) := CT.of pl_RX5 (Nat.le_of_ble_eq_true rfl) (okX5_isDigitSign h ⟨rfl, rfl⟩)
def fX5_takeDigit (a0 : Nat) (w : Wd) : Option (Int32 × Wd) :=
  chk (isO w a0 5) (ob (wR w a0 2) (fun o2 => chk (isO w o2 6) (ob (fX6_intAt o2 (wI w a0 4) w) (fun q5 => bnd (q5.1 - 48) (fun u7 => chk (isO q5.2 a0 5) (bnd (sI q5.2 a0 4 ((wI q5.2 a0 4) + 1)) (fun w10 => some (u7, w10))))))))
set_option maxHeartbeats 1000000 in
set_option maxRecDepth 20000 in
theorem okX5_takeDigit {E : Ev} {Q : Option Value → Wd → Prop} {a0 : Nat} {w : Wd} {q : Int32 × Wd} (h : fX5_takeDigit a0 w = some q) (hk : (fun q : Int32 × Wd => Q (some (.int q.1)) q.2) q) : Runs E mX5_takeDigit (7, 0, false) Q 0 0 [(0, .ref a0)] [] w := by
  unfold fX5_takeDigit at h
  refine r_aload_n dX5_takeDigit_0 0 rfl ?_
  obtain ⟨h1, h⟩ := chk_some h
  obtain ⟨o2, g3, h⟩ := ob_some h
  refine r_getR (fl_RX5_19 rfl) rfl dX5_takeDigit_1 h1 g3 ?_
  refine r_aload_n dX5_takeDigit_4 0 rfl ?_
  refine r_getI (fl_RX5_27 rfl) rfl dX5_takeDigit_5 h1 ?_
  obtain ⟨h4, h⟩ := chk_some h
  obtain ⟨q5, g6, h⟩ := ob_some h
  refine r_callV (d' := (6, 0, false)) (As := [.int (wI w a0 4)]) (st := []) mdv_X6_intAt tm_RX5_63 (by decide) rfl rfl (by decide) rfl (Nat.le_refl _) (Nat.le_of_ble_eq_true rfl) rfl dX5_takeDigit_8 h4 (ctX6_intAt g6) (k_I0 ?_)
  refine r_bipush (v := 48) dX5_takeDigit_11 (by decide) ?_
  refine r_isub dX5_takeDigit_13 ?_
  obtain ⟨u7, e8, h⟩ := bnd_some h
  refine r_eqI e8 ?_
  refine r_istore_n dX5_takeDigit_14 rfl (Nat.le_of_ble_eq_true rfl) [(1, .int u7), (0, .ref a0)] rfl ?_
  refine r_aload_n dX5_takeDigit_15 1 rfl ?_
  refine r_dup dX5_takeDigit_16 rfl ?_
  obtain ⟨h9, h⟩ := chk_some h
  refine r_getI (fl_RX5_27 rfl) rfl dX5_takeDigit_17 h9 ?_
  refine r_iconst (v := 1) dX5_takeDigit_20 (by decide) ?_
  refine r_iadd dX5_takeDigit_21 ?_
  obtain ⟨w10, e11, h⟩ := bnd_some h
  refine r_putI (fl_RX5_27 rfl) rfl rfl (ck_ty (by decide) 4 (by decide)) rfl rfl dX5_takeDigit_22 h9 ?_
  refine r_eqW e11 ?_
  refine r_iload_n dX5_takeDigit_25 0 rfl ?_
  rw [← Option.some.inj h] at hk
  exact r_ireturn dX5_takeDigit_26 rfl rfl hk
set_option maxHeartbeats 1000000 in
set_option maxRecDepth 20000 in
theorem ctX5_takeDigit {E : Ev} {a0 : Nat} {w : Wd} {q : Int32 × Wd} (h : fX5_takeDigit a0 w = some q) : CT E mX5_takeDigit (7, 0, false) [.ref a0] w (QI q) := CT.of pl_RX5 (Nat.le_of_ble_eq_true rfl) (okX5_takeDigit h ⟨rfl, rfl⟩)
def fX5_readNumber_b55 (a0 : Nat) (x1 : Int32) (x2 : Int32) (x3 : Int32) (x4 : Int32) (w : Wd) : Option (Int32 × Wd) :=
  ob (fX7_isWithin x4 x1 x2 w) (fun q1 => if q1.1 = 0 then (chk (isO q1.2 a0 5) (bnd (sI q1.2 a0 0 x3) (fun w5 => some ((-1), w5)))) else (some (x4, q1.2)))
set_option maxHeartbeats 1000000 in
set_option maxRecDepth 20000 in
theorem okX5_readNumber_b55 {E : Ev} {Q : Option Value → Wd → Prop} {a0 : Nat} {x1 : Int32} {x2 : Int32} {x3 : Int32} {x4 : Int32} {w : Wd} {q : Int32 × Wd} (h : fX5_readNumber_b55 a0 x1 x2 x3 x4 w = some q) (hk : (fun q : Int32 × Wd => Q (some (.int q.1)) q.2) q) : Runs E mX5_readNumber (8, 0, false) Q 0 55 [(0, .ref a0), (1, .int x1), (2, .int x2), (3, .int x3), (4, .int x4)] [] w := by
  unfold fX5_readNumber_b55 at h
  refine r_iload dX5_readNumber_55 4 rfl ?_
  refine r_iload_n dX5_readNumber_57 1 rfl ?_
  refine r_iload_n dX5_readNumber_58 2 rfl ?_
  obtain ⟨q1, g2, h⟩ := ob_some h
  refine r_callSN (d' := (6, 0, false)) (As := [.int x4, .int x1, .int x2]) (st := []) mds_X7_isWithin (by decide) rfl (by decide) rfl (Nat.le_refl _) (Nat.le_of_ble_eq_true rfl) rfl dX5_readNumber_59 (ctX7_isWithin g2) (k_I0 ?_)
  refine r_if_ne (tgt := 72) dX5_readNumber_62 (by decide) (fun c3 => ?_) (fun c3 => ?_)
  · rw [if_neg c3] at h
    refine r_iload dX5_readNumber_72 4 rfl ?_
    rw [← Option.some.inj h] at hk
    exact r_ireturn dX5_readNumber_74 rfl rfl hk
  · rw [if_pos c3] at h
    refine r_aload_n dX5_readNumber_65 0 rfl ?_
    refine r_iload_n dX5_readNumber_66 3 rfl ?_
    obtain ⟨h4, h⟩ := chk_some h
    obtain ⟨w5, e6, h⟩ := bnd_some h
    refine r_putI (fl_RX5_9 rfl) rfl rfl (ck_ty (by decide) 0 (by decide)) rfl rfl dX5_readNumber_67 h4 ?_
    refine r_eqW e6 ?_
    refine r_iconst (v := (-1)) dX5_readNumber_70 (by decide) ?_
    rw [← Option.some.inj h] at hk
    exact r_ireturn dX5_readNumber_71 rfl rfl hk
def fX5_readNumber (a0 : Nat) (x1 : Int32) (x2 : Int32) (w : Wd) : Option (Int32 × Wd) :=
  chk (isO w a0 5) (bnd (wI w a0 4) (fun u2 => ob (fX5_isDigitSign a0 (wI w a0 4) w) (fun q4 => if q4.1 = 0 then (chk (isO q4.2 a0 5) (bnd (sI q4.2 a0 0 (wI q4.2 a0 4)) (fun w20 => some ((-1), w20)))) else (chk (isO q4.2 a0 5) (ob (fX5_takeDigit a0 q4.2) (fun q8 => chk (isO q8.2 a0 5) (ob (fX5_isDigitSign a0 (wI q8.2 a0 4) q8.2) (fun q11 => if q11.1 = 0 then (fX5_readNumber_b55 a0 x1 x2 u2 q8.1 q11.2) else (chk (isO q11.2 a0 5) (ob (fX5_takeDigit a0 q11.2) (fun q15 => bnd ((10 * q8.1) + q15.1) (fun u17 => fX5_readNumber_b55 a0 x1 x2 u2 u17 q15.2))))))))))))
set_option maxHeartbeats 1000000 in
set_option maxRecDepth 20000 in
theorem okX5_readNumber {E : Ev} {Q : Option Value → Wd → Prop} {a0 : Nat} {x1 : Int32} {x2 : Int32} {w : Wd} {q : Int32 × Wd} (h : fX5_readNumber a0 x1 x2 w = some q) (hk : (fun q : Int32 × Wd => Q (some (.int q.1)) q.2) q) : Runs E mX5_readNumber (8, 0, false) Q 0 0 [(0, .ref a0), (1, .int x1), (2, .int x2)] [] w := by
  unfold fX5_readNumber at h
  refine r_aload_n dX5_readNumber_0 0 rfl ?_
  obtain ⟨h1, h⟩ := chk_some h
  refine r_getI (fl_RX5_27 rfl) rfl dX5_readNumber_1 h1 ?_
  obtain ⟨u2, e3, h⟩ := bnd_some h
  refine r_eqI e3 ?_
  refine r_istore_n dX5_readNumber_4 rfl (Nat.le_of_ble_eq_true rfl) [(3, .int u2), (0, .ref a0), (1, .int x1), (2, .int x2)] rfl ?_
  refine r_aload_n dX5_readNumber_5 1 rfl ?_
  refine r_aload_n dX5_readNumber_6 1 rfl ?_
  refine r_getI (fl_RX5_27 rfl) rfl dX5_readNumber_7 h1 ?_
  obtain ⟨q4, g5, h⟩ := ob_some h
  refine r_callV (d' := (7, 0, false)) (As := [.int (wI w a0 4)]) (st := []) mdv_X5_isDigitSign tm_RX5_119 (by decide) rfl rfl (by decide) rfl (Nat.le_refl _) (Nat.le_of_ble_eq_true rfl) rfl dX5_readNumber_10 h1 (ctX5_isDigitSign g5) (k_I0 ?_)
  refine r_if_ne (tgt := 26) dX5_readNumber_13 (by decide) (fun c6 => ?_) (fun c6 => ?_)
  · rw [if_neg c6] at h
    refine r_aload_n dX5_readNumber_26 1 rfl ?_
    obtain ⟨h7, h⟩ := chk_some h
    obtain ⟨q8, g9, h⟩ := ob_some h
    refine r_callV (d' := (7, 0, false)) (As := []) (st := []) mdv_X5_takeDigit tm_RX5_122 (by decide) rfl rfl (by decide) rfl (Nat.le_refl _) (Nat.le_of_ble_eq_true rfl) rfl dX5_readNumber_27 h7 (ctX5_takeDigit g9) (k_I0 ?_)
    refine r_istore dX5_readNumber_30 (Nat.le_of_ble_eq_true rfl) [(4, .int q8.1), (3, .int u2), (0, .ref a0), (1, .int x1), (2, .int x2)] rfl ?_
    refine r_aload_n dX5_readNumber_32 2 rfl ?_
    refine r_aload_n dX5_readNumber_33 2 rfl ?_
    obtain ⟨h10, h⟩ := chk_some h
    refine r_getI (fl_RX5_27 rfl) rfl dX5_readNumber_34 h10 ?_
    obtain ⟨q11, g12, h⟩ := ob_some h
    refine r_callV (d' := (7, 0, false)) (As := [.int (wI q8.2 a0 4)]) (st := []) mdv_X5_isDigitSign tm_RX5_119 (by decide) rfl rfl (by decide) rfl (Nat.le_refl _) (Nat.le_of_ble_eq_true rfl) rfl dX5_readNumber_37 h10 (ctX5_isDigitSign g12) (k_I0 ?_)
    refine r_if_eq (tgt := 55) dX5_readNumber_40 (by decide) (fun c13 => ?_) (fun c13 => ?_)
    · rw [if_pos c13] at h
      refine r_sub [2, 3, 4, 1, 0] [(0, .ref a0), (1, .int x1), (2, .int x2), (3, .int u2), (4, .int q8.1)] rfl ?_
      exact okX5_readNumber_b55 h hk
    · rw [if_neg c13] at h
      refine r_bipush (v := 10) dX5_readNumber_43 (by decide) ?_
      refine r_iload dX5_readNumber_45 0 rfl ?_
      refine r_imul dX5_readNumber_47 ?_
      refine r_aload_n dX5_readNumber_48 2 rfl ?_
      obtain ⟨h14, h⟩ := chk_some h
      obtain ⟨q15, g16, h⟩ := ob_some h
      refine r_callV (d' := (7, 0, false)) (As := []) (st := [.int (10 * q8.1)]) mdv_X5_takeDigit tm_RX5_122 (by decide) rfl rfl (by decide) rfl (Nat.le_refl _) (Nat.le_of_ble_eq_true rfl) rfl dX5_readNumber_49 h14 (ctX5_takeDigit g16) (k_I0 ?_)
      refine r_iadd dX5_readNumber_52 ?_
      obtain ⟨u17, e18, h⟩ := bnd_some h
      refine r_eqI e18 ?_
      refine r_istore dX5_readNumber_53 (Nat.le_of_ble_eq_true rfl) [(4, .int u17), (3, .int u2), (0, .ref a0), (1, .int x1), (2, .int x2)] rfl ?_
      refine r_sub [2, 3, 4, 1, 0] [(0, .ref a0), (1, .int x1), (2, .int x2), (3, .int u2), (4, .int u17)] rfl ?_
      exact okX5_readNumber_b55 h hk
  · rw [if_pos c6] at h
    refine r_aload_n dX5_readNumber_16 1 rfl ?_
    refine r_aload_n dX5_readNumber_17 1 rfl ?_
    obtain ⟨h19, h⟩ := chk_some h
    refine r_getI (fl_RX5_27 rfl) rfl dX5_readNumber_18 h19 ?_
    obtain ⟨w20, e21, h⟩ := bnd_some h
    refine r_putI (fl_RX5_9 rfl) rfl rfl (ck_ty (by decide) 0 (by decide)) rfl rfl dX5_readNumber_21 h19 ?_
    refine r_eqW e21 ?_
    refine r_iconst (v := (-1)) dX5_readNumber_24 (by decide) ?_
    rw [← Option.some.inj h] at hk
    exact r_ireturn dX5_readNumber_25 rfl rfl hk
set_option maxHeartbeats 1000000 in
set_option maxRecDepth 20000 in
theorem ctX5_readNumber {E : Ev} {a0 : Nat} {x1 : Int32} {x2 : Int32} {w : Wd} {q : Int32 × Wd} (h : fX5_readNumber a0 x1 x2 w = some q) : CT E mX5_readNumber (8, 0, false) [.ref a0, .int x1, .int x2] w (QI q) := CT.of pl_RX5 (Nat.le_of_ble_eq_true rfl) (okX5_readNumber h ⟨rfl, rfl⟩)
def fX5_readSign (a0 : Nat) (x1 : Int32) (w : Wd) : Option (Int32 × Wd) :=
  chk (isO w a0 5) (ob (wR w a0 2) (fun o2 => chk (isO w o2 6) (ob (fX6_intAt o2 (wI w a0 4) w) (fun q5 => if q5.1 = x1 then (chk (isO q5.2 a0 5) (bnd (sI q5.2 a0 4 ((wI q5.2 a0 4) + 1)) (fun w9 => some (1, w9)))) else (chk (isO q5.2 a0 5) (bnd (sI q5.2 a0 0 (wI q5.2 a0 4)) (fun w12 => some (0, w12))))))))
set_option maxHeartbeats 1000000 in
set_option maxRecDepth 20000 in
theorem okX5_readSign {E : Ev} {Q : Option Value → Wd → Prop} {a0 : Nat} {x1 : Int32} {w : Wd} {q : Int32 × Wd} (h : fX5_readSign a0 x1 w = some q) (hk : (fun q : Int32 × Wd => Q (some (.int q.1)) q.2) q) : Runs E mX5_readSign (7, 0, false) Q 0 0 [(0, .ref a0), (1, .int x1)] [] w := by
  unfold fX5_readSign at h
  refine r_aload_n dX5_readSign_0 0 rfl ?_
  obtain ⟨h1, h⟩ := chk_some h
  obtain ⟨o2, g3, h⟩ := ob_some h
  refine r_getR (fl_RX5_19 rfl) rfl dX5_readSign_1 h1 g3 ?_
  refine r_aload_n dX5_readSign_4 0 rfl ?_
  refine r_getI (fl_RX5_27 rfl) rfl dX5_readSign_5 h1 ?_
  obtain ⟨h4, h⟩ := chk_some h
  obtain ⟨q5, g6, h⟩ := ob_some h
  refine r_callV (d' := (6, 0, false)) (As := [.int (wI w a0 4)]) (st := []) mdv_X6_intAt tm_RX5_63 (by decide) rfl rfl (by decide) rfl (Nat.le_refl _) (Nat.le_of_ble_eq_true rfl) rfl dX5_readSign_8 h4 (ctX6_intAt g6) (k_I0 ?_)
  refine r_iload_n dX5_readSign_11 1 rfl ?_
  refine r_icmp_eq (tgt := 25) dX5_readSign_12 (by decide) (fun c7 => ?_) (fun c7 => ?_)
  · rw [if_pos c7] at h
    refine r_aload_n dX5_readSign_25 0 rfl ?_
    refine r_dup dX5_readSign_26 rfl ?_
    obtain ⟨h8, h⟩ := chk_some h
    refine r_getI (fl_RX5_27 rfl) rfl dX5_readSign_27 h8 ?_
    refine r_iconst (v := 1) dX5_readSign_30 (by decide) ?_
    refine r_iadd dX5_readSign_31 ?_
    obtain ⟨w9, e10, h⟩ := bnd_some h
    refine r_putI (fl_RX5_27 rfl) rfl rfl (ck_ty (by decide) 4 (by decide)) rfl rfl dX5_readSign_32 h8 ?_
    refine r_eqW e10 ?_
    refine r_iconst (v := 1) dX5_readSign_35 (by decide) ?_
    rw [← Option.some.inj h] at hk
    exact r_ireturn dX5_readSign_36 rfl rfl hk
  · rw [if_neg c7] at h
    refine r_aload_n dX5_readSign_15 0 rfl ?_
    refine r_aload_n dX5_readSign_16 0 rfl ?_
    obtain ⟨h11, h⟩ := chk_some h
    refine r_getI (fl_RX5_27 rfl) rfl dX5_readSign_17 h11 ?_
    obtain ⟨w12, e13, h⟩ := bnd_some h
    refine r_putI (fl_RX5_9 rfl) rfl rfl (ck_ty (by decide) 0 (by decide)) rfl rfl dX5_readSign_20 h11 ?_
    refine r_eqW e13 ?_
    refine r_iconst (v := 0) dX5_readSign_23 (by decide) ?_
    rw [← Option.some.inj h] at hk
    exact r_ireturn dX5_readSign_24 rfl rfl hk
set_option maxHeartbeats 1000000 in
set_option maxRecDepth 20000 in
theorem ctX5_readSign {E : Ev} {a0 : Nat} {x1 : Int32} {w : Wd} {q : Int32 × Wd} (h : fX5_readSign a0 x1 w = some q) : CT E mX5_readSign (7, 0, false) [.ref a0, .int x1] w (QI q) := CT.of pl_RX5 (Nat.le_of_ble_eq_true rfl) (okX5_readSign h ⟨rfl, rfl⟩)
def PX5_readNumbers_L2 (E : Ev) (Q : Option Value → Wd → Prop) (a0 : Nat) (x1 : Int32) (s : Int32 × Wd) : Prop := Runs E mX5_readNumbers (9, 0, false) Q 0 2 [(0, .ref a0), (1, .int x1), (2, .int s.1)] [] s.2
def fX5_readNumbers_b50 (a0 : Nat) (x1 : Int32) (x2 : Int32) (x3 : Int32) (s0 : Int32) (s1 : Nat) (s2 : Int32) (s3 : Nat) (w : Wd) : Option ((Int32 × Wd) ⊕ (Int32 × Wd)) :=
  chk (isO w a0 5) (ob (fX5_highest a0 x3 w) (fun q2 => chk (isO q2.2 s1 5) (ob (fX5_readNumber s1 s0 q2.1 q2.2) (fun q5 => chk (isA q5.2 s3 0) (chk (inb s2 (wn q5.2 s3)) (bnd (sI q5.2 s3 (s2).toNatClampNeg q5.1) (fun w9 => chk (isO w9 a0 5) (ob (wR w9 a0 1) (fun o12 => chk (isA w9 o12 0) (chk (inb x2 (wn w9 o12)) (if (wI w9 o12 (x2).toNatClampNeg) = (-1) then (wr (some (0, w9))) else (some (.inl ((x2 + 1), w9))))))))))))))
set_option maxHeartbeats 1000000 in
set_option maxRecDepth 20000 in
theorem okX5_readNumbers_b50 {E : Ev} {Q : Option Value → Wd → Prop} {a0 : Nat} {x1 : Int32} {x2 : Int32} {x3 : Int32} {s0 : Int32} {s1 : Nat} {s2 : Int32} {s3 : Nat} {w : Wd} {q : (Int32 × Wd) ⊕ (Int32 × Wd)} (h : fX5_readNumbers_b50 a0 x1 x2 x3 s0 s1 s2 s3 w = some q) (hk : (Sum.elim (PX5_readNumbers_L2 E Q a0 x1) (fun q : Int32 × Wd => Q (some (.int q.1)) q.2)) q) : Runs E mX5_readNumbers (9, 0, false) Q 0 50 [(0, .ref a0), (1, .int x1), (2, .int x2), (3, .int x3)] [.int s0, .ref s1, .int s2, .ref s3] w := by
  unfold fX5_readNumbers_b50 at h
  refine r_aload_n dX5_readNumbers_50 0 rfl ?_
  refine r_iload_n dX5_readNumbers_51 3 rfl ?_
  obtain ⟨h1, h⟩ := chk_some h
  obtain ⟨q2, g3, h⟩ := ob_some h
  refine r_callV (d' := (6, 0, false)) (As := [.int x3]) (st := [.int s0, .ref s1, .int s2, .ref s3]) mdv_X5_highest tm_RX5_107 (by decide) rfl rfl (by decide) rfl (Nat.le_refl _) (Nat.le_of_ble_eq_true rfl) rfl dX5_readNumbers_52 h1 (ctX5_highest g3) (k_I0 ?_)
  obtain ⟨h4, h⟩ := chk_some h
  obtain ⟨q5, g6, h⟩ := ob_some h
  refine r_callV (d' := (8, 0, false)) (As := [.int s0, .int q2.1]) (st := [.int s2, .ref s3]) mdv_X5_readNumber tm_RX5_110 (by decide) rfl rfl (by decide) rfl (Nat.le_refl _) (Nat.le_of_ble_eq_true rfl) rfl dX5_readNumbers_55 h4 (ctX5_readNumber g6) (k_I0 ?_)
  obtain ⟨h7, h⟩ := chk_some h
  obtain ⟨h8, h⟩ := chk_some h
  obtain ⟨w9, e10, h⟩ := bnd_some h
  refine r_iastore dX5_readNumbers_58 h7 h8 ?_
  refine r_eqW e10 ?_
  refine r_aload_n dX5_readNumbers_59 0 rfl ?_
  obtain ⟨h11, h⟩ := chk_some h
  obtain ⟨o12, g13, h⟩ := ob_some h
  refine r_getR (fl_RX5_15 rfl) rfl dX5_readNumbers_60 h11 g13 ?_
  refine r_iload_n dX5_readNumbers_63 2 rfl ?_
  obtain ⟨h14, h⟩ := chk_some h
  obtain ⟨h15, h⟩ := chk_some h
  refine r_iaload dX5_readNumbers_64 h14 h15 ?_
  refine r_iconst (v := (-1)) dX5_readNumbers_65 (by decide) ?_
  refine r_icmp_ne (tgt := 71) dX5_readNumbers_66 (by decide) (fun c16 => ?_) (fun c16 => ?_)
  · rw [if_neg c16] at h
    refine r_iinc (v := (x2 + 1)) dX5_readNumbers_71 2 rfl rfl (Nat.le_of_ble_eq_true rfl) [(2, .int (x2 + 1)), (0, .ref a0), (1, .int x1), (3, .int x3)] rfl ?_
    refine r_goto (tgt := 2) dX5_readNumbers_74 (by decide) ?_
    rw [← Option.some.inj h] at hk
    refine r_sub [1, 2, 0] [(0, .ref a0), (1, .int x1), (2, .int (x2 + 1))] rfl ?_
    exact hk
  · rw [if_pos c16] at h
    obtain ⟨r17, hr, h⟩ := wr_some h
    rw [hr] at hk
    refine r_iconst (v := 0) dX5_readNumbers_69 (by decide) ?_
    rw [← Option.some.inj h] at hk
    exact r_ireturn dX5_readNumbers_70 rfl rfl hk
def fX5_readNumbers_L2_body (a0 : Nat) (x1 : Int32) (s : Int32 × Wd) : Option ((Int32 × Wd) ⊕ (Int32 × Wd)) :=
  if (4 : Int32) ≤ s.1 then (wr (some (1, s.2))) else (chk (inb ((x1 * 4) + s.1) (saV 4).length) (bnd ((saV 4).getD (((x1 * 4) + s.1)).toNatClampNeg 0) (fun u4 => if u4 = 0 then (wr (some (1, s.2))) else (chk (isO s.2 a0 5) (ob (fX5_readSign a0 32 s.2) (fun q8 => if q8.1 = 0 then (wr (some (0, q8.2))) else (chk (isO q8.2 a0 5) (ob (wR q8.2 a0 1) (fun o12 => if u4 = 2 then (fX5_readNumbers_b50 a0 x1 s.1 u4 1 a0 s.1 o12 q8.2) else (fX5_readNumbers_b50 a0 x1 s.1 u4 0 a0 s.1 o12 q8.2))))))))))
set_option maxHeartbeats 1000000 in
set_option maxRecDepth 20000 in
theorem okX5_readNumbers_L2_body {E : Ev} {Q : Option Value → Wd → Prop} {a0 : Nat} {x1 : Int32} {s : Int32 × Wd} {r : (Int32 × Wd) ⊕ (Int32 × Wd)} (h : fX5_readNumbers_L2_body a0 x1 s = some r) (hk : (Sum.elim (PX5_readNumbers_L2 E Q a0 x1) (fun q : Int32 × Wd => Q (some (.int q.1)) q.2)) r) : PX5_readNumbers_L2 E Q a0 x1 s := by
  unfold fX5_readNumbers_L2_body at h
  unfold PX5_readNumbers_L2
  refine r_iload_n dX5_readNumbers_2 2 rfl ?_
  refine r_iconst (v := 4) dX5_readNumbers_3 (by decide) ?_
  refine r_icmp_ge (tgt := 77) dX5_readNumbers_4 (by decide) (fun c1 => ?_) (fun c1 => ?_)
  · rw [if_pos c1] at h
    obtain ⟨r2, hr, h⟩ := wr_some h
    rw [hr] at hk
    refine r_iconst (v := 1) dX5_readNumbers_77 (by decide) ?_
    rw [← Option.some.inj h] at hk
    exact r_ireturn dX5_readNumbers_78 rfl rfl hk
  · rw [if_neg c1] at h
    refine r_gets 4 (by decide) tf_RX5_104 dX5_readNumbers_7 ?_
    refine r_iload_n dX5_readNumbers_10 1 rfl ?_
    refine r_iconst (v := 4) dX5_readNumbers_11 (by decide) ?_
    refine r_imul dX5_readNumbers_12 ?_
    refine r_iload_n dX5_readNumbers_13 2 rfl ?_
    refine r_iadd dX5_readNumbers_14 ?_
    obtain ⟨h3, h⟩ := chk_some h
    refine r_siaload 4 (by decide) dX5_readNumbers_15 h3 ?_
    obtain ⟨u4, e5, h⟩ := bnd_some h
    refine r_eqI e5 ?_
    refine r_istore_n dX5_readNumbers_16 rfl (Nat.le_of_ble_eq_true rfl) [(3, .int u4), (0, .ref a0), (1, .int x1), (2, .int s.1)] rfl ?_
    refine r_iload_n dX5_readNumbers_17 0 rfl ?_
    refine r_if_ne (tgt := 23) dX5_readNumbers_18 (by decide) (fun c6 => ?_) (fun c6 => ?_)
    · rw [if_neg c6] at h
      refine r_aload_n dX5_readNumbers_23 1 rfl ?_
      refine r_bipush (v := 32) dX5_readNumbers_24 (by decide) ?_
      obtain ⟨h7, h⟩ := chk_some h
      obtain ⟨q8, g9, h⟩ := ob_some h
      refine r_callV (d' := (7, 0, false)) (As := [.int 32]) (st := []) mdv_X5_readSign tm_RX5_43 (by decide) rfl rfl (by decide) rfl (Nat.le_refl _) (Nat.le_of_ble_eq_true rfl) rfl dX5_readNumbers_26 h7 (ctX5_readSign g9) (k_I0 ?_)
      refine r_if_ne (tgt := 34) dX5_readNumbers_29 (by decide) (fun c10 => ?_) (fun c10 => ?_)
      · rw [if_neg c10] at h
        refine r_aload_n dX5_readNumbers_34 1 rfl ?_
        obtain ⟨h11, h⟩ := chk_some h
        obtain ⟨o12, g13, h⟩ := ob_some h
        refine r_getR (fl_RX5_15 rfl) rfl dX5_readNumbers_35 h11 g13 ?_
        refine r_iload_n dX5_readNumbers_38 3 rfl ?_
        refine r_aload_n dX5_readNumbers_39 1 rfl ?_
        refine r_iload_n dX5_readNumbers_40 0 rfl ?_
        refine r_iconst (v := 2) dX5_readNumbers_41 (by decide) ?_
        refine r_icmp_ne (tgt := 49) dX5_readNumbers_42 (by decide) (fun c14 => ?_) (fun c14 => ?_)
        · rw [if_neg c14] at h
          refine r_iconst (v := 0) dX5_readNumbers_49 (by decide) ?_
          refine r_sub [1, 2, 3, 0] [(0, .ref a0), (1, .int x1), (2, .int s.1), (3, .int u4)] rfl ?_
          exact okX5_readNumbers_b50 h hk
        · rw [if_pos c14] at h
          refine r_iconst (v := 1) dX5_readNumbers_45 (by decide) ?_
          refine r_goto (tgt := 50) dX5_readNumbers_46 (by decide) ?_
          refine r_sub [1, 2, 3, 0] [(0, .ref a0), (1, .int x1), (2, .int s.1), (3, .int u4)] rfl ?_
          exact okX5_readNumbers_b50 h hk
      · rw [if_pos c10] at h
        obtain ⟨r15, hr, h⟩ := wr_some h
        rw [hr] at hk
        refine r_iconst (v := 0) dX5_readNumbers_32 (by decide) ?_
        rw [← Option.some.inj h] at hk
        exact r_ireturn dX5_readNumbers_33 rfl rfl hk
    · rw [if_pos c6] at h
      obtain ⟨r16, hr, h⟩ := wr_some h
      rw [hr] at hk
      refine r_iconst (v := 1) dX5_readNumbers_21 (by decide) ?_
      rw [← Option.some.inj h] at hk
      exact r_ireturn dX5_readNumbers_22 rfl rfl hk
def fX5_readNumbers_L2 (a0 : Nat) (x1 : Int32) (s : Int32 × Wd) : Option (Int32 × Wd) := it (fX5_readNumbers_L2_body a0 x1) FU s
set_option maxHeartbeats 1000000 in
set_option maxRecDepth 20000 in
theorem okX5_readNumbers_L2 {E : Ev} {Q : Option Value → Wd → Prop} {a0 : Nat} {x1 : Int32} {s : Int32 × Wd} {r : Int32 × Wd} (h : fX5_readNumbers_L2 a0 x1 s = some r) (hk : (fun q : Int32 × Wd => Q (some (.int q.1)) q.2) r) : PX5_readNumbers_L2 E Q a0 x1 s := it_runs (fun s r h hk => okX5_readNumbers_L2_body h hk) FU s r h hk
def fX5_readNumbers (a0 : Nat) (x1 : Int32) (w : Wd) : Option (Int32 × Wd) :=
  fX5_readNumbers_L2 a0 x1 (0, w)
set_option maxHeartbeats 1000000 in
set_option maxRecDepth 20000 in
theorem okX5_readNumbers {E : Ev} {Q : Option Value → Wd → Prop} {a0 : Nat} {x1 : Int32} {w : Wd} {q : Int32 × Wd} (h : fX5_readNumbers a0 x1 w = some q) (hk : (fun q : Int32 × Wd => Q (some (.int q.1)) q.2) q) : Runs E mX5_readNumbers (9, 0, false) Q 0 0 [(0, .ref a0), (1, .int x1)] [] w := by
  unfold fX5_readNumbers at h
  refine r_iconst (v := 0) dX5_readNumbers_0 (by decide) ?_
  refine r_istore_n dX5_readNumbers_1 rfl (Nat.le_of_ble_eq_true rfl) [(2, .int 0), (0, .ref a0), (1, .int x1)] rfl ?_
  refine r_sub [1, 2, 0] [(0, .ref a0), (1, .int x1), (2, .int 0)] rfl ?_
  exact okX5_readNumbers_L2 h hk
set_option maxHeartbeats 1000000 in
set_option maxRecDepth 20000 in
theorem ctX5_readNumbers {E : Ev} {a0 : Nat} {x1 : Int32} {w : Wd} {q : Int32 × Wd} (h : fX5_readNumbers a0 x1 w = some q) : CT E mX5_readNumbers (9, 0, false) [.ref a0, .int x1] w (QI q) := CT.of pl_RX5 (Nat.le_of_ble_eq_true rfl) (okX5_readNumbers h ⟨rfl, rfl⟩)
def fX5_spelling (x0 : Int32) (w : Wd) : Option (Nat × Wd) :=
  if x0 = 0 then (some (0, w)) else (if x0 = 1 then (some (1, w)) else (if x0 = 2 then (some (2, w)) else (if x0 = 3 then (some (3, w)) else (if x0 = 4 then (some (4, w)) else (if x0 = 5 then (some (5, w)) else (if x0 = 6 then (some (6, w)) else (some (7, w))))))))
set_option maxHeartbeats 1000000 in
set_option maxRecDepth 20000 in
theorem okX5_spelling {E : Ev} {Q : Option Value → Wd → Prop} {x0 : Int32} {w : Wd} {q : Nat × Wd} (h : fX5_spelling x0 w = some q) (hk : (fun q : Nat × Wd => Q (some (.ref (1100 + q.1))) q.2) q) : Runs E mX5_spelling (6, 0, false) Q 0 0 [(0, .int x0)] [] w := by
  unfold fX5_spelling at h
  refine r_iload_n dX5_spelling_0 0 rfl ?_
  by_cases c1 : x0 = 0
  · rw [if_pos c1] at h
    refine r_tabIn (tgt := 44) dX5_spelling_1 (by rw [c1] <;> decide) (by rw [c1] <;> decide) (by rw [c1] <;> rfl) (by decide) ?_
    refine r_ldcS 0 (by decide) rfl rfl dX5_spelling_44 ?_
    rw [← Option.some.inj h] at hk
    exact r_areturn dX5_spelling_46 rfl hk
  rw [if_neg c1] at h
  by_cases c2 : x0 = 1
  · rw [if_pos c2] at h
    refine r_tabIn (tgt := 47) dX5_spelling_1 (by rw [c2] <;> decide) (by rw [c2] <;> decide) (by rw [c2] <;> rfl) (by decide) ?_
    refine r_ldcS 1 (by decide) rfl rfl dX5_spelling_47 ?_
    rw [← Option.some.inj h] at hk
    exact r_areturn dX5_spelling_49 rfl hk
  rw [if_neg c2] at h
  by_cases c3 : x0 = 2
  · rw [if_pos c3] at h
    refine r_tabIn (tgt := 50) dX5_spelling_1 (by rw [c3] <;> decide) (by rw [c3] <;> decide) (by rw [c3] <;> rfl) (by decide) ?_
    refine r_ldcS 2 (by decide) rfl rfl dX5_spelling_50 ?_
    rw [← Option.some.inj h] at hk
    exact r_areturn dX5_spelling_52 rfl hk
  rw [if_neg c3] at h
  by_cases c4 : x0 = 3
  · rw [if_pos c4] at h
    refine r_tabIn (tgt := 53) dX5_spelling_1 (by rw [c4] <;> decide) (by rw [c4] <;> decide) (by rw [c4] <;> rfl) (by decide) ?_
    refine r_ldcS 3 (by decide) rfl rfl dX5_spelling_53 ?_
    rw [← Option.some.inj h] at hk
    exact r_areturn dX5_spelling_55 rfl hk
  rw [if_neg c4] at h
  by_cases c5 : x0 = 4
  · rw [if_pos c5] at h
    refine r_tabIn (tgt := 56) dX5_spelling_1 (by rw [c5] <;> decide) (by rw [c5] <;> decide) (by rw [c5] <;> rfl) (by decide) ?_
    refine r_ldcS 4 (by decide) rfl rfl dX5_spelling_56 ?_
    rw [← Option.some.inj h] at hk
    exact r_areturn dX5_spelling_58 rfl hk
  rw [if_neg c5] at h
  by_cases c6 : x0 = 5
  · rw [if_pos c6] at h
    refine r_tabIn (tgt := 59) dX5_spelling_1 (by rw [c6] <;> decide) (by rw [c6] <;> decide) (by rw [c6] <;> rfl) (by decide) ?_
    refine r_ldcS 5 (by decide) rfl rfl dX5_spelling_59 ?_
    rw [← Option.some.inj h] at hk
    exact r_areturn dX5_spelling_61 rfl hk
  rw [if_neg c6] at h
  by_cases c7 : x0 = 6
  · rw [if_pos c7] at h
    refine r_tabIn (tgt := 62) dX5_spelling_1 (by rw [c7] <;> decide) (by rw [c7] <;> decide) (by rw [c7] <;> rfl) (by decide) ?_
    refine r_ldcS 6 (by decide) rfl rfl dX5_spelling_62 ?_
    rw [← Option.some.inj h] at hk
    exact r_areturn dX5_spelling_64 rfl hk
  rw [if_neg c7] at h
  refine r_tabOut (tgt := 65) dX5_spelling_1 (by have := lv_neT (k := 0) (a := 0) c1 rfl; have := lv_neT (k := 1) (a := 1) c2 rfl; have := lv_neT (k := 2) (a := 2) c3 rfl; have := lv_neT (k := 3) (a := 3) c4 rfl; have := lv_neT (k := 4) (a := 4) c5 rfl; have := lv_neT (k := 5) (a := 5) c6 rfl; have := lv_neT (k := 6) (a := 6) c7 rfl; omega) (by decide) ?_
  refine r_ldcS 7 (by decide) rfl rfl dX5_spelling_65 ?_
  rw [← Option.some.inj h] at hk
  exact r_areturn dX5_spelling_67 rfl hk
set_option maxHeartbeats 1000000 in
set_option maxRecDepth 20000 in
theorem ctX5_spelling {E : Ev} {x0 : Int32} {w : Wd} {q : Nat × Wd} (h : fX5_spelling x0 w = some q) : CT E mX5_spelling (6, 0, false) [.int x0] w (QZ q) := CT.of pl_RX5 (Nat.le_of_ble_eq_true rfl) (okX5_spelling h ⟨rfl, rfl⟩)
def PX5_wordEndingBehind_L2 (E : Ev) (Q : Option Value → Wd → Prop) (x0 : Int32) (x1 : Int32) (s : Int32 × Wd) : Prop := Runs E mX5_wordEndingBehind (8, 0, false) Q 0 2 [(0, .int x0), (1, .int x1), (2, .int s.1)] [] s.2
def fX5_wordEndingBehind_b31 (x0 : Int32) (x1 : Int32) (x2 : Int32) (w : Wd) : Option ((Int32 × Wd) ⊕ (Int32 × Wd)) :=
  some (.inl ((x2 + 1), w))
set_option maxHeartbeats 1000000 in
set_option maxRecDepth 20000 in
theorem okX5_wordEndingBehind_b31 {E : Ev} {Q : Option Value → Wd → Prop} {x0 : Int32} {x1 : Int32} {x2 : Int32} {w : Wd} {q : (Int32 × Wd) ⊕ (Int32 × Wd)} (h : fX5_wordEndingBehind_b31 x0 x1 x2 w = some q) (hk : (Sum.elim (PX5_wordEndingBehind_L2 E Q x0 x1) (fun q : Int32 × Wd => Q (some (.int q.1)) q.2)) q) : Runs E mX5_wordEndingBehind (8, 0, false) Q 0 31 [(0, .int x0), (1, .int x1), (2, .int x2)] [] w := by
  unfold fX5_wordEndingBehind_b31 at h
  refine r_iinc (v := (x2 + 1)) dX5_wordEndingBehind_31 2 rfl rfl (Nat.le_of_ble_eq_true rfl) [(2, .int (x2 + 1)), (0, .int x0), (1, .int x1)] rfl ?_
  refine r_goto (tgt := 2) dX5_wordEndingBehind_34 (by decide) ?_
  rw [← Option.some.inj h] at hk
  refine r_sub [1, 2, 0] [(0, .int x0), (1, .int x1), (2, .int (x2 + 1))] rfl ?_
  exact hk
def fX5_wordEndingBehind_L2_body (x0 : Int32) (x1 : Int32) (s : Int32 × Wd) : Option ((Int32 × Wd) ⊕ (Int32 × Wd)) :=
  if (8 : Int32) ≤ s.1 then (wr (some ((-1), s.2))) else (if ((x0 >>> (s.1 &&& 31)) &&& 1) = 0 then (fX5_wordEndingBehind_b31 x0 x1 s.1 s.2) else (ob (fX5_spelling s.1 s.2) (fun q4 => ob (fJ0_length_8abf5 q4.1 q4.2) (fun q6 => chk (q4.1 < 16) (if q6.1 = (x1 + 1) then (wr (some (s.1, q6.2))) else (fX5_wordEndingBehind_b31 x0 x1 s.1 q6.2))))))
set_option maxHeartbeats 1000000 in
set_option maxRecDepth 20000 in
theorem okX5_wordEndingBehind_L2_body {E : Ev} {Q : Option Value → Wd → Prop} {x0 : Int32} {x1 : Int32} {s : Int32 × Wd} {r : (Int32 × Wd) ⊕ (Int32 × Wd)} (h : fX5_wordEndingBehind_L2_body x0 x1 s = some r) (hk : (Sum.elim (PX5_wordEndingBehind_L2 E Q x0 x1) (fun q : Int32 × Wd => Q (some (.int q.1)) q.2)) r) : PX5_wordEndingBehind_L2 E Q x0 x1 s := by
  unfold fX5_wordEndingBehind_L2_body at h
  unfold PX5_wordEndingBehind_L2
  refine r_iload_n dX5_wordEndingBehind_2 2 rfl ?_
  refine r_bipush (v := 8) dX5_wordEndingBehind_3 (by decide) ?_
  refine r_icmp_ge (tgt := 37) dX5_wordEndingBehind_5 (by decide) (fun c1 => ?_) (fun c1 => ?_)
  · rw [if_pos c1] at h
    obtain ⟨r2, hr, h⟩ := wr_some h
    rw [hr] at hk
    refine r_iconst (v := (-1)) dX5_wordEndingBehind_37 (by decide) ?_
    rw [← Option.some.inj h] at hk
    exact r_ireturn dX5_wordEndingBehind_38 rfl rfl hk
  · rw [if_neg c1] at h
    refine r_iload_n dX5_wordEndingBehind_8 0 rfl ?_
    refine r_iload_n dX5_wordEndingBehind_9 2 rfl ?_
    refine r_ishr dX5_wordEndingBehind_10 ?_
    refine r_iconst (v := 1) dX5_wordEndingBehind_11 (by decide) ?_
    refine r_iand dX5_wordEndingBehind_12 ?_
    refine r_if_eq (tgt := 31) dX5_wordEndingBehind_13 (by decide) (fun c3 => ?_) (fun c3 => ?_)
    · rw [if_pos c3] at h
      refine r_sub [0, 1, 2] [(0, .int x0), (1, .int x1), (2, .int s.1)] rfl ?_
      exact okX5_wordEndingBehind_b31 h hk
    · rw [if_neg c3] at h
      refine r_iload_n dX5_wordEndingBehind_16 2 rfl ?_
      obtain ⟨q4, g5, h⟩ := ob_some h
      refine r_callS (d' := (6, 0, false)) (As := [.int s.1]) (st := []) mds_X5_spelling tm_RX5_75 rfl (by decide) rfl (Nat.le_refl _) (Nat.le_of_ble_eq_true rfl) rfl dX5_wordEndingBehind_17 (ctX5_spelling g5) (k_Z0 ?_)
      obtain ⟨q6, g7, h⟩ := ob_some h
      obtain ⟨h8, h⟩ := chk_some h
      refine r_callT (d' := (7, 0, false)) (As := []) (st := []) (i := q4.1) h8 mdv_J0_length_8abf5 tm_RX5_79 rfl rfl (by decide) rfl (Nat.le_refl _) (Nat.le_of_ble_eq_true rfl) rfl dX5_wordEndingBehind_20 (ctJ0_length_8abf5 g7) (k_I0 ?_)
      refine r_iload_n dX5_wordEndingBehind_23 1 rfl ?_
      refine r_iconst (v := 1) dX5_wordEndingBehind_24 (by decide) ?_
      refine r_iadd dX5_wordEndingBehind_25 ?_
      refine r_icmp_ne (tgt := 31) dX5_wordEndingBehind_26 (by decide) (fun c9 => ?_) (fun c9 => ?_)
      · rw [if_neg c9] at h
        refine r_sub [0, 1, 2] [(0, .int x0), (1, .int x1), (2, .int s.1)] rfl ?_
        exact okX5_wordEndingBehind_b31 h hk
      · rw [if_pos c9] at h
        obtain ⟨r10, hr, h⟩ := wr_some h
        rw [hr] at hk
        refine r_iload_n dX5_wordEndingBehind_29 2 rfl ?_
        rw [← Option.some.inj h] at hk
        exact r_ireturn dX5_wordEndingBehind_30 rfl rfl hk
def fX5_wordEndingBehind_L2 (x0 : Int32) (x1 : Int32) (s : Int32 × Wd) : Option (Int32 × Wd) := it (fX5_wordEndingBehind_L2_body x0 x1) FU s
set_option maxHeartbeats 1000000 in
set_option maxRecDepth 20000 in
theorem okX5_wordEndingBehind_L2 {E : Ev} {Q : Option Value → Wd → Prop} {x0 : Int32} {x1 : Int32} {s : Int32 × Wd} {r : Int32 × Wd} (h : fX5_wordEndingBehind_L2 x0 x1 s = some r) (hk : (fun q : Int32 × Wd => Q (some (.int q.1)) q.2) r) : PX5_wordEndingBehind_L2 E Q x0 x1 s := it_runs (fun s r h hk => okX5_wordEndingBehind_L2_body h hk) FU s r h hk
def fX5_wordEndingBehind (x0 : Int32) (x1 : Int32) (w : Wd) : Option (Int32 × Wd) :=
  fX5_wordEndingBehind_L2 x0 x1 (0, w)
set_option maxHeartbeats 1000000 in
set_option maxRecDepth 20000 in
theorem okX5_wordEndingBehind {E : Ev} {Q : Option Value → Wd → Prop} {x0 : Int32} {x1 : Int32} {w : Wd} {q : Int32 × Wd} (h : fX5_wordEndingBehind x0 x1 w = some q) (hk : (fun q : Int32 × Wd => Q (some (.int q.1)) q.2) q) : Runs E mX5_wordEndingBehind (8, 0, false) Q 0 0 [(0, .int x0), (1, .int x1)] [] w := by
  unfold fX5_wordEndingBehind at h
  refine r_iconst (v := 0) dX5_wordEndingBehind_0 (by decide) ?_
  refine r_istore_n dX5_wordEndingBehind_1 rfl (Nat.le_of_ble_eq_true rfl) [(2, .int 0), (0, .int x0), (1, .int x1)] rfl ?_
  refine r_sub [1, 2, 0] [(0, .int x0), (1, .int x1), (2, .int 0)] rfl ?_
  exact okX5_wordEndingBehind_L2 h hk
set_option maxHeartbeats 1000000 in
set_option maxRecDepth 20000 in
theorem ctX5_wordEndingBehind {E : Ev} {x0 : Int32} {x1 : Int32} {w : Wd} {q : Int32 × Wd} (h : fX5_wordEndingBehind x0 x1 w = some q) : CT E mX5_wordEndingBehind (8, 0, false) [.int x0, .int x1] w (QI q) := CT.of pl_RX5 (Nat.le_of_ble_eq_true rfl) (okX5_wordEndingBehind h ⟨rfl, rfl⟩)
def PX5_wordsGoingOn_L5 (E : Ev) (Q : Option Value → Wd → Prop) (x0 : Int32) (x1 : Int32) (x2 : Int32) (s : Int32 × Int32 × Wd) : Prop := Runs E mX5_wordsGoingOn (10, 0, false) Q 0 5 [(0, .int x0), (1, .int x1), (2, .int x2), (3, .int s.1), (4, .int s.2.1)] [] s.2.2
def fX5_wordsGoingOn_b54 (x0 : Int32) (x1 : Int32) (x2 : Int32) (x3 : Int32) (x4 : Int32) (w : Wd) : Option ((Int32 × Int32 × Wd) ⊕ (Int32 × Wd)) :=
  some (.inl (x3, (x4 + 1), w))
set_option maxHeartbeats 1000000 in
set_option maxRecDepth 20000 in
theorem okX5_wordsGoingOn_b54 {E : Ev} {Q : Option Value → Wd → Prop} {x0 : Int32} {x1 : Int32} {x2 : Int32} {x3 : Int32} {x4 : Int32} {w : Wd} {q : (Int32 × Int32 × Wd) ⊕ (Int32 × Wd)} (h : fX5_wordsGoingOn_b54 x0 x1 x2 x3 x4 w = some q) (hk : (Sum.elim (PX5_wordsGoingOn_L5 E Q x0 x1 x2) (fun q : Int32 × Wd => Q (some (.int q.1)) q.2)) q) : Runs E mX5_wordsGoingOn (10, 0, false) Q 0 54 [(0, .int x0), (1, .int x1), (2, .int x2), (3, .int x3), (4, .int x4)] [] w := by
  unfold fX5_wordsGoingOn_b54 at h
  refine r_iinc (v := (x4 + 1)) dX5_wordsGoingOn_54 4 rfl rfl (Nat.le_of_ble_eq_true rfl) [(4, .int (x4 + 1)), (0, .int x0), (1, .int x1), (2, .int x2), (3, .int x3)] rfl ?_
  refine r_goto (tgt := 5) dX5_wordsGoingOn_57 (by decide) ?_
  rw [← Option.some.inj h] at hk
  refine r_sub [1, 2, 3, 4, 0] [(0, .int x0), (1, .int x1), (2, .int x2), (3, .int x3), (4, .int (x4 + 1))] rfl ?_
  exact hk
def fX5_wordsGoingOn_L5_body (x0 : Int32) (x1 : Int32) (x2 : Int32) (s : Int32 × Int32 × Wd) : Option ((Int32 × Int32 × Wd) ⊕ (Int32 × Wd)) :=
  if (8 : Int32) ≤ s.2.1 then (wr (some (s.1, s.2.2))) else (ob (fX5_spelling s.2.1 s.2.2) (fun q3 => if ((x0 >>> (s.2.1 &&& 31)) &&& 1) = 0 then (fX5_wordsGoingOn_b54 x0 x1 x2 s.1 s.2.1 q3.2) else (ob (fJ0_length_8abf5 q3.1 q3.2) (fun q6 => chk (q3.1 < 16) (if q6.1 ≤ x1 then (fX5_wordsGoingOn_b54 x0 x1 x2 s.1 s.2.1 q6.2) else (ob (fJ0_charAt_5068e q3.1 x1 q6.2) (fun q10 => if q10.1 = x2 then (bnd (s.1 ||| (1 <<< (s.2.1 &&& 31))) (fun u13 => fX5_wordsGoingOn_b54 x0 x1 x2 u13 s.2.1 q10.2)) else (fX5_wordsGoingOn_b54 x0 x1 x2 s.1 s.2.1 q10.2))))))))
set_option maxHeartbeats 1000000 in
set_option maxRecDepth 20000 in
theorem okX5_wordsGoingOn_L5_body {E : Ev} {Q : Option Value → Wd → Prop} {x0 : Int32} {x1 : Int32} {x2 : Int32} {s : Int32 × Int32 × Wd} {r : (Int32 × Int32 × Wd) ⊕ (Int32 × Wd)} (h : fX5_wordsGoingOn_L5_body x0 x1 x2 s = some r) (hk : (Sum.elim (PX5_wordsGoingOn_L5 E Q x0 x1 x2) (fun q : Int32 × Wd => Q (some (.int q.1)) q.2)) r) : PX5_wordsGoingOn_L5 E Q x0 x1 x2 s := by
  unfold fX5_wordsGoingOn_L5_body at h
  unfold PX5_wordsGoingOn_L5
  refine r_iload dX5_wordsGoingOn_5 4 rfl ?_
  refine r_bipush (v := 8) dX5_wordsGoingOn_7 (by decide) ?_
  refine r_icmp_ge (tgt := 60) dX5_wordsGoingOn_9 (by decide) (fun c1 => ?_) (fun c1 => ?_)
  · rw [if_pos c1] at h
    obtain ⟨r2, hr, h⟩ := wr_some h
    rw [hr] at hk
    refine r_iload_n dX5_wordsGoingOn_60 3 rfl ?_
    rw [← Option.some.inj h] at hk
    exact r_ireturn dX5_wordsGoingOn_61 rfl rfl hk
  · rw [if_neg c1] at h
    refine r_iload dX5_wordsGoingOn_12 4 rfl ?_
    obtain ⟨q3, g4, h⟩ := ob_some h
    refine r_callS (d' := (6, 0, false)) (As := [.int s.2.1]) (st := []) mds_X5_spelling tm_RX5_75 rfl (by decide) rfl (Nat.le_refl _) (Nat.le_of_ble_eq_true rfl) rfl dX5_wordsGoingOn_14 (ctX5_spelling g4) (k_Z0 ?_)
    refine r_astore dX5_wordsGoingOn_17 (Nat.le_of_ble_eq_true rfl) [(5, .ref (1100 + q3.1)), (0, .int x0), (1, .int x1), (2, .int x2), (3, .int s.1), (4, .int s.2.1)] rfl ?_
    refine r_iload_n dX5_wordsGoingOn_19 1 rfl ?_
    refine r_iload dX5_wordsGoingOn_20 5 rfl ?_
    refine r_ishr dX5_wordsGoingOn_22 ?_
    refine r_iconst (v := 1) dX5_wordsGoingOn_23 (by decide) ?_
    refine r_iand dX5_wordsGoingOn_24 ?_
    refine r_if_eq (tgt := 54) dX5_wordsGoingOn_25 (by decide) (fun c5 => ?_) (fun c5 => ?_)
    · rw [if_pos c5] at h
      refine r_sub [1, 2, 3, 4, 5] [(0, .int x0), (1, .int x1), (2, .int x2), (3, .int s.1), (4, .int s.2.1)] rfl ?_
      exact okX5_wordsGoingOn_b54 h hk
    · rw [if_neg c5] at h
      refine r_iload_n dX5_wordsGoingOn_28 2 rfl ?_
      refine r_aload dX5_wordsGoingOn_29 0 rfl ?_
      obtain ⟨q6, g7, h⟩ := ob_some h
      obtain ⟨h8, h⟩ := chk_some h
      refine r_callT (d' := (7, 0, false)) (As := []) (st := [.int x1]) (i := q3.1) h8 mdv_J0_length_8abf5 tm_RX5_79 rfl rfl (by decide) rfl (Nat.le_refl _) (Nat.le_of_ble_eq_true rfl) rfl dX5_wordsGoingOn_31 (ctJ0_length_8abf5 g7) (k_I0 ?_)
      refine r_icmp_ge (tgt := 54) dX5_wordsGoingOn_34 (by decide) (fun c9 => ?_) (fun c9 => ?_)
      · rw [if_pos c9] at h
        refine r_sub [1, 2, 3, 4, 5] [(0, .int x0), (1, .int x1), (2, .int x2), (3, .int s.1), (4, .int s.2.1)] rfl ?_
        exact okX5_wordsGoingOn_b54 h hk
      · rw [if_neg c9] at h
        refine r_aload dX5_wordsGoingOn_37 0 rfl ?_
        refine r_iload_n dX5_wordsGoingOn_39 2 rfl ?_
        obtain ⟨q10, g11, h⟩ := ob_some h
        refine r_callT (d' := (9, 0, false)) (As := [.int x1]) (st := []) (i := q3.1) h8 mdv_J0_charAt_5068e tm_RX5_84 rfl rfl (by decide) rfl (Nat.le_refl _) (Nat.le_of_ble_eq_true rfl) rfl dX5_wordsGoingOn_40 (ctJ0_charAt_5068e g11) (k_I0 ?_)
        refine r_iload_n dX5_wordsGoingOn_43 3 rfl ?_
        refine r_icmp_ne (tgt := 54) dX5_wordsGoingOn_44 (by decide) (fun c12 => ?_) (fun c12 => ?_)
        · rw [if_neg c12] at h
          refine r_sub [1, 2, 3, 4, 5] [(0, .int x0), (1, .int x1), (2, .int x2), (3, .int s.1), (4, .int s.2.1)] rfl ?_
          exact okX5_wordsGoingOn_b54 h hk
        · rw [if_pos c12] at h
          refine r_iload_n dX5_wordsGoingOn_47 4 rfl ?_
          refine r_iconst (v := 1) dX5_wordsGoingOn_48 (by decide) ?_
          refine r_iload dX5_wordsGoingOn_49 5 rfl ?_
          refine r_ishl dX5_wordsGoingOn_51 ?_
          refine r_ior dX5_wordsGoingOn_52 ?_
          obtain ⟨u13, e14, h⟩ := bnd_some h
          refine r_eqI e14 ?_
          refine r_istore_n dX5_wordsGoingOn_53 rfl (Nat.le_of_ble_eq_true rfl) [(3, .int u13), (5, .ref (1100 + q3.1)), (0, .int x0), (1, .int x1), (2, .int x2), (4, .int s.2.1)] rfl ?_
          refine r_sub [2, 3, 4, 0, 5] [(0, .int x0), (1, .int x1), (2, .int x2), (3, .int u13), (4, .int s.2.1)] rfl ?_
          exact okX5_wordsGoingOn_b54 h hk
def fX5_wordsGoingOn_L5 (x0 : Int32) (x1 : Int32) (x2 : Int32) (s : Int32 × Int32 × Wd) : Option (Int32 × Wd) := it (fX5_wordsGoingOn_L5_body x0 x1 x2) FU s
set_option maxHeartbeats 1000000 in
set_option maxRecDepth 20000 in
theorem okX5_wordsGoingOn_L5 {E : Ev} {Q : Option Value → Wd → Prop} {x0 : Int32} {x1 : Int32} {x2 : Int32} {s : Int32 × Int32 × Wd} {r : Int32 × Wd} (h : fX5_wordsGoingOn_L5 x0 x1 x2 s = some r) (hk : (fun q : Int32 × Wd => Q (some (.int q.1)) q.2) r) : PX5_wordsGoingOn_L5 E Q x0 x1 x2 s := it_runs (fun s r h hk => okX5_wordsGoingOn_L5_body h hk) FU s r h hk
def fX5_wordsGoingOn (x0 : Int32) (x1 : Int32) (x2 : Int32) (w : Wd) : Option (Int32 × Wd) :=
  fX5_wordsGoingOn_L5 x0 x1 x2 (0, 0, w)
set_option maxHeartbeats 1000000 in
set_option maxRecDepth 20000 in
theorem okX5_wordsGoingOn {E : Ev} {Q : Option Value → Wd → Prop} {x0 : Int32} {x1 : Int32} {x2 : Int32} {w : Wd} {q : Int32 × Wd} (h : fX5_wordsGoingOn x0 x1 x2 w = some q) (hk : (fun q : Int32 × Wd => Q (some (.int q.1)) q.2) q) : Runs E mX5_wordsGoingOn (10, 0, false) Q 0 0 [(0, .int x0), (1, .int x1), (2, .int x2)] [] w := by
  unfold fX5_wordsGoingOn at h
  refine r_iconst (v := 0) dX5_wordsGoingOn_0 (by decide) ?_
  refine r_istore_n dX5_wordsGoingOn_1 rfl (Nat.le_of_ble_eq_true rfl) [(3, .int 0), (0, .int x0), (1, .int x1), (2, .int x2)] rfl ?_
  refine r_iconst (v := 0) dX5_wordsGoingOn_2 (by decide) ?_
  refine r_istore dX5_wordsGoingOn_3 (Nat.le_of_ble_eq_true rfl) [(4, .int 0), (3, .int 0), (0, .int x0), (1, .int x1), (2, .int x2)] rfl ?_
  refine r_sub [2, 3, 4, 1, 0] [(0, .int x0), (1, .int x1), (2, .int x2), (3, .int 0), (4, .int 0)] rfl ?_
  exact okX5_wordsGoingOn_L5 h hk
set_option maxHeartbeats 1000000 in
set_option maxRecDepth 20000 in
theorem ctX5_wordsGoingOn {E : Ev} {x0 : Int32} {x1 : Int32} {x2 : Int32} {w : Wd} {q : Int32 × Wd} (h : fX5_wordsGoingOn x0 x1 x2 w = some q) : CT E mX5_wordsGoingOn (10, 0, false) [.int x0, .int x1, .int x2] w (QI q) := CT.of pl_RX5 (Nat.le_of_ble_eq_true rfl) (okX5_wordsGoingOn h ⟨rfl, rfl⟩)
def PX5_readWord_L6 (E : Ev) (Q : Option Value → Wd → Prop) (a0 : Nat) (s : Int32 × Int32 × Wd) : Prop := Runs E mX5_readWord (11, 0, false) Q 0 6 [(0, .ref a0), (1, .int s.1), (2, .int s.2.1)] [] s.2.2
def fX5_readWord_L6_body (a0 : Nat) (s : Int32 × Int32 × Wd) : Option ((Int32 × Int32 × Wd) ⊕ (Int32 × Wd)) :=
  if (7 : Int32) ≤ s.2.1 then (wr (some ((-1), s.2.2))) else (chk (isO s.2.2 a0 5) (ob (wR s.2.2 a0 2) (fun o4 => chk (isO s.2.2 o4 6) (ob (fX6_intAt o4 (wI s.2.2 a0 4) s.2.2) (fun q7 => ob (fX5_wordsGoingOn s.1 s.2.1 q7.1 q7.2) (fun q9 => if q9.1 = 0 then (wr (chk (isO q9.2 a0 5) (bnd (sI q9.2 a0 0 (wI q9.2 a0 4)) (fun w21 => some ((-1), w21))))) else (chk (isO q9.2 a0 5) (bnd (sI q9.2 a0 4 ((wI q9.2 a0 4) + 1)) (fun w13 => ob (fX5_wordEndingBehind q9.1 s.2.1 w13) (fun q15 => if q15.1 = (-1) then (some (.inl (q9.1, (s.2.1 + 1), q15.2))) else (wr (some (q15.1, q15.2)))))))))))))
set_option maxHeartbeats 1000000 in
set_option maxRecDepth 20000 in
theorem okX5_readWord_L6_body {E : Ev} {Q : Option Value → Wd → Prop} {a0 : Nat} {s : Int32 × Int32 × Wd} {r : (Int32 × Int32 × Wd) ⊕ (Int32 × Wd)} (h : fX5_readWord_L6_body a0 s = some r) (hk : (Sum.elim (PX5_readWord_L6 E Q a0) (fun q : Int32 × Wd => Q (some (.int q.1)) q.2)) r) : PX5_readWord_L6 E Q a0 s := by
  unfold fX5_readWord_L6_body at h
  unfold PX5_readWord_L6
  refine r_iload_n dX5_readWord_6 2 rfl ?_
  refine r_bipush (v := 7) dX5_readWord_7 (by decide) ?_
  refine r_icmp_ge (tgt := 72) dX5_readWord_9 (by decide) (fun c1 => ?_) (fun c1 => ?_)
  · rw [if_pos c1] at h
    obtain ⟨r2, hr, h⟩ := wr_some h
    rw [hr] at hk
    refine r_iconst (v := (-1)) dX5_readWord_72 (by decide) ?_
    rw [← Option.some.inj h] at hk
    exact r_ireturn dX5_readWord_73 rfl rfl hk
  · rw [if_neg c1] at h
    refine r_iload_n dX5_readWord_12 1 rfl ?_
    refine r_iload_n dX5_readWord_13 2 rfl ?_
    refine r_aload_n dX5_readWord_14 0 rfl ?_
    obtain ⟨h3, h⟩ := chk_some h
    obtain ⟨o4, g5, h⟩ := ob_some h
    refine r_getR (fl_RX5_19 rfl) rfl dX5_readWord_15 h3 g5 ?_
    refine r_aload_n dX5_readWord_18 0 rfl ?_
    refine r_getI (fl_RX5_27 rfl) rfl dX5_readWord_19 h3 ?_
    obtain ⟨h6, h⟩ := chk_some h
    obtain ⟨q7, g8, h⟩ := ob_some h
    refine r_callV (d' := (6, 0, false)) (As := [.int (wI s.2.2 a0 4)]) (st := [.int s.2.1, .int s.1]) mdv_X6_intAt tm_RX5_63 (by decide) rfl rfl (by decide) rfl (Nat.le_refl _) (Nat.le_of_ble_eq_true rfl) rfl dX5_readWord_22 h6 (ctX6_intAt g8) (k_I0 ?_)
    obtain ⟨q9, g10, h⟩ := ob_some h
    refine r_callS (d' := (10, 0, false)) (As := [.int s.1, .int s.2.1, .int q7.1]) (st := []) mds_X5_wordsGoingOn tm_RX5_67 rfl (by decide) rfl (Nat.le_refl _) (Nat.le_of_ble_eq_true rfl) rfl dX5_readWord_25 (ctX5_wordsGoingOn g10) (k_I0 ?_)
    refine r_istore_n dX5_readWord_28 rfl (Nat.le_of_ble_eq_true rfl) [(1, .int q9.1), (0, .ref a0), (2, .int s.2.1)] rfl ?_
    refine r_iload_n dX5_readWord_29 0 rfl ?_
    refine r_if_ne (tgt := 43) dX5_readWord_30 (by decide) (fun c11 => ?_) (fun c11 => ?_)
    · rw [if_neg c11] at h
      refine r_aload_n dX5_readWord_43 1 rfl ?_
      refine r_dup dX5_readWord_44 rfl ?_
      obtain ⟨h12, h⟩ := chk_some h
      refine r_getI (fl_RX5_27 rfl) rfl dX5_readWord_45 h12 ?_
      refine r_iconst (v := 1) dX5_readWord_48 (by decide) ?_
      refine r_iadd dX5_readWord_49 ?_
      obtain ⟨w13, e14, h⟩ := bnd_some h
      refine r_putI (fl_RX5_27 rfl) rfl rfl (ck_ty (by decide) 4 (by decide)) rfl rfl dX5_readWord_50 h12 ?_
      refine r_eqW e14 ?_
      refine r_iload_n dX5_readWord_53 0 rfl ?_
      refine r_iload_n dX5_readWord_54 2 rfl ?_
      obtain ⟨q15, g16, h⟩ := ob_some h
      refine r_callS (d' := (8, 0, false)) (As := [.int q9.1, .int s.2.1]) (st := []) mds_X5_wordEndingBehind tm_RX5_71 rfl (by decide) rfl (Nat.le_refl _) (Nat.le_of_ble_eq_true rfl) rfl dX5_readWord_55 (ctX5_wordEndingBehind g16) (k_I0 ?_)
      refine r_istore_n dX5_readWord_58 rfl (Nat.le_of_ble_eq_true rfl) [(3, .int q15.1), (1, .int q9.1), (0, .ref a0), (2, .int s.2.1)] rfl ?_
      refine r_iload_n dX5_readWord_59 0 rfl ?_
      refine r_iconst (v := (-1)) dX5_readWord_60 (by decide) ?_
      refine r_icmp_eq (tgt := 66) dX5_readWord_61 (by decide) (fun c17 => ?_) (fun c17 => ?_)
      · rw [if_pos c17] at h
        refine r_iinc (v := (s.2.1 + 1)) dX5_readWord_66 3 rfl rfl (Nat.le_of_ble_eq_true rfl) [(2, .int (s.2.1 + 1)), (3, .int q15.1), (1, .int q9.1), (0, .ref a0)] rfl ?_
        refine r_goto (tgt := 6) dX5_readWord_69 (by decide) ?_
        rw [← Option.some.inj h] at hk
        refine r_sub [3, 2, 0] [(0, .ref a0), (1, .int q9.1), (2, .int (s.2.1 + 1))] rfl ?_
        exact hk
      · rw [if_neg c17] at h
        obtain ⟨r18, hr, h⟩ := wr_some h
        rw [hr] at hk
        refine r_iload_n dX5_readWord_64 0 rfl ?_
        rw [← Option.some.inj h] at hk
        exact r_ireturn dX5_readWord_65 rfl rfl hk
    · rw [if_pos c11] at h
      obtain ⟨r19, hr, h⟩ := wr_some h
      rw [hr] at hk
      refine r_aload_n dX5_readWord_33 1 rfl ?_
      refine r_aload_n dX5_readWord_34 1 rfl ?_
      obtain ⟨h20, h⟩ := chk_some h
      refine r_getI (fl_RX5_27 rfl) rfl dX5_readWord_35 h20 ?_
      obtain ⟨w21, e22, h⟩ := bnd_some h
      refine r_putI (fl_RX5_9 rfl) rfl rfl (ck_ty (by decide) 0 (by decide)) rfl rfl dX5_readWord_38 h20 ?_
      refine r_eqW e22 ?_
      refine r_iconst (v := (-1)) dX5_readWord_41 (by decide) ?_
      rw [← Option.some.inj h] at hk
      exact r_ireturn dX5_readWord_42 rfl rfl hk
def fX5_readWord_L6 (a0 : Nat) (s : Int32 × Int32 × Wd) : Option (Int32 × Wd) := it (fX5_readWord_L6_body a0) FU s
set_option maxHeartbeats 1000000 in
set_option maxRecDepth 20000 in
theorem okX5_readWord_L6 {E : Ev} {Q : Option Value → Wd → Prop} {a0 : Nat} {s : Int32 × Int32 × Wd} {r : Int32 × Wd} (h : fX5_readWord_L6 a0 s = some r) (hk : (fun q : Int32 × Wd => Q (some (.int q.1)) q.2) r) : PX5_readWord_L6 E Q a0 s := it_runs (fun s r h hk => okX5_readWord_L6_body h hk) FU s r h hk
def fX5_readWord (a0 : Nat) (w : Wd) : Option (Int32 × Wd) :=
  fX5_readWord_L6 a0 (255, 0, w)
set_option maxHeartbeats 1000000 in
set_option maxRecDepth 20000 in
theorem okX5_readWord {E : Ev} {Q : Option Value → Wd → Prop} {a0 : Nat} {w : Wd} {q : Int32 × Wd} (h : fX5_readWord a0 w = some q) (hk : (fun q : Int32 × Wd => Q (some (.int q.1)) q.2) q) : Runs E mX5_readWord (11, 0, false) Q 0 0 [(0, .ref a0)] [] w := by
  unfold fX5_readWord at h
  refine r_sipush (v := 255) dX5_readWord_0 (by decide) ?_
  refine r_istore_n dX5_readWord_3 rfl (Nat.le_of_ble_eq_true rfl) [(1, .int 255), (0, .ref a0)] rfl ?_
  refine r_iconst (v := 0) dX5_readWord_4 (by decide) ?_
  refine r_istore_n dX5_readWord_5 rfl (Nat.le_of_ble_eq_true rfl) [(2, .int 0), (1, .int 255), (0, .ref a0)] rfl ?_
  refine r_sub [2, 1, 0] [(0, .ref a0), (1, .int 255), (2, .int 0)] rfl ?_
  exact okX5_readWord_L6 h hk
set_option maxHeartbeats 1000000 in
set_option maxRecDepth 20000 in
theorem ctX5_readWord {E : Ev} {a0 : Nat} {w : Wd} {q : Int32 × Wd} (h : fX5_readWord a0 w = some q) : CT E mX5_readWord (11, 0, false) [.ref a0] w (QI q) := CT.of pl_RX5 (Nat.le_of_ble_eq_true rfl) (okX5_readWord h ⟨rfl, rfl⟩)
def fX5_readItem_b64 (s0 : Int32) (w : Wd) : Option (Int32 × Wd) :=
  some (s0, w)
set_option maxHeartbeats 1000000 in
set_option maxRecDepth 20000 in
theorem okX5_readItem_b64 {E : Ev} {Q : Option Value → Wd → Prop} {s0 : Int32} {w : Wd} {q : Int32 × Wd} (h : fX5_readItem_b64 s0 w = some q) (hk : (fun q : Int32 × Wd => Q (some (.int q.1)) q.2) q) : Runs E mX5_readItem (12, 0, false) Q 0 64 [] [.int s0] w := by
  unfold fX5_readItem_b64 at h
  rw [← Option.some.inj h] at hk
  exact r_ireturn dX5_readItem_64 rfl rfl hk
def fX5_readItem_b63 (w : Wd) : Option (Int32 × Wd) :=
  fX5_readItem_b64 (-1) w
set_option maxHeartbeats 1000000 in
set_option maxRecDepth 20000 in
theorem okX5_readItem_b63 {E : Ev} {Q : Option Value → Wd → Prop} {w : Wd} {q : Int32 × Wd} (h : fX5_readItem_b63 w = some q) (hk : (fun q : Int32 × Wd => Q (some (.int q.1)) q.2) q) : Runs E mX5_readItem (12, 0, false) Q 0 63 [] [] w := by
  unfold fX5_readItem_b63 at h
  refine r_iconst (v := (-1)) dX5_readItem_63 (by decide) ?_
  refine r_sub [] [] rfl ?_
  exact okX5_readItem_b64 h hk
def fX5_readItem_b46 (a0 : Nat) (x2 : Int32) (w : Wd) : Option (Int32 × Wd) :=
  if x2 = (-1) then (fX5_readItem_b63 w) else (chk (isO w a0 5) (ob (fX5_readNumbers a0 x2 w) (fun q3 => if q3.1 = 0 then (fX5_readItem_b63 q3.2) else (fX5_readItem_b64 x2 q3.2))))
set_option maxHeartbeats 1000000 in
set_option maxRecDepth 20000 in
theorem okX5_readItem_b46 {E : Ev} {Q : Option Value → Wd → Prop} {a0 : Nat} {x2 : Int32} {w : Wd} {q : Int32 × Wd} (h : fX5_readItem_b46 a0 x2 w = some q) (hk : (fun q : Int32 × Wd => Q (some (.int q.1)) q.2) q) : Runs E mX5_readItem (12, 0, false) Q 0 46 [(0, .ref a0), (2, .int x2)] [] w := by
  unfold fX5_readItem_b46 at h
  refine r_iload_n dX5_readItem_46 1 rfl ?_
  refine r_iconst (v := (-1)) dX5_readItem_47 (by decide) ?_
  refine r_icmp_eq (tgt := 63) dX5_readItem_48 (by decide) (fun c1 => ?_) (fun c1 => ?_)
  · rw [if_pos c1] at h
    refine r_sub [] [] rfl ?_
    exact okX5_readItem_b63 h hk
  · rw [if_neg c1] at h
    refine r_aload_n dX5_readItem_51 0 rfl ?_
    refine r_iload_n dX5_readItem_52 1 rfl ?_
    obtain ⟨h2, h⟩ := chk_some h
    obtain ⟨q3, g4, h⟩ := ob_some h
    refine r_callV (d' := (9, 0, false)) (As := [.int x2]) (st := []) mdv_X5_readNumbers tm_RX5_59 (by decide) rfl rfl (by decide) rfl (Nat.le_refl _) (Nat.le_of_ble_eq_true rfl) rfl dX5_readItem_53 h2 (ctX5_readNumbers g4) (k_I0 ?_)
    refine r_if_eq (tgt := 63) dX5_readItem_56 (by decide) (fun c5 => ?_) (fun c5 => ?_)
    · rw [if_pos c5] at h
      refine r_sub [] [] rfl ?_
      exact okX5_readItem_b63 h hk
    · rw [if_neg c5] at h
      refine r_iload_n dX5_readItem_59 1 rfl ?_
      refine r_goto (tgt := 64) dX5_readItem_60 (by decide) ?_
      refine r_sub [] [] rfl ?_
      exact okX5_readItem_b64 h hk
def fX5_readItem_b39 (a0 : Nat) (x1 : Int32) (w : Wd) : Option (Int32 × Wd) :=
  chk (isO w a0 5) (bnd (sI w a0 0 x1) (fun w2 => some ((-1), w2)))
set_option maxHeartbeats 1000000 in
set_option maxRecDepth 20000 in
theorem okX5_readItem_b39 {E : Ev} {Q : Option Value → Wd → Prop} {a0 : Nat} {x1 : Int32} {w : Wd} {q : Int32 × Wd} (h : fX5_readItem_b39 a0 x1 w = some q) (hk : (fun q : Int32 × Wd => Q (some (.int q.1)) q.2) q) : Runs E mX5_readItem (12, 0, false) Q 0 39 [(0, .ref a0), (1, .int x1)] [] w := by
  unfold fX5_readItem_b39 at h
  refine r_aload_n dX5_readItem_39 0 rfl ?_
  refine r_iload_n dX5_readItem_40 1 rfl ?_
  obtain ⟨h1, h⟩ := chk_some h
  obtain ⟨w2, e3, h⟩ := bnd_some h
  refine r_putI (fl_RX5_9 rfl) rfl rfl (ck_ty (by decide) 0 (by decide)) rfl rfl dX5_readItem_41 h1 ?_
  refine r_eqW e3 ?_
  refine r_iconst (v := (-1)) dX5_readItem_44 (by decide) ?_
  rw [← Option.some.inj h] at hk
  exact r_ireturn dX5_readItem_45 rfl rfl hk
def fX5_readItem_b24 (a0 : Nat) (x1 : Int32) (x2 : Int32) (w : Wd) : Option (Int32 × Wd) :=
  if x2 = 1 then (chk (isO w a0 5) (ob (wR w a0 3) (fun o3 => chk (isO w o3 0) (ob (fX0_isFullOfGarments o3 w) (fun q6 => if q6.1 = 0 then (fX5_readItem_b46 a0 x2 q6.2) else (fX5_readItem_b39 a0 x1 q6.2)))))) else (fX5_readItem_b46 a0 x2 w)
set_option maxHeartbeats 1000000 in
set_option maxRecDepth 20000 in
theorem okX5_readItem_b24 {E : Ev} {Q : Option Value → Wd → Prop} {a0 : Nat} {x1 : Int32} {x2 : Int32} {w : Wd} {q : Int32 × Wd} (h : fX5_readItem_b24 a0 x1 x2 w = some q) (hk : (fun q : Int32 × Wd => Q (some (.int q.1)) q.2) q) : Runs E mX5_readItem (12, 0, false) Q 0 24 [(0, .ref a0), (1, .int x1), (2, .int x2)] [] w := by
  unfold fX5_readItem_b24 at h
  refine r_iload_n dX5_readItem_24 2 rfl ?_
  refine r_iconst (v := 1) dX5_readItem_25 (by decide) ?_
  refine r_icmp_ne (tgt := 46) dX5_readItem_26 (by decide) (fun c1 => ?_) (fun c1 => ?_)
  · rw [if_neg c1] at h
    refine r_sub [0, 2] [(0, .ref a0), (2, .int x2)] rfl ?_
    exact okX5_readItem_b46 h hk
  · rw [if_pos c1] at h
    refine r_aload_n dX5_readItem_29 0 rfl ?_
    obtain ⟨h2, h⟩ := chk_some h
    obtain ⟨o3, g4, h⟩ := ob_some h
    refine r_getR (fl_RX5_23 rfl) rfl dX5_readItem_30 h2 g4 ?_
    obtain ⟨h5, h⟩ := chk_some h
    obtain ⟨q6, g7, h⟩ := ob_some h
    refine r_callV (d' := (6, 0, false)) (As := []) (st := []) mdv_X0_isFullOfGarments tm_RX5_56 (by decide) rfl rfl (by decide) rfl (Nat.le_refl _) (Nat.le_of_ble_eq_true rfl) rfl dX5_readItem_33 h5 (ctX0_isFullOfGarments g7) (k_I0 ?_)
    refine r_if_eq (tgt := 46) dX5_readItem_36 (by decide) (fun c8 => ?_) (fun c8 => ?_)
    · rw [if_pos c8] at h
      refine r_sub [0, 2] [(0, .ref a0), (2, .int x2)] rfl ?_
      exact okX5_readItem_b46 h hk
    · rw [if_neg c8] at h
      refine r_sub [0, 1] [(0, .ref a0), (1, .int x1)] rfl ?_
      exact okX5_readItem_b39 h hk
def fX5_readItem (a0 : Nat) (w : Wd) : Option (Int32 × Wd) :=
  chk (isO w a0 5) (bnd (wI w a0 4) (fun u2 => ob (fX5_readWord a0 w) (fun q4 => if q4.1 = 0 then (chk (isO q4.2 a0 5) (ob (wR q4.2 a0 3) (fun o8 => chk (isO q4.2 o8 0) (ob (fX0_isFullOfPeople o8 q4.2) (fun q11 => if q11.1 = 0 then (fX5_readItem_b24 a0 u2 q4.1 q11.2) else (fX5_readItem_b39 a0 u2 q11.2)))))) else (fX5_readItem_b24 a0 u2 q4.1 q4.2))))
set_option maxHeartbeats 1000000 in
set_option maxRecDepth 20000 in
theorem okX5_readItem {E : Ev} {Q : Option Value → Wd → Prop} {a0 : Nat} {w : Wd} {q : Int32 × Wd} (h : fX5_readItem a0 w = some q) (hk : (fun q : Int32 × Wd => Q (some (.int q.1)) q.2) q) : Runs E mX5_readItem (12, 0, false) Q 0 0 [(0, .ref a0)] [] w := by
  unfold fX5_readItem at h
  refine r_aload_n dX5_readItem_0 0 rfl ?_
  obtain ⟨h1, h⟩ := chk_some h
  refine r_getI (fl_RX5_27 rfl) rfl dX5_readItem_1 h1 ?_
  obtain ⟨u2, e3, h⟩ := bnd_some h
  refine r_eqI e3 ?_
  refine r_istore_n dX5_readItem_4 rfl (Nat.le_of_ble_eq_true rfl) [(1, .int u2), (0, .ref a0)] rfl ?_
  refine r_aload_n dX5_readItem_5 1 rfl ?_
  obtain ⟨q4, g5, h⟩ := ob_some h
  refine r_callV (d' := (11, 0, false)) (As := []) (st := []) mdv_X5_readWord tm_RX5_47 (by decide) rfl rfl (by decide) rfl (Nat.le_refl _) (Nat.le_of_ble_eq_true rfl) rfl dX5_readItem_6 h1 (ctX5_readWord g5) (k_I0 ?_)
  refine r_istore_n dX5_readItem_9 rfl (Nat.le_of_ble_eq_true rfl) [(2, .int q4.1), (1, .int u2), (0, .ref a0)] rfl ?_
  refine r_iload_n dX5_readItem_10 0 rfl ?_
  refine r_if_ne (tgt := 24) dX5_readItem_11 (by decide) (fun c6 => ?_) (fun c6 => ?_)
  · rw [if_neg c6] at h
    refine r_sub [2, 1, 0] [(0, .ref a0), (1, .int u2), (2, .int q4.1)] rfl ?_
    exact okX5_readItem_b24 h hk
  · rw [if_pos c6] at h
    refine r_aload_n dX5_readItem_14 2 rfl ?_
    obtain ⟨h7, h⟩ := chk_some h
    obtain ⟨o8, g9, h⟩ := ob_some h
    refine r_getR (fl_RX5_23 rfl) rfl dX5_readItem_15 h7 g9 ?_
    obtain ⟨h10, h⟩ := chk_some h
    obtain ⟨q11, g12, h⟩ := ob_some h
    refine r_callV (d' := (6, 0, false)) (As := []) (st := []) mdv_X0_isFullOfPeople tm_RX5_50 (by decide) rfl rfl (by decide) rfl (Nat.le_refl _) (Nat.le_of_ble_eq_true rfl) rfl dX5_readItem_18 h10 (ctX0_isFullOfPeople g12) (k_I0 ?_)
    refine r_if_ne (tgt := 39) dX5_readItem_21 (by decide) (fun c13 => ?_) (fun c13 => ?_)
    · rw [if_neg c13] at h
      refine r_sub [2, 1] [(0, .ref a0), (1, .int u2)] rfl ?_
      exact okX5_readItem_b39 h hk
    · rw [if_pos c13] at h
      refine r_sub [2, 1, 0] [(0, .ref a0), (1, .int u2), (2, .int q4.1)] rfl ?_
      exact okX5_readItem_b24 h hk
set_option maxHeartbeats 1000000 in
set_option maxRecDepth 20000 in
theorem ctX5_readItem {E : Ev} {a0 : Nat} {w : Wd} {q : Int32 × Wd} (h : fX5_readItem a0 w = some q) : CT E mX5_readItem (12, 0, false) [.ref a0] w (QI q) := CT.of pl_RX5 (Nat.le_of_ble_eq_true rfl) (okX5_readItem h ⟨rfl, rfl⟩)
def fX5_tell_b230 (w : Wd) : Option (Wd) :=
  some w
set_option maxHeartbeats 1000000 in
set_option maxRecDepth 20000 in
theorem okX5_tell_b230 {E : Ev} {Q : Option Value → Wd → Prop} {w : Wd} {q : Wd} (h : fX5_tell_b230 w = some q) (hk : (fun q : Wd => Q none q) q) : Runs E mX5_tell (10, 0, false) Q 0 230 [] [] w := by
  unfold fX5_tell_b230 at h
  rw [← Option.some.inj h] at hk
  exact r_return dX5_tell_230 rfl hk
def fX5_tell (a0 : Nat) (x1 : Int32) (w : Wd) : Option (Wd) :=
  if x1 = 0 then (chk (isO w a0 5) (ob (wR w a0 3) (fun o3 => ob (wR w a0 1) (fun o5 => chk (isA w o5 0) (chk (inb 0 (wn w o5)) (chk (isO w o3 0) (ob (fX0_addPerson o3 (wI w o5 (0 : Int32).toNatClampNeg) w) (fun q10 => fX5_tell_b230 q10.2)))))))) else (if x1 = 1 then (chk (isO w a0 5) (ob (wR w a0 3) (fun o14 => ob (wR w a0 1) (fun o16 => chk (isA w o16 0) (chk (inb 0 (wn w o16)) (chk (inb 1 (wn w o16)) (chk (isO w o14 0) (ob (fX0_addGarment o14 (wI w o16 (0 : Int32).toNatClampNeg) (wI w o16 (1 : Int32).toNatClampNeg) w) (fun q22 => fX5_tell_b230 q22.2))))))))) else (if x1 = 2 then (chk (isO w a0 5) (ob (wR w a0 3) (fun o26 => chk (isO w o26 0) (ob (wR w o26 0) (fun o29 => ob (wR w a0 1) (fun o31 => chk (isA w o31 0) (chk (inb 0 (wn w o31)) (chk (isA w o29 3) (chk (inb (wI w o31 (0 : Int32).toNatClampNeg) (wn w o29)) (ob (wR w o29 ((wI w o31 (0 : Int32).toNatClampNeg)).toNatClampNeg) (fun o37 => chk (isO w o37 4) (ob (wR w o37 0) (fun o40 => chk (inb 1 (wn w o31)) (chk (inb 2 (wn w o31)) (chk (isA w o40 0) (chk (inb (wI w o31 (1 : Int32).toNatClampNeg) (wn w o40)) (bnd (sI w o40 ((wI w o31 (1 : Int32).toNatClampNeg)).toNatClampNeg (wI w o31 (2 : Int32).toNatClampNeg)) (fun w46 => fX5_tell_b230 w46)))))))))))))))))) else (if x1 = 3 then (chk (isO w a0 5) (ob (wR w a0 3) (fun o50 => chk (isO w o50 0) (ob (wR w o50 1) (fun o53 => ob (wR w a0 1) (fun o55 => chk (isA w o55 0) (chk (inb 0 (wn w o55)) (chk (isA w o53 2) (chk (inb (wI w o55 (0 : Int32).toNatClampNeg) (wn w o53)) (ob (wR w o53 ((wI w o55 (0 : Int32).toNatClampNeg)).toNatClampNeg) (fun o61 => chk (inb 1 (wn w o55)) (chk (inb 2 (wn w o55)) (chk (inb 3 (wn w o55)) (chk (isO w o61 2) (ob (fX2_accustom o61 (wI w o55 (1 : Int32).toNatClampNeg) (wI w o55 (2 : Int32).toNatClampNeg) (wI w o55 (3 : Int32).toNatClampNeg) w) (fun q67 => fX5_tell_b230 q67)))))))))))))))) else (if x1 = 4 then (chk (isO w a0 5) (ob (wR w a0 3) (fun o71 => chk (isO w o71 0) (ob (wR w o71 1) (fun o74 => ob (wR w a0 1) (fun o76 => chk (isA w o76 0) (chk (inb 0 (wn w o76)) (chk (isA w o74 2) (chk (inb (wI w o76 (0 : Int32).toNatClampNeg) (wn w o74)) (ob (wR w o74 ((wI w o76 (0 : Int32).toNatClampNeg)).toNatClampNeg) (fun o82 => chk (inb 1 (wn w o76)) (chk (isO w o82 2) (bnd (sI w o82 4 (wI w o76 (1 : Int32).toNatClampNeg)) (fun w86 => fX5_tell_b230 w86)))))))))))))) else (if x1 = 5 then (chk (isO w a0 5) (ob (wR w a0 3) (fun o90 => chk (isO w o90 0) (ob (wR w o90 1) (fun o93 => ob (wR w a0 1) (fun o95 => chk (isA w o95 0) (chk (inb 0 (wn w o95)) (chk (isA w o93 2) (chk (inb (wI w o95 (0 : Int32).toNatClampNeg) (wn w o93)) (ob (wR w o93 ((wI w o95 (0 : Int32).toNatClampNeg)).toNatClampNeg) (fun o101 => chk (isO w o101 2) (bnd (sI w o101 4 (-1)) (fun w104 => fX5_tell_b230 w104))))))))))))) else (if x1 = 6 then (chk (isO w a0 5) (ob (wR w a0 3) (fun o108 => chk (isO w o108 0) (ob (wR w o108 1) (fun o111 => ob (wR w a0 1) (fun o113 => chk (isA w o113 0) (chk (inb 0 (wn w o113)) (chk (isA w o111 2) (chk (inb (wI w o113 (0 : Int32).toNatClampNeg) (wn w o111)) (ob (wR w o111 ((wI w o113 (0 : Int32).toNatClampNeg)).toNatClampNeg) (fun o119 => chk (isO w o119 2) (ob (fX2_launder o119 w) (fun q122 => fX5_tell_b230 q122))))))))))))) else (chk (isO w a0 5) (ob (wR w a0 3) (fun o125 => chk (isO w o125 0) (ob (fX0_passDay o125 w) (fun q128 => fX5_tell_b230 q128.2)))))))))))
set_option maxHeartbeats 1000000 in
set_option maxRecDepth 20000 in
theorem okX5_tell {E : Ev} {Q : Option Value → Wd → Prop} {a0 : Nat} {x1 : Int32} {w : Wd} {q : Wd} (h : fX5_tell a0 x1 w = some q) (hk : (fun q : Wd => Q none q) q) : Runs E mX5_tell (10, 0, false) Q 0 0 [(0, .ref a0), (1, .int x1)] [] w := by
  unfold fX5_tell at h
  refine r_iload_n dX5_tell_0 1 rfl ?_
  by_cases c1 : x1 = 0
  · rw [if_pos c1] at h
    refine r_tabIn (tgt := 44) dX5_tell_1 (by rw [c1] <;> decide) (by rw [c1] <;> decide) (by rw [c1] <;> rfl) (by decide) ?_
    refine r_aload_n dX5_tell_44 0 rfl ?_
    obtain ⟨h2, h⟩ := chk_some h
    obtain ⟨o3, g4, h⟩ := ob_some h
    refine r_getR (fl_RX5_23 rfl) rfl dX5_tell_45 h2 g4 ?_
    refine r_aload_n dX5_tell_48 0 rfl ?_
    obtain ⟨o5, g6, h⟩ := ob_some h
    refine r_getR (fl_RX5_15 rfl) rfl dX5_tell_49 h2 g6 ?_
    refine r_iconst (v := 0) dX5_tell_52 (by decide) ?_
    obtain ⟨h7, h⟩ := chk_some h
    obtain ⟨h8, h⟩ := chk_some h
    refine r_iaload dX5_tell_53 h7 h8 ?_
    obtain ⟨h9, h⟩ := chk_some h
    obtain ⟨q10, g11, h⟩ := ob_some h
    refine r_callV (d' := (8, 0, false)) (As := [.int (wI w o5 (0 : Int32).toNatClampNeg)]) (st := []) mdv_X0_addPerson tm_RX5_129 (by decide) rfl rfl (by decide) rfl (Nat.le_refl _) (Nat.le_of_ble_eq_true rfl) rfl dX5_tell_54 h9 (ctX0_addPerson g11) (k_I0 ?_)
    refine r_pop dX5_tell_57 rfl ?_
    refine r_goto (tgt := 230) dX5_tell_58 (by decide) ?_
    refine r_sub [] [] rfl ?_
    exact okX5_tell_b230 h hk
  rw [if_neg c1] at h
  by_cases c12 : x1 = 1
  · rw [if_pos c12] at h
    refine r_tabIn (tgt := 61) dX5_tell_1 (by rw [c12] <;> decide) (by rw [c12] <;> decide) (by rw [c12] <;> rfl) (by decide) ?_
    refine r_aload_n dX5_tell_61 0 rfl ?_
    obtain ⟨h13, h⟩ := chk_some h
    obtain ⟨o14, g15, h⟩ := ob_some h
    refine r_getR (fl_RX5_23 rfl) rfl dX5_tell_62 h13 g15 ?_
    refine r_aload_n dX5_tell_65 0 rfl ?_
    obtain ⟨o16, g17, h⟩ := ob_some h
    refine r_getR (fl_RX5_15 rfl) rfl dX5_tell_66 h13 g17 ?_
    refine r_iconst (v := 0) dX5_tell_69 (by decide) ?_
    obtain ⟨h18, h⟩ := chk_some h
    obtain ⟨h19, h⟩ := chk_some h
    refine r_iaload dX5_tell_70 h18 h19 ?_
    refine r_aload_n dX5_tell_71 0 rfl ?_
    refine r_getR (fl_RX5_15 rfl) rfl dX5_tell_72 h13 g17 ?_
    refine r_iconst (v := 1) dX5_tell_75 (by decide) ?_
    obtain ⟨h20, h⟩ := chk_some h
    refine r_iaload dX5_tell_76 h18 h20 ?_
    obtain ⟨h21, h⟩ := chk_some h
    obtain ⟨q22, g23, h⟩ := ob_some h
    refine r_callV (d' := (8, 0, false)) (As := [.int (wI w o16 (0 : Int32).toNatClampNeg), .int (wI w o16 (1 : Int32).toNatClampNeg)]) (st := []) mdv_X0_addGarment tm_RX5_132 (by decide) rfl rfl (by decide) rfl (Nat.le_refl _) (Nat.le_of_ble_eq_true rfl) rfl dX5_tell_77 h21 (ctX0_addGarment g23) (k_I0 ?_)
    refine r_pop dX5_tell_80 rfl ?_
    refine r_goto (tgt := 230) dX5_tell_81 (by decide) ?_
    refine r_sub [] [] rfl ?_
    exact okX5_tell_b230 h hk
  rw [if_neg c12] at h
  by_cases c24 : x1 = 2
  · rw [if_pos c24] at h
    refine r_tabIn (tgt := 84) dX5_tell_1 (by rw [c24] <;> decide) (by rw [c24] <;> decide) (by rw [c24] <;> rfl) (by decide) ?_
    refine r_aload_n dX5_tell_84 0 rfl ?_
    obtain ⟨h25, h⟩ := chk_some h
    obtain ⟨o26, g27, h⟩ := ob_some h
    refine r_getR (fl_RX5_23 rfl) rfl dX5_tell_85 h25 g27 ?_
    obtain ⟨h28, h⟩ := chk_some h
    obtain ⟨o29, g30, h⟩ := ob_some h
    refine r_getR (fl_RX5_135 rfl) rfl dX5_tell_88 h28 g30 ?_
    refine r_aload_n dX5_tell_91 0 rfl ?_
    obtain ⟨o31, g32, h⟩ := ob_some h
    refine r_getR (fl_RX5_15 rfl) rfl dX5_tell_92 h25 g32 ?_
    refine r_iconst (v := 0) dX5_tell_95 (by decide) ?_
    obtain ⟨h33, h⟩ := chk_some h
    obtain ⟨h34, h⟩ := chk_some h
    refine r_iaload dX5_tell_96 h33 h34 ?_
    obtain ⟨h35, h⟩ := chk_some h
    obtain ⟨h36, h⟩ := chk_some h
    obtain ⟨o37, g38, h⟩ := ob_some h
    refine r_aaload 3 (by decide) (by decide) dX5_tell_97 h35 h36 g38 ?_
    obtain ⟨h39, h⟩ := chk_some h
    obtain ⟨o40, g41, h⟩ := ob_some h
    refine r_getR (fl_RX5_139 rfl) rfl dX5_tell_98 h39 g41 ?_
    refine r_aload_n dX5_tell_101 0 rfl ?_
    refine r_getR (fl_RX5_15 rfl) rfl dX5_tell_102 h25 g32 ?_
    refine r_iconst (v := 1) dX5_tell_105 (by decide) ?_
    obtain ⟨h42, h⟩ := chk_some h
    refine r_iaload dX5_tell_106 h33 h42 ?_
    refine r_aload_n dX5_tell_107 0 rfl ?_
    refine r_getR (fl_RX5_15 rfl) rfl dX5_tell_108 h25 g32 ?_
    refine r_iconst (v := 2) dX5_tell_111 (by decide) ?_
    obtain ⟨h43, h⟩ := chk_some h
    refine r_iaload dX5_tell_112 h33 h43 ?_
    obtain ⟨h44, h⟩ := chk_some h
    obtain ⟨h45, h⟩ := chk_some h
    obtain ⟨w46, e47, h⟩ := bnd_some h
    refine r_iastore dX5_tell_113 h44 h45 ?_
    refine r_eqW e47 ?_
    refine r_goto (tgt := 230) dX5_tell_114 (by decide) ?_
    refine r_sub [] [] rfl ?_
    exact okX5_tell_b230 h hk
  rw [if_neg c24] at h
  by_cases c48 : x1 = 3
  · rw [if_pos c48] at h
    refine r_tabIn (tgt := 117) dX5_tell_1 (by rw [c48] <;> decide) (by rw [c48] <;> decide) (by rw [c48] <;> rfl) (by decide) ?_
    refine r_aload_n dX5_tell_117 0 rfl ?_
    obtain ⟨h49, h⟩ := chk_some h
    obtain ⟨o50, g51, h⟩ := ob_some h
    refine r_getR (fl_RX5_23 rfl) rfl dX5_tell_118 h49 g51 ?_
    obtain ⟨h52, h⟩ := chk_some h
    obtain ⟨o53, g54, h⟩ := ob_some h
    refine r_getR (fl_RX5_144 rfl) rfl dX5_tell_121 h52 g54 ?_
    refine r_aload_n dX5_tell_124 0 rfl ?_
    obtain ⟨o55, g56, h⟩ := ob_some h
    refine r_getR (fl_RX5_15 rfl) rfl dX5_tell_125 h49 g56 ?_
    refine r_iconst (v := 0) dX5_tell_128 (by decide) ?_
    obtain ⟨h57, h⟩ := chk_some h
    obtain ⟨h58, h⟩ := chk_some h
    refine r_iaload dX5_tell_129 h57 h58 ?_
    obtain ⟨h59, h⟩ := chk_some h
    obtain ⟨h60, h⟩ := chk_some h
    obtain ⟨o61, g62, h⟩ := ob_some h
    refine r_aaload 2 (by decide) (by decide) dX5_tell_130 h59 h60 g62 ?_
    refine r_aload_n dX5_tell_131 0 rfl ?_
    refine r_getR (fl_RX5_15 rfl) rfl dX5_tell_132 h49 g56 ?_
    refine r_iconst (v := 1) dX5_tell_135 (by decide) ?_
    obtain ⟨h63, h⟩ := chk_some h
    refine r_iaload dX5_tell_136 h57 h63 ?_
    refine r_aload_n dX5_tell_137 0 rfl ?_
    refine r_getR (fl_RX5_15 rfl) rfl dX5_tell_138 h49 g56 ?_
    refine r_iconst (v := 2) dX5_tell_141 (by decide) ?_
    obtain ⟨h64, h⟩ := chk_some h
    refine r_iaload dX5_tell_142 h57 h64 ?_
    refine r_aload_n dX5_tell_143 0 rfl ?_
    refine r_getR (fl_RX5_15 rfl) rfl dX5_tell_144 h49 g56 ?_
    refine r_iconst (v := 3) dX5_tell_147 (by decide) ?_
    obtain ⟨h65, h⟩ := chk_some h
    refine r_iaload dX5_tell_148 h57 h65 ?_
    obtain ⟨h66, h⟩ := chk_some h
    obtain ⟨q67, g68, h⟩ := ob_some h
    refine r_callV (d' := (6, 0, false)) (As := [.int (wI w o55 (1 : Int32).toNatClampNeg), .int (wI w o55 (2 : Int32).toNatClampNeg), .int (wI w o55 (3 : Int32).toNatClampNeg)]) (st := []) mdv_X2_accustom tm_RX5_148 (by decide) rfl rfl (by decide) rfl (Nat.le_refl _) (Nat.le_of_ble_eq_true rfl) rfl dX5_tell_149 h66 (ctX2_accustom g68) (k_V0 ?_)
    refine r_goto (tgt := 230) dX5_tell_152 (by decide) ?_
    refine r_sub [] [] rfl ?_
    exact okX5_tell_b230 h hk
  rw [if_neg c48] at h
  by_cases c69 : x1 = 4
  · rw [if_pos c69] at h
    refine r_tabIn (tgt := 155) dX5_tell_1 (by rw [c69] <;> decide) (by rw [c69] <;> decide) (by rw [c69] <;> rfl) (by decide) ?_
    refine r_aload_n dX5_tell_155 0 rfl ?_
    obtain ⟨h70, h⟩ := chk_some h
    obtain ⟨o71, g72, h⟩ := ob_some h
    refine r_getR (fl_RX5_23 rfl) rfl dX5_tell_156 h70 g72 ?_
    obtain ⟨h73, h⟩ := chk_some h
    obtain ⟨o74, g75, h⟩ := ob_some h
    refine r_getR (fl_RX5_144 rfl) rfl dX5_tell_159 h73 g75 ?_
    refine r_aload_n dX5_tell_162 0 rfl ?_
    obtain ⟨o76, g77, h⟩ := ob_some h
    refine r_getR (fl_RX5_15 rfl) rfl dX5_tell_163 h70 g77 ?_
    refine r_iconst (v := 0) dX5_tell_166 (by decide) ?_
    obtain ⟨h78, h⟩ := chk_some h
    obtain ⟨h79, h⟩ := chk_some h
    refine r_iaload dX5_tell_167 h78 h79 ?_
    obtain ⟨h80, h⟩ := chk_some h
    obtain ⟨h81, h⟩ := chk_some h
    obtain ⟨o82, g83, h⟩ := ob_some h
    refine r_aaload 2 (by decide) (by decide) dX5_tell_168 h80 h81 g83 ?_
    refine r_aload_n dX5_tell_169 0 rfl ?_
    refine r_getR (fl_RX5_15 rfl) rfl dX5_tell_170 h70 g77 ?_
    refine r_iconst (v := 1) dX5_tell_173 (by decide) ?_
    obtain ⟨h84, h⟩ := chk_some h
    refine r_iaload dX5_tell_174 h78 h84 ?_
    obtain ⟨h85, h⟩ := chk_some h
    obtain ⟨w86, e87, h⟩ := bnd_some h
    refine r_putI (fl_RX5_154 rfl) rfl rfl (ck_ty (by decide) 4 (by decide)) rfl rfl dX5_tell_175 h85 ?_
    refine r_eqW e87 ?_
    refine r_goto (tgt := 230) dX5_tell_178 (by decide) ?_
    refine r_sub [] [] rfl ?_
    exact okX5_tell_b230 h hk
  rw [if_neg c69] at h
  by_cases c88 : x1 = 5
  · rw [if_pos c88] at h
    refine r_tabIn (tgt := 181) dX5_tell_1 (by rw [c88] <;> decide) (by rw [c88] <;> decide) (by rw [c88] <;> rfl) (by decide) ?_
    refine r_aload_n dX5_tell_181 0 rfl ?_
    obtain ⟨h89, h⟩ := chk_some h
    obtain ⟨o90, g91, h⟩ := ob_some h
    refine r_getR (fl_RX5_23 rfl) rfl dX5_tell_182 h89 g91 ?_
    obtain ⟨h92, h⟩ := chk_some h
    obtain ⟨o93, g94, h⟩ := ob_some h
    refine r_getR (fl_RX5_144 rfl) rfl dX5_tell_185 h92 g94 ?_
    refine r_aload_n dX5_tell_188 0 rfl ?_
    obtain ⟨o95, g96, h⟩ := ob_some h
    refine r_getR (fl_RX5_15 rfl) rfl dX5_tell_189 h89 g96 ?_
    refine r_iconst (v := 0) dX5_tell_192 (by decide) ?_
    obtain ⟨h97, h⟩ := chk_some h
    obtain ⟨h98, h⟩ := chk_some h
    refine r_iaload dX5_tell_193 h97 h98 ?_
    obtain ⟨h99, h⟩ := chk_some h
    obtain ⟨h100, h⟩ := chk_some h
    obtain ⟨o101, g102, h⟩ := ob_some h
    refine r_aaload 2 (by decide) (by decide) dX5_tell_194 h99 h100 g102 ?_
    refine r_iconst (v := (-1)) dX5_tell_195 (by decide) ?_
    obtain ⟨h103, h⟩ := chk_some h
    obtain ⟨w104, e105, h⟩ := bnd_some h
    refine r_putI (fl_RX5_154 rfl) rfl rfl (ck_ty (by decide) 4 (by decide)) rfl rfl dX5_tell_196 h103 ?_
    refine r_eqW e105 ?_
    refine r_goto (tgt := 230) dX5_tell_199 (by decide) ?_
    refine r_sub [] [] rfl ?_
    exact okX5_tell_b230 h hk
  rw [if_neg c88] at h
  by_cases c106 : x1 = 6
  · rw [if_pos c106] at h
    refine r_tabIn (tgt := 202) dX5_tell_1 (by rw [c106] <;> decide) (by rw [c106] <;> decide) (by rw [c106] <;> rfl) (by decide) ?_
    refine r_aload_n dX5_tell_202 0 rfl ?_
    obtain ⟨h107, h⟩ := chk_some h
    obtain ⟨o108, g109, h⟩ := ob_some h
    refine r_getR (fl_RX5_23 rfl) rfl dX5_tell_203 h107 g109 ?_
    obtain ⟨h110, h⟩ := chk_some h
    obtain ⟨o111, g112, h⟩ := ob_some h
    refine r_getR (fl_RX5_144 rfl) rfl dX5_tell_206 h110 g112 ?_
    refine r_aload_n dX5_tell_209 0 rfl ?_
    obtain ⟨o113, g114, h⟩ := ob_some h
    refine r_getR (fl_RX5_15 rfl) rfl dX5_tell_210 h107 g114 ?_
    refine r_iconst (v := 0) dX5_tell_213 (by decide) ?_
    obtain ⟨h115, h⟩ := chk_some h
    obtain ⟨h116, h⟩ := chk_some h
    refine r_iaload dX5_tell_214 h115 h116 ?_
    obtain ⟨h117, h⟩ := chk_some h
    obtain ⟨h118, h⟩ := chk_some h
    obtain ⟨o119, g120, h⟩ := ob_some h
    refine r_aaload 2 (by decide) (by decide) dX5_tell_215 h117 h118 g120 ?_
    obtain ⟨h121, h⟩ := chk_some h
    obtain ⟨q122, g123, h⟩ := ob_some h
    refine r_callV (d' := (7, 0, false)) (As := []) (st := []) mdv_X2_launder tm_RX5_157 (by decide) rfl rfl (by decide) rfl (Nat.le_refl _) (Nat.le_of_ble_eq_true rfl) rfl dX5_tell_216 h121 (ctX2_launder g123) (k_V0 ?_)
    refine r_goto (tgt := 230) dX5_tell_219 (by decide) ?_
    refine r_sub [] [] rfl ?_
    exact okX5_tell_b230 h hk
  rw [if_neg c106] at h
  refine r_tabOut (tgt := 222) dX5_tell_1 (by have := lv_neT (k := 0) (a := 0) c1 rfl; have := lv_neT (k := 1) (a := 1) c12 rfl; have := lv_neT (k := 2) (a := 2) c24 rfl; have := lv_neT (k := 3) (a := 3) c48 rfl; have := lv_neT (k := 4) (a := 4) c69 rfl; have := lv_neT (k := 5) (a := 5) c88 rfl; have := lv_neT (k := 6) (a := 6) c106 rfl; omega) (by decide) ?_
  refine r_aload_n dX5_tell_222 0 rfl ?_
  obtain ⟨h124, h⟩ := chk_some h
  obtain ⟨o125, g126, h⟩ := ob_some h
  refine r_getR (fl_RX5_23 rfl) rfl dX5_tell_223 h124 g126 ?_
  obtain ⟨h127, h⟩ := chk_some h
  obtain ⟨q128, g129, h⟩ := ob_some h
  refine r_callV (d' := (9, 0, false)) (As := []) (st := []) mdv_X0_passDay tm_RX5_160 (by decide) rfl rfl (by decide) rfl (Nat.le_refl _) (Nat.le_of_ble_eq_true rfl) rfl dX5_tell_226 h127 (ctX0_passDay g129) (k_I0 ?_)
  refine r_pop dX5_tell_229 rfl ?_
  refine r_sub [] [] rfl ?_
  exact okX5_tell_b230 h hk
set_option maxHeartbeats 1000000 in
set_option maxRecDepth 20000 in
theorem ctX5_tell {E : Ev} {a0 : Nat} {x1 : Int32} {w : Wd} {q : Wd} (h : fX5_tell a0 x1 w = some q) : CT E mX5_tell (10, 0, false) [.ref a0, .int x1] w (QV q) := CT.of pl_RX5 (Nat.le_of_ble_eq_true rfl) (okX5_tell h ⟨rfl, rfl⟩)
def PX5_read_L25 (E : Ev) (Q : Option Value → Wd → Prop) (a0 : Nat) (s : Int32 × Int32 × Wd) : Prop := Runs E mX5_read (13, 0, false) Q 0 25 [(0, .ref a0), (3, .int s.1), (4, .int s.2.1)] [] s.2.2
def fX5_read_b93 (x3 : Int32) (w : Wd) : Option (Int32 × Wd) :=
  some (x3, w)
set_option maxHeartbeats 1000000 in
set_option maxRecDepth 20000 in
theorem okX5_read_b93 {E : Ev} {Q : Option Value → Wd → Prop} {x3 : Int32} {w : Wd} {q : Int32 × Wd} (h : fX5_read_b93 x3 w = some q) (hk : (fun q : Int32 × Wd => Q (some (.int q.1)) q.2) q) : Runs E mX5_read (13, 0, false) Q 0 93 [(3, .int x3)] [] w := by
  unfold fX5_read_b93 at h
  refine r_iload_n dX5_read_93 0 rfl ?_
  rw [← Option.some.inj h] at hk
  exact r_ireturn dX5_read_94 rfl rfl hk
def fX5_read_b88 (a0 : Nat) (x3 : Int32) (s0 : Int32) (w : Wd) : Option ((Int32 × Int32 × Wd) ⊕ (Int32 × Wd)) :=
  some (.inl (x3, s0, w))
set_option maxHeartbeats 1000000 in
set_option maxRecDepth 20000 in
theorem okX5_read_b88 {E : Ev} {Q : Option Value → Wd → Prop} {a0 : Nat} {x3 : Int32} {s0 : Int32} {w : Wd} {q : (Int32 × Int32 × Wd) ⊕ (Int32 × Wd)} (h : fX5_read_b88 a0 x3 s0 w = some q) (hk : (Sum.elim (PX5_read_L25 E Q a0) (fun q : Int32 × Wd => Q (some (.int q.1)) q.2)) q) : Runs E mX5_read (13, 0, false) Q 0 88 [(0, .ref a0), (3, .int x3)] [.int s0] w := by
  unfold fX5_read_b88 at h
  refine r_istore dX5_read_88 (Nat.le_of_ble_eq_true rfl) [(4, .int s0), (0, .ref a0), (3, .int x3)] rfl ?_
  refine r_goto (tgt := 25) dX5_read_90 (by decide) ?_
  rw [← Option.some.inj h] at hk
  refine r_sub [1, 2, 0] [(0, .ref a0), (3, .int x3), (4, .int s0)] rfl ?_
  exact hk
def fX5_read_b87 (a0 : Nat) (x3 : Int32) (w : Wd) : Option ((Int32 × Int32 × Wd) ⊕ (Int32 × Wd)) :=
  fX5_read_b88 a0 x3 0 w
set_option maxHeartbeats 1000000 in
set_option maxRecDepth 20000 in
theorem okX5_read_b87 {E : Ev} {Q : Option Value → Wd → Prop} {a0 : Nat} {x3 : Int32} {w : Wd} {q : (Int32 × Int32 × Wd) ⊕ (Int32 × Wd)} (h : fX5_read_b87 a0 x3 w = some q) (hk : (Sum.elim (PX5_read_L25 E Q a0) (fun q : Int32 × Wd => Q (some (.int q.1)) q.2)) q) : Runs E mX5_read (13, 0, false) Q 0 87 [(0, .ref a0), (3, .int x3)] [] w := by
  unfold fX5_read_b87 at h
  refine r_iconst (v := 0) dX5_read_87 (by decide) ?_
  refine r_sub [0, 1] [(0, .ref a0), (3, .int x3)] rfl ?_
  exact okX5_read_b88 h hk
def fX5_read_L25_body (a0 : Nat) (s : Int32 × Int32 × Wd) : Option ((Int32 × Int32 × Wd) ⊕ (Int32 × Wd)) :=
  if s.2.1 = 0 then (wr (fX5_read_b93 s.1 s.2.2)) else (if (160 : Int32) < s.1 then (wr (fX5_read_b93 s.1 s.2.2)) else (chk (isO s.2.2 a0 5) (ob (fX5_readItem a0 s.2.2) (fun q6 => if q6.1 = (-1) then (wr (some (s.1, q6.2))) else (chk (isO q6.2 a0 5) (ob (fX5_tell a0 q6.1 q6.2) (fun q10 => chk (isO q10 a0 5) (ob (wR q10 a0 2) (fun o13 => chk (isO q10 o13 6) (if (wI q10 o13 1) ≤ (wI q10 a0 4) then (fX5_read_b87 a0 (s.1 + 1) q10) else (ob (fX5_readSign a0 59 q10) (fun q17 => if q17.1 = 0 then (fX5_read_b87 a0 (s.1 + 1) q17.2) else (fX5_read_b88 a0 (s.1 + 1) 1 q17.2)))))))))))))
set_option maxHeartbeats 1000000 in
set_option maxRecDepth 20000 in
theorem okX5_read_L25_body {E : Ev} {Q : Option Value → Wd → Prop} {a0 : Nat} {s : Int32 × Int32 × Wd} {r : (Int32 × Int32 × Wd) ⊕ (Int32 × Wd)} (h : fX5_read_L25_body a0 s = some r) (hk : (Sum.elim (PX5_read_L25 E Q a0) (fun q : Int32 × Wd => Q (some (.int q.1)) q.2)) r) : PX5_read_L25 E Q a0 s := by
  unfold fX5_read_L25_body at h
  unfold PX5_read_L25
  refine r_iload dX5_read_25 2 rfl ?_
  refine r_if_eq (tgt := 93) dX5_read_27 (by decide) (fun c1 => ?_) (fun c1 => ?_)
  · rw [if_pos c1] at h
    obtain ⟨r2, hr, h⟩ := wr_some h
    rw [hr] at hk
    refine r_sub [1] [(3, .int s.1)] rfl ?_
    exact okX5_read_b93 h hk
  · rw [if_neg c1] at h
    refine r_iload_n dX5_read_30 1 rfl ?_
    refine r_sipush (v := 160) dX5_read_31 (by decide) ?_
    refine r_icmp_gt (tgt := 93) dX5_read_34 (by decide) (fun c3 => ?_) (fun c3 => ?_)
    · rw [if_pos c3] at h
      obtain ⟨r4, hr, h⟩ := wr_some h
      rw [hr] at hk
      refine r_sub [1] [(3, .int s.1)] rfl ?_
      exact okX5_read_b93 h hk
    · rw [if_neg c3] at h
      refine r_aload_n dX5_read_37 0 rfl ?_
      obtain ⟨h5, h⟩ := chk_some h
      obtain ⟨q6, g7, h⟩ := ob_some h
      refine r_callV (d' := (12, 0, false)) (As := []) (st := []) mdv_X5_readItem tm_RX5_30 (by decide) rfl rfl (by decide) rfl (Nat.le_refl _) (Nat.le_of_ble_eq_true rfl) rfl dX5_read_38 h5 (ctX5_readItem g7) (k_I0 ?_)
      refine r_istore dX5_read_41 (Nat.le_of_ble_eq_true rfl) [(5, .int q6.1), (0, .ref a0), (3, .int s.1), (4, .int s.2.1)] rfl ?_
      refine r_iload dX5_read_43 0 rfl ?_
      refine r_iconst (v := (-1)) dX5_read_45 (by decide) ?_
      refine r_icmp_ne (tgt := 51) dX5_read_46 (by decide) (fun c8 => ?_) (fun c8 => ?_)
      · rw [if_neg c8] at h
        refine r_aload_n dX5_read_51 1 rfl ?_
        refine r_iload dX5_read_52 0 rfl ?_
        obtain ⟨h9, h⟩ := chk_some h
        obtain ⟨q10, g11, h⟩ := ob_some h
        refine r_callV (d' := (10, 0, false)) (As := [.int q6.1]) (st := []) mdv_X5_tell tm_RX5_34 (by decide) rfl rfl (by decide) rfl (Nat.le_refl _) (Nat.le_of_ble_eq_true rfl) rfl dX5_read_54 h9 (ctX5_tell g11) (k_V0 ?_)
        refine r_iinc (v := (s.1 + 1)) dX5_read_57 2 rfl rfl (Nat.le_of_ble_eq_true rfl) [(3, .int (s.1 + 1)), (5, .int q6.1), (0, .ref a0), (4, .int s.2.1)] rfl ?_
        refine r_aload_n dX5_read_60 2 rfl ?_
        obtain ⟨h12, h⟩ := chk_some h
        refine r_getI (fl_RX5_27 rfl) rfl dX5_read_61 h12 ?_
        refine r_aload_n dX5_read_64 2 rfl ?_
        obtain ⟨o13, g14, h⟩ := ob_some h
        refine r_getR (fl_RX5_19 rfl) rfl dX5_read_65 h12 g14 ?_
        obtain ⟨h15, h⟩ := chk_some h
        refine r_getI (fl_RX5_38 rfl) rfl dX5_read_68 h15 ?_
        refine r_icmp_ge (tgt := 87) dX5_read_71 (by decide) (fun c16 => ?_) (fun c16 => ?_)
        · rw [if_pos c16] at h
          refine r_sub [2, 0] [(0, .ref a0), (3, .int (s.1 + 1))] rfl ?_
          exact okX5_read_b87 h hk
        · rw [if_neg c16] at h
          refine r_aload_n dX5_read_74 2 rfl ?_
          refine r_bipush (v := 59) dX5_read_75 (by decide) ?_
          obtain ⟨q17, g18, h⟩ := ob_some h
          refine r_callV (d' := (7, 0, false)) (As := [.int 59]) (st := []) mdv_X5_readSign tm_RX5_43 (by decide) rfl rfl (by decide) rfl (Nat.le_refl _) (Nat.le_of_ble_eq_true rfl) rfl dX5_read_77 h12 (ctX5_readSign g18) (k_I0 ?_)
          refine r_if_eq (tgt := 87) dX5_read_80 (by decide) (fun c19 => ?_) (fun c19 => ?_)
          · rw [if_pos c19] at h
            refine r_sub [2, 0] [(0, .ref a0), (3, .int (s.1 + 1))] rfl ?_
            exact okX5_read_b87 h hk
          · rw [if_neg c19] at h
            refine r_iconst (v := 1) dX5_read_83 (by decide) ?_
            refine r_goto (tgt := 88) dX5_read_84 (by decide) ?_
            refine r_sub [2, 0] [(0, .ref a0), (3, .int (s.1 + 1))] rfl ?_
            exact okX5_read_b88 h hk
      · rw [if_pos c8] at h
        obtain ⟨r20, hr, h⟩ := wr_some h
        rw [hr] at hk
        refine r_iload_n dX5_read_49 2 rfl ?_
        rw [← Option.some.inj h] at hk
        exact r_ireturn dX5_read_50 rfl rfl hk
def fX5_read_L25 (a0 : Nat) (s : Int32 × Int32 × Wd) : Option (Int32 × Wd) := it (fX5_read_L25_body a0) FU s
set_option maxHeartbeats 1000000 in
set_option maxRecDepth 20000 in
theorem okX5_read_L25 {E : Ev} {Q : Option Value → Wd → Prop} {a0 : Nat} {s : Int32 × Int32 × Wd} {r : Int32 × Wd} (h : fX5_read_L25 a0 s = some r) (hk : (fun q : Int32 × Wd => Q (some (.int q.1)) q.2) r) : PX5_read_L25 E Q a0 s := it_runs (fun s r h hk => okX5_read_L25_body h hk) FU s r h hk
def fX5_read (a0 : Nat) (a1 : Nat) (a2 : Nat) (w : Wd) : Option (Int32 × Wd) :=
  chk (isO w a0 5) (bnd (sR w a0 2 (some a1)) (fun w2 => chk (isO w2 a0 5) (bnd (sR w2 a0 3 (some a2)) (fun w5 => chk (isO w5 a0 5) (bnd (sI w5 a0 4 0) (fun w8 => chk (isO w8 a0 5) (bnd (sI w8 a0 0 (-1)) (fun w11 => fX5_read_L25 a0 (0, 1, w11)))))))))
set_option maxHeartbeats 1000000 in
set_option maxRecDepth 20000 in
theorem okX5_read {E : Ev} {Q : Option Value → Wd → Prop} {a0 : Nat} {a1 : Nat} {a2 : Nat} {w : Wd} {q : Int32 × Wd} (h : fX5_read a0 a1 a2 w = some q) (hk : (fun q : Int32 × Wd => Q (some (.int q.1)) q.2) q) : Runs E mX5_read (13, 0, false) Q 0 0 [(0, .ref a0), (1, .ref a1), (2, .ref a2)] [] w := by
  unfold fX5_read at h
  refine r_aload_n dX5_read_0 0 rfl ?_
  refine r_aload_n dX5_read_1 1 rfl ?_
  obtain ⟨h1, h⟩ := chk_some h
  obtain ⟨w2, e3, h⟩ := bnd_some h
  refine r_putR (fl_RX5_19 rfl) rfl rfl (ck_ty (by decide) 2 (by decide)) rfl rfl dX5_read_2 h1 ?_
  refine r_eqW e3 ?_
  refine r_aload_n dX5_read_5 0 rfl ?_
  refine r_aload_n dX5_read_6 2 rfl ?_
  obtain ⟨h4, h⟩ := chk_some h
  obtain ⟨w5, e6, h⟩ := bnd_some h
  refine r_putR (fl_RX5_23 rfl) rfl rfl (ck_ty (by decide) 3 (by decide)) rfl rfl dX5_read_7 h4 ?_
  refine r_eqW e6 ?_
  refine r_aload_n dX5_read_10 0 rfl ?_
  refine r_iconst (v := 0) dX5_read_11 (by decide) ?_
  obtain ⟨h7, h⟩ := chk_some h
  obtain ⟨w8, e9, h⟩ := bnd_some h
  refine r_putI (fl_RX5_27 rfl) rfl rfl (ck_ty (by decide) 4 (by decide)) rfl rfl dX5_read_12 h7 ?_
  refine r_eqW e9 ?_
  refine r_aload_n dX5_read_15 0 rfl ?_
  refine r_iconst (v := (-1)) dX5_read_16 (by decide) ?_
  obtain ⟨h10, h⟩ := chk_some h
  obtain ⟨w11, e12, h⟩ := bnd_some h
  refine r_putI (fl_RX5_9 rfl) rfl rfl (ck_ty (by decide) 0 (by decide)) rfl rfl dX5_read_17 h10 ?_
  refine r_eqW e12 ?_
  refine r_iconst (v := 0) dX5_read_20 (by decide) ?_
  refine r_istore_n dX5_read_21 rfl (Nat.le_of_ble_eq_true rfl) [(3, .int 0), (0, .ref a0), (1, .ref a1), (2, .ref a2)] rfl ?_
  refine r_iconst (v := 1) dX5_read_22 (by decide) ?_
  refine r_istore dX5_read_23 (Nat.le_of_ble_eq_true rfl) [(4, .int 1), (3, .int 0), (0, .ref a0), (1, .ref a1), (2, .ref a2)] rfl ?_
  refine r_sub [2, 1, 0] [(0, .ref a0), (3, .int 0), (4, .int 1)] rfl ?_
  exact okX5_read_L25 h hk
set_option maxHeartbeats 1000000 in
set_option maxRecDepth 20000 in
theorem ctX5_read {E : Ev} {a0 : Nat} {a1 : Nat} {a2 : Nat} {w : Wd} {q : Int32 × Wd} (h : fX5_read a0 a1 a2 w = some q) : CT E mX5_read (13, 0, false) [.ref a0, .ref a1, .ref a2] w (QI q) := CT.of pl_RX5 (Nat.le_of_ble_eq_true rfl) (okX5_read h ⟨rfl, rfl⟩)
def fX6_at_b22 (s0 : Int64) (w : Wd) : Option (Int64 × Wd) :=
  some (s0, w)
set_option maxHeartbeats 1000000 in
set_option maxRecDepth 20000 in
theorem okX6_at_b22 {E : Ev} {Q : Option Value → Wd → Prop} {s0 : Int64} {w : Wd} {q : Int64 × Wd} (h : fX6_at_b22 s0 w = some q) (hk : (fun q : Int64 × Wd => Q (some (.long q.1)) q.2) q) : Runs E mX6_at (6, 0, false) Q 0 22 [] [.long s0] w := by
  unfold fX6_at_b22 at h
  rw [← Option.some.inj h] at hk
  exact r_lreturn dX6_at_22 rfl hk
def fX6_at_b21 (w : Wd) : Option (Int64 × Wd) :=
  fX6_at_b22 0 w
set_option maxHeartbeats 1000000 in
set_option maxRecDepth 20000 in
theorem okX6_at_b21 {E : Ev} {Q : Option Value → Wd → Prop} {w : Wd} {q : Int64 × Wd} (h : fX6_at_b21 w = some q) (hk : (fun q : Int64 × Wd => Q (some (.long q.1)) q.2) q) : Runs E mX6_at (6, 0, false) Q 0 21 [] [] w := by
  unfold fX6_at_b21 at h
  refine r_lconst (v := 0) dX6_at_21 (by decide) ?_
  refine r_sub [] [] rfl ?_
  exact okX6_at_b22 h hk
def fX6_at (a0 : Nat) (x1 : Int32) (w : Wd) : Option (Int64 × Wd) :=
  if x1 < 0 then (fX6_at_b21 w) else (chk (isO w a0 6) (if (wI w a0 1) ≤ x1 then (fX6_at_b21 w) else (ob (wR w a0 0) (fun o4 => chk (isA w o4 1) (chk (inb x1 (wn w o4)) (fX6_at_b22 (wL w o4 (x1).toNatClampNeg) w))))))
set_option maxHeartbeats 1000000 in
set_option maxRecDepth 20000 in
theorem okX6_at {E : Ev} {Q : Option Value → Wd → Prop} {a0 : Nat} {x1 : Int32} {w : Wd} {q : Int64 × Wd} (h : fX6_at a0 x1 w = some q) (hk : (fun q : Int64 × Wd => Q (some (.long q.1)) q.2) q) : Runs E mX6_at (6, 0, false) Q 0 0 [(0, .ref a0), (1, .int x1)] [] w := by
  unfold fX6_at at h
  refine r_iload_n dX6_at_0 1 rfl ?_
  refine r_if_lt (tgt := 21) dX6_at_1 (by decide) (fun c1 => ?_) (fun c1 => ?_)
  · rw [if_pos c1] at h
    refine r_sub [] [] rfl ?_
    exact okX6_at_b21 h hk
  · rw [if_neg c1] at h
    refine r_iload_n dX6_at_4 1 rfl ?_
    refine r_aload_n dX6_at_5 0 rfl ?_
    obtain ⟨h2, h⟩ := chk_some h
    refine r_getI (fl_RX6_15 rfl) rfl dX6_at_6 h2 ?_
    refine r_icmp_ge (tgt := 21) dX6_at_9 (by decide) (fun c3 => ?_) (fun c3 => ?_)
    · rw [if_pos c3] at h
      refine r_sub [] [] rfl ?_
      exact okX6_at_b21 h hk
    · rw [if_neg c3] at h
      refine r_aload_n dX6_at_12 0 rfl ?_
      obtain ⟨o4, g5, h⟩ := ob_some h
      refine r_getR (fl_RX6_9 rfl) rfl dX6_at_13 h2 g5 ?_
      refine r_iload_n dX6_at_16 1 rfl ?_
      obtain ⟨h6, h⟩ := chk_some h
      obtain ⟨h7, h⟩ := chk_some h
      refine r_laload dX6_at_17 h6 h7 ?_
      refine r_goto (tgt := 22) dX6_at_18 (by decide) ?_
      refine r_sub [] [] rfl ?_
      exact okX6_at_b22 h hk
set_option maxHeartbeats 1000000 in
set_option maxRecDepth 20000 in
theorem ctX6_at {E : Ev} {a0 : Nat} {x1 : Int32} {w : Wd} {q : Int64 × Wd} (h : fX6_at a0 x1 w = some q) : CT E mX6_at (6, 0, false) [.ref a0, .int x1] w (QL q) := CT.of pl_RX6 (Nat.le_of_ble_eq_true rfl) (okX6_at h ⟨rfl, rfl⟩)
def fX6_holdGarment (a0 : Nat) (x1 : Int32) (w : Wd) : Option (Wd) :=
  chk (isO w a0 6) (bnd (sI w a0 2 x1) (fun w2 => chk (isO w2 a0 6) (bnd (sI w2 a0 1 0) (fun w5 => some w5))))
set_option maxHeartbeats 1000000 in
set_option maxRecDepth 20000 in
theorem okX6_holdGarment {E : Ev} {Q : Option Value → Wd → Prop} {a0 : Nat} {x1 : Int32} {w : Wd} {q : Wd} (h : fX6_holdGarment a0 x1 w = some q) (hk : (fun q : Wd => Q none q) q) : Runs E mX6_holdGarment (6, 0, false) Q 0 0 [(0, .ref a0), (1, .int x1)] [] w := by
  unfold fX6_holdGarment at h
  refine r_aload_n dX6_holdGarment_0 0 rfl ?_
  refine r_iload_n dX6_holdGarment_1 1 rfl ?_
  obtain ⟨h1, h⟩ := chk_some h
  obtain ⟨w2, e3, h⟩ := bnd_some h
  refine r_putI (fl_RX6_19 rfl) rfl rfl (ck_ty (by decide) 2 (by decide)) rfl rfl dX6_holdGarment_2 h1 ?_
  refine r_eqW e3 ?_
  refine r_aload_n dX6_holdGarment_5 0 rfl ?_
  refine r_iconst (v := 0) dX6_holdGarment_6 (by decide) ?_
  obtain ⟨h4, h⟩ := chk_some h
  obtain ⟨w5, e6, h⟩ := bnd_some h
  refine r_putI (fl_RX6_15 rfl) rfl rfl (ck_ty (by decide) 1 (by decide)) rfl rfl dX6_holdGarment_7 h4 ?_
  refine r_eqW e6 ?_
  rw [← Option.some.inj h] at hk
  exact r_return dX6_holdGarment_10 rfl hk
set_option maxHeartbeats 1000000 in
set_option maxRecDepth 20000 in
theorem ctX6_holdGarment {E : Ev} {a0 : Nat} {x1 : Int32} {w : Wd} {q : Wd} (h : fX6_holdGarment a0 x1 w = some q) : CT E mX6_holdGarment (6, 0, false) [.ref a0, .int x1] w (QV q) := CT.of pl_RX6 (Nat.le_of_ble_eq_true rfl) (okX6_holdGarment h ⟨rfl, rfl⟩)
def fX6_holdNothing (a0 : Nat) (w : Wd) : Option (Wd) :=
  chk (isO w a0 6) (bnd (sI w a0 2 (-1)) (fun w2 => chk (isO w2 a0 6) (bnd (sI w2 a0 1 0) (fun w5 => some w5))))
set_option maxHeartbeats 1000000 in
set_option maxRecDepth 20000 in
theorem okX6_holdNothing {E : Ev} {Q : Option Value → Wd → Prop} {a0 : Nat} {w : Wd} {q : Wd} (h : fX6_holdNothing a0 w = some q) (hk : (fun q : Wd => Q none q) q) : Runs E mX6_holdNothing (6, 0, false) Q 0 0 [(0, .ref a0)] [] w := by
  unfold fX6_holdNothing at h
  refine r_aload_n dX6_holdNothing_0 0 rfl ?_
  refine r_iconst (v := (-1)) dX6_holdNothing_1 (by decide) ?_
  obtain ⟨h1, h⟩ := chk_some h
  obtain ⟨w2, e3, h⟩ := bnd_some h
  refine r_putI (fl_RX6_19 rfl) rfl rfl (ck_ty (by decide) 2 (by decide)) rfl rfl dX6_holdNothing_2 h1 ?_
  refine r_eqW e3 ?_
  refine r_aload_n dX6_holdNothing_5 0 rfl ?_
  refine r_iconst (v := 0) dX6_holdNothing_6 (by decide) ?_
  obtain ⟨h4, h⟩ := chk_some h
  obtain ⟨w5, e6, h⟩ := bnd_some h
  refine r_putI (fl_RX6_15 rfl) rfl rfl (ck_ty (by decide) 1 (by decide)) rfl rfl dX6_holdNothing_7 h4 ?_
  refine r_eqW e6 ?_
  rw [← Option.some.inj h] at hk
  exact r_return dX6_holdNothing_10 rfl hk
set_option maxHeartbeats 1000000 in
set_option maxRecDepth 20000 in
theorem ctX6_holdNothing {E : Ev} {a0 : Nat} {w : Wd} {q : Wd} (h : fX6_holdNothing a0 w = some q) : CT E mX6_holdNothing (6, 0, false) [.ref a0] w (QV q) := CT.of pl_RX6 (Nat.le_of_ble_eq_true rfl) (okX6_holdNothing h ⟨rfl, rfl⟩)
def fX6_holdRow (a0 : Nat) (x1 : Int32) (x2 : Int32) (w : Wd) : Option (Wd) :=
  chk (isO w a0 6) (bnd (sI w a0 2 (100 + x1)) (fun w2 => chk (isO w2 a0 6) (bnd (sI w2 a0 1 x2) (fun w5 => chk (isO w5 a0 6) (ob (wR w5 a0 0) (fun o8 => ob (fJ7_fill_d0a16 o8 0 w5) (fun q10 => some q10)))))))
set_option maxHeartbeats 1000000 in
set_option maxRecDepth 20000 in
theorem okX6_holdRow {E : Ev} {Q : Option Value → Wd → Prop} {a0 : Nat} {x1 : Int32} {x2 : Int32} {w : Wd} {q : Wd} (h : fX6_holdRow a0 x1 x2 w = some q) (hk : (fun q : Wd => Q none q) q) : Runs E mX6_holdRow (7, 0, false) Q 0 0 [(0, .ref a0), (1, .int x1), (2, .int x2)] [] w := by
  unfold fX6_holdRow at h
  refine r_aload_n dX6_holdRow_0 0 rfl ?_
  refine r_bipush (v := 100) dX6_holdRow_1 (by decide) ?_
  refine r_iload_n dX6_holdRow_3 1 rfl ?_
  refine r_iadd dX6_holdRow_4 ?_
  obtain ⟨h1, h⟩ := chk_some h
  obtain ⟨w2, e3, h⟩ := bnd_some h
  refine r_putI (fl_RX6_19 rfl) rfl rfl (ck_ty (by decide) 2 (by decide)) rfl rfl dX6_holdRow_5 h1 ?_
  refine r_eqW e3 ?_
  refine r_aload_n dX6_holdRow_8 0 rfl ?_
  refine r_iload_n dX6_holdRow_9 2 rfl ?_
  obtain ⟨h4, h⟩ := chk_some h
  obtain ⟨w5, e6, h⟩ := bnd_some h
  refine r_putI (fl_RX6_15 rfl) rfl rfl (ck_ty (by decide) 1 (by decide)) rfl rfl dX6_holdRow_10 h4 ?_
  refine r_eqW e6 ?_
  refine r_aload_n dX6_holdRow_13 0 rfl ?_
  obtain ⟨h7, h⟩ := chk_some h
  obtain ⟨o8, g9, h⟩ := ob_some h
  refine r_getR (fl_RX6_9 rfl) rfl dX6_holdRow_14 h7 g9 ?_
  refine r_lconst (v := 0) dX6_holdRow_17 (by decide) ?_
  obtain ⟨q10, g11, h⟩ := ob_some h
  refine r_callS (d' := (6, 0, false)) (As := [.ref o8, .long 0]) (st := []) mds_J7_fill_d0a16 tm_RX6_22 rfl (by decide) rfl (Nat.le_refl _) (Nat.le_of_ble_eq_true rfl) rfl dX6_holdRow_18 (ctJ7_fill_d0a16 g11) (k_V0 ?_)
  rw [← Option.some.inj h] at hk
  exact r_return dX6_holdRow_21 rfl hk
set_option maxHeartbeats 1000000 in
set_option maxRecDepth 20000 in
theorem ctX6_holdRow {E : Ev} {a0 : Nat} {x1 : Int32} {x2 : Int32} {w : Wd} {q : Wd} (h : fX6_holdRow a0 x1 x2 w = some q) : CT E mX6_holdRow (7, 0, false) [.ref a0, .int x1, .int x2] w (QV q) := CT.of pl_RX6 (Nat.le_of_ble_eq_true rfl) (okX6_holdRow h ⟨rfl, rfl⟩)
def fX6_holdsGarment_b22 (s0 : Int32) (w : Wd) : Option (Int32 × Wd) :=
  chk (s0 = 0 ∨ s0 = 1) (some (s0, w))
set_option maxHeartbeats 1000000 in
set_option maxRecDepth 20000 in
theorem okX6_holdsGarment_b22 {E : Ev} {Q : Option Value → Wd → Prop} {s0 : Int32} {w : Wd} {q : Int32 × Wd} (h : fX6_holdsGarment_b22 s0 w = some q) (hk : (fun q : Int32 × Wd => Q (some (.int q.1)) q.2) q) : Runs E mX6_holdsGarment (6, 0, false) Q 0 22 [] [.int s0] w := by
  unfold fX6_holdsGarment_b22 at h
  obtain ⟨h1, h⟩ := chk_some h
  rw [← Option.some.inj h] at hk
  exact r_ireturn dX6_holdsGarment_22 rfl (nb h1) hk
def fX6_holdsGarment_b21 (w : Wd) : Option (Int32 × Wd) :=
  fX6_holdsGarment_b22 0 w
set_option maxHeartbeats 1000000 in
set_option maxRecDepth 20000 in
theorem okX6_holdsGarment_b21 {E : Ev} {Q : Option Value → Wd → Prop} {w : Wd} {q : Int32 × Wd} (h : fX6_holdsGarment_b21 w = some q) (hk : (fun q : Int32 × Wd => Q (some (.int q.1)) q.2) q) : Runs E mX6_holdsGarment (6, 0, false) Q 0 21 [] [] w := by
  unfold fX6_holdsGarment_b21 at h
  refine r_iconst (v := 0) dX6_holdsGarment_21 (by decide) ?_
  refine r_sub [] [] rfl ?_
  exact okX6_holdsGarment_b22 h hk
def fX6_holdsGarment (a0 : Nat) (w : Wd) : Option (Int32 × Wd) :=
  chk (isO w a0 6) (if (wI w a0 2) = (-1) then (fX6_holdsGarment_b21 w) else (if (100 : Int32) ≤ (wI w a0 2) then (fX6_holdsGarment_b21 w) else (fX6_holdsGarment_b22 1 w)))
set_option maxHeartbeats 1000000 in
set_option maxRecDepth 20000 in
theorem okX6_holdsGarment {E : Ev} {Q : Option Value → Wd → Prop} {a0 : Nat} {w : Wd} {q : Int32 × Wd} (h : fX6_holdsGarment a0 w = some q) (hk : (fun q : Int32 × Wd => Q (some (.int q.1)) q.2) q) : Runs E mX6_holdsGarment (6, 0, false) Q 0 0 [(0, .ref a0)] [] w := by
  unfold fX6_holdsGarment at h
  refine r_aload_n dX6_holdsGarment_0 0 rfl ?_
  obtain ⟨h1, h⟩ := chk_some h
  refine r_getI (fl_RX6_19 rfl) rfl dX6_holdsGarment_1 h1 ?_
  refine r_iconst (v := (-1)) dX6_holdsGarment_4 (by decide) ?_
  refine r_icmp_eq (tgt := 21) dX6_holdsGarment_5 (by decide) (fun c2 => ?_) (fun c2 => ?_)
  · rw [if_pos c2] at h
    refine r_sub [] [] rfl ?_
    exact okX6_holdsGarment_b21 h hk
  · rw [if_neg c2] at h
    refine r_aload_n dX6_holdsGarment_8 0 rfl ?_
    refine r_getI (fl_RX6_19 rfl) rfl dX6_holdsGarment_9 h1 ?_
    refine r_bipush (v := 100) dX6_holdsGarment_12 (by decide) ?_
    refine r_icmp_ge (tgt := 21) dX6_holdsGarment_14 (by decide) (fun c3 => ?_) (fun c3 => ?_)
    · rw [if_pos c3] at h
      refine r_sub [] [] rfl ?_
      exact okX6_holdsGarment_b21 h hk
    · rw [if_neg c3] at h
      refine r_iconst (v := 1) dX6_holdsGarment_17 (by decide) ?_
      refine r_goto (tgt := 22) dX6_holdsGarment_18 (by decide) ?_
      refine r_sub [] [] rfl ?_
      exact okX6_holdsGarment_b22 h hk
set_option maxHeartbeats 1000000 in
set_option maxRecDepth 20000 in
theorem ctX6_holdsGarment {E : Ev} {a0 : Nat} {w : Wd} {q : Int32 × Wd} (h : fX6_holdsGarment a0 w = some q) : CT E mX6_holdsGarment (6, 0, false) [.ref a0] w (QI q) := CT.of pl_RX6 (Nat.le_of_ble_eq_true rfl) (okX6_holdsGarment h ⟨rfl, rfl⟩)
def fX6_holdsNothing_b13 (s0 : Int32) (w : Wd) : Option (Int32 × Wd) :=
  chk (s0 = 0 ∨ s0 = 1) (some (s0, w))
set_option maxHeartbeats 1000000 in
set_option maxRecDepth 20000 in
theorem okX6_holdsNothing_b13 {E : Ev} {Q : Option Value → Wd → Prop} {s0 : Int32} {w : Wd} {q : Int32 × Wd} (h : fX6_holdsNothing_b13 s0 w = some q) (hk : (fun q : Int32 × Wd => Q (some (.int q.1)) q.2) q) : Runs E mX6_holdsNothing (6, 0, false) Q 0 13 [] [.int s0] w := by
  unfold fX6_holdsNothing_b13 at h
  obtain ⟨h1, h⟩ := chk_some h
  rw [← Option.some.inj h] at hk
  exact r_ireturn dX6_holdsNothing_13 rfl (nb h1) hk
def fX6_holdsNothing (a0 : Nat) (w : Wd) : Option (Int32 × Wd) :=
  chk (isO w a0 6) (if (wI w a0 2) = (-1) then (fX6_holdsNothing_b13 1 w) else (fX6_holdsNothing_b13 0 w))
set_option maxHeartbeats 1000000 in
set_option maxRecDepth 20000 in
theorem okX6_holdsNothing {E : Ev} {Q : Option Value → Wd → Prop} {a0 : Nat} {w : Wd} {q : Int32 × Wd} (h : fX6_holdsNothing a0 w = some q) (hk : (fun q : Int32 × Wd => Q (some (.int q.1)) q.2) q) : Runs E mX6_holdsNothing (6, 0, false) Q 0 0 [(0, .ref a0)] [] w := by
  unfold fX6_holdsNothing at h
  refine r_aload_n dX6_holdsNothing_0 0 rfl ?_
  obtain ⟨h1, h⟩ := chk_some h
  refine r_getI (fl_RX6_19 rfl) rfl dX6_holdsNothing_1 h1 ?_
  refine r_iconst (v := (-1)) dX6_holdsNothing_4 (by decide) ?_
  refine r_icmp_ne (tgt := 12) dX6_holdsNothing_5 (by decide) (fun c2 => ?_) (fun c2 => ?_)
  · rw [if_neg c2] at h
    refine r_iconst (v := 0) dX6_holdsNothing_12 (by decide) ?_
    refine r_sub [] [] rfl ?_
    exact okX6_holdsNothing_b13 h hk
  · rw [if_pos c2] at h
    refine r_iconst (v := 1) dX6_holdsNothing_8 (by decide) ?_
    refine r_goto (tgt := 13) dX6_holdsNothing_9 (by decide) ?_
    refine r_sub [] [] rfl ?_
    exact okX6_holdsNothing_b13 h hk
set_option maxHeartbeats 1000000 in
set_option maxRecDepth 20000 in
theorem ctX6_holdsNothing {E : Ev} {a0 : Nat} {w : Wd} {q : Int32 × Wd} (h : fX6_holdsNothing a0 w = some q) : CT E mX6_holdsNothing (6, 0, false) [.ref a0] w (QI q) := CT.of pl_RX6 (Nat.le_of_ble_eq_true rfl) (okX6_holdsNothing h ⟨rfl, rfl⟩)
def fX6_holdsRow_b14 (s0 : Int32) (w : Wd) : Option (Int32 × Wd) :=
  chk (s0 = 0 ∨ s0 = 1) (some (s0, w))
set_option maxHeartbeats 1000000 in
set_option maxRecDepth 20000 in
theorem okX6_holdsRow_b14 {E : Ev} {Q : Option Value → Wd → Prop} {s0 : Int32} {w : Wd} {q : Int32 × Wd} (h : fX6_holdsRow_b14 s0 w = some q) (hk : (fun q : Int32 × Wd => Q (some (.int q.1)) q.2) q) : Runs E mX6_holdsRow (6, 0, false) Q 0 14 [] [.int s0] w := by
  unfold fX6_holdsRow_b14 at h
  obtain ⟨h1, h⟩ := chk_some h
  rw [← Option.some.inj h] at hk
  exact r_ireturn dX6_holdsRow_14 rfl (nb h1) hk
def fX6_holdsRow (a0 : Nat) (w : Wd) : Option (Int32 × Wd) :=
  chk (isO w a0 6) (if (wI w a0 2) < 100 then (fX6_holdsRow_b14 0 w) else (fX6_holdsRow_b14 1 w))
set_option maxHeartbeats 1000000 in
set_option maxRecDepth 20000 in
theorem okX6_holdsRow {E : Ev} {Q : Option Value → Wd → Prop} {a0 : Nat} {w : Wd} {q : Int32 × Wd} (h : fX6_holdsRow a0 w = some q) (hk : (fun q : Int32 × Wd => Q (some (.int q.1)) q.2) q) : Runs E mX6_holdsRow (6, 0, false) Q 0 0 [(0, .ref a0)] [] w := by
  unfold fX6_holdsRow at h
  refine r_aload_n dX6_holdsRow_0 0 rfl ?_
  obtain ⟨h1, h⟩ := chk_some h
  refine r_getI (fl_RX6_19 rfl) rfl dX6_holdsRow_1 h1 ?_
  refine r_bipush (v := 100) dX6_holdsRow_4 (by decide) ?_
  refine r_icmp_lt (tgt := 13) dX6_holdsRow_6 (by decide) (fun c2 => ?_) (fun c2 => ?_)
  · rw [if_pos c2] at h
    refine r_iconst (v := 0) dX6_holdsRow_13 (by decide) ?_
    refine r_sub [] [] rfl ?_
    exact okX6_holdsRow_b14 h hk
  · rw [if_neg c2] at h
    refine r_iconst (v := 1) dX6_holdsRow_9 (by decide) ?_
    refine r_goto (tgt := 14) dX6_holdsRow_10 (by decide) ?_
    refine r_sub [] [] rfl ?_
    exact okX6_holdsRow_b14 h hk
set_option maxHeartbeats 1000000 in
set_option maxRecDepth 20000 in
theorem ctX6_holdsRow {E : Ev} {a0 : Nat} {w : Wd} {q : Int32 × Wd} (h : fX6_holdsRow a0 w = some q) : CT E mX6_holdsRow (6, 0, false) [.ref a0] w (QI q) := CT.of pl_RX6 (Nat.le_of_ble_eq_true rfl) (okX6_holdsRow h ⟨rfl, rfl⟩)
def fX6_isOfOtherSort_b30 (s0 : Int32) (w : Wd) : Option (Int32 × Wd) :=
  chk (s0 = 0 ∨ s0 = 1) (some (s0, w))
set_option maxHeartbeats 1000000 in
set_option maxRecDepth 20000 in
theorem okX6_isOfOtherSort_b30 {E : Ev} {Q : Option Value → Wd → Prop} {s0 : Int32} {w : Wd} {q : Int32 × Wd} (h : fX6_isOfOtherSort_b30 s0 w = some q) (hk : (fun q : Int32 × Wd => Q (some (.int q.1)) q.2) q) : Runs E mX6_isOfOtherSort (7, 0, false) Q 0 30 [] [.int s0] w := by
  unfold fX6_isOfOtherSort_b30 at h
  obtain ⟨h1, h⟩ := chk_some h
  rw [← Option.some.inj h] at hk
  exact r_ireturn dX6_isOfOtherSort_30 rfl (nb h1) hk
def fX6_isOfOtherSort_b29 (w : Wd) : Option (Int32 × Wd) :=
  fX6_isOfOtherSort_b30 0 w
set_option maxHeartbeats 1000000 in
set_option maxRecDepth 20000 in
theorem okX6_isOfOtherSort_b29 {E : Ev} {Q : Option Value → Wd → Prop} {w : Wd} {q : Int32 × Wd} (h : fX6_isOfOtherSort_b29 w = some q) (hk : (fun q : Int32 × Wd => Q (some (.int q.1)) q.2) q) : Runs E mX6_isOfOtherSort (7, 0, false) Q 0 29 [] [] w := by
  unfold fX6_isOfOtherSort_b29 at h
  refine r_iconst (v := 0) dX6_isOfOtherSort_29 (by decide) ?_
  refine r_sub [] [] rfl ?_
  exact okX6_isOfOtherSort_b30 h hk
def fX6_isOfOtherSort (a0 : Nat) (a1 : Nat) (w : Wd) : Option (Int32 × Wd) :=
  chk (isO w a0 6) (ob (fX6_holdsRow a0 w) (fun q2 => if q2.1 = 0 then (fX6_isOfOtherSort_b29 q2.2) else (chk (isO q2.2 a1 6) (ob (fX6_holdsRow a1 q2.2) (fun q6 => if q6.1 = 0 then (fX6_isOfOtherSort_b29 q6.2) else (chk (isO q6.2 a0 6) (chk (isO q6.2 a1 6) (if (wI q6.2 a0 2) = (wI q6.2 a1 2) then (fX6_isOfOtherSort_b29 q6.2) else (fX6_isOfOtherSort_b30 1 q6.2)))))))))
set_option maxHeartbeats 1000000 in
set_option maxRecDepth 20000 in
theorem okX6_isOfOtherSort {E : Ev} {Q : Option Value → Wd → Prop} {a0 : Nat} {a1 : Nat} {w : Wd} {q : Int32 × Wd} (h : fX6_isOfOtherSort a0 a1 w = some q) (hk : (fun q : Int32 × Wd => Q (some (.int q.1)) q.2) q) : Runs E mX6_isOfOtherSort (7, 0, false) Q 0 0 [(0, .ref a0), (1, .ref a1)] [] w := by
  unfold fX6_isOfOtherSort at h
  refine r_aload_n dX6_isOfOtherSort_0 0 rfl ?_
  obtain ⟨h1, h⟩ := chk_some h
  obtain ⟨q2, g3, h⟩ := ob_some h
  refine r_callV (d' := (6, 0, false)) (As := []) (st := []) mdv_X6_holdsRow tm_RX6_28 (by decide) rfl rfl (by decide) rfl (Nat.le_refl _) (Nat.le_of_ble_eq_true rfl) rfl dX6_isOfOtherSort_1 h1 (ctX6_holdsRow g3) (k_I0 ?_)
  refine r_if_eq (tgt := 29) dX6_isOfOtherSort_4 (by decide) (fun c4 => ?_) (fun c4 => ?_)
  · rw [if_pos c4] at h
    refine r_sub [] [] rfl ?_
    exact okX6_isOfOtherSort_b29 h hk
  · rw [if_neg c4] at h
    refine r_aload_n dX6_isOfOtherSort_7 1 rfl ?_
    obtain ⟨h5, h⟩ := chk_some h
    obtain ⟨q6, g7, h⟩ := ob_some h
    refine r_callV (d' := (6, 0, false)) (As := []) (st := []) mdv_X6_holdsRow tm_RX6_28 (by decide) rfl rfl (by decide) rfl (Nat.le_refl _) (Nat.le_of_ble_eq_true rfl) rfl dX6_isOfOtherSort_8 h5 (ctX6_holdsRow g7) (k_I0 ?_)
    refine r_if_eq (tgt := 29) dX6_isOfOtherSort_11 (by decide) (fun c8 => ?_) (fun c8 => ?_)
    · rw [if_pos c8] at h
      refine r_sub [] [] rfl ?_
      exact okX6_isOfOtherSort_b29 h hk
    · rw [if_neg c8] at h
      refine r_aload_n dX6_isOfOtherSort_14 0 rfl ?_
      obtain ⟨h9, h⟩ := chk_some h
      refine r_getI (fl_RX6_19 rfl) rfl dX6_isOfOtherSort_15 h9 ?_
      refine r_aload_n dX6_isOfOtherSort_18 1 rfl ?_
      obtain ⟨h10, h⟩ := chk_some h
      refine r_getI (fl_RX6_19 rfl) rfl dX6_isOfOtherSort_19 h10 ?_
      refine r_icmp_eq (tgt := 29) dX6_isOfOtherSort_22 (by decide) (fun c11 => ?_) (fun c11 => ?_)
      · rw [if_pos c11] at h
        refine r_sub [] [] rfl ?_
        exact okX6_isOfOtherSort_b29 h hk
      · rw [if_neg c11] at h
        refine r_iconst (v := 1) dX6_isOfOtherSort_25 (by decide) ?_
        refine r_goto (tgt := 30) dX6_isOfOtherSort_26 (by decide) ?_
        refine r_sub [] [] rfl ?_
        exact okX6_isOfOtherSort_b30 h hk
set_option maxHeartbeats 1000000 in
set_option maxRecDepth 20000 in
theorem ctX6_isOfOtherSort {E : Ev} {a0 : Nat} {a1 : Nat} {w : Wd} {q : Int32 × Wd} (h : fX6_isOfOtherSort a0 a1 w = some q) : CT E mX6_isOfOtherSort (7, 0, false) [.ref a0, .ref a1] w (QI q) := CT.of pl_RX6 (Nat.le_of_ble_eq_true rfl) (okX6_isOfOtherSort h ⟨rfl, rfl⟩)
def fX6_put_b77 (w : Wd) : Option (Wd) :=
  some w
set_option maxHeartbeats 1000000 in
set_option maxRecDepth 20000 in
theorem okX6_put_b77 {E : Ev} {Q : Option Value → Wd → Prop} {w : Wd} {q : Wd} (h : fX6_put_b77 w = some q) (hk : (fun q : Wd => Q none q) q) : Runs E mX6_put (6, 0, false) Q 0 77 [] [] w := by
  unfold fX6_put_b77 at h
  rw [← Option.some.inj h] at hk
  exact r_return dX6_put_77 rfl hk
def fX6_put (a0 : Nat) (x1 : Int32) (y2 : Int64) (w : Wd) : Option (Wd) :=
  chk (isO w a0 6) (if ((wI w a0 2) - 100) = 0 then (ob (wR w a0 0) (fun o3 => chk (isA w o3 1) (chk (inb x1 (wn w o3)) (bnd (sL w o3 (x1).toNatClampNeg (((y2).toInt32).toInt8.toInt32).toInt64) (fun w7 => fX6_put_b77 w7))))) else (if ((wI w a0 2) - 100) = 1 then (ob (wR w a0 0) (fun o10 => chk (isA w o10 1) (chk (inb x1 (wn w o10)) (bnd (sL w o10 (x1).toNatClampNeg (((y2).toInt32).toInt16.toInt32).toInt64) (fun w14 => fX6_put_b77 w14))))) else (if ((wI w a0 2) - 100) = 2 then (ob (wR w a0 0) (fun o17 => chk (isA w o17 1) (chk (inb x1 (wn w o17)) (bnd (sL w o17 (x1).toNatClampNeg ((y2).toInt32).toInt64) (fun w21 => fX6_put_b77 w21))))) else (ob (wR w a0 0) (fun o23 => chk (isA w o23 1) (chk (inb x1 (wn w o23)) (bnd (sL w o23 (x1).toNatClampNeg y2) (fun w27 => fX6_put_b77 w27))))))))
set_option maxHeartbeats 1000000 in
set_option maxRecDepth 20000 in
theorem okX6_put {E : Ev} {Q : Option Value → Wd → Prop} {a0 : Nat} {x1 : Int32} {y2 : Int64} {w : Wd} {q : Wd} (h : fX6_put a0 x1 y2 w = some q) (hk : (fun q : Wd => Q none q) q) : Runs E mX6_put (6, 0, false) Q 0 0 [(0, .ref a0), (1, .int x1), (2, .long y2)] [] w := by
  unfold fX6_put at h
  refine r_aload_n dX6_put_0 0 rfl ?_
  obtain ⟨h1, h⟩ := chk_some h
  refine r_getI (fl_RX6_19 rfl) rfl dX6_put_1 h1 ?_
  refine r_bipush (v := 100) dX6_put_4 (by decide) ?_
  refine r_isub dX6_put_6 ?_
  by_cases c2 : ((wI w a0 2) - 100) = 0
  · rw [if_pos c2] at h
    refine r_tabIn (tgt := 32) dX6_put_7 (by rw [c2] <;> decide) (by rw [c2] <;> decide) (by rw [c2] <;> rfl) (by decide) ?_
    refine r_aload_n dX6_put_32 0 rfl ?_
    obtain ⟨o3, g4, h⟩ := ob_some h
    refine r_getR (fl_RX6_9 rfl) rfl dX6_put_33 h1 g4 ?_
    refine r_iload_n dX6_put_36 1 rfl ?_
    refine r_lload_n dX6_put_37 2 rfl ?_
    refine r_l2i dX6_put_38 ?_
    refine r_i2b dX6_put_39 ?_
    refine r_i2l dX6_put_40 ?_
    obtain ⟨h5, h⟩ := chk_some h
    obtain ⟨h6, h⟩ := chk_some h
    obtain ⟨w7, e8, h⟩ := bnd_some h
    refine r_lastore dX6_put_41 h5 h6 ?_
    refine r_eqW e8 ?_
    refine r_goto (tgt := 77) dX6_put_42 (by decide) ?_
    refine r_sub [] [] rfl ?_
    exact okX6_put_b77 h hk
  rw [if_neg c2] at h
  by_cases c9 : ((wI w a0 2) - 100) = 1
  · rw [if_pos c9] at h
    refine r_tabIn (tgt := 45) dX6_put_7 (by rw [c9] <;> decide) (by rw [c9] <;> decide) (by rw [c9] <;> rfl) (by decide) ?_
    refine r_aload_n dX6_put_45 0 rfl ?_
    obtain ⟨o10, g11, h⟩ := ob_some h
    refine r_getR (fl_RX6_9 rfl) rfl dX6_put_46 h1 g11 ?_
    refine r_iload_n dX6_put_49 1 rfl ?_
    refine r_lload_n dX6_put_50 2 rfl ?_
    refine r_l2i dX6_put_51 ?_
    refine r_i2s dX6_put_52 ?_
    refine r_i2l dX6_put_53 ?_
    obtain ⟨h12, h⟩ := chk_some h
    obtain ⟨h13, h⟩ := chk_some h
    obtain ⟨w14, e15, h⟩ := bnd_some h
    refine r_lastore dX6_put_54 h12 h13 ?_
    refine r_eqW e15 ?_
    refine r_goto (tgt := 77) dX6_put_55 (by decide) ?_
    refine r_sub [] [] rfl ?_
    exact okX6_put_b77 h hk
  rw [if_neg c9] at h
  by_cases c16 : ((wI w a0 2) - 100) = 2
  · rw [if_pos c16] at h
    refine r_tabIn (tgt := 58) dX6_put_7 (by rw [c16] <;> decide) (by rw [c16] <;> decide) (by rw [c16] <;> rfl) (by decide) ?_
    refine r_aload_n dX6_put_58 0 rfl ?_
    obtain ⟨o17, g18, h⟩ := ob_some h
    refine r_getR (fl_RX6_9 rfl) rfl dX6_put_59 h1 g18 ?_
    refine r_iload_n dX6_put_62 1 rfl ?_
    refine r_lload_n dX6_put_63 2 rfl ?_
    refine r_l2i dX6_put_64 ?_
    refine r_i2l dX6_put_65 ?_
    obtain ⟨h19, h⟩ := chk_some h
    obtain ⟨h20, h⟩ := chk_some h
    obtain ⟨w21, e22, h⟩ := bnd_some h
    refine r_lastore dX6_put_66 h19 h20 ?_
    refine r_eqW e22 ?_
    refine r_goto (tgt := 77) dX6_put_67 (by decide) ?_
    refine r_sub [] [] rfl ?_
    exact okX6_put_b77 h hk
  rw [if_neg c16] at h
  refine r_tabOut (tgt := 70) dX6_put_7 (by have := lv_neT (k := 0) (a := 0) c2 rfl; have := lv_neT (k := 1) (a := 1) c9 rfl; have := lv_neT (k := 2) (a := 2) c16 rfl; omega) (by decide) ?_
  refine r_aload_n dX6_put_70 0 rfl ?_
  obtain ⟨o23, g24, h⟩ := ob_some h
  refine r_getR (fl_RX6_9 rfl) rfl dX6_put_71 h1 g24 ?_
  refine r_iload_n dX6_put_74 1 rfl ?_
  refine r_lload_n dX6_put_75 2 rfl ?_
  obtain ⟨h25, h⟩ := chk_some h
  obtain ⟨h26, h⟩ := chk_some h
  obtain ⟨w27, e28, h⟩ := bnd_some h
  refine r_lastore dX6_put_76 h25 h26 ?_
  refine r_eqW e28 ?_
  refine r_sub [] [] rfl ?_
  exact okX6_put_b77 h hk
set_option maxHeartbeats 1000000 in
set_option maxRecDepth 20000 in
theorem ctX6_put {E : Ev} {a0 : Nat} {x1 : Int32} {y2 : Int64} {w : Wd} {q : Wd} (h : fX6_put a0 x1 y2 w = some q) : CT E mX6_put (6, 0, false) [.ref a0, .int x1, .long y2] w (QV q) := CT.of pl_RX6 (Nat.le_of_ble_eq_true rfl) (okX6_put h ⟨rfl, rfl⟩)
def fX6_spans_b23 (s0 : Int32) (w : Wd) : Option (Int32 × Wd) :=
  chk (s0 = 0 ∨ s0 = 1) (some (s0, w))
set_option maxHeartbeats 1000000 in
set_option maxRecDepth 20000 in
theorem okX6_spans_b23 {E : Ev} {Q : Option Value → Wd → Prop} {s0 : Int32} {w : Wd} {q : Int32 × Wd} (h : fX6_spans_b23 s0 w = some q) (hk : (fun q : Int32 × Wd => Q (some (.int q.1)) q.2) q) : Runs E mX6_spans (6, 0, false) Q 0 23 [] [.int s0] w := by
  unfold fX6_spans_b23 at h
  obtain ⟨h1, h⟩ := chk_some h
  rw [← Option.some.inj h] at hk
  exact r_ireturn dX6_spans_23 rfl (nb h1) hk
def fX6_spans_b22 (w : Wd) : Option (Int32 × Wd) :=
  fX6_spans_b23 0 w
set_option maxHeartbeats 1000000 in
set_option maxRecDepth 20000 in
theorem okX6_spans_b22 {E : Ev} {Q : Option Value → Wd → Prop} {w : Wd} {q : Int32 × Wd} (h : fX6_spans_b22 w = some q) (hk : (fun q : Int32 × Wd => Q (some (.int q.1)) q.2) q) : Runs E mX6_spans (6, 0, false) Q 0 22 [] [] w := by
  unfold fX6_spans_b22 at h
  refine r_iconst (v := 0) dX6_spans_22 (by decide) ?_
  refine r_sub [] [] rfl ?_
  exact okX6_spans_b23 h hk
def fX6_spans (a0 : Nat) (x1 : Int32) (x2 : Int32) (w : Wd) : Option (Int32 × Wd) :=
  if x1 < 0 then (fX6_spans_b22 w) else (if x2 < 0 then (fX6_spans_b22 w) else (chk (isO w a0 6) (if ((wI w a0 1) - x2) < x1 then (fX6_spans_b22 w) else (fX6_spans_b23 1 w))))
set_option maxHeartbeats 1000000 in
set_option maxRecDepth 20000 in
theorem okX6_spans {E : Ev} {Q : Option Value → Wd → Prop} {a0 : Nat} {x1 : Int32} {x2 : Int32} {w : Wd} {q : Int32 × Wd} (h : fX6_spans a0 x1 x2 w = some q) (hk : (fun q : Int32 × Wd => Q (some (.int q.1)) q.2) q) : Runs E mX6_spans (6, 0, false) Q 0 0 [(0, .ref a0), (1, .int x1), (2, .int x2)] [] w := by
  unfold fX6_spans at h
  refine r_iload_n dX6_spans_0 1 rfl ?_
  refine r_if_lt (tgt := 22) dX6_spans_1 (by decide) (fun c1 => ?_) (fun c1 => ?_)
  · rw [if_pos c1] at h
    refine r_sub [] [] rfl ?_
    exact okX6_spans_b22 h hk
  · rw [if_neg c1] at h
    refine r_iload_n dX6_spans_4 2 rfl ?_
    refine r_if_lt (tgt := 22) dX6_spans_5 (by decide) (fun c2 => ?_) (fun c2 => ?_)
    · rw [if_pos c2] at h
      refine r_sub [] [] rfl ?_
      exact okX6_spans_b22 h hk
    · rw [if_neg c2] at h
      refine r_iload_n dX6_spans_8 1 rfl ?_
      refine r_aload_n dX6_spans_9 0 rfl ?_
      obtain ⟨h3, h⟩ := chk_some h
      refine r_getI (fl_RX6_15 rfl) rfl dX6_spans_10 h3 ?_
      refine r_iload_n dX6_spans_13 2 rfl ?_
      refine r_isub dX6_spans_14 ?_
      refine r_icmp_gt (tgt := 22) dX6_spans_15 (by decide) (fun c4 => ?_) (fun c4 => ?_)
      · rw [if_pos c4] at h
        refine r_sub [] [] rfl ?_
        exact okX6_spans_b22 h hk
      · rw [if_neg c4] at h
        refine r_iconst (v := 1) dX6_spans_18 (by decide) ?_
        refine r_goto (tgt := 23) dX6_spans_19 (by decide) ?_
        refine r_sub [] [] rfl ?_
        exact okX6_spans_b23 h hk
set_option maxHeartbeats 1000000 in
set_option maxRecDepth 20000 in
theorem ctX6_spans {E : Ev} {a0 : Nat} {x1 : Int32} {x2 : Int32} {w : Wd} {q : Int32 × Wd} (h : fX6_spans a0 x1 x2 w = some q) : CT E mX6_spans (6, 0, false) [.ref a0, .int x1, .int x2] w (QI q) := CT.of pl_RX6 (Nat.le_of_ble_eq_true rfl) (okX6_spans h ⟨rfl, rfl⟩)
def fX7_isDigit (x0 : Int32) (w : Wd) : Option (Int32 × Wd) :=
  ob (fX7_isWithin x0 0 9 w) (fun q1 => chk (q1.1 = 0 ∨ q1.1 = 1) (some (q1.1, q1.2)))
set_option maxHeartbeats 1000000 in
set_option maxRecDepth 20000 in
theorem okX7_isDigit {E : Ev} {Q : Option Value → Wd → Prop} {x0 : Int32} {w : Wd} {q : Int32 × Wd} (h : fX7_isDigit x0 w = some q) (hk : (fun q : Int32 × Wd => Q (some (.int q.1)) q.2) q) : Runs E mX7_isDigit (7, 0, false) Q 0 0 [(0, .int x0)] [] w := by
  unfold fX7_isDigit at h
  refine r_iload_n dX7_isDigit_0 0 rfl ?_
  refine r_iconst (v := 0) dX7_isDigit_1 (by decide) ?_
  refine r_bipush (v := 9) dX7_isDigit_2 (by decide) ?_
  obtain ⟨q1, g2, h⟩ := ob_some h
  refine r_callS (d' := (6, 0, false)) (As := [.int x0, .int 0, .int 9]) (st := []) mds_X7_isWithin tm_RX7_77 rfl (by decide) rfl (Nat.le_refl _) (Nat.le_of_ble_eq_true rfl) rfl dX7_isDigit_4 (ctX7_isWithin g2) (k_I0 ?_)
  obtain ⟨h3, h⟩ := chk_some h
  rw [← Option.some.inj h] at hk
  exact r_ireturn dX7_isDigit_7 rfl (nb h3) hk
set_option maxHeartbeats 1000000 in
set_option maxRecDepth 20000 in
theorem ctX7_isDigit {E : Ev} {x0 : Int32} {w : Wd} {q : Int32 × Wd} (h : fX7_isDigit x0 w = some q) : CT E mX7_isDigit (7, 0, false) [.int x0] w (QI q) := CT.of pl_RX7 (Nat.le_of_ble_eq_true rfl) (okX7_isDigit h ⟨rfl, rfl⟩)
def PX6_tellsDeedsAlone_L2 (E : Ev) (Q : Option Value → Wd → Prop) (a0 : Nat) (s : Int32 × Wd) : Prop := Runs E mX6_tellsDeedsAlone (8, 0, false) Q 0 2 [(0, .ref a0), (1, .int s.1)] [] s.2
def fX6_tellsDeedsAlone_L2_body (a0 : Nat) (s : Int32 × Wd) : Option ((Int32 × Wd) ⊕ (Int32 × Wd)) :=
  if (12 : Int32) ≤ s.1 then (wr (some (1, s.2))) else (chk (isO s.2 a0 6) (ob (fX6_intAt a0 s.1 s.2) (fun q4 => ob (fX7_isDigit q4.1 q4.2) (fun q6 => if q6.1 = 0 then (wr (some (0, q6.2))) else (some (.inl ((s.1 + 1), q6.2)))))))
set_option maxHeartbeats 1000000 in
set_option maxRecDepth 20000 in
theorem okX6_tellsDeedsAlone_L2_body {E : Ev} {Q : Option Value → Wd → Prop} {a0 : Nat} {s : Int32 × Wd} {r : (Int32 × Wd) ⊕ (Int32 × Wd)} (h : fX6_tellsDeedsAlone_L2_body a0 s = some r) (hk : (Sum.elim (PX6_tellsDeedsAlone_L2 E Q a0) (fun q : Int32 × Wd => Q (some (.int q.1)) q.2)) r) : PX6_tellsDeedsAlone_L2 E Q a0 s := by
  unfold fX6_tellsDeedsAlone_L2_body at h
  unfold PX6_tellsDeedsAlone_L2
  refine r_iload_n dX6_tellsDeedsAlone_2 1 rfl ?_
  refine r_bipush (v := 12) dX6_tellsDeedsAlone_3 (by decide) ?_
  refine r_icmp_ge (tgt := 27) dX6_tellsDeedsAlone_5 (by decide) (fun c1 => ?_) (fun c1 => ?_)
  · rw [if_pos c1] at h
    obtain ⟨r2, hr, h⟩ := wr_some h
    rw [hr] at hk
    refine r_iconst (v := 1) dX6_tellsDeedsAlone_27 (by decide) ?_
    rw [← Option.some.inj h] at hk
    exact r_ireturn dX6_tellsDeedsAlone_28 rfl rfl hk
  · rw [if_neg c1] at h
    refine r_aload_n dX6_tellsDeedsAlone_8 0 rfl ?_
    refine r_iload_n dX6_tellsDeedsAlone_9 1 rfl ?_
    obtain ⟨h3, h⟩ := chk_some h
    obtain ⟨q4, g5, h⟩ := ob_some h
    refine r_callV (d' := (6, 0, false)) (As := [.int s.1]) (st := []) mdv_X6_intAt tm_RX6_32 (by decide) rfl rfl (by decide) rfl (Nat.le_refl _) (Nat.le_of_ble_eq_true rfl) rfl dX6_tellsDeedsAlone_10 h3 (ctX6_intAt g5) (k_I0 ?_)
    obtain ⟨q6, g7, h⟩ := ob_some h
    refine r_callSN (d' := (7, 0, false)) (As := [.int q4.1]) (st := []) mds_X7_isDigit (by decide) rfl (by decide) rfl (Nat.le_refl _) (Nat.le_of_ble_eq_true rfl) rfl dX6_tellsDeedsAlone_13 (ctX7_isDigit g7) (k_I0 ?_)
    refine r_if_ne (tgt := 21) dX6_tellsDeedsAlone_16 (by decide) (fun c8 => ?_) (fun c8 => ?_)
    · rw [if_neg c8] at h
      refine r_iinc (v := (s.1 + 1)) dX6_tellsDeedsAlone_21 1 rfl rfl (Nat.le_of_ble_eq_true rfl) [(1, .int (s.1 + 1)), (0, .ref a0)] rfl ?_
      refine r_goto (tgt := 2) dX6_tellsDeedsAlone_24 (by decide) ?_
      rw [← Option.some.inj h] at hk
      refine r_sub [1, 0] [(0, .ref a0), (1, .int (s.1 + 1))] rfl ?_
      exact hk
    · rw [if_pos c8] at h
      obtain ⟨r9, hr, h⟩ := wr_some h
      rw [hr] at hk
      refine r_iconst (v := 0) dX6_tellsDeedsAlone_19 (by decide) ?_
      rw [← Option.some.inj h] at hk
      exact r_ireturn dX6_tellsDeedsAlone_20 rfl rfl hk
def fX6_tellsDeedsAlone_L2 (a0 : Nat) (s : Int32 × Wd) : Option (Int32 × Wd) := it (fX6_tellsDeedsAlone_L2_body a0) FU s
set_option maxHeartbeats 1000000 in
set_option maxRecDepth 20000 in
theorem okX6_tellsDeedsAlone_L2 {E : Ev} {Q : Option Value → Wd → Prop} {a0 : Nat} {s : Int32 × Wd} {r : Int32 × Wd} (h : fX6_tellsDeedsAlone_L2 a0 s = some r) (hk : (fun q : Int32 × Wd => Q (some (.int q.1)) q.2) r) : PX6_tellsDeedsAlone_L2 E Q a0 s := it_runs (fun s r h hk => okX6_tellsDeedsAlone_L2_body h hk) FU s r h hk
def fX6_tellsDeedsAlone (a0 : Nat) (w : Wd) : Option (Int32 × Wd) :=
  fX6_tellsDeedsAlone_L2 a0 (0, w)
set_option maxHeartbeats 1000000 in
set_option maxRecDepth 20000 in
theorem okX6_tellsDeedsAlone {E : Ev} {Q : Option Value → Wd → Prop} {a0 : Nat} {w : Wd} {q : Int32 × Wd} (h : fX6_tellsDeedsAlone a0 w = some q) (hk : (fun q : Int32 × Wd => Q (some (.int q.1)) q.2) q) : Runs E mX6_tellsDeedsAlone (8, 0, false) Q 0 0 [(0, .ref a0)] [] w := by
  unfold fX6_tellsDeedsAlone at h
  refine r_iconst (v := 0) dX6_tellsDeedsAlone_0 (by decide) ?_
  refine r_istore_n dX6_tellsDeedsAlone_1 rfl (Nat.le_of_ble_eq_true rfl) [(1, .int 0), (0, .ref a0)] rfl ?_
  refine r_sub [1, 0] [(0, .ref a0), (1, .int 0)] rfl ?_
  exact okX6_tellsDeedsAlone_L2 h hk
set_option maxHeartbeats 1000000 in
set_option maxRecDepth 20000 in
theorem ctX6_tellsDeedsAlone {E : Ev} {a0 : Nat} {w : Wd} {q : Int32 × Wd} (h : fX6_tellsDeedsAlone a0 w = some q) : CT E mX6_tellsDeedsAlone (8, 0, false) [.ref a0] w (QI q) := CT.of pl_RX6 (Nat.le_of_ble_eq_true rfl) (okX6_tellsDeedsAlone h ⟨rfl, rfl⟩)
def fX7_act_b27 (w : Wd) : Option (Int32 × Wd) :=
  some (0, w)
set_option maxHeartbeats 1000000 in
set_option maxRecDepth 20000 in
theorem okX7_act_b27 {E : Ev} {Q : Option Value → Wd → Prop} {w : Wd} {q : Int32 × Wd} (h : fX7_act_b27 w = some q) (hk : (fun q : Int32 × Wd => Q (some (.int q.1)) q.2) q) : Runs E mX7_act (20, 0, false) Q 0 27 [] [] w := by
  unfold fX7_act_b27 at h
  refine r_iconst (v := 0) dX7_act_27 (by decide) ?_
  rw [← Option.some.inj h] at hk
  exact r_ireturn dX7_act_28 rfl rfl hk
def fX7_act (a0 : Nat) (x1 : Int32) (x2 : Int32) (x3 : Int32) (w : Wd) : Option (Int32 × Wd) :=
  chk (isO w a0 7) (ob (wR w a0 8) (fun o2 => chk (isO w o2 3) (ob (fX3_forget o2 w) (fun q5 => chk (isO q5 a0 7) (ob (wR q5 a0 2) (fun o8 => chk (isO q5 o8 0) (ob (fX0_hasGarment o8 x1 q5) (fun q11 => if q11.1 = 0 then (fX7_act_b27 q11.2) else (ob (fX7_isWithin x2 0 2 q11.2) (fun q14 => if q14.1 = 0 then (fX7_act_b27 q14.2) else (chk (isO q14.2 a0 7) (ob (wR q14.2 a0 8) (fun o18 => ob (wR q14.2 a0 2) (fun o20 => chk (isO q14.2 o20 0) (ob (wR q14.2 o20 1) (fun o23 => chk (isA q14.2 o23 2) (chk (inb x1 (wn q14.2 o23)) (ob (wR q14.2 o23 (x1).toNatClampNeg) (fun o27 => chk (isO q14.2 o18 3) (ob (fX3_make o18 o27 x1 x2 x3 q14.2) (fun q30 => some (q30.1, q30.2))))))))))))))))))))))
set_option maxHeartbeats 1000000 in
set_option maxRecDepth 20000 in
theorem okX7_act {E : Ev} {Q : Option Value → Wd → Prop} {a0 : Nat} {x1 : Int32} {x2 : Int32} {x3 : Int32} {w : Wd} {q : Int32 × Wd} (h : fX7_act a0 x1 x2 x3 w = some q) (hk : (fun q : Int32 × Wd => Q (some (.int q.1)) q.2) q) : Runs E mX7_act (20, 0, false) Q 0 0 [(0, .ref a0), (1, .int x1), (2, .int x2), (3, .int x3)] [] w := by
  unfold fX7_act at h
  refine r_aload_n dX7_act_0 0 rfl ?_
  obtain ⟨h1, h⟩ := chk_some h
  obtain ⟨o2, g3, h⟩ := ob_some h
  refine r_getR (fl_RX7_56 rfl) rfl dX7_act_1 h1 g3 ?_
  obtain ⟨h4, h⟩ := chk_some h
  obtain ⟨q5, g6, h⟩ := ob_some h
  refine r_callV (d' := (6, 0, false)) (As := []) (st := []) mdv_X3_forget tm_RX7_329 (by decide) rfl rfl (by decide) rfl (Nat.le_refl _) (Nat.le_of_ble_eq_true rfl) rfl dX7_act_4 h4 (ctX3_forget g6) (k_V0 ?_)
  refine r_aload_n dX7_act_7 0 rfl ?_
  obtain ⟨h7, h⟩ := chk_some h
  obtain ⟨o8, g9, h⟩ := ob_some h
  refine r_getR (fl_RX7_22 rfl) rfl dX7_act_8 h7 g9 ?_
  refine r_iload_n dX7_act_11 1 rfl ?_
  obtain ⟨h10, h⟩ := chk_some h
  obtain ⟨q11, g12, h⟩ := ob_some h
  refine r_callV (d' := (7, 0, false)) (As := [.int x1]) (st := []) mdv_X0_hasGarment tm_RX7_121 (by decide) rfl rfl (by decide) rfl (Nat.le_refl _) (Nat.le_of_ble_eq_true rfl) rfl dX7_act_12 h10 (ctX0_hasGarment g12) (k_I0 ?_)
  refine r_if_eq (tgt := 27) dX7_act_15 (by decide) (fun c13 => ?_) (fun c13 => ?_)
  · rw [if_pos c13] at h
    refine r_sub [] [] rfl ?_
    exact okX7_act_b27 h hk
  · rw [if_neg c13] at h
    refine r_iload_n dX7_act_18 2 rfl ?_
    refine r_iconst (v := 0) dX7_act_19 (by decide) ?_
    refine r_iconst (v := 2) dX7_act_20 (by decide) ?_
    obtain ⟨q14, g15, h⟩ := ob_some h
    refine r_callS (d' := (6, 0, false)) (As := [.int x2, .int 0, .int 2]) (st := []) mds_X7_isWithin tm_RX7_77 rfl (by decide) rfl (Nat.le_refl _) (Nat.le_of_ble_eq_true rfl) rfl dX7_act_21 (ctX7_isWithin g15) (k_I0 ?_)
    refine r_if_ne (tgt := 29) dX7_act_24 (by decide) (fun c16 => ?_) (fun c16 => ?_)
    · rw [if_neg c16] at h
      refine r_aload_n dX7_act_29 0 rfl ?_
      obtain ⟨h17, h⟩ := chk_some h
      obtain ⟨o18, g19, h⟩ := ob_some h
      refine r_getR (fl_RX7_56 rfl) rfl dX7_act_30 h17 g19 ?_
      refine r_aload_n dX7_act_33 0 rfl ?_
      obtain ⟨o20, g21, h⟩ := ob_some h
      refine r_getR (fl_RX7_22 rfl) rfl dX7_act_34 h17 g21 ?_
      obtain ⟨h22, h⟩ := chk_some h
      obtain ⟨o23, g24, h⟩ := ob_some h
      refine r_getR (fl_RX7_137 rfl) rfl dX7_act_37 h22 g24 ?_
      refine r_iload_n dX7_act_40 1 rfl ?_
      obtain ⟨h25, h⟩ := chk_some h
      obtain ⟨h26, h⟩ := chk_some h
      obtain ⟨o27, g28, h⟩ := ob_some h
      refine r_aaload 2 (by decide) (by decide) dX7_act_41 h25 h26 g28 ?_
      refine r_iload_n dX7_act_42 1 rfl ?_
      refine r_iload_n dX7_act_43 2 rfl ?_
      refine r_iload_n dX7_act_44 3 rfl ?_
      obtain ⟨h29, h⟩ := chk_some h
      obtain ⟨q30, g31, h⟩ := ob_some h
      refine r_callV (d' := (19, 0, false)) (As := [.ref o27, .int x1, .int x2, .int x3]) (st := []) mdv_X3_make tm_RX7_332 (by decide) rfl rfl (by decide) rfl (Nat.le_refl _) (Nat.le_of_ble_eq_true rfl) rfl dX7_act_45 h29 (ctX3_make g31) (k_I0 ?_)
      rw [← Option.some.inj h] at hk
      exact r_ireturn dX7_act_48 rfl rfl hk
    · rw [if_pos c16] at h
      refine r_sub [] [] rfl ?_
      exact okX7_act_b27 h hk
set_option maxHeartbeats 1000000 in
set_option maxRecDepth 20000 in
theorem ctX7_act {E : Ev} {a0 : Nat} {x1 : Int32} {x2 : Int32} {x3 : Int32} {w : Wd} {q : Int32 × Wd} (h : fX7_act a0 x1 x2 x3 w = some q) : CT E mX7_act (20, 0, false) [.ref a0, .int x1, .int x2, .int x3] w (QI q) := CT.of pl_RX7 (Nat.le_of_ble_eq_true rfl) (okX7_act h ⟨rfl, rfl⟩)
def fX7_isHour (x0 : Int32) (w : Wd) : Option (Int32 × Wd) :=
  ob (fX7_isWithin x0 0 11 w) (fun q1 => chk (q1.1 = 0 ∨ q1.1 = 1) (some (q1.1, q1.2)))
set_option maxHeartbeats 1000000 in
set_option maxRecDepth 20000 in
theorem okX7_isHour {E : Ev} {Q : Option Value → Wd → Prop} {x0 : Int32} {w : Wd} {q : Int32 × Wd} (h : fX7_isHour x0 w = some q) (hk : (fun q : Int32 × Wd => Q (some (.int q.1)) q.2) q) : Runs E mX7_isHour (7, 0, false) Q 0 0 [(0, .int x0)] [] w := by
  unfold fX7_isHour at h
  refine r_iload_n dX7_isHour_0 0 rfl ?_
  refine r_iconst (v := 0) dX7_isHour_1 (by decide) ?_
  refine r_bipush (v := 11) dX7_isHour_2 (by decide) ?_
  obtain ⟨q1, g2, h⟩ := ob_some h
  refine r_callS (d' := (6, 0, false)) (As := [.int x0, .int 0, .int 11]) (st := []) mds_X7_isWithin tm_RX7_77 rfl (by decide) rfl (Nat.le_refl _) (Nat.le_of_ble_eq_true rfl) rfl dX7_isHour_4 (ctX7_isWithin g2) (k_I0 ?_)
  obtain ⟨h3, h⟩ := chk_some h
  rw [← Option.some.inj h] at hk
  exact r_ireturn dX7_isHour_7 rfl (nb h3) hk
set_option maxHeartbeats 1000000 in
set_option maxRecDepth 20000 in
theorem ctX7_isHour {E : Ev} {x0 : Int32} {w : Wd} {q : Int32 × Wd} (h : fX7_isHour x0 w = some q) : CT E mX7_isHour (7, 0, false) [.int x0] w (QI q) := CT.of pl_RX7 (Nat.le_of_ble_eq_true rfl) (okX7_isHour h ⟨rfl, rfl⟩)
def fX7_refuse (a0 : Nat) (x1 : Int32) (w : Wd) : Option (Int32 × Wd) :=
  chk (isO w a0 7) (ob (wR w a0 1) (fun o2 => chk (isA w o2 0) (chk (inb (-x1) (wn w o2)) (bnd (sI w o2 ((-x1)).toNatClampNeg ((wI w o2 ((-x1)).toNatClampNeg) + 1)) (fun w6 => some (x1, w6))))))
set_option maxHeartbeats 1000000 in
set_option maxRecDepth 20000 in
theorem okX7_refuse {E : Ev} {Q : Option Value → Wd → Prop} {a0 : Nat} {x1 : Int32} {w : Wd} {q : Int32 × Wd} (h : fX7_refuse a0 x1 w = some q) (hk : (fun q : Int32 × Wd => Q (some (.int q.1)) q.2) q) : Runs E mX7_refuse (6, 0, false) Q 0 0 [(0, .ref a0), (1, .int x1)] [] w := by
  unfold fX7_refuse at h
  refine r_aload_n dX7_refuse_0 0 rfl ?_
  obtain ⟨h1, h⟩ := chk_some h
  obtain ⟨o2, g3, h⟩ := ob_some h
  refine r_getR (fl_RX7_15 rfl) rfl dX7_refuse_1 h1 g3 ?_
  refine r_iload_n dX7_refuse_4 1 rfl ?_
  refine r_ineg dX7_refuse_5 ?_
  refine r_dup2 dX7_refuse_6 rfl rfl ?_
  obtain ⟨h4, h⟩ := chk_some h
  obtain ⟨h5, h⟩ := chk_some h
  refine r_iaload dX7_refuse_7 h4 h5 ?_
  refine r_iconst (v := 1) dX7_refuse_8 (by decide) ?_
  refine r_iadd dX7_refuse_9 ?_
  obtain ⟨w6, e7, h⟩ := bnd_some h
  refine r_iastore dX7_refuse_10 h4 h5 ?_
  refine r_eqW e7 ?_
  refine r_iload_n dX7_refuse_11 1 rfl ?_
  rw [← Option.some.inj h] at hk
  exact r_ireturn dX7_refuse_12 rfl rfl hk
set_option maxHeartbeats 1000000 in
set_option maxRecDepth 20000 in
theorem ctX7_refuse {E : Ev} {a0 : Nat} {x1 : Int32} {w : Wd} {q : Int32 × Wd} (h : fX7_refuse a0 x1 w = some q) : CT E mX7_refuse (6, 0, false) [.ref a0, .int x1] w (QI q) := CT.of pl_RX7 (Nat.le_of_ble_eq_true rfl) (okX7_refuse h ⟨rfl, rfl⟩)
def PX7_alone_L18 (E : Ev) (Q : Option Value → Wd → Prop) (a0 : Nat) (x1 : Int32) (s : Int32 × Int32 × Wd) : Prop := Runs E mX7_alone (9, 0, false) Q 0 18 [(0, .ref a0), (1, .int x1), (2, .int s.1), (3, .int s.2.1)] [] s.2.2
def fX7_alone_b47 (a0 : Nat) (x1 : Int32) (x2 : Int32) (x3 : Int32) (w : Wd) : Option ((Int32 × Int32 × Wd) ⊕ (Int32 × Wd)) :=
  some (.inl (x2, (x3 + 1), w))
set_option maxHeartbeats 1000000 in
set_option maxRecDepth 20000 in
theorem okX7_alone_b47 {E : Ev} {Q : Option Value → Wd → Prop} {a0 : Nat} {x1 : Int32} {x2 : Int32} {x3 : Int32} {w : Wd} {q : (Int32 × Int32 × Wd) ⊕ (Int32 × Wd)} (h : fX7_alone_b47 a0 x1 x2 x3 w = some q) (hk : (Sum.elim (PX7_alone_L18 E Q a0 x1) (fun q : Int32 × Wd => Q (some (.int q.1)) q.2)) q) : Runs E mX7_alone (9, 0, false) Q 0 47 [(0, .ref a0), (1, .int x1), (2, .int x2), (3, .int x3)] [] w := by
  unfold fX7_alone_b47 at h
  refine r_iinc (v := (x3 + 1)) dX7_alone_47 3 rfl rfl (Nat.le_of_ble_eq_true rfl) [(3, .int (x3 + 1)), (0, .ref a0), (1, .int x1), (2, .int x2)] rfl ?_
  refine r_goto (tgt := 18) dX7_alone_50 (by decide) ?_
  rw [← Option.some.inj h] at hk
  refine r_sub [1, 2, 3, 0] [(0, .ref a0), (1, .int x1), (2, .int x2), (3, .int (x3 + 1))] rfl ?_
  exact hk
def fX7_alone_L18_body (a0 : Nat) (x1 : Int32) (s : Int32 × Int32 × Wd) : Option ((Int32 × Int32 × Wd) ⊕ (Int32 × Wd)) :=
  chk (isO s.2.2 a0 7) (ob (wR s.2.2 a0 2) (fun o2 => chk (isO s.2.2 o2 0) (if (wI s.2.2 o2 4) ≤ s.2.1 then (wr (some (s.1, s.2.2))) else (ob (fX0_isGoing o2 s.2.1 x1 s.2.2) (fun q7 => if q7.1 = 0 then (fX7_alone_b47 a0 x1 s.1 s.2.1 q7.2) else (bnd (s.1 ||| (1 <<< (s.2.1 &&& 31))) (fun u10 => fX7_alone_b47 a0 x1 u10 s.2.1 q7.2)))))))
set_option maxHeartbeats 1000000 in
set_option maxRecDepth 20000 in
theorem okX7_alone_L18_body {E : Ev} {Q : Option Value → Wd → Prop} {a0 : Nat} {x1 : Int32} {s : Int32 × Int32 × Wd} {r : (Int32 × Int32 × Wd) ⊕ (Int32 × Wd)} (h : fX7_alone_L18_body a0 x1 s = some r) (hk : (Sum.elim (PX7_alone_L18 E Q a0 x1) (fun q : Int32 × Wd => Q (some (.int q.1)) q.2)) r) : PX7_alone_L18 E Q a0 x1 s := by
  unfold fX7_alone_L18_body at h
  unfold PX7_alone_L18
  refine r_iload_n dX7_alone_18 3 rfl ?_
  refine r_aload_n dX7_alone_19 0 rfl ?_
  obtain ⟨h1, h⟩ := chk_some h
  obtain ⟨o2, g3, h⟩ := ob_some h
  refine r_getR (fl_RX7_22 rfl) rfl dX7_alone_20 h1 g3 ?_
  obtain ⟨h4, h⟩ := chk_some h
  refine r_getI (fl_RX7_275 rfl) rfl dX7_alone_23 h4 ?_
  refine r_icmp_ge (tgt := 53) dX7_alone_26 (by decide) (fun c5 => ?_) (fun c5 => ?_)
  · rw [if_pos c5] at h
    obtain ⟨r6, hr, h⟩ := wr_some h
    rw [hr] at hk
    refine r_iload_n dX7_alone_53 2 rfl ?_
    rw [← Option.some.inj h] at hk
    exact r_ireturn dX7_alone_54 rfl rfl hk
  · rw [if_neg c5] at h
    refine r_aload_n dX7_alone_29 0 rfl ?_
    refine r_getR (fl_RX7_22 rfl) rfl dX7_alone_30 h1 g3 ?_
    refine r_iload_n dX7_alone_33 3 rfl ?_
    refine r_iload_n dX7_alone_34 1 rfl ?_
    obtain ⟨q7, g8, h⟩ := ob_some h
    refine r_callV (d' := (8, 0, false)) (As := [.int s.2.1, .int x1]) (st := []) mdv_X0_isGoing tm_RX7_239 (by decide) rfl rfl (by decide) rfl (Nat.le_refl _) (Nat.le_of_ble_eq_true rfl) rfl dX7_alone_35 h4 (ctX0_isGoing g8) (k_I0 ?_)
    refine r_if_eq (tgt := 47) dX7_alone_38 (by decide) (fun c9 => ?_) (fun c9 => ?_)
    · rw [if_pos c9] at h
      refine r_sub [0, 1, 2, 3] [(0, .ref a0), (1, .int x1), (2, .int s.1), (3, .int s.2.1)] rfl ?_
      exact okX7_alone_b47 h hk
    · rw [if_neg c9] at h
      refine r_iload_n dX7_alone_41 2 rfl ?_
      refine r_iconst (v := 1) dX7_alone_42 (by decide) ?_
      refine r_iload_n dX7_alone_43 3 rfl ?_
      refine r_ishl dX7_alone_44 ?_
      refine r_ior dX7_alone_45 ?_
      obtain ⟨u10, e11, h⟩ := bnd_some h
      refine r_eqI e11 ?_
      refine r_istore_n dX7_alone_46 rfl (Nat.le_of_ble_eq_true rfl) [(2, .int u10), (0, .ref a0), (1, .int x1), (3, .int s.2.1)] rfl ?_
      refine r_sub [1, 2, 0, 3] [(0, .ref a0), (1, .int x1), (2, .int u10), (3, .int s.2.1)] rfl ?_
      exact okX7_alone_b47 h hk
def fX7_alone_L18 (a0 : Nat) (x1 : Int32) (s : Int32 × Int32 × Wd) : Option (Int32 × Wd) := it (fX7_alone_L18_body a0 x1) FU s
set_option maxHeartbeats 1000000 in
set_option maxRecDepth 20000 in
theorem okX7_alone_L18 {E : Ev} {Q : Option Value → Wd → Prop} {a0 : Nat} {x1 : Int32} {s : Int32 × Int32 × Wd} {r : Int32 × Wd} (h : fX7_alone_L18 a0 x1 s = some r) (hk : (fun q : Int32 × Wd => Q (some (.int q.1)) q.2) r) : PX7_alone_L18 E Q a0 x1 s := it_runs (fun s r h hk => okX7_alone_L18_body h hk) FU s r h hk
def fX7_alone (a0 : Nat) (x1 : Int32) (w : Wd) : Option (Int32 × Wd) :=
  ob (fX7_isHour x1 w) (fun q1 => if q1.1 = 0 then (chk (isO q1.2 a0 7) (ob (fX7_refuse a0 (-6) q1.2) (fun q5 => some (q5.1, q5.2)))) else (fX7_alone_L18 a0 x1 (0, 0, q1.2)))
set_option maxHeartbeats 1000000 in
set_option maxRecDepth 20000 in
theorem okX7_alone {E : Ev} {Q : Option Value → Wd → Prop} {a0 : Nat} {x1 : Int32} {w : Wd} {q : Int32 × Wd} (h : fX7_alone a0 x1 w = some q) (hk : (fun q : Int32 × Wd => Q (some (.int q.1)) q.2) q) : Runs E mX7_alone (9, 0, false) Q 0 0 [(0, .ref a0), (1, .int x1)] [] w := by
  unfold fX7_alone at h
  refine r_iload_n dX7_alone_0 1 rfl ?_
  obtain ⟨q1, g2, h⟩ := ob_some h
  refine r_callS (d' := (7, 0, false)) (As := [.int x1]) (st := []) mds_X7_isHour tm_RX7_176 rfl (by decide) rfl (Nat.le_refl _) (Nat.le_of_ble_eq_true rfl) rfl dX7_alone_1 (ctX7_isHour g2) (k_I0 ?_)
  refine r_if_ne (tgt := 14) dX7_alone_4 (by decide) (fun c3 => ?_) (fun c3 => ?_)
  · rw [if_neg c3] at h
    refine r_iconst (v := 0) dX7_alone_14 (by decide) ?_
    refine r_istore_n dX7_alone_15 rfl (Nat.le_of_ble_eq_true rfl) [(2, .int 0), (0, .ref a0), (1, .int x1)] rfl ?_
    refine r_iconst (v := 0) dX7_alone_16 (by decide) ?_
    refine r_istore_n dX7_alone_17 rfl (Nat.le_of_ble_eq_true rfl) [(3, .int 0), (2, .int 0), (0, .ref a0), (1, .int x1)] rfl ?_
    refine r_sub [2, 3, 1, 0] [(0, .ref a0), (1, .int x1), (2, .int 0), (3, .int 0)] rfl ?_
    exact okX7_alone_L18 h hk
  · rw [if_pos c3] at h
    refine r_aload_n dX7_alone_7 0 rfl ?_
    refine r_bipush (v := (-6)) dX7_alone_8 (by decide) ?_
    obtain ⟨h4, h⟩ := chk_some h
    obtain ⟨q5, g6, h⟩ := ob_some h
    refine r_callV (d' := (6, 0, false)) (As := [.int (-6)]) (st := []) mdv_X7_refuse tm_RX7_73 (by decide) rfl rfl (by decide) rfl (Nat.le_refl _) (Nat.le_of_ble_eq_true rfl) rfl dX7_alone_10 h4 (ctX7_refuse g6) (k_I0 ?_)
    rw [← Option.some.inj h] at hk
    exact r_ireturn dX7_alone_13 rfl rfl hk
set_option maxHeartbeats 1000000 in
set_option maxRecDepth 20000 in
theorem ctX7_alone {E : Ev} {a0 : Nat} {x1 : Int32} {w : Wd} {q : Int32 × Wd} (h : fX7_alone a0 x1 w = some q) : CT E mX7_alone (9, 0, false) [.ref a0, .int x1] w (QI q) := CT.of pl_RX7 (Nat.le_of_ble_eq_true rfl) (okX7_alone h ⟨rfl, rfl⟩)
def fX7_areDaysAndHour_b22 (s0 : Int32) (w : Wd) : Option (Int32 × Wd) :=
  chk (s0 = 0 ∨ s0 = 1) (some (s0, w))
set_option maxHeartbeats 1000000 in
set_option maxRecDepth 20000 in
theorem okX7_areDaysAndHour_b22 {E : Ev} {Q : Option Value → Wd → Prop} {s0 : Int32} {w : Wd} {q : Int32 × Wd} (h : fX7_areDaysAndHour_b22 s0 w = some q) (hk : (fun q : Int32 × Wd => Q (some (.int q.1)) q.2) q) : Runs E mX7_areDaysAndHour (8, 0, false) Q 0 22 [] [.int s0] w := by
  unfold fX7_areDaysAndHour_b22 at h
  obtain ⟨h1, h⟩ := chk_some h
  rw [← Option.some.inj h] at hk
  exact r_ireturn dX7_areDaysAndHour_22 rfl (nb h1) hk
def fX7_areDaysAndHour_b21 (w : Wd) : Option (Int32 × Wd) :=
  fX7_areDaysAndHour_b22 0 w
set_option maxHeartbeats 1000000 in
set_option maxRecDepth 20000 in
theorem okX7_areDaysAndHour_b21 {E : Ev} {Q : Option Value → Wd → Prop} {w : Wd} {q : Int32 × Wd} (h : fX7_areDaysAndHour_b21 w = some q) (hk : (fun q : Int32 × Wd => Q (some (.int q.1)) q.2) q) : Runs E mX7_areDaysAndHour (8, 0, false) Q 0 21 [] [] w := by
  unfold fX7_areDaysAndHour_b21 at h
  refine r_iconst (v := 0) dX7_areDaysAndHour_21 (by decide) ?_
  refine r_sub [] [] rfl ?_
  exact okX7_areDaysAndHour_b22 h hk
def fX7_areDaysAndHour (x0 : Int32) (x1 : Int32) (w : Wd) : Option (Int32 × Wd) :=
  ob (fX7_isWithin x0 0 60 w) (fun q1 => if q1.1 = 0 then (fX7_areDaysAndHour_b21 q1.2) else (ob (fX7_isHour x1 q1.2) (fun q4 => if q4.1 = 0 then (fX7_areDaysAndHour_b21 q4.2) else (fX7_areDaysAndHour_b22 1 q4.2))))
set_option maxHeartbeats 1000000 in
set_option maxRecDepth 20000 in
theorem okX7_areDaysAndHour {E : Ev} {Q : Option Value → Wd → Prop} {x0 : Int32} {x1 : Int32} {w : Wd} {q : Int32 × Wd} (h : fX7_areDaysAndHour x0 x1 w = some q) (hk : (fun q : Int32 × Wd => Q (some (.int q.1)) q.2) q) : Runs E mX7_areDaysAndHour (8, 0, false) Q 0 0 [(0, .int x0), (1, .int x1)] [] w := by
  unfold fX7_areDaysAndHour at h
  refine r_iload_n dX7_areDaysAndHour_0 0 rfl ?_
  refine r_iconst (v := 0) dX7_areDaysAndHour_1 (by decide) ?_
  refine r_bipush (v := 60) dX7_areDaysAndHour_2 (by decide) ?_
  obtain ⟨q1, g2, h⟩ := ob_some h
  refine r_callS (d' := (6, 0, false)) (As := [.int x0, .int 0, .int 60]) (st := []) mds_X7_isWithin tm_RX7_77 rfl (by decide) rfl (Nat.le_refl _) (Nat.le_of_ble_eq_true rfl) rfl dX7_areDaysAndHour_4 (ctX7_isWithin g2) (k_I0 ?_)
  refine r_if_eq (tgt := 21) dX7_areDaysAndHour_7 (by decide) (fun c3 => ?_) (fun c3 => ?_)
  · rw [if_pos c3] at h
    refine r_sub [] [] rfl ?_
    exact okX7_areDaysAndHour_b21 h hk
  · rw [if_neg c3] at h
    refine r_iload_n dX7_areDaysAndHour_10 1 rfl ?_
    obtain ⟨q4, g5, h⟩ := ob_some h
    refine r_callS (d' := (7, 0, false)) (As := [.int x1]) (st := []) mds_X7_isHour tm_RX7_176 rfl (by decide) rfl (Nat.le_refl _) (Nat.le_of_ble_eq_true rfl) rfl dX7_areDaysAndHour_11 (ctX7_isHour g5) (k_I0 ?_)
    refine r_if_eq (tgt := 21) dX7_areDaysAndHour_14 (by decide) (fun c6 => ?_) (fun c6 => ?_)
    · rw [if_pos c6] at h
      refine r_sub [] [] rfl ?_
      exact okX7_areDaysAndHour_b21 h hk
    · rw [if_neg c6] at h
      refine r_iconst (v := 1) dX7_areDaysAndHour_17 (by decide) ?_
      refine r_goto (tgt := 22) dX7_areDaysAndHour_18 (by decide) ?_
      refine r_sub [] [] rfl ?_
      exact okX7_areDaysAndHour_b22 h hk
set_option maxHeartbeats 1000000 in
set_option maxRecDepth 20000 in
theorem ctX7_areDaysAndHour {E : Ev} {x0 : Int32} {x1 : Int32} {w : Wd} {q : Int32 × Wd} (h : fX7_areDaysAndHour x0 x1 w = some q) : CT E mX7_areDaysAndHour (8, 0, false) [.int x0, .int x1] w (QI q) := CT.of pl_RX7 (Nat.le_of_ble_eq_true rfl) (okX7_areDaysAndHour h ⟨rfl, rfl⟩)
def PX7_tryDays_L16 (E : Ev) (Q : Option Value → Wd → Prop) (a0 : Nat) (x1 : Int32) (x2 : Int32) (s : Int32 × Int32 × Wd) : Prop := Runs E mX7_tryDays (9, 0, false) Q 0 16 [(0, .ref a0), (1, .int x1), (2, .int x2), (3, .int s.1), (4, .int s.2.1)] [] s.2.2
def fX7_tryDays_b41 (w : Wd) : Option (Wd) :=
  some w
set_option maxHeartbeats 1000000 in
set_option maxRecDepth 20000 in
theorem okX7_tryDays_b41 {E : Ev} {Q : Option Value → Wd → Prop} {w : Wd} {q : Wd} (h : fX7_tryDays_b41 w = some q) (hk : (fun q : Wd => Q none q) q) : Runs E mX7_tryDays (9, 0, false) Q 0 41 [] [] w := by
  unfold fX7_tryDays_b41 at h
  rw [← Option.some.inj h] at hk
  exact r_return dX7_tryDays_41 rfl hk
def fX7_tryDays_L16_body (a0 : Nat) (x1 : Int32) (x2 : Int32) (s : Int32 × Int32 × Wd) : Option ((Int32 × Int32 × Wd) ⊕ (Wd)) :=
  if x1 ≤ s.2.1 then (wr (fX7_tryDays_b41 s.2.2)) else (if s.1 = 0 then (wr (fX7_tryDays_b41 s.2.2)) else (chk (isO s.2.2 a0 7) (ob (wR s.2.2 a0 3) (fun o6 => chk (isO s.2.2 o6 0) (ob (fX0_passHour o6 x2 s.2.2) (fun q9 => some (.inl (q9.1, (s.2.1 + 1), q9.2))))))))
set_option maxHeartbeats 1000000 in
set_option maxRecDepth 20000 in
theorem okX7_tryDays_L16_body {E : Ev} {Q : Option Value → Wd → Prop} {a0 : Nat} {x1 : Int32} {x2 : Int32} {s : Int32 × Int32 × Wd} {r : (Int32 × Int32 × Wd) ⊕ (Wd)} (h : fX7_tryDays_L16_body a0 x1 x2 s = some r) (hk : (Sum.elim (PX7_tryDays_L16 E Q a0 x1 x2) (fun q : Wd => Q none q)) r) : PX7_tryDays_L16 E Q a0 x1 x2 s := by
  unfold fX7_tryDays_L16_body at h
  unfold PX7_tryDays_L16
  refine r_iload dX7_tryDays_16 4 rfl ?_
  refine r_iload_n dX7_tryDays_18 1 rfl ?_
  refine r_icmp_ge (tgt := 41) dX7_tryDays_19 (by decide) (fun c1 => ?_) (fun c1 => ?_)
  · rw [if_pos c1] at h
    obtain ⟨r2, hr, h⟩ := wr_some h
    rw [hr] at hk
    refine r_sub [] [] rfl ?_
    exact okX7_tryDays_b41 h hk
  · rw [if_neg c1] at h
    refine r_iload_n dX7_tryDays_22 3 rfl ?_
    refine r_if_eq (tgt := 41) dX7_tryDays_23 (by decide) (fun c3 => ?_) (fun c3 => ?_)
    · rw [if_pos c3] at h
      obtain ⟨r4, hr, h⟩ := wr_some h
      rw [hr] at hk
      refine r_sub [] [] rfl ?_
      exact okX7_tryDays_b41 h hk
    · rw [if_neg c3] at h
      refine r_aload_n dX7_tryDays_26 0 rfl ?_
      obtain ⟨h5, h⟩ := chk_some h
      obtain ⟨o6, g7, h⟩ := ob_some h
      refine r_getR (fl_RX7_26 rfl) rfl dX7_tryDays_27 h5 g7 ?_
      refine r_iload_n dX7_tryDays_30 2 rfl ?_
      obtain ⟨h8, h⟩ := chk_some h
      obtain ⟨q9, g10, h⟩ := ob_some h
      refine r_callV (d' := (8, 0, false)) (As := [.int x2]) (st := []) mdv_X0_passHour tm_RX7_250 (by decide) rfl rfl (by decide) rfl (Nat.le_refl _) (Nat.le_of_ble_eq_true rfl) rfl dX7_tryDays_31 h8 (ctX0_passHour g10) (k_I0 ?_)
      refine r_istore_n dX7_tryDays_34 rfl (Nat.le_of_ble_eq_true rfl) [(3, .int q9.1), (0, .ref a0), (1, .int x1), (2, .int x2), (4, .int s.2.1)] rfl ?_
      refine r_iinc (v := (s.2.1 + 1)) dX7_tryDays_35 4 rfl rfl (Nat.le_of_ble_eq_true rfl) [(4, .int (s.2.1 + 1)), (3, .int q9.1), (0, .ref a0), (1, .int x1), (2, .int x2)] rfl ?_
      refine r_goto (tgt := 16) dX7_tryDays_38 (by decide) ?_
      rw [← Option.some.inj h] at hk
      refine r_sub [2, 3, 4, 1, 0] [(0, .ref a0), (1, .int x1), (2, .int x2), (3, .int q9.1), (4, .int (s.2.1 + 1))] rfl ?_
      exact hk
def fX7_tryDays_L16 (a0 : Nat) (x1 : Int32) (x2 : Int32) (s : Int32 × Int32 × Wd) : Option (Wd) := it (fX7_tryDays_L16_body a0 x1 x2) FU s
set_option maxHeartbeats 1000000 in
set_option maxRecDepth 20000 in
theorem okX7_tryDays_L16 {E : Ev} {Q : Option Value → Wd → Prop} {a0 : Nat} {x1 : Int32} {x2 : Int32} {s : Int32 × Int32 × Wd} {r : Wd} (h : fX7_tryDays_L16 a0 x1 x2 s = some r) (hk : (fun q : Wd => Q none q) r) : PX7_tryDays_L16 E Q a0 x1 x2 s := it_runs (fun s r h hk => okX7_tryDays_L16_body h hk) FU s r h hk
def fX7_tryDays (a0 : Nat) (x1 : Int32) (x2 : Int32) (w : Wd) : Option (Wd) :=
  chk (isO w a0 7) (ob (wR w a0 3) (fun o2 => ob (wR w a0 2) (fun o4 => chk (isO w o2 0) (ob (fX0_take o2 o4 w) (fun q7 => fX7_tryDays_L16 a0 x1 x2 (1, 0, q7))))))
set_option maxHeartbeats 1000000 in
set_option maxRecDepth 20000 in
theorem okX7_tryDays {E : Ev} {Q : Option Value → Wd → Prop} {a0 : Nat} {x1 : Int32} {x2 : Int32} {w : Wd} {q : Wd} (h : fX7_tryDays a0 x1 x2 w = some q) (hk : (fun q : Wd => Q none q) q) : Runs E mX7_tryDays (9, 0, false) Q 0 0 [(0, .ref a0), (1, .int x1), (2, .int x2)] [] w := by
  unfold fX7_tryDays at h
  refine r_aload_n dX7_tryDays_0 0 rfl ?_
  obtain ⟨h1, h⟩ := chk_some h
  obtain ⟨o2, g3, h⟩ := ob_some h
  refine r_getR (fl_RX7_26 rfl) rfl dX7_tryDays_1 h1 g3 ?_
  refine r_aload_n dX7_tryDays_4 0 rfl ?_
  obtain ⟨o4, g5, h⟩ := ob_some h
  refine r_getR (fl_RX7_22 rfl) rfl dX7_tryDays_5 h1 g5 ?_
  obtain ⟨h6, h⟩ := chk_some h
  obtain ⟨q7, g8, h⟩ := ob_some h
  refine r_callV (d' := (7, 0, false)) (As := [.ref o4]) (st := []) mdv_X0_take tm_RX7_219 (by decide) rfl rfl (by decide) rfl (Nat.le_refl _) (Nat.le_of_ble_eq_true rfl) rfl dX7_tryDays_8 h6 (ctX0_take g8) (k_V0 ?_)
  refine r_iconst (v := 1) dX7_tryDays_11 (by decide) ?_
  refine r_istore_n dX7_tryDays_12 rfl (Nat.le_of_ble_eq_true rfl) [(3, .int 1), (0, .ref a0), (1, .int x1), (2, .int x2)] rfl ?_
  refine r_iconst (v := 0) dX7_tryDays_13 (by decide) ?_
  refine r_istore dX7_tryDays_14 (Nat.le_of_ble_eq_true rfl) [(4, .int 0), (3, .int 1), (0, .ref a0), (1, .int x1), (2, .int x2)] rfl ?_
  refine r_sub [2, 3, 4, 1, 0] [(0, .ref a0), (1, .int x1), (2, .int x2), (3, .int 1), (4, .int 0)] rfl ?_
  exact okX7_tryDays_L16 h hk
set_option maxHeartbeats 1000000 in
set_option maxRecDepth 20000 in
theorem ctX7_tryDays {E : Ev} {a0 : Nat} {x1 : Int32} {x2 : Int32} {w : Wd} {q : Wd} (h : fX7_tryDays a0 x1 x2 w = some q) : CT E mX7_tryDays (9, 0, false) [.ref a0, .int x1, .int x2] w (QV q) := CT.of pl_RX7 (Nat.le_of_ble_eq_true rfl) (okX7_tryDays h ⟨rfl, rfl⟩)
def fX7_behind_b88 (s0 : Int32) (w : Wd) : Option (Int32 × Wd) :=
  some (s0, w)
set_option maxHeartbeats 1000000 in
set_option maxRecDepth 20000 in
theorem okX7_behind_b88 {E : Ev} {Q : Option Value → Wd → Prop} {s0 : Int32} {w : Wd} {q : Int32 × Wd} (h : fX7_behind_b88 s0 w = some q) (hk : (fun q : Int32 × Wd => Q (some (.int q.1)) q.2) q) : Runs E mX7_behind (10, 0, false) Q 0 88 [] [.int s0] w := by
  unfold fX7_behind_b88 at h
  rw [← Option.some.inj h] at hk
  exact r_ireturn dX7_behind_88 rfl rfl hk
def fX7_behind (a0 : Nat) (x1 : Int32) (x2 : Int32) (x3 : Int32) (x4 : Int32) (w : Wd) : Option (Int32 × Wd) :=
  chk (isO w a0 7) (ob (wR w a0 2) (fun o2 => chk (isO w o2 0) (ob (fX0_hasGarment o2 x1 w) (fun q5 => if q5.1 = 0 then (chk (isO q5.2 a0 7) (ob (fX7_refuse a0 (-1) q5.2) (fun q45 => some (q45.1, q45.2)))) else (ob (fX7_isWithin x4 0 1 q5.2) (fun q8 => if q8.1 = 0 then (chk (isO q8.2 a0 7) (ob (fX7_refuse a0 (-5) q8.2) (fun q42 => some (q42.1, q42.2)))) else (ob (fX7_areDaysAndHour x2 x3 q8.2) (fun q11 => if q11.1 = 0 then (chk (isO q11.2 a0 7) (ob (fX7_refuse a0 (-6) q11.2) (fun q39 => some (q39.1, q39.2)))) else (chk (isO q11.2 a0 7) (ob (fX7_tryDays a0 x2 x3 q11.2) (fun q15 => chk (isO q15 a0 7) (ob (wR q15 a0 3) (fun o18 => chk (isO q15 o18 0) (ob (wR q15 o18 1) (fun o21 => chk (isA q15 o21 2) (chk (inb x1 (wn q15 o21)) (ob (wR q15 o21 (x1).toNatClampNeg) (fun o25 => if x4 = 0 then (chk (isO q15 o25 2) (ob (wR q15 o25 0) (fun o34 => chk (isA q15 o34 0) (chk (inb x3 (wn q15 o34)) (fX7_behind_b88 (wI q15 o34 (x3).toNatClampNeg) q15))))) else (chk (isO q15 o25 2) (ob (wR q15 o25 1) (fun o29 => chk (isA q15 o29 0) (chk (inb x3 (wn q15 o29)) (fX7_behind_b88 (wI q15 o29 (x3).toNatClampNeg) q15)))))))))))))))))))))))
set_option maxHeartbeats 1000000 in
set_option maxRecDepth 20000 in
theorem okX7_behind {E : Ev} {Q : Option Value → Wd → Prop} {a0 : Nat} {x1 : Int32} {x2 : Int32} {x3 : Int32} {x4 : Int32} {w : Wd} {q : Int32 × Wd} (h : fX7_behind a0 x1 x2 x3 x4 w = some q) (hk : (fun q : Int32 × Wd => Q (some (.int q.1)) q.2) q) : Runs E mX7_behind (10, 0, false) Q 0 0 [(0, .ref a0), (1, .int x1), (2, .int x2), (3, .int x3), (4, .int x4)] [] w := by
  unfold fX7_behind at h
  refine r_aload_n dX7_behind_0 0 rfl ?_
  obtain ⟨h1, h⟩ := chk_some h
  obtain ⟨o2, g3, h⟩ := ob_some h
  refine r_getR (fl_RX7_22 rfl) rfl dX7_behind_1 h1 g3 ?_
  refine r_iload_n dX7_behind_4 1 rfl ?_
  obtain ⟨h4, h⟩ := chk_some h
  obtain ⟨q5, g6, h⟩ := ob_some h
  refine r_callV (d' := (7, 0, false)) (As := [.int x1]) (st := []) mdv_X0_hasGarment tm_RX7_121 (by decide) rfl rfl (by decide) rfl (Nat.le_refl _) (Nat.le_of_ble_eq_true rfl) rfl dX7_behind_5 h4 (ctX0_hasGarment g6) (k_I0 ?_)
  refine r_if_ne (tgt := 17) dX7_behind_8 (by decide) (fun c7 => ?_) (fun c7 => ?_)
  · rw [if_neg c7] at h
    refine r_iload dX7_behind_17 4 rfl ?_
    refine r_iconst (v := 0) dX7_behind_19 (by decide) ?_
    refine r_iconst (v := 1) dX7_behind_20 (by decide) ?_
    obtain ⟨q8, g9, h⟩ := ob_some h
    refine r_callS (d' := (6, 0, false)) (As := [.int x4, .int 0, .int 1]) (st := []) mds_X7_isWithin tm_RX7_77 rfl (by decide) rfl (Nat.le_refl _) (Nat.le_of_ble_eq_true rfl) rfl dX7_behind_21 (ctX7_isWithin g9) (k_I0 ?_)
    refine r_if_ne (tgt := 34) dX7_behind_24 (by decide) (fun c10 => ?_) (fun c10 => ?_)
    · rw [if_neg c10] at h
      refine r_iload_n dX7_behind_34 2 rfl ?_
      refine r_iload_n dX7_behind_35 3 rfl ?_
      obtain ⟨q11, g12, h⟩ := ob_some h
      refine r_callS (d' := (8, 0, false)) (As := [.int x2, .int x3]) (st := []) mds_X7_areDaysAndHour tm_RX7_230 rfl (by decide) rfl (Nat.le_refl _) (Nat.le_of_ble_eq_true rfl) rfl dX7_behind_36 (ctX7_areDaysAndHour g12) (k_I0 ?_)
      refine r_if_ne (tgt := 49) dX7_behind_39 (by decide) (fun c13 => ?_) (fun c13 => ?_)
      · rw [if_neg c13] at h
        refine r_aload_n dX7_behind_49 0 rfl ?_
        refine r_iload_n dX7_behind_50 2 rfl ?_
        refine r_iload_n dX7_behind_51 3 rfl ?_
        obtain ⟨h14, h⟩ := chk_some h
        obtain ⟨q15, g16, h⟩ := ob_some h
        refine r_callV (d' := (9, 0, false)) (As := [.int x2, .int x3]) (st := []) mdv_X7_tryDays tm_RX7_233 (by decide) rfl rfl (by decide) rfl (Nat.le_refl _) (Nat.le_of_ble_eq_true rfl) rfl dX7_behind_52 h14 (ctX7_tryDays g16) (k_V0 ?_)
        refine r_aload_n dX7_behind_55 0 rfl ?_
        obtain ⟨h17, h⟩ := chk_some h
        obtain ⟨o18, g19, h⟩ := ob_some h
        refine r_getR (fl_RX7_26 rfl) rfl dX7_behind_56 h17 g19 ?_
        obtain ⟨h20, h⟩ := chk_some h
        obtain ⟨o21, g22, h⟩ := ob_some h
        refine r_getR (fl_RX7_137 rfl) rfl dX7_behind_59 h20 g22 ?_
        refine r_iload_n dX7_behind_62 1 rfl ?_
        obtain ⟨h23, h⟩ := chk_some h
        obtain ⟨h24, h⟩ := chk_some h
        obtain ⟨o25, g26, h⟩ := ob_some h
        refine r_aaload 2 (by decide) (by decide) dX7_behind_63 h23 h24 g26 ?_
        refine r_astore dX7_behind_64 (Nat.le_of_ble_eq_true rfl) [(5, .ref o25), (0, .ref a0), (1, .int x1), (2, .int x2), (3, .int x3), (4, .int x4)] rfl ?_
        refine r_iload dX7_behind_66 5 rfl ?_
        refine r_if_ne (tgt := 81) dX7_behind_68 (by decide) (fun c27 => ?_) (fun c27 => ?_)
        · rw [if_neg c27] at h
          refine r_aload dX7_behind_81 0 rfl ?_
          obtain ⟨h28, h⟩ := chk_some h
          obtain ⟨o29, g30, h⟩ := ob_some h
          refine r_getR (fl_RX7_210 rfl) rfl dX7_behind_83 h28 g30 ?_
          refine r_iload_n dX7_behind_86 4 rfl ?_
          obtain ⟨h31, h⟩ := chk_some h
          obtain ⟨h32, h⟩ := chk_some h
          refine r_iaload dX7_behind_87 h31 h32 ?_
          refine r_sub [] [] rfl ?_
          exact okX7_behind_b88 h hk
        · rw [if_pos c27] at h
          refine r_aload dX7_behind_71 0 rfl ?_
          obtain ⟨h33, h⟩ := chk_some h
          obtain ⟨o34, g35, h⟩ := ob_some h
          refine r_getR (fl_RX7_188 rfl) rfl dX7_behind_73 h33 g35 ?_
          refine r_iload_n dX7_behind_76 4 rfl ?_
          obtain ⟨h36, h⟩ := chk_some h
          obtain ⟨h37, h⟩ := chk_some h
          refine r_iaload dX7_behind_77 h36 h37 ?_
          refine r_goto (tgt := 88) dX7_behind_78 (by decide) ?_
          refine r_sub [] [] rfl ?_
          exact okX7_behind_b88 h hk
      · rw [if_pos c13] at h
        refine r_aload_n dX7_behind_42 0 rfl ?_
        refine r_bipush (v := (-6)) dX7_behind_43 (by decide) ?_
        obtain ⟨h38, h⟩ := chk_some h
        obtain ⟨q39, g40, h⟩ := ob_some h
        refine r_callV (d' := (6, 0, false)) (As := [.int (-6)]) (st := []) mdv_X7_refuse tm_RX7_73 (by decide) rfl rfl (by decide) rfl (Nat.le_refl _) (Nat.le_of_ble_eq_true rfl) rfl dX7_behind_45 h38 (ctX7_refuse g40) (k_I0 ?_)
        rw [← Option.some.inj h] at hk
        exact r_ireturn dX7_behind_48 rfl rfl hk
    · rw [if_pos c10] at h
      refine r_aload_n dX7_behind_27 0 rfl ?_
      refine r_bipush (v := (-5)) dX7_behind_28 (by decide) ?_
      obtain ⟨h41, h⟩ := chk_some h
      obtain ⟨q42, g43, h⟩ := ob_some h
      refine r_callV (d' := (6, 0, false)) (As := [.int (-5)]) (st := []) mdv_X7_refuse tm_RX7_73 (by decide) rfl rfl (by decide) rfl (Nat.le_refl _) (Nat.le_of_ble_eq_true rfl) rfl dX7_behind_30 h41 (ctX7_refuse g43) (k_I0 ?_)
      rw [← Option.some.inj h] at hk
      exact r_ireturn dX7_behind_33 rfl rfl hk
  · rw [if_pos c7] at h
    refine r_aload_n dX7_behind_11 0 rfl ?_
    refine r_iconst (v := (-1)) dX7_behind_12 (by decide) ?_
    obtain ⟨h44, h⟩ := chk_some h
    obtain ⟨q45, g46, h⟩ := ob_some h
    refine r_callV (d' := (6, 0, false)) (As := [.int (-1)]) (st := []) mdv_X7_refuse tm_RX7_73 (by decide) rfl rfl (by decide) rfl (Nat.le_refl _) (Nat.le_of_ble_eq_true rfl) rfl dX7_behind_13 h44 (ctX7_refuse g46) (k_I0 ?_)
    rw [← Option.some.inj h] at hk
    exact r_ireturn dX7_behind_16 rfl rfl hk
set_option maxHeartbeats 1000000 in
set_option maxRecDepth 20000 in
theorem ctX7_behind {E : Ev} {a0 : Nat} {x1 : Int32} {x2 : Int32} {x3 : Int32} {x4 : Int32} {w : Wd} {q : Int32 × Wd} (h : fX7_behind a0 x1 x2 x3 x4 w = some q) : CT E mX7_behind (10, 0, false) [.ref a0, .int x1, .int x2, .int x3, .int x4] w (QI q) := CT.of pl_RX7 (Nat.le_of_ble_eq_true rfl) (okX7_behind h ⟨rfl, rfl⟩)
