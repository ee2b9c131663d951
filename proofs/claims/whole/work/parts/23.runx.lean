def PX0_likeness_L5 (E : Ev) (Q : Option Value → Wd → Prop) (a0 : Nat) (x1 : Int32) (x2 : Int32) (s : Int32 × Int32 × Wd) : Prop := Runs E mX0_likeness (6, 0, false) Q 0 5 [(0, .ref a0), (1, .int x1), (2, .int x2), (3, .int s.1), (4, .int s.2.1)] [] s.2.2
def fX0_likeness_b51 (a0 : Nat) (x1 : Int32) (x2 : Int32) (x3 : Int32) (x4 : Int32) (w : Wd) : Option ((Int32 × Int32 × Wd) ⊕ (Int32 × Wd)) :=
  some (.inl (x3, (x4 + 1), w))
set_option maxHeartbeats 1000000 in
set_option maxRecDepth 20000 in
theorem okX0_likeness_b51 {E : Ev} {Q : Option Value → Wd → Prop} {a0 : Nat} {x1 : Int32} {x2 : Int32} {x3 : Int32} {x4 : Int32} {w : Wd} {q : (Int32 × Int32 × Wd) ⊕ (Int32 × Wd)} (h : fX0_likeness_b51 a0 x1 x2 x3 x4 w = some q) (hk : (Sum.elim (PX0_likeness_L5 E Q a0 x1 x2) (fun q : Int32 × Wd => Q (some (.int q.1)) q.2)) q) : Runs E mX0_likeness (6, 0, false) Q 0 51 [(0, .ref a0), (1, .int x1), (2, .int x2), (3, .int x3), (4, .int x4)] [] w := by
  unfold fX0_likeness_b51 at h
  refine r_iinc (v := (x4 + 1)) dX0_likeness_51 4 rfl rfl (Nat.le_of_ble_eq_true rfl) [(4, .int (x4 + 1)), (0, .ref a0), (1, .int x1), (2, .int x2), (3, .int x3)] rfl ?_
  refine r_goto (tgt := 5) dX0_likeness_54 (by decide) ?_
  rw [← Option.some.inj h] at hk
  refine r_sub [1, 2, 3, 4, 0] [(0, .ref a0), (1, .int x1), (2, .int x2), (3, .int x3), (4, .int (x4 + 1))] rfl ?_
  exact hk
def fX0_likeness_L5_body (a0 : Nat) (x1 : Int32) (x2 : Int32) (s : Int32 × Int32 × Wd) : Option ((Int32 × Int32 × Wd) ⊕ (Int32 × Wd)) :=
  if (12 : Int32) ≤ s.2.1 then (wr (some (s.1, s.2.2))) else (chk (isO s.2.2 a0 0) (ob (wR s.2.2 a0 0) (fun o4 => chk (isA s.2.2 o4 3) (chk (inb x2 (wn s.2.2 o4)) (ob (wR s.2.2 o4 (x2).toNatClampNeg) (fun o8 => chk (isO s.2.2 o8 4) (ob (wR s.2.2 o8 0) (fun o11 => chk (isA s.2.2 o11 0) (chk (inb s.2.1 (wn s.2.2 o11)) (bnd (wI s.2.2 o11 (s.2.1).toNatClampNeg) (fun u15 => if u15 = 0 then (fX0_likeness_b51 a0 x1 x2 s.1 s.2.1 s.2.2) else (ob (wR s.2.2 a0 1) (fun o18 => chk (isA s.2.2 o18 2) (chk (inb x1 (wn s.2.2 o18)) (ob (wR s.2.2 o18 (x1).toNatClampNeg) (fun o22 => chk (isO s.2.2 o22 2) (ob (wR s.2.2 o22 0) (fun o25 => chk (isA s.2.2 o25 0) (chk (inb s.2.1 (wn s.2.2 o25)) (if (wI s.2.2 o25 (s.2.1).toNatClampNeg) = u15 then (fX0_likeness_b51 a0 x1 x2 (s.1 + 1) s.2.1 s.2.2) else (fX0_likeness_b51 a0 x1 x2 s.1 s.2.1 s.2.2)))))))))))))))))))))
set_option maxHeartbeats 1000000 in
set_option maxRecDepth 20000 in
theorem okX0_likeness_L5_body {E : Ev} {Q : Option Value → Wd → Prop} {a0 : Nat} {x1 : Int32} {x2 : Int32} {s : Int32 × Int32 × Wd} {r : (Int32 × Int32 × Wd) ⊕ (Int32 × Wd)} (h : fX0_likeness_L5_body a0 x1 x2 s = some r) (hk : (Sum.elim (PX0_likeness_L5 E Q a0 x1 x2) (fun q : Int32 × Wd => Q (some (.int q.1)) q.2)) r) : PX0_likeness_L5 E Q a0 x1 x2 s := by
  unfold fX0_likeness_L5_body at h
  unfold PX0_likeness_L5
  refine r_iload dX0_likeness_5 4 rfl ?_
  refine r_bipush (v := 12) dX0_likeness_7 (by decide) ?_
  refine r_icmp_ge (tgt := 57) dX0_likeness_9 (by decide) (fun c1 => ?_) (fun c1 => ?_)
  · rw [if_pos c1] at h
    obtain ⟨r2, hr, h⟩ := wr_some h
    rw [hr] at hk
    refine r_iload_n dX0_likeness_57 3 rfl ?_
    rw [← Option.some.inj h] at hk
    exact r_ireturn dX0_likeness_58 rfl rfl hk
  · rw [if_neg c1] at h
    refine r_aload_n dX0_likeness_12 0 rfl ?_
    obtain ⟨h3, h⟩ := chk_some h
    obtain ⟨o4, g5, h⟩ := ob_some h
    refine r_getR (fl_RX0_11 rfl) rfl dX0_likeness_13 h3 g5 ?_
    refine r_iload_n dX0_likeness_16 2 rfl ?_
    obtain ⟨h6, h⟩ := chk_some h
    obtain ⟨h7, h⟩ := chk_some h
    obtain ⟨o8, g9, h⟩ := ob_some h
    refine r_aaload 3 (by decide) (by decide) dX0_likeness_17 h6 h7 g9 ?_
    obtain ⟨h10, h⟩ := chk_some h
    obtain ⟨o11, g12, h⟩ := ob_some h
    refine r_getR (fl_RX0_88 rfl) rfl dX0_likeness_18 h10 g12 ?_
    refine r_iload dX0_likeness_21 4 rfl ?_
    obtain ⟨h13, h⟩ := chk_some h
    obtain ⟨h14, h⟩ := chk_some h
    refine r_iaload dX0_likeness_23 h13 h14 ?_
    obtain ⟨u15, e16, h⟩ := bnd_some h
    refine r_eqI e16 ?_
    refine r_istore dX0_likeness_24 (Nat.le_of_ble_eq_true rfl) [(5, .int u15), (0, .ref a0), (1, .int x1), (2, .int x2), (3, .int s.1), (4, .int s.2.1)] rfl ?_
    refine r_iload dX0_likeness_26 0 rfl ?_
    refine r_if_eq (tgt := 51) dX0_likeness_28 (by decide) (fun c17 => ?_) (fun c17 => ?_)
    · rw [if_pos c17] at h
      refine r_sub [1, 2, 3, 4, 5] [(0, .ref a0), (1, .int x1), (2, .int x2), (3, .int s.1), (4, .int s.2.1)] rfl ?_
      exact okX0_likeness_b51 h hk
    · rw [if_neg c17] at h
      refine r_aload_n dX0_likeness_31 1 rfl ?_
      obtain ⟨o18, g19, h⟩ := ob_some h
      refine r_getR (fl_RX0_19 rfl) rfl dX0_likeness_32 h3 g19 ?_
      refine r_iload_n dX0_likeness_35 2 rfl ?_
      obtain ⟨h20, h⟩ := chk_some h
      obtain ⟨h21, h⟩ := chk_some h
      obtain ⟨o22, g23, h⟩ := ob_some h
      refine r_aaload 2 (by decide) (by decide) dX0_likeness_36 h20 h21 g23 ?_
      obtain ⟨h24, h⟩ := chk_some h
      obtain ⟨o25, g26, h⟩ := ob_some h
      refine r_getR (fl_RX0_76 rfl) rfl dX0_likeness_37 h24 g26 ?_
      refine r_iload dX0_likeness_40 5 rfl ?_
      obtain ⟨h27, h⟩ := chk_some h
      obtain ⟨h28, h⟩ := chk_some h
      refine r_iaload dX0_likeness_42 h27 h28 ?_
      refine r_iload dX0_likeness_43 0 rfl ?_
      refine r_icmp_ne (tgt := 51) dX0_likeness_45 (by decide) (fun c29 => ?_) (fun c29 => ?_)
      · rw [if_neg c29] at h
        refine r_sub [1, 2, 3, 4, 5] [(0, .ref a0), (1, .int x1), (2, .int x2), (3, .int s.1), (4, .int s.2.1)] rfl ?_
        exact okX0_likeness_b51 h hk
      · rw [if_pos c29] at h
        refine r_iinc (v := (s.1 + 1)) dX0_likeness_48 4 rfl rfl (Nat.le_of_ble_eq_true rfl) [(3, .int (s.1 + 1)), (5, .int u15), (0, .ref a0), (1, .int x1), (2, .int x2), (4, .int s.2.1)] rfl ?_
        refine r_sub [2, 3, 4, 0, 5] [(0, .ref a0), (1, .int x1), (2, .int x2), (3, .int (s.1 + 1)), (4, .int s.2.1)] rfl ?_
        exact okX0_likeness_b51 h hk
def fX0_likeness_L5 (a0 : Nat) (x1 : Int32) (x2 : Int32) (s : Int32 × Int32 × Wd) : Option (Int32 × Wd) := it (fX0_likeness_L5_body a0 x1 x2) FU s
set_option maxHeartbeats 1000000 in
set_option maxRecDepth 20000 in
theorem okX0_likeness_L5 {E : Ev} {Q : Option Value → Wd → Prop} {a0 : Nat} {x1 : Int32} {x2 : Int32} {s : Int32 × Int32 × Wd} {r : Int32 × Wd} (h : fX0_likeness_L5 a0 x1 x2 s = some r) (hk : (fun q : Int32 × Wd => Q (some (.int q.1)) q.2) r) : PX0_likeness_L5 E Q a0 x1 x2 s := it_runs (fun s r h hk => okX0_likeness_L5_body h hk) FU s r h hk
def fX0_likeness (a0 : Nat) (x1 : Int32) (x2 : Int32) (w : Wd) : Option (Int32 × Wd) :=
  fX0_likeness_L5 a0 x1 x2 (0, 0, w)
set_option maxHeartbeats 1000000 in
set_option maxRecDepth 20000 in
theorem okX0_likeness {E : Ev} {Q : Option Value → Wd → Prop} {a0 : Nat} {x1 : Int32} {x2 : Int32} {w : Wd} {q : Int32 × Wd} (h : fX0_likeness a0 x1 x2 w = some q) (hk : (fun q : Int32 × Wd => Q (some (.int q.1)) q.2) q) : Runs E mX0_likeness (6, 0, false) Q 0 0 [(0, .ref a0), (1, .int x1), (2, .int x2)] [] w := by
  unfold fX0_likeness at h
  refine r_iconst (v := 0) dX0_likeness_0 (by decide) ?_
  refine r_istore_n dX0_likeness_1 rfl (Nat.le_of_ble_eq_true rfl) [(3, .int 0), (0, .ref a0), (1, .int x1), (2, .int x2)] rfl ?_
  refine r_iconst (v := 0) dX0_likeness_2 (by decide) ?_
  refine r_istore dX0_likeness_3 (Nat.le_of_ble_eq_true rfl) [(4, .int 0), (3, .int 0), (0, .ref a0), (1, .int x1), (2, .int x2)] rfl ?_
  refine r_sub [2, 3, 4, 1, 0] [(0, .ref a0), (1, .int x1), (2, .int x2), (3, .int 0), (4, .int 0)] rfl ?_
  exact okX0_likeness_L5 h hk
set_option maxHeartbeats 1000000 in
set_option maxRecDepth 20000 in
theorem ctX0_likeness {E : Ev} {a0 : Nat} {x1 : Int32} {x2 : Int32} {w : Wd} {q : Int32 × Wd} (h : fX0_likeness a0 x1 x2 w = some q) : CT E mX0_likeness (6, 0, false) [.ref a0, .int x1, .int x2] w (QI q) := CT.of pl_RX0 (Nat.le_of_ble_eq_true rfl) (okX0_likeness h ⟨rfl, rfl⟩)
def PX0_mostLike_L7 (E : Ev) (Q : Option Value → Wd → Prop) (a0 : Nat) (x1 : Int32) (s : Int32 × Int32 × Int32 × Wd) : Prop := Runs E mX0_mostLike (7, 0, false) Q 0 7 [(0, .ref a0), (1, .int x1), (2, .int s.1), (3, .int s.2.1), (4, .int s.2.2.1)] [] s.2.2.2
def fX0_mostLike_b37 (a0 : Nat) (x1 : Int32) (x2 : Int32) (x3 : Int32) (x4 : Int32) (w : Wd) : Option ((Int32 × Int32 × Int32 × Wd) ⊕ (Int32 × Wd)) :=
  some (.inl (x2, x3, (x4 + 1), w))
set_option maxHeartbeats 1000000 in
set_option maxRecDepth 20000 in
theorem okX0_mostLike_b37 {E : Ev} {Q : Option Value → Wd → Prop} {a0 : Nat} {x1 : Int32} {x2 : Int32} {x3 : Int32} {x4 : Int32} {w : Wd} {q : (Int32 × Int32 × Int32 × Wd) ⊕ (Int32 × Wd)} (h : fX0_mostLike_b37 a0 x1 x2 x3 x4 w = some q) (hk : (Sum.elim (PX0_mostLike_L7 E Q a0 x1) (fun q : Int32 × Wd => Q (some (.int q.1)) q.2)) q) : Runs E mX0_mostLike (7, 0, false) Q 0 37 [(0, .ref a0), (1, .int x1), (2, .int x2), (3, .int x3), (4, .int x4)] [] w := by
  unfold fX0_mostLike_b37 at h
  refine r_iinc (v := (x4 + 1)) dX0_mostLike_37 4 rfl rfl (Nat.le_of_ble_eq_true rfl) [(4, .int (x4 + 1)), (0, .ref a0), (1, .int x1), (2, .int x2), (3, .int x3)] rfl ?_
  refine r_goto (tgt := 7) dX0_mostLike_40 (by decide) ?_
  rw [← Option.some.inj h] at hk
  refine r_sub [1, 2, 3, 4, 0] [(0, .ref a0), (1, .int x1), (2, .int x2), (3, .int x3), (4, .int (x4 + 1))] rfl ?_
  exact hk
def fX0_mostLike_L7_body (a0 : Nat) (x1 : Int32) (s : Int32 × Int32 × Int32 × Wd) : Option ((Int32 × Int32 × Int32 × Wd) ⊕ (Int32 × Wd)) :=
  chk (isO s.2.2.2 a0 0) (if (wI s.2.2.2 a0 3) ≤ s.2.2.1 then (wr (some (s.1, s.2.2.2))) else (ob (fX0_likeness a0 x1 s.2.2.1 s.2.2.2) (fun q4 => if q4.1 ≤ s.2.1 then (fX0_mostLike_b37 a0 x1 s.1 s.2.1 s.2.2.1 q4.2) else (fX0_mostLike_b37 a0 x1 s.2.2.1 q4.1 s.2.2.1 q4.2))))
set_option maxHeartbeats 1000000 in
set_option maxRecDepth 20000 in
theorem okX0_mostLike_L7_body {E : Ev} {Q : Option Value → Wd → Prop} {a0 : Nat} {x1 : Int32} {s : Int32 × Int32 × Int32 × Wd} {r : (Int32 × Int32 × Int32 × Wd) ⊕ (Int32 × Wd)} (h : fX0_mostLike_L7_body a0 x1 s = some r) (hk : (Sum.elim (PX0_mostLike_L7 E Q a0 x1) (fun q : Int32 × Wd => Q (some (.int q.1)) q.2)) r) : PX0_mostLike_L7 E Q a0 x1 s := by
  unfold fX0_mostLike_L7_body at h
  unfold PX0_mostLike_L7
  refine r_iload dX0_mostLike_7 4 rfl ?_
  refine r_aload_n dX0_mostLike_9 0 rfl ?_
  obtain ⟨h1, h⟩ := chk_some h
  refine r_getI (fl_RX0_27 rfl) rfl dX0_mostLike_10 h1 ?_
  refine r_icmp_ge (tgt := 43) dX0_mostLike_13 (by decide) (fun c2 => ?_) (fun c2 => ?_)
  · rw [if_pos c2] at h
    obtain ⟨r3, hr, h⟩ := wr_some h
    rw [hr] at hk
    refine r_iload_n dX0_mostLike_43 2 rfl ?_
    rw [← Option.some.inj h] at hk
    exact r_ireturn dX0_mostLike_44 rfl rfl hk
  · rw [if_neg c2] at h
    refine r_aload_n dX0_mostLike_16 0 rfl ?_
    refine r_iload_n dX0_mostLike_17 1 rfl ?_
    refine r_iload dX0_mostLike_18 4 rfl ?_
    obtain ⟨q4, g5, h⟩ := ob_some h
    refine r_callV (d' := (6, 0, false)) (As := [.int x1, .int s.2.2.1]) (st := []) mdv_X0_likeness tm_RX0_133 (by decide) rfl rfl (by decide) rfl (Nat.le_refl _) (Nat.le_of_ble_eq_true rfl) rfl dX0_mostLike_20 h1 (ctX0_likeness g5) (k_I0 ?_)
    refine r_istore dX0_mostLike_23 (Nat.le_of_ble_eq_true rfl) [(5, .int q4.1), (0, .ref a0), (1, .int x1), (2, .int s.1), (3, .int s.2.1), (4, .int s.2.2.1)] rfl ?_
    refine r_iload dX0_mostLike_25 0 rfl ?_
    refine r_iload_n dX0_mostLike_27 4 rfl ?_
    refine r_icmp_le (tgt := 37) dX0_mostLike_28 (by decide) (fun c6 => ?_) (fun c6 => ?_)
    · rw [if_pos c6] at h
      refine r_sub [1, 2, 3, 4, 5] [(0, .ref a0), (1, .int x1), (2, .int s.1), (3, .int s.2.1), (4, .int s.2.2.1)] rfl ?_
      exact okX0_mostLike_b37 h hk
    · rw [if_neg c6] at h
      refine r_iload dX0_mostLike_31 0 rfl ?_
      refine r_istore_n dX0_mostLike_33 rfl (Nat.le_of_ble_eq_true rfl) [(3, .int q4.1), (5, .int q4.1), (0, .ref a0), (1, .int x1), (2, .int s.1), (4, .int s.2.2.1)] rfl ?_
      refine r_iload dX0_mostLike_34 5 rfl ?_
      refine r_istore_n dX0_mostLike_36 rfl (Nat.le_of_ble_eq_true rfl) [(2, .int s.2.2.1), (3, .int q4.1), (5, .int q4.1), (0, .ref a0), (1, .int x1), (4, .int s.2.2.1)] rfl ?_
      refine r_sub [3, 4, 0, 1, 5] [(0, .ref a0), (1, .int x1), (2, .int s.2.2.1), (3, .int q4.1), (4, .int s.2.2.1)] rfl ?_
      exact okX0_mostLike_b37 h hk
def fX0_mostLike_L7 (a0 : Nat) (x1 : Int32) (s : Int32 × Int32 × Int32 × Wd) : Option (Int32 × Wd) := it (fX0_mostLike_L7_body a0 x1) FU s
set_option maxHeartbeats 1000000 in
set_option maxRecDepth 20000 in
theorem okX0_mostLike_L7 {E : Ev} {Q : Option Value → Wd → Prop} {a0 : Nat} {x1 : Int32} {s : Int32 × Int32 × Int32 × Wd} {r : Int32 × Wd} (h : fX0_mostLike_L7 a0 x1 s = some r) (hk : (fun q : Int32 × Wd => Q (some (.int q.1)) q.2) r) : PX0_mostLike_L7 E Q a0 x1 s := it_runs (fun s r h hk => okX0_mostLike_L7_body h hk) FU s r h hk
def fX0_mostLike (a0 : Nat) (x1 : Int32) (w : Wd) : Option (Int32 × Wd) :=
  fX0_mostLike_L7 a0 x1 ((-1), 0, 0, w)
set_option maxHeartbeats 1000000 in
set_option maxRecDepth 20000 in
theorem okX0_mostLike {E : Ev} {Q : Option Value → Wd → Prop} {a0 : Nat} {x1 : Int32} {w : Wd} {q : Int32 × Wd} (h : fX0_mostLike a0 x1 w = some q) (hk : (fun q : Int32 × Wd => Q (some (.int q.1)) q.2) q) : Runs E mX0_mostLike (7, 0, false) Q 0 0 [(0, .ref a0), (1, .int x1)] [] w := by
  unfold fX0_mostLike at h
  refine r_iconst (v := (-1)) dX0_mostLike_0 (by decide) ?_
  refine r_istore_n dX0_mostLike_1 rfl (Nat.le_of_ble_eq_true rfl) [(2, .int (-1)), (0, .ref a0), (1, .int x1)] rfl ?_
  refine r_iconst (v := 0) dX0_mostLike_2 (by decide) ?_
  refine r_istore_n dX0_mostLike_3 rfl (Nat.le_of_ble_eq_true rfl) [(3, .int 0), (2, .int (-1)), (0, .ref a0), (1, .int x1)] rfl ?_
  refine r_iconst (v := 0) dX0_mostLike_4 (by decide) ?_
  refine r_istore dX0_mostLike_5 (Nat.le_of_ble_eq_true rfl) [(4, .int 0), (3, .int 0), (2, .int (-1)), (0, .ref a0), (1, .int x1)] rfl ?_
  refine r_sub [3, 4, 2, 1, 0] [(0, .ref a0), (1, .int x1), (2, .int (-1)), (3, .int 0), (4, .int 0)] rfl ?_
  exact okX0_mostLike_L7 h hk
set_option maxHeartbeats 1000000 in
set_option maxRecDepth 20000 in
theorem ctX0_mostLike {E : Ev} {a0 : Nat} {x1 : Int32} {w : Wd} {q : Int32 × Wd} (h : fX0_mostLike a0 x1 w = some q) : CT E mX0_mostLike (7, 0, false) [.ref a0, .int x1] w (QI q) := CT.of pl_RX0 (Nat.le_of_ble_eq_true rfl) (okX0_mostLike h ⟨rfl, rfl⟩)
def PX0_passDay_L4 (E : Ev) (Q : Option Value → Wd → Prop) (a0 : Nat) (s : Int32 × Int32 × Wd) : Prop := Runs E mX0_passDay (9, 0, false) Q 0 4 [(0, .ref a0), (1, .int s.1), (2, .int s.2.1)] [] s.2.2
def PX0_passDay_L18 (E : Ev) (Q : Option Value → Wd → Prop) (a0 : Nat) (x2 : Int32) (s : Int32 × Int32 × Wd) : Prop := Runs E mX0_passDay (9, 0, false) Q 0 18 [(0, .ref a0), (1, .int s.1), (2, .int x2), (3, .int s.2.1)] [] s.2.2
def fX0_passDay_b38 (a0 : Nat) (x1 : Int32) (x2 : Int32) (x3 : Int32) (w : Wd) : Option ((Int32 × Int32 × Wd) ⊕ ((Int32 × Int32 × Wd) ⊕ (Int32 × Wd))) :=
  some (.inl (x1, (x3 + 1), w))
set_option maxHeartbeats 1000000 in
set_option maxRecDepth 20000 in
theorem okX0_passDay_b38 {E : Ev} {Q : Option Value → Wd → Prop} {a0 : Nat} {x1 : Int32} {x2 : Int32} {x3 : Int32} {w : Wd} {q : (Int32 × Int32 × Wd) ⊕ ((Int32 × Int32 × Wd) ⊕ (Int32 × Wd))} (h : fX0_passDay_b38 a0 x1 x2 x3 w = some q) (hk : (Sum.elim (PX0_passDay_L18 E Q a0 x2) (Sum.elim (PX0_passDay_L4 E Q a0) (fun q : Int32 × Wd => Q (some (.int q.1)) q.2))) q) : Runs E mX0_passDay (9, 0, false) Q 0 38 [(0, .ref a0), (1, .int x1), (2, .int x2), (3, .int x3)] [] w := by
  unfold fX0_passDay_b38 at h
  refine r_iinc (v := (x3 + 1)) dX0_passDay_38 3 rfl rfl (Nat.le_of_ble_eq_true rfl) [(3, .int (x3 + 1)), (0, .ref a0), (1, .int x1), (2, .int x2)] rfl ?_
  refine r_goto (tgt := 18) dX0_passDay_41 (by decide) ?_
  rw [← Option.some.inj h] at hk
  refine r_sub [1, 2, 3, 0] [(0, .ref a0), (1, .int x1), (2, .int x2), (3, .int (x3 + 1))] rfl ?_
  exact hk
def fX0_passDay_L18_body (a0 : Nat) (x2 : Int32) (s : Int32 × Int32 × Wd) : Option ((Int32 × Int32 × Wd) ⊕ ((Int32 × Int32 × Wd) ⊕ (Int32 × Wd))) :=
  chk (isO s.2.2 a0 0) (if (wI s.2.2 a0 3) ≤ s.2.1 then (wr (some (.inl (s.1, (x2 + 1), s.2.2)))) else (ob (wR s.2.2 a0 2) (fun o4 => chk (isA s.2.2 o4 0) (chk (inb s.2.1 (wn s.2.2 o4)) (if (wI s.2.2 o4 (s.2.1).toNatClampNeg) = 0 then (fX0_passDay_b38 a0 s.1 x2 s.2.1 s.2.2) else (fX0_passDay_b38 a0 (s.1 + 1) x2 s.2.1 s.2.2))))))
set_option maxHeartbeats 1000000 in
set_option maxRecDepth 20000 in
theorem okX0_passDay_L18_body {E : Ev} {Q : Option Value → Wd → Prop} {a0 : Nat} {x2 : Int32} {s : Int32 × Int32 × Wd} {r : (Int32 × Int32 × Wd) ⊕ ((Int32 × Int32 × Wd) ⊕ (Int32 × Wd))} (h : fX0_passDay_L18_body a0 x2 s = some r) (hk : (Sum.elim (PX0_passDay_L18 E Q a0 x2) (Sum.elim (PX0_passDay_L4 E Q a0) (fun q : Int32 × Wd => Q (some (.int q.1)) q.2))) r) : PX0_passDay_L18 E Q a0 x2 s := by
  unfold fX0_passDay_L18_body at h
  unfold PX0_passDay_L18
  refine r_iload_n dX0_passDay_18 3 rfl ?_
  refine r_aload_n dX0_passDay_19 0 rfl ?_
  obtain ⟨h1, h⟩ := chk_some h
  refine r_getI (fl_RX0_27 rfl) rfl dX0_passDay_20 h1 ?_
  refine r_icmp_ge (tgt := 44) dX0_passDay_23 (by decide) (fun c2 => ?_) (fun c2 => ?_)
  · rw [if_pos c2] at h
    obtain ⟨r3, hr, h⟩ := wr_some h
    rw [hr] at hk
    refine r_iinc (v := (x2 + 1)) dX0_passDay_44 2 rfl rfl (Nat.le_of_ble_eq_true rfl) [(2, .int (x2 + 1)), (0, .ref a0), (1, .int s.1), (3, .int s.2.1)] rfl ?_
    refine r_goto (tgt := 4) dX0_passDay_47 (by decide) ?_
    rw [← Option.some.inj h] at hk
    refine r_sub [1, 2, 0] [(0, .ref a0), (1, .int s.1), (2, .int (x2 + 1))] rfl ?_
    exact hk
  · rw [if_neg c2] at h
    refine r_aload_n dX0_passDay_26 0 rfl ?_
    obtain ⟨o4, g5, h⟩ := ob_some h
    refine r_getR (fl_RX0_23 rfl) rfl dX0_passDay_27 h1 g5 ?_
    refine r_iload_n dX0_passDay_30 3 rfl ?_
    obtain ⟨h6, h⟩ := chk_some h
    obtain ⟨h7, h⟩ := chk_some h
    refine r_iaload dX0_passDay_31 h6 h7 ?_
    refine r_if_eq (tgt := 38) dX0_passDay_32 (by decide) (fun c8 => ?_) (fun c8 => ?_)
    · rw [if_pos c8] at h
      refine r_sub [0, 1, 2, 3] [(0, .ref a0), (1, .int s.1), (2, .int x2), (3, .int s.2.1)] rfl ?_
      exact okX0_passDay_b38 h hk
    · rw [if_neg c8] at h
      refine r_iinc (v := (s.1 + 1)) dX0_passDay_35 1 rfl rfl (Nat.le_of_ble_eq_true rfl) [(1, .int (s.1 + 1)), (0, .ref a0), (2, .int x2), (3, .int s.2.1)] rfl ?_
      refine r_sub [1, 0, 2, 3] [(0, .ref a0), (1, .int (s.1 + 1)), (2, .int x2), (3, .int s.2.1)] rfl ?_
      exact okX0_passDay_b38 h hk
def fX0_passDay_L18 (a0 : Nat) (x2 : Int32) (s : Int32 × Int32 × Wd) : Option ((Int32 × Int32 × Wd) ⊕ (Int32 × Wd)) := it (fX0_passDay_L18_body a0 x2) FU s
set_option maxHeartbeats 1000000 in
set_option maxRecDepth 20000 in
theorem okX0_passDay_L18 {E : Ev} {Q : Option Value → Wd → Prop} {a0 : Nat} {x2 : Int32} {s : Int32 × Int32 × Wd} {r : (Int32 × Int32 × Wd) ⊕ (Int32 × Wd)} (h : fX0_passDay_L18 a0 x2 s = some r) (hk : (Sum.elim (PX0_passDay_L4 E Q a0) (fun q : Int32 × Wd => Q (some (.int q.1)) q.2)) r) : PX0_passDay_L18 E Q a0 x2 s := it_runs (fun s r h hk => okX0_passDay_L18_body h hk) FU s r h hk
def fX0_passDay_L4_body (a0 : Nat) (s : Int32 × Int32 × Wd) : Option ((Int32 × Int32 × Wd) ⊕ (Int32 × Wd)) :=
  if (12 : Int32) ≤ s.2.1 then (wr (chk (isO s.2.2 a0 0) (bnd (sI s.2.2 a0 6 ((wI s.2.2 a0 6) + 1)) (fun w4 => some (s.1, w4))))) else (chk (isO s.2.2 a0 0) (ob (fX0_passHour a0 s.2.1 s.2.2) (fun q7 => fX0_passDay_L18 a0 s.2.1 (s.1, 0, q7.2))))
set_option maxHeartbeats 1000000 in
set_option maxRecDepth 20000 in
theorem okX0_passDay_L4_body {E : Ev} {Q : Option Value → Wd → Prop} {a0 : Nat} {s : Int32 × Int32 × Wd} {r : (Int32 × Int32 × Wd) ⊕ (Int32 × Wd)} (h : fX0_passDay_L4_body a0 s = some r) (hk : (Sum.elim (PX0_passDay_L4 E Q a0) (fun q : Int32 × Wd => Q (some (.int q.1)) q.2)) r) : PX0_passDay_L4 E Q a0 s := by
  unfold fX0_passDay_L4_body at h
  unfold PX0_passDay_L4
  refine r_iload_n dX0_passDay_4 2 rfl ?_
  refine r_bipush (v := 12) dX0_passDay_5 (by decide) ?_
  refine r_icmp_ge (tgt := 50) dX0_passDay_7 (by decide) (fun c1 => ?_) (fun c1 => ?_)
  · rw [if_pos c1] at h
    obtain ⟨r2, hr, h⟩ := wr_some h
    rw [hr] at hk
    refine r_aload_n dX0_passDay_50 0 rfl ?_
    refine r_dup dX0_passDay_51 rfl ?_
    obtain ⟨h3, h⟩ := chk_some h
    refine r_getI (fl_RX0_37 rfl) rfl dX0_passDay_52 h3 ?_
    refine r_iconst (v := 1) dX0_passDay_55 (by decide) ?_
    refine r_iadd dX0_passDay_56 ?_
    obtain ⟨w4, e5, h⟩ := bnd_some h
    refine r_putI (fl_RX0_37 rfl) rfl rfl (ck_ty (by decide) 6 (by decide)) rfl rfl dX0_passDay_57 h3 ?_
    refine r_eqW e5 ?_
    refine r_iload_n dX0_passDay_60 1 rfl ?_
    rw [← Option.some.inj h] at hk
    exact r_ireturn dX0_passDay_61 rfl rfl hk
  · rw [if_neg c1] at h
    refine r_aload_n dX0_passDay_10 0 rfl ?_
    refine r_iload_n dX0_passDay_11 2 rfl ?_
    obtain ⟨h6, h⟩ := chk_some h
    obtain ⟨q7, g8, h⟩ := ob_some h
    refine r_callV (d' := (8, 0, false)) (As := [.int s.2.1]) (st := []) mdv_X0_passHour tm_RX0_117 (by decide) rfl rfl (by decide) rfl (Nat.le_refl _) (Nat.le_of_ble_eq_true rfl) rfl dX0_passDay_12 h6 (ctX0_passHour g8) (k_I0 ?_)
    refine r_pop dX0_passDay_15 rfl ?_
    refine r_iconst (v := 0) dX0_passDay_16 (by decide) ?_
    refine r_istore_n dX0_passDay_17 rfl (Nat.le_of_ble_eq_true rfl) [(3, .int 0), (0, .ref a0), (1, .int s.1), (2, .int s.2.1)] rfl ?_
    refine r_sub [1, 2, 3, 0] [(0, .ref a0), (1, .int s.1), (2, .int s.2.1), (3, .int 0)] rfl ?_
    exact okX0_passDay_L18 h hk
def fX0_passDay_L4 (a0 : Nat) (s : Int32 × Int32 × Wd) : Option (Int32 × Wd) := it (fX0_passDay_L4_body a0) FU s
set_option maxHeartbeats 1000000 in
set_option maxRecDepth 20000 in
theorem okX0_passDay_L4 {E : Ev} {Q : Option Value → Wd → Prop} {a0 : Nat} {s : Int32 × Int32 × Wd} {r : Int32 × Wd} (h : fX0_passDay_L4 a0 s = some r) (hk : (fun q : Int32 × Wd => Q (some (.int q.1)) q.2) r) : PX0_passDay_L4 E Q a0 s := it_runs (fun s r h hk => okX0_passDay_L4_body h hk) FU s r h hk
def fX0_passDay (a0 : Nat) (w : Wd) : Option (Int32 × Wd) :=
  fX0_passDay_L4 a0 (0, 0, w)
set_option maxHeartbeats 1000000 in
set_option maxRecDepth 20000 in
theorem okX0_passDay {E : Ev} {Q : Option Value → Wd → Prop} {a0 : Nat} {w : Wd} {q : Int32 × Wd} (h : fX0_passDay a0 w = some q) (hk : (fun q : Int32 × Wd => Q (some (.int q.1)) q.2) q) : Runs E mX0_passDay (9, 0, false) Q 0 0 [(0, .ref a0)] [] w := by
  unfold fX0_passDay at h
  refine r_iconst (v := 0) dX0_passDay_0 (by decide) ?_
  refine r_istore_n dX0_passDay_1 rfl (Nat.le_of_ble_eq_true rfl) [(1, .int 0), (0, .ref a0)] rfl ?_
  refine r_iconst (v := 0) dX0_passDay_2 (by decide) ?_
  refine r_istore_n dX0_passDay_3 rfl (Nat.le_of_ble_eq_true rfl) [(2, .int 0), (1, .int 0), (0, .ref a0)] rfl ?_
  refine r_sub [2, 1, 0] [(0, .ref a0), (1, .int 0), (2, .int 0)] rfl ?_
  exact okX0_passDay_L4 h hk
set_option maxHeartbeats 1000000 in
set_option maxRecDepth 20000 in
theorem ctX0_passDay {E : Ev} {a0 : Nat} {w : Wd} {q : Int32 × Wd} (h : fX0_passDay a0 w = some q) : CT E mX0_passDay (9, 0, false) [.ref a0] w (QI q) := CT.of pl_RX0 (Nat.le_of_ble_eq_true rfl) (okX0_passDay h ⟨rfl, rfl⟩)
def PX2_launder_L2 (E : Ev) (Q : Option Value → Wd → Prop) (a0 : Nat) (s : Int32 × Wd) : Prop := Runs E mX2_launder (7, 0, false) Q 0 2 [(0, .ref a0), (1, .int s.1)] [] s.2
def fX2_launder_b45 (a0 : Nat) (x1 : Int32) (w : Wd) : Option ((Int32 × Wd) ⊕ (Wd)) :=
  some (.inl ((x1 + 1), w))
set_option maxHeartbeats 1000000 in
set_option maxRecDepth 20000 in
theorem okX2_launder_b45 {E : Ev} {Q : Option Value → Wd → Prop} {a0 : Nat} {x1 : Int32} {w : Wd} {q : (Int32 × Wd) ⊕ (Wd)} (h : fX2_launder_b45 a0 x1 w = some q) (hk : (Sum.elim (PX2_launder_L2 E Q a0) (fun q : Wd => Q none q)) q) : Runs E mX2_launder (7, 0, false) Q 0 45 [(0, .ref a0), (1, .int x1)] [] w := by
  unfold fX2_launder_b45 at h
  refine r_iinc (v := (x1 + 1)) dX2_launder_45 1 rfl rfl (Nat.le_of_ble_eq_true rfl) [(1, .int (x1 + 1)), (0, .ref a0)] rfl ?_
  refine r_goto (tgt := 2) dX2_launder_48 (by decide) ?_
  rw [← Option.some.inj h] at hk
  refine r_sub [1, 0] [(0, .ref a0), (1, .int (x1 + 1))] rfl ?_
  exact hk
def fX2_launder_L2_body (a0 : Nat) (s : Int32 × Wd) : Option ((Int32 × Wd) ⊕ (Wd)) :=
  if (12 : Int32) ≤ s.1 then (wr (some s.2)) else (chk (isO s.2 a0 2) (ob (wR s.2 a0 1) (fun o4 => chk (isA s.2 o4 0) (chk (inb s.1 (wn s.2 o4)) (chk (inb (wI s.2 a0 2) (saV 2).length) (bnd ((wI s.2 o4 (s.1).toNatClampNeg) - ((saV 2).getD ((wI s.2 a0 2)).toNatClampNeg 0)) (fun u9 => if u9 ≤ 0 then (ob (fX2_accustom a0 s.1 0 0 s.2) (fun q12 => fX2_launder_b45 a0 s.1 q12)) else (bnd (sI s.2 o4 (s.1).toNatClampNeg u9) (fun w14 => fX2_launder_b45 a0 s.1 w14)))))))))
set_option maxHeartbeats 1000000 in
set_option maxRecDepth 20000 in
theorem okX2_launder_L2_body {E : Ev} {Q : Option Value → Wd → Prop} {a0 : Nat} {s : Int32 × Wd} {r : (Int32 × Wd) ⊕ (Wd)} (h : fX2_launder_L2_body a0 s = some r) (hk : (Sum.elim (PX2_launder_L2 E Q a0) (fun q : Wd => Q none q)) r) : PX2_launder_L2 E Q a0 s := by
  unfold fX2_launder_L2_body at h
  unfold PX2_launder_L2
  refine r_iload_n dX2_launder_2 1 rfl ?_
  refine r_bipush (v := 12) dX2_launder_3 (by decide) ?_
  refine r_icmp_ge (tgt := 51) dX2_launder_5 (by decide) (fun c1 => ?_) (fun c1 => ?_)
  · rw [if_pos c1] at h
    obtain ⟨r2, hr, h⟩ := wr_some h
    rw [hr] at hk
    rw [← Option.some.inj h] at hk
    exact r_return dX2_launder_51 rfl hk
  · rw [if_neg c1] at h
    refine r_aload_n dX2_launder_8 0 rfl ?_
    obtain ⟨h3, h⟩ := chk_some h
    obtain ⟨o4, g5, h⟩ := ob_some h
    refine r_getR (fl_RX2_15 rfl) rfl dX2_launder_9 h3 g5 ?_
    refine r_iload_n dX2_launder_12 1 rfl ?_
    obtain ⟨h6, h⟩ := chk_some h
    obtain ⟨h7, h⟩ := chk_some h
    refine r_iaload dX2_launder_13 h6 h7 ?_
    refine r_getsN 2 (by decide) rfl (by decide) dX2_launder_14 ?_
    refine r_aload_n dX2_launder_17 0 rfl ?_
    refine r_getI (fl_RX2_18 rfl) rfl dX2_launder_18 h3 ?_
    obtain ⟨h8, h⟩ := chk_some h
    refine r_siaload 2 (by decide) dX2_launder_21 h8 ?_
    refine r_isub dX2_launder_22 ?_
    obtain ⟨u9, e10, h⟩ := bnd_some h
    refine r_eqI e10 ?_
    refine r_istore_n dX2_launder_23 rfl (Nat.le_of_ble_eq_true rfl) [(2, .int u9), (0, .ref a0), (1, .int s.1)] rfl ?_
    refine r_iload_n dX2_launder_24 0 rfl ?_
    refine r_if_le (tgt := 38) dX2_launder_25 (by decide) (fun c11 => ?_) (fun c11 => ?_)
    · rw [if_pos c11] at h
      refine r_aload_n dX2_launder_38 1 rfl ?_
      refine r_iload_n dX2_launder_39 2 rfl ?_
      refine r_iconst (v := 0) dX2_launder_40 (by decide) ?_
      refine r_iconst (v := 0) dX2_launder_41 (by decide) ?_
      obtain ⟨q12, g13, h⟩ := ob_some h
      refine r_callV (d' := (6, 0, false)) (As := [.int s.1, .int 0, .int 0]) (st := []) mdv_X2_accustom tm_RX2_60 (by decide) rfl rfl (by decide) rfl (Nat.le_refl _) (Nat.le_of_ble_eq_true rfl) rfl dX2_launder_42 h3 (ctX2_accustom g13) (k_V0 ?_)
      refine r_sub [1, 2] [(0, .ref a0), (1, .int s.1)] rfl ?_
      exact okX2_launder_b45 h hk
    · rw [if_neg c11] at h
      refine r_aload_n dX2_launder_28 1 rfl ?_
      refine r_getR (fl_RX2_15 rfl) rfl dX2_launder_29 h3 g5 ?_
      refine r_iload_n dX2_launder_32 2 rfl ?_
      refine r_iload_n dX2_launder_33 0 rfl ?_
      obtain ⟨w14, e15, h⟩ := bnd_some h
      refine r_iastore dX2_launder_34 h6 h7 ?_
      refine r_eqW e15 ?_
      refine r_goto (tgt := 45) dX2_launder_35 (by decide) ?_
      refine r_sub [1, 2] [(0, .ref a0), (1, .int s.1)] rfl ?_
      exact okX2_launder_b45 h hk
def fX2_launder_L2 (a0 : Nat) (s : Int32 × Wd) : Option (Wd) := it (fX2_launder_L2_body a0) FU s
set_option maxHeartbeats 1000000 in
set_option maxRecDepth 20000 in
theorem okX2_launder_L2 {E : Ev} {Q : Option Value → Wd → Prop} {a0 : Nat} {s : Int32 × Wd} {r : Wd} (h : fX2_launder_L2 a0 s = some r) (hk : (fun q : Wd => Q none q) r) : PX2_launder_L2 E Q a0 s := it_runs (fun s r h hk => okX2_launder_L2_body h hk) FU s r h hk
def fX2_launder (a0 : Nat) (w : Wd) : Option (Wd) :=
  fX2_launder_L2 a0 (0, w)
set_option maxHeartbeats 1000000 in
set_option maxRecDepth 20000 in
theorem okX2_launder {E : Ev} {Q : Option Value → Wd → Prop} {a0 : Nat} {w : Wd} {q : Wd} (h : fX2_launder a0 w = some q) (hk : (fun q : Wd => Q none q) q) : Runs E mX2_launder (7, 0, false) Q 0 0 [(0, .ref a0)] [] w := by
  unfold fX2_launder at h
  refine r_iconst (v := 0) dX2_launder_0 (by decide) ?_
  refine r_istore_n dX2_launder_1 rfl (Nat.le_of_ble_eq_true rfl) [(1, .int 0), (0, .ref a0)] rfl ?_
  refine r_sub [1, 0] [(0, .ref a0), (1, .int 0)] rfl ?_
  exact okX2_launder_L2 h hk
set_option maxHeartbeats 1000000 in
set_option maxRecDepth 20000 in
theorem ctX2_launder {E : Ev} {a0 : Nat} {w : Wd} {q : Wd} (h : fX2_launder a0 w = some q) : CT E mX2_launder (7, 0, false) [.ref a0] w (QV q) := CT.of pl_RX2 (Nat.le_of_ble_eq_true rfl) (okX2_launder h ⟨rfl, rfl⟩)
def fX0_passYear_b81 (a0 : Nat) (w : Wd) : Option (Wd) :=
  chk (isO w a0 0) (ob (fX0_passDay a0 w) (fun q2 => some q2.2))
set_option maxHeartbeats 1000000 in
set_option maxRecDepth 20000 in
theorem okX0_passYear_b81 {E : Ev} {Q : Option Value → Wd → Prop} {a0 : Nat} {w : Wd} {q : Wd} (h : fX0_passYear_b81 a0 w = some q) (hk : (fun q : Wd => Q none q) q) : Runs E mX0_passYear (10, 0, false) Q 0 81 [(0, .ref a0)] [] w := by
  unfold fX0_passYear_b81 at h
  refine r_aload_n dX0_passYear_81 0 rfl ?_
  obtain ⟨h1, h⟩ := chk_some h
  obtain ⟨q2, g3, h⟩ := ob_some h
  refine r_callV (d' := (9, 0, false)) (As := []) (st := []) mdv_X0_passDay tm_RX0_130 (by decide) rfl rfl (by decide) rfl (Nat.le_refl _) (Nat.le_of_ble_eq_true rfl) rfl dX0_passYear_82 h1 (ctX0_passDay g3) (k_I0 ?_)
  refine r_pop dX0_passYear_85 rfl ?_
  rw [← Option.some.inj h] at hk
  exact r_return dX0_passYear_86 rfl hk
def fX0_passYear_b51 (a0 : Nat) (x1 : Int32) (w : Wd) : Option (Wd) :=
  chk (isO w a0 0) (ob (wR w a0 1) (fun o2 => chk (isA w o2 2) (chk (inb x1 (wn w o2)) (ob (wR w o2 (x1).toNatClampNeg) (fun o6 => chk (isO w o6 2) (bnd (sI w o6 4 (-1)) (fun w9 => fX0_passYear_b81 a0 w9)))))))
set_option maxHeartbeats 1000000 in
set_option maxRecDepth 20000 in
theorem okX0_passYear_b51 {E : Ev} {Q : Option Value → Wd → Prop} {a0 : Nat} {x1 : Int32} {w : Wd} {q : Wd} (h : fX0_passYear_b51 a0 x1 w = some q) (hk : (fun q : Wd => Q none q) q) : Runs E mX0_passYear (10, 0, false) Q 0 51 [(0, .ref a0), (1, .int x1)] [] w := by
  unfold fX0_passYear_b51 at h
  refine r_aload_n dX0_passYear_51 0 rfl ?_
  obtain ⟨h1, h⟩ := chk_some h
  obtain ⟨o2, g3, h⟩ := ob_some h
  refine r_getR (fl_RX0_19 rfl) rfl dX0_passYear_52 h1 g3 ?_
  refine r_iload_n dX0_passYear_55 1 rfl ?_
  obtain ⟨h4, h⟩ := chk_some h
  obtain ⟨h5, h⟩ := chk_some h
  obtain ⟨o6, g7, h⟩ := ob_some h
  refine r_aaload 2 (by decide) (by decide) dX0_passYear_56 h4 h5 g7 ?_
  refine r_iconst (v := (-1)) dX0_passYear_57 (by decide) ?_
  obtain ⟨h8, h⟩ := chk_some h
  obtain ⟨w9, e10, h⟩ := bnd_some h
  refine r_putI (fl_RX0_60 rfl) rfl rfl (ck_ty (by decide) 4 (by decide)) rfl rfl dX0_passYear_58 h8 ?_
  refine r_eqW e10 ?_
  refine r_goto (tgt := 81) dX0_passYear_61 (by decide) ?_
  refine r_sub [0] [(0, .ref a0)] rfl ?_
  exact okX0_passYear_b81 h hk
def fX0_passYear (a0 : Nat) (w : Wd) : Option (Wd) :=
  chk (isO w a0 0) (ob (fX0_draw a0 (wI w a0 4) w) (fun q2 => chk (isO q2.2 a0 0) (ob (fX0_draw a0 4 q2.2) (fun q5 => chk (isO q5.2 a0 0) (ob (fX0_hasGarment a0 q2.1 q5.2) (fun q8 => if q8.1 = 0 then (fX0_passYear_b81 a0 q8.2) else (if q5.1 = 0 then (chk (isO q8.2 a0 0) (ob (wR q8.2 a0 1) (fun o27 => chk (isA q8.2 o27 2) (chk (inb q2.1 (wn q8.2 o27)) (ob (wR q8.2 o27 (q2.1).toNatClampNeg) (fun o31 => chk (isO q8.2 o31 2) (ob (fX2_launder o31 q8.2) (fun q34 => fX0_passYear_b81 a0 q34)))))))) else (if q5.1 = 1 then (fX0_passYear_b51 a0 q2.1 q8.2) else (chk (isO q8.2 a0 0) (if (wI q8.2 a0 3) = 0 then (fX0_passYear_b51 a0 q2.1 q8.2) else (ob (wR q8.2 a0 1) (fun o15 => chk (isA q8.2 o15 2) (chk (inb q2.1 (wn q8.2 o15)) (ob (wR q8.2 o15 (q2.1).toNatClampNeg) (fun o19 => ob (fX0_draw a0 (wI q8.2 a0 3) q8.2) (fun q21 => chk (isO q21.2 o19 2) (bnd (sI q21.2 o19 4 q21.1) (fun w24 => fX0_passYear_b81 a0 w24))))))))))))))))))
set_option maxHeartbeats 1000000 in
set_option maxRecDepth 20000 in
theorem okX0_passYear {E : Ev} {Q : Option Value → Wd → Prop} {a0 : Nat} {w : Wd} {q : Wd} (h : fX0_passYear a0 w = some q) (hk : (fun q : Wd => Q none q) q) : Runs E mX0_passYear (10, 0, false) Q 0 0 [(0, .ref a0)] [] w := by
  unfold fX0_passYear at h
  refine r_aload_n dX0_passYear_0 0 rfl ?_
  refine r_aload_n dX0_passYear_1 0 rfl ?_
  obtain ⟨h1, h⟩ := chk_some h
  refine r_getI (fl_RX0_31 rfl) rfl dX0_passYear_2 h1 ?_
  obtain ⟨q2, g3, h⟩ := ob_some h
  refine r_callV (d' := (6, 0, false)) (As := [.int (wI w a0 4)]) (st := []) mdv_X0_draw tm_RX0_121 (by decide) rfl rfl (by decide) rfl (Nat.le_refl _) (Nat.le_of_ble_eq_true rfl) rfl dX0_passYear_5 h1 (ctX0_draw g3) (k_I0 ?_)
  refine r_istore_n dX0_passYear_8 rfl (Nat.le_of_ble_eq_true rfl) [(1, .int q2.1), (0, .ref a0)] rfl ?_
  refine r_aload_n dX0_passYear_9 1 rfl ?_
  refine r_iconst (v := 4) dX0_passYear_10 (by decide) ?_
  obtain ⟨h4, h⟩ := chk_some h
  obtain ⟨q5, g6, h⟩ := ob_some h
  refine r_callV (d' := (6, 0, false)) (As := [.int 4]) (st := []) mdv_X0_draw tm_RX0_121 (by decide) rfl rfl (by decide) rfl (Nat.le_refl _) (Nat.le_of_ble_eq_true rfl) rfl dX0_passYear_11 h4 (ctX0_draw g6) (k_I0 ?_)
  refine r_istore_n dX0_passYear_14 rfl (Nat.le_of_ble_eq_true rfl) [(2, .int q5.1), (1, .int q2.1), (0, .ref a0)] rfl ?_
  refine r_aload_n dX0_passYear_15 2 rfl ?_
  refine r_iload_n dX0_passYear_16 1 rfl ?_
  obtain ⟨h7, h⟩ := chk_some h
  obtain ⟨q8, g9, h⟩ := ob_some h
  refine r_callV (d' := (7, 0, false)) (As := [.int q2.1]) (st := []) mdv_X0_hasGarment tm_RX0_124 (by decide) rfl rfl (by decide) rfl (Nat.le_refl _) (Nat.le_of_ble_eq_true rfl) rfl dX0_passYear_17 h7 (ctX0_hasGarment g9) (k_I0 ?_)
  refine r_if_eq (tgt := 81) dX0_passYear_20 (by decide) (fun c10 => ?_) (fun c10 => ?_)
  · rw [if_pos c10] at h
    refine r_sub [2] [(0, .ref a0)] rfl ?_
    exact okX0_passYear_b81 h hk
  · rw [if_neg c10] at h
    refine r_iload_n dX0_passYear_23 0 rfl ?_
    refine r_if_ne (tgt := 39) dX0_passYear_24 (by decide) (fun c11 => ?_) (fun c11 => ?_)
    · rw [if_neg c11] at h
      refine r_iload_n dX0_passYear_39 0 rfl ?_
      refine r_iconst (v := 1) dX0_passYear_40 (by decide) ?_
      refine r_icmp_eq (tgt := 51) dX0_passYear_41 (by decide) (fun c12 => ?_) (fun c12 => ?_)
      · rw [if_pos c12] at h
        refine r_sub [2, 1] [(0, .ref a0), (1, .int q2.1)] rfl ?_
        exact okX0_passYear_b51 h hk
      · rw [if_neg c12] at h
        refine r_aload_n dX0_passYear_44 2 rfl ?_
        obtain ⟨h13, h⟩ := chk_some h
        refine r_getI (fl_RX0_27 rfl) rfl dX0_passYear_45 h13 ?_
        refine r_if_ne (tgt := 64) dX0_passYear_48 (by decide) (fun c14 => ?_) (fun c14 => ?_)
        · rw [if_neg c14] at h
          refine r_aload_n dX0_passYear_64 2 rfl ?_
          obtain ⟨o15, g16, h⟩ := ob_some h
          refine r_getR (fl_RX0_19 rfl) rfl dX0_passYear_65 h13 g16 ?_
          refine r_iload_n dX0_passYear_68 1 rfl ?_
          obtain ⟨h17, h⟩ := chk_some h
          obtain ⟨h18, h⟩ := chk_some h
          obtain ⟨o19, g20, h⟩ := ob_some h
          refine r_aaload 2 (by decide) (by decide) dX0_passYear_69 h17 h18 g20 ?_
          refine r_aload_n dX0_passYear_70 2 rfl ?_
          refine r_aload_n dX0_passYear_71 2 rfl ?_
          refine r_getI (fl_RX0_27 rfl) rfl dX0_passYear_72 h13 ?_
          obtain ⟨q21, g22, h⟩ := ob_some h
          refine r_callV (d' := (6, 0, false)) (As := [.int (wI q8.2 a0 3)]) (st := [.ref o19]) mdv_X0_draw tm_RX0_121 (by decide) rfl rfl (by decide) rfl (Nat.le_refl _) (Nat.le_of_ble_eq_true rfl) rfl dX0_passYear_75 h13 (ctX0_draw g22) (k_I0 ?_)
          obtain ⟨h23, h⟩ := chk_some h
          obtain ⟨w24, e25, h⟩ := bnd_some h
          refine r_putI (fl_RX0_60 rfl) rfl rfl (ck_ty (by decide) 4 (by decide)) rfl rfl dX0_passYear_78 h23 ?_
          refine r_eqW e25 ?_
          refine r_sub [2] [(0, .ref a0)] rfl ?_
          exact okX0_passYear_b81 h hk
        · rw [if_pos c14] at h
          refine r_sub [2, 1] [(0, .ref a0), (1, .int q2.1)] rfl ?_
          exact okX0_passYear_b51 h hk
    · rw [if_pos c11] at h
      refine r_aload_n dX0_passYear_27 2 rfl ?_
      obtain ⟨h26, h⟩ := chk_some h
      obtain ⟨o27, g28, h⟩ := ob_some h
      refine r_getR (fl_RX0_19 rfl) rfl dX0_passYear_28 h26 g28 ?_
      refine r_iload_n dX0_passYear_31 1 rfl ?_
      obtain ⟨h29, h⟩ := chk_some h
      obtain ⟨h30, h⟩ := chk_some h
      obtain ⟨o31, g32, h⟩ := ob_some h
      refine r_aaload 2 (by decide) (by decide) dX0_passYear_32 h29 h30 g32 ?_
      obtain ⟨h33, h⟩ := chk_some h
      obtain ⟨q34, g35, h⟩ := ob_some h
      refine r_callV (d' := (7, 0, false)) (As := []) (st := []) mdv_X2_launder tm_RX0_127 (by decide) rfl rfl (by decide) rfl (Nat.le_refl _) (Nat.le_of_ble_eq_true rfl) rfl dX0_passYear_33 h33 (ctX2_launder g35) (k_V0 ?_)
      refine r_goto (tgt := 81) dX0_passYear_36 (by decide) ?_
      refine r_sub [2] [(0, .ref a0)] rfl ?_
      exact okX0_passYear_b81 h hk
set_option maxHeartbeats 1000000 in
set_option maxRecDepth 20000 in
theorem ctX0_passYear {E : Ev} {a0 : Nat} {w : Wd} {q : Wd} (h : fX0_passYear a0 w = some q) : CT E mX0_passYear (10, 0, false) [.ref a0] w (QV q) := CT.of pl_RX0 (Nat.le_of_ble_eq_true rfl) (okX0_passYear h ⟨rfl, rfl⟩)
def fX2_take (a0 : Nat) (a1 : Nat) (w : Wd) : Option (Wd) :=
  chk (isO w a1 2) (chk (isO w a0 2) (bnd (sI w a0 2 (wI w a1 2)) (fun w3 => chk (isO w3 a1 2) (chk (isO w3 a0 2) (bnd (sI w3 a0 3 (wI w3 a1 3)) (fun w7 => chk (isO w7 a1 2) (chk (isO w7 a0 2) (bnd (sI w7 a0 4 (wI w7 a1 4)) (fun w11 => chk (isO w11 a1 2) (ob (wR w11 a1 0) (fun o14 => chk (isO w11 a0 2) (ob (wR w11 a0 0) (fun o17 => chk (isA w11 o14 0) (chk (isA w11 o17 0) (chk (¬ (0 : Int32) < 0 ∧ ¬ (0 : Int32) < 0 ∧ ¬ (12 : Int32) < 0 ∧ (0 : Int32).toNatClampNeg + (12 : Int32).toNatClampNeg ≤ wn w11 o14 ∧ (0 : Int32).toNatClampNeg + (12 : Int32).toNatClampNeg ≤ wn w11 o17) (bnd (cpI w11 o14 o17 (0 : Int32).toNatClampNeg (0 : Int32).toNatClampNeg (12 : Int32).toNatClampNeg) (fun w22 => chk (isO w22 a1 2) (ob (wR w22 a1 1) (fun o25 => chk (isO w22 a0 2) (ob (wR w22 a0 1) (fun o28 => chk (isA w22 o25 0) (chk (isA w22 o28 0) (chk (¬ (0 : Int32) < 0 ∧ ¬ (0 : Int32) < 0 ∧ ¬ (12 : Int32) < 0 ∧ (0 : Int32).toNatClampNeg + (12 : Int32).toNatClampNeg ≤ wn w22 o25 ∧ (0 : Int32).toNatClampNeg + (12 : Int32).toNatClampNeg ≤ wn w22 o28) (bnd (cpI w22 o25 o28 (0 : Int32).toNatClampNeg (0 : Int32).toNatClampNeg (12 : Int32).toNatClampNeg) (fun w33 => some w33)))))))))))))))))))))))))
set_option maxHeartbeats 1000000 in
set_option maxRecDepth 20000 in
theorem okX2_take {E : Ev} {Q : Option Value → Wd → Prop} {a0 : Nat} {a1 : Nat} {w : Wd} {q : Wd} (h : fX2_take a0 a1 w = some q) (hk : (fun q : Wd => Q none q) q) : Runs E mX2_take (6, 0, false) Q 0 0 [(0, .ref a0), (1, .ref a1)] [] w := by
  unfold fX2_take at h
  refine r_aload_n dX2_take_0 0 rfl ?_
  refine r_aload_n dX2_take_1 1 rfl ?_
  obtain ⟨h1, h⟩ := chk_some h
  refine r_getI (fl_RX2_18 rfl) rfl dX2_take_2 h1 ?_
  obtain ⟨h2, h⟩ := chk_some h
  obtain ⟨w3, e4, h⟩ := bnd_some h
  refine r_putI (fl_RX2_18 rfl) rfl rfl (ck_ty (by decide) 2 (by decide)) rfl rfl dX2_take_5 h2 ?_
  refine r_eqW e4 ?_
  refine r_aload_n dX2_take_8 0 rfl ?_
  refine r_aload_n dX2_take_9 1 rfl ?_
  obtain ⟨h5, h⟩ := chk_some h
  refine r_getI (fl_RX2_22 rfl) rfl dX2_take_10 h5 ?_
  obtain ⟨h6, h⟩ := chk_some h
  obtain ⟨w7, e8, h⟩ := bnd_some h
  refine r_putI (fl_RX2_22 rfl) rfl rfl (ck_ty (by decide) 3 (by decide)) rfl rfl dX2_take_13 h6 ?_
  refine r_eqW e8 ?_
  refine r_aload_n dX2_take_16 0 rfl ?_
  refine r_aload_n dX2_take_17 1 rfl ?_
  obtain ⟨h9, h⟩ := chk_some h
  refine r_getI (fl_RX2_25 rfl) rfl dX2_take_18 h9 ?_
  obtain ⟨h10, h⟩ := chk_some h
  obtain ⟨w11, e12, h⟩ := bnd_some h
  refine r_putI (fl_RX2_25 rfl) rfl rfl (ck_ty (by decide) 4 (by decide)) rfl rfl dX2_take_21 h10 ?_
  refine r_eqW e12 ?_
  refine r_aload_n dX2_take_24 1 rfl ?_
  obtain ⟨h13, h⟩ := chk_some h
  obtain ⟨o14, g15, h⟩ := ob_some h
  refine r_getR (fl_RX2_9 rfl) rfl dX2_take_25 h13 g15 ?_
  refine r_iconst (v := 0) dX2_take_28 (by decide) ?_
  refine r_aload_n dX2_take_29 0 rfl ?_
  obtain ⟨h16, h⟩ := chk_some h
  obtain ⟨o17, g18, h⟩ := ob_some h
  refine r_getR (fl_RX2_9 rfl) rfl dX2_take_30 h16 g18 ?_
  refine r_iconst (v := 0) dX2_take_33 (by decide) ?_
  refine r_bipush (v := 12) dX2_take_34 (by decide) ?_
  obtain ⟨h19, h⟩ := chk_some h
  obtain ⟨h20, h⟩ := chk_some h
  obtain ⟨h21, h⟩ := chk_some h
  obtain ⟨w22, e23, h⟩ := bnd_some h
  refine r_copyI rfl (Nat.le_of_ble_eq_true rfl) (Nat.le_of_ble_eq_true rfl) tm_RX2_34 tnat_ac tst_ac ti_sys dX2_take_36 h19 h20 h21.1 h21.2.1 h21.2.2.1 h21.2.2.2.1 h21.2.2.2.2 ?_
  refine r_eqW e23 ?_
  refine r_aload_n dX2_take_39 1 rfl ?_
  obtain ⟨h24, h⟩ := chk_some h
  obtain ⟨o25, g26, h⟩ := ob_some h
  refine r_getR (fl_RX2_15 rfl) rfl dX2_take_40 h24 g26 ?_
  refine r_iconst (v := 0) dX2_take_43 (by decide) ?_
  refine r_aload_n dX2_take_44 0 rfl ?_
  obtain ⟨h27, h⟩ := chk_some h
  obtain ⟨o28, g29, h⟩ := ob_some h
  refine r_getR (fl_RX2_15 rfl) rfl dX2_take_45 h27 g29 ?_
  refine r_iconst (v := 0) dX2_take_48 (by decide) ?_
  refine r_bipush (v := 12) dX2_take_49 (by decide) ?_
  obtain ⟨h30, h⟩ := chk_some h
  obtain ⟨h31, h⟩ := chk_some h
  obtain ⟨h32, h⟩ := chk_some h
  obtain ⟨w33, e34, h⟩ := bnd_some h
  refine r_copyI rfl (Nat.le_of_ble_eq_true rfl) (Nat.le_of_ble_eq_true rfl) tm_RX2_34 tnat_ac tst_ac ti_sys dX2_take_51 h30 h31 h32.1 h32.2.1 h32.2.2.1 h32.2.2.2.1 h32.2.2.2.2 ?_
  refine r_eqW e34 ?_
  rw [← Option.some.inj h] at hk
  exact r_return dX2_take_54 rfl hk
set_option maxHeartbeats 1000000 in
set_option maxRecDepth 20000 in
theorem ctX2_take {E : Ev} {a0 : Nat} {a1 : Nat} {w : Wd} {q : Wd} (h : fX2_take a0 a1 w = some q) : CT E mX2_take (6, 0, false) [.ref a0, .ref a1] w (QV q) := CT.of pl_RX2 (Nat.le_of_ble_eq_true rfl) (okX2_take h ⟨rfl, rfl⟩)
def fX4_take (a0 : Nat) (a1 : Nat) (w : Wd) : Option (Wd) :=
  chk (isO w a1 4) (chk (isO w a0 4) (bnd (sI w a0 1 (wI w a1 1)) (fun w3 => chk (isO w3 a1 4) (ob (wR w3 a1 0) (fun o6 => chk (isO w3 a0 4) (ob (wR w3 a0 0) (fun o9 => chk (isA w3 o6 0) (chk (isA w3 o9 0) (chk (¬ (0 : Int32) < 0 ∧ ¬ (0 : Int32) < 0 ∧ ¬ (12 : Int32) < 0 ∧ (0 : Int32).toNatClampNeg + (12 : Int32).toNatClampNeg ≤ wn w3 o6 ∧ (0 : Int32).toNatClampNeg + (12 : Int32).toNatClampNeg ≤ wn w3 o9) (bnd (cpI w3 o6 o9 (0 : Int32).toNatClampNeg (0 : Int32).toNatClampNeg (12 : Int32).toNatClampNeg) (fun w14 => some w14)))))))))))
set_option maxHeartbeats 1000000 in
set_option maxRecDepth 20000 in
theorem okX4_take {E : Ev} {Q : Option Value → Wd → Prop} {a0 : Nat} {a1 : Nat} {w : Wd} {q : Wd} (h : fX4_take a0 a1 w = some q) (hk : (fun q : Wd => Q none q) q) : Runs E mX4_take (6, 0, false) Q 0 0 [(0, .ref a0), (1, .ref a1)] [] w := by
  unfold fX4_take at h
  refine r_aload_n dX4_take_0 0 rfl ?_
  refine r_aload_n dX4_take_1 1 rfl ?_
  obtain ⟨h1, h⟩ := chk_some h
  refine r_getI (fl_RX4_15 rfl) rfl dX4_take_2 h1 ?_
  obtain ⟨h2, h⟩ := chk_some h
  obtain ⟨w3, e4, h⟩ := bnd_some h
  refine r_putI (fl_RX4_15 rfl) rfl rfl (ck_ty (by decide) 1 (by decide)) rfl rfl dX4_take_5 h2 ?_
  refine r_eqW e4 ?_
  refine r_aload_n dX4_take_8 1 rfl ?_
  obtain ⟨h5, h⟩ := chk_some h
  obtain ⟨o6, g7, h⟩ := ob_some h
  refine r_getR (fl_RX4_9 rfl) rfl dX4_take_9 h5 g7 ?_
  refine r_iconst (v := 0) dX4_take_12 (by decide) ?_
  refine r_aload_n dX4_take_13 0 rfl ?_
  obtain ⟨h8, h⟩ := chk_some h
  obtain ⟨o9, g10, h⟩ := ob_some h
  refine r_getR (fl_RX4_9 rfl) rfl dX4_take_14 h8 g10 ?_
  refine r_iconst (v := 0) dX4_take_17 (by decide) ?_
  refine r_bipush (v := 12) dX4_take_18 (by decide) ?_
  obtain ⟨h11, h⟩ := chk_some h
  obtain ⟨h12, h⟩ := chk_some h
  obtain ⟨h13, h⟩ := chk_some h
  obtain ⟨w14, e15, h⟩ := bnd_some h
  refine r_copyI rfl (Nat.le_of_ble_eq_true rfl) (Nat.le_of_ble_eq_true rfl) tm_RX4_25 tnat_ac tst_ac ti_sys dX4_take_20 h11 h12 h13.1 h13.2.1 h13.2.2.1 h13.2.2.2.1 h13.2.2.2.2 ?_
  refine r_eqW e15 ?_
  rw [← Option.some.inj h] at hk
  exact r_return dX4_take_23 rfl hk
set_option maxHeartbeats 1000000 in
set_option maxRecDepth 20000 in
theorem ctX4_take {E : Ev} {a0 : Nat} {a1 : Nat} {w : Wd} {q : Wd} (h : fX4_take a0 a1 w = some q) : CT E mX4_take (6, 0, false) [.ref a0, .ref a1] w (QV q) := CT.of pl_RX4 (Nat.le_of_ble_eq_true rfl) (okX4_take h ⟨rfl, rfl⟩)
def PX0_take_L34 (E : Ev) (Q : Option Value → Wd → Prop) (a0 : Nat) (a1 : Nat) (s : Int32 × Wd) : Prop := Runs E mX0_take (7, 0, false) Q 0 34 [(0, .ref a0), (1, .ref a1), (2, .int s.1)] [] s.2
def PX0_take_L65 (E : Ev) (Q : Option Value → Wd → Prop) (a0 : Nat) (a1 : Nat) (s : Int32 × Wd) : Prop := Runs E mX0_take (7, 0, false) Q 0 65 [(0, .ref a0), (1, .ref a1), (2, .int s.1)] [] s.2
def fX0_take_L65_body (a0 : Nat) (a1 : Nat) (s : Int32 × Wd) : Option ((Int32 × Wd) ⊕ (Wd)) :=
  chk (isO s.2 a0 0) (if (wI s.2 a0 4) ≤ s.1 then (wr (some s.2)) else (ob (wR s.2 a0 1) (fun o4 => chk (isA s.2 o4 2) (chk (inb s.1 (wn s.2 o4)) (ob (wR s.2 o4 (s.1).toNatClampNeg) (fun o8 => chk (isO s.2 a1 0) (ob (wR s.2 a1 1) (fun o11 => chk (isA s.2 o11 2) (chk (inb s.1 (wn s.2 o11)) (ob (wR s.2 o11 (s.1).toNatClampNeg) (fun o15 => chk (isO s.2 o8 2) (ob (fX2_take o8 o15 s.2) (fun q18 => some (.inl ((s.1 + 1), q18)))))))))))))))
set_option maxHeartbeats 1000000 in
set_option maxRecDepth 20000 in
theorem okX0_take_L65_body {E : Ev} {Q : Option Value → Wd → Prop} {a0 : Nat} {a1 : Nat} {s : Int32 × Wd} {r : (Int32 × Wd) ⊕ (Wd)} (h : fX0_take_L65_body a0 a1 s = some r) (hk : (Sum.elim (PX0_take_L65 E Q a0 a1) (fun q : Wd => Q none q)) r) : PX0_take_L65 E Q a0 a1 s := by
  unfold fX0_take_L65_body at h
  unfold PX0_take_L65
  refine r_iload_n dX0_take_65 2 rfl ?_
  refine r_aload_n dX0_take_66 0 rfl ?_
  obtain ⟨h1, h⟩ := chk_some h
  refine r_getI (fl_RX0_31 rfl) rfl dX0_take_67 h1 ?_
  refine r_icmp_ge (tgt := 94) dX0_take_70 (by decide) (fun c2 => ?_) (fun c2 => ?_)
  · rw [if_pos c2] at h
    obtain ⟨r3, hr, h⟩ := wr_some h
    rw [hr] at hk
    rw [← Option.some.inj h] at hk
    exact r_return dX0_take_94 rfl hk
  · rw [if_neg c2] at h
    refine r_aload_n dX0_take_73 0 rfl ?_
    obtain ⟨o4, g5, h⟩ := ob_some h
    refine r_getR (fl_RX0_19 rfl) rfl dX0_take_74 h1 g5 ?_
    refine r_iload_n dX0_take_77 2 rfl ?_
    obtain ⟨h6, h⟩ := chk_some h
    obtain ⟨h7, h⟩ := chk_some h
    obtain ⟨o8, g9, h⟩ := ob_some h
    refine r_aaload 2 (by decide) (by decide) dX0_take_78 h6 h7 g9 ?_
    refine r_aload_n dX0_take_79 1 rfl ?_
    obtain ⟨h10, h⟩ := chk_some h
    obtain ⟨o11, g12, h⟩ := ob_some h
    refine r_getR (fl_RX0_19 rfl) rfl dX0_take_80 h10 g12 ?_
    refine r_iload_n dX0_take_83 2 rfl ?_
    obtain ⟨h13, h⟩ := chk_some h
    obtain ⟨h14, h⟩ := chk_some h
    obtain ⟨o15, g16, h⟩ := ob_some h
    refine r_aaload 2 (by decide) (by decide) dX0_take_84 h13 h14 g16 ?_
    obtain ⟨h17, h⟩ := chk_some h
    obtain ⟨q18, g19, h⟩ := ob_some h
    refine r_callV (d' := (6, 0, false)) (As := [.ref o15]) (st := []) mdv_X2_take tm_RX0_46 (by decide) rfl rfl (by decide) rfl (Nat.le_refl _) (Nat.le_of_ble_eq_true rfl) rfl dX0_take_85 h17 (ctX2_take g19) (k_V0 ?_)
    refine r_iinc (v := (s.1 + 1)) dX0_take_88 2 rfl rfl (Nat.le_of_ble_eq_true rfl) [(2, .int (s.1 + 1)), (0, .ref a0), (1, .ref a1)] rfl ?_
    refine r_goto (tgt := 65) dX0_take_91 (by decide) ?_
    rw [← Option.some.inj h] at hk
    refine r_sub [1, 2, 0] [(0, .ref a0), (1, .ref a1), (2, .int (s.1 + 1))] rfl ?_
    exact hk
def fX0_take_L65 (a0 : Nat) (a1 : Nat) (s : Int32 × Wd) : Option (Wd) := it (fX0_take_L65_body a0 a1) FU s
set_option maxHeartbeats 1000000 in
set_option maxRecDepth 20000 in
theorem okX0_take_L65 {E : Ev} {Q : Option Value → Wd → Prop} {a0 : Nat} {a1 : Nat} {s : Int32 × Wd} {r : Wd} (h : fX0_take_L65 a0 a1 s = some r) (hk : (fun q : Wd => Q none q) r) : PX0_take_L65 E Q a0 a1 s := it_runs (fun s r h hk => okX0_take_L65_body h hk) FU s r h hk
def fX0_take_L34_body (a0 : Nat) (a1 : Nat) (s : Int32 × Wd) : Option ((Int32 × Wd) ⊕ (Wd)) :=
  chk (isO s.2 a0 0) (if (wI s.2 a0 3) ≤ s.1 then (wr (fX0_take_L65 a0 a1 (0, s.2))) else (ob (wR s.2 a0 0) (fun o4 => chk (isA s.2 o4 3) (chk (inb s.1 (wn s.2 o4)) (ob (wR s.2 o4 (s.1).toNatClampNeg) (fun o8 => chk (isO s.2 a1 0) (ob (wR s.2 a1 0) (fun o11 => chk (isA s.2 o11 3) (chk (inb s.1 (wn s.2 o11)) (ob (wR s.2 o11 (s.1).toNatClampNeg) (fun o15 => chk (isO s.2 o8 4) (ob (fX4_take o8 o15 s.2) (fun q18 => some (.inl ((s.1 + 1), q18)))))))))))))))
set_option maxHeartbeats 1000000 in
set_option maxRecDepth 20000 in
theorem okX0_take_L34_body {E : Ev} {Q : Option Value → Wd → Prop} {a0 : Nat} {a1 : Nat} {s : Int32 × Wd} {r : (Int32 × Wd) ⊕ (Wd)} (h : fX0_take_L34_body a0 a1 s = some r) (hk : (Sum.elim (PX0_take_L34 E Q a0 a1) (fun q : Wd => Q none q)) r) : PX0_take_L34 E Q a0 a1 s := by
  unfold fX0_take_L34_body at h
  unfold PX0_take_L34
  refine r_iload_n dX0_take_34 2 rfl ?_
  refine r_aload_n dX0_take_35 0 rfl ?_
  obtain ⟨h1, h⟩ := chk_some h
  refine r_getI (fl_RX0_27 rfl) rfl dX0_take_36 h1 ?_
  refine r_icmp_ge (tgt := 63) dX0_take_39 (by decide) (fun c2 => ?_) (fun c2 => ?_)
  · rw [if_pos c2] at h
    obtain ⟨r3, hr, h⟩ := wr_some h
    rw [hr] at hk
    refine r_iconst (v := 0) dX0_take_63 (by decide) ?_
    refine r_istore_n dX0_take_64 rfl (Nat.le_of_ble_eq_true rfl) [(2, .int 0), (0, .ref a0), (1, .ref a1)] rfl ?_
    refine r_sub [1, 2, 0] [(0, .ref a0), (1, .ref a1), (2, .int 0)] rfl ?_
    exact okX0_take_L65 h hk
  · rw [if_neg c2] at h
    refine r_aload_n dX0_take_42 0 rfl ?_
    obtain ⟨o4, g5, h⟩ := ob_some h
    refine r_getR (fl_RX0_11 rfl) rfl dX0_take_43 h1 g5 ?_
    refine r_iload_n dX0_take_46 2 rfl ?_
    obtain ⟨h6, h⟩ := chk_some h
    obtain ⟨h7, h⟩ := chk_some h
    obtain ⟨o8, g9, h⟩ := ob_some h
    refine r_aaload 3 (by decide) (by decide) dX0_take_47 h6 h7 g9 ?_
    refine r_aload_n dX0_take_48 1 rfl ?_
    obtain ⟨h10, h⟩ := chk_some h
    obtain ⟨o11, g12, h⟩ := ob_some h
    refine r_getR (fl_RX0_11 rfl) rfl dX0_take_49 h10 g12 ?_
    refine r_iload_n dX0_take_52 2 rfl ?_
    obtain ⟨h13, h⟩ := chk_some h
    obtain ⟨h14, h⟩ := chk_some h
    obtain ⟨o15, g16, h⟩ := ob_some h
    refine r_aaload 3 (by decide) (by decide) dX0_take_53 h13 h14 g16 ?_
    obtain ⟨h17, h⟩ := chk_some h
    obtain ⟨q18, g19, h⟩ := ob_some h
    refine r_callV (d' := (6, 0, false)) (As := [.ref o15]) (st := []) mdv_X4_take tm_RX0_42 (by decide) rfl rfl (by decide) rfl (Nat.le_refl _) (Nat.le_of_ble_eq_true rfl) rfl dX0_take_54 h17 (ctX4_take g19) (k_V0 ?_)
    refine r_iinc (v := (s.1 + 1)) dX0_take_57 2 rfl rfl (Nat.le_of_ble_eq_true rfl) [(2, .int (s.1 + 1)), (0, .ref a0), (1, .ref a1)] rfl ?_
    refine r_goto (tgt := 34) dX0_take_60 (by decide) ?_
    rw [← Option.some.inj h] at hk
    refine r_sub [1, 2, 0] [(0, .ref a0), (1, .ref a1), (2, .int (s.1 + 1))] rfl ?_
    exact hk
def fX0_take_L34 (a0 : Nat) (a1 : Nat) (s : Int32 × Wd) : Option (Wd) := it (fX0_take_L34_body a0 a1) FU s
set_option maxHeartbeats 1000000 in
set_option maxRecDepth 20000 in
theorem okX0_take_L34 {E : Ev} {Q : Option Value → Wd → Prop} {a0 : Nat} {a1 : Nat} {s : Int32 × Wd} {r : Wd} (h : fX0_take_L34 a0 a1 s = some r) (hk : (fun q : Wd => Q none q) r) : PX0_take_L34 E Q a0 a1 s := it_runs (fun s r h hk => okX0_take_L34_body h hk) FU s r h hk
def fX0_take (a0 : Nat) (a1 : Nat) (w : Wd) : Option (Wd) :=
  chk (isO w a1 0) (chk (isO w a0 0) (bnd (sI w a0 3 (wI w a1 3)) (fun w3 => chk (isO w3 a1 0) (chk (isO w3 a0 0) (bnd (sI w3 a0 4 (wI w3 a1 4)) (fun w7 => chk (isO w7 a1 0) (chk (isO w7 a0 0) (bnd (sI w7 a0 5 (wI w7 a1 5)) (fun w11 => chk (isO w11 a1 0) (chk (isO w11 a0 0) (bnd (sI w11 a0 6 (wI w11 a1 6)) (fun w15 => fX0_take_L34 a0 a1 (0, w15)))))))))))))
set_option maxHeartbeats 1000000 in
set_option maxRecDepth 20000 in
theorem okX0_take {E : Ev} {Q : Option Value → Wd → Prop} {a0 : Nat} {a1 : Nat} {w : Wd} {q : Wd} (h : fX0_take a0 a1 w = some q) (hk : (fun q : Wd => Q none q) q) : Runs E mX0_take (7, 0, false) Q 0 0 [(0, .ref a0), (1, .ref a1)] [] w := by
  unfold fX0_take at h
  refine r_aload_n dX0_take_0 0 rfl ?_
  refine r_aload_n dX0_take_1 1 rfl ?_
  obtain ⟨h1, h⟩ := chk_some h
  refine r_getI (fl_RX0_27 rfl) rfl dX0_take_2 h1 ?_
  obtain ⟨h2, h⟩ := chk_some h
  obtain ⟨w3, e4, h⟩ := bnd_some h
  refine r_putI (fl_RX0_27 rfl) rfl rfl (ck_ty (by decide) 3 (by decide)) rfl rfl dX0_take_5 h2 ?_
  refine r_eqW e4 ?_
  refine r_aload_n dX0_take_8 0 rfl ?_
  refine r_aload_n dX0_take_9 1 rfl ?_
  obtain ⟨h5, h⟩ := chk_some h
  refine r_getI (fl_RX0_31 rfl) rfl dX0_take_10 h5 ?_
  obtain ⟨h6, h⟩ := chk_some h
  obtain ⟨w7, e8, h⟩ := bnd_some h
  refine r_putI (fl_RX0_31 rfl) rfl rfl (ck_ty (by decide) 4 (by decide)) rfl rfl dX0_take_13 h6 ?_
  refine r_eqW e8 ?_
  refine r_aload_n dX0_take_16 0 rfl ?_
  refine r_aload_n dX0_take_17 1 rfl ?_
  obtain ⟨h9, h⟩ := chk_some h
  refine r_getI (fl_RX0_34 rfl) rfl dX0_take_18 h9 ?_
  obtain ⟨h10, h⟩ := chk_some h
  obtain ⟨w11, e12, h⟩ := bnd_some h
  refine r_putI (fl_RX0_34 rfl) rfl rfl (ck_ty (by decide) 5 (by decide)) rfl rfl dX0_take_21 h10 ?_
  refine r_eqW e12 ?_
  refine r_aload_n dX0_take_24 0 rfl ?_
  refine r_aload_n dX0_take_25 1 rfl ?_
  obtain ⟨h13, h⟩ := chk_some h
  refine r_getI (fl_RX0_37 rfl) rfl dX0_take_26 h13 ?_
  obtain ⟨h14, h⟩ := chk_some h
  obtain ⟨w15, e16, h⟩ := bnd_some h
  refine r_putI (fl_RX0_37 rfl) rfl rfl (ck_ty (by decide) 6 (by decide)) rfl rfl dX0_take_29 h14 ?_
  refine r_eqW e16 ?_
  refine r_iconst (v := 0) dX0_take_32 (by decide) ?_
  refine r_istore_n dX0_take_33 rfl (Nat.le_of_ble_eq_true rfl) [(2, .int 0), (0, .ref a0), (1, .ref a1)] rfl ?_
  refine r_sub [1, 2, 0] [(0, .ref a0), (1, .ref a1), (2, .int 0)] rfl ?_
  exact okX0_take_L34 h hk
set_option maxHeartbeats 1000000 in
set_option maxRecDepth 20000 in
theorem ctX0_take {E : Ev} {a0 : Nat} {a1 : Nat} {w : Wd} {q : Wd} (h : fX0_take a0 a1 w = some q) : CT E mX0_take (7, 0, false) [.ref a0, .ref a1] w (QV q) := CT.of pl_RX0 (Nat.le_of_ble_eq_true rfl) (okX0_take h ⟨rfl, rfl⟩)
def PX0_unlikeDeeds_L4 (E : Ev) (Q : Option Value → Wd → Prop) (a0 : Nat) (x1 : Int32) (s : Int32 × Int32 × Wd) : Prop := Runs E mX0_unlikeDeeds (9, 0, false) Q 0 4 [(0, .ref a0), (1, .int x1), (2, .int s.1), (3, .int s.2.1)] [] s.2.2
def fX0_unlikeDeeds_L4_body (a0 : Nat) (x1 : Int32) (s : Int32 × Int32 × Wd) : Option ((Int32 × Int32 × Wd) ⊕ (Int32 × Wd)) :=
  chk (isO s.2.2 a0 0) (if (wI s.2.2 a0 3) ≤ s.2.1 then (wr (ob (fJ6_bitCount_0f7a4 (s.1 &&& (-2)) s.2.2) (fun q4 => some (q4.1, q4.2)))) else (ob (fX0_deedOf a0 s.2.1 x1 s.2.2) (fun q6 => bnd (s.1 ||| (1 <<< (q6.1 &&& 31))) (fun u8 => some (.inl (u8, (s.2.1 + 1), q6.2))))))
set_option maxHeartbeats 1000000 in
set_option maxRecDepth 20000 in
theorem okX0_unlikeDeeds_L4_body {E : Ev} {Q : Option Value → Wd → Prop} {a0 : Nat} {x1 : Int32} {s : Int32 × Int32 × Wd} {r : (Int32 × Int32 × Wd) ⊕ (Int32 × Wd)} (h : fX0_unlikeDeeds_L4_body a0 x1 s = some r) (hk : (Sum.elim (PX0_unlikeDeeds_L4 E Q a0 x1) (fun q : Int32 × Wd => Q (some (.int q.1)) q.2)) r) : PX0_unlikeDeeds_L4 E Q a0 x1 s := by
  unfold fX0_unlikeDeeds_L4_body at h
  unfold PX0_unlikeDeeds_L4
  refine r_iload_n dX0_unlikeDeeds_4 3 rfl ?_
  refine r_aload_n dX0_unlikeDeeds_5 0 rfl ?_
  obtain ⟨h1, h⟩ := chk_some h
  refine r_getI (fl_RX0_27 rfl) rfl dX0_unlikeDeeds_6 h1 ?_
  refine r_icmp_ge (tgt := 29) dX0_unlikeDeeds_9 (by decide) (fun c2 => ?_) (fun c2 => ?_)
  · rw [if_pos c2] at h
    obtain ⟨r3, hr, h⟩ := wr_some h
    rw [hr] at hk
    refine r_iload_n dX0_unlikeDeeds_29 2 rfl ?_
    refine r_bipush (v := (-2)) dX0_unlikeDeeds_30 (by decide) ?_
    refine r_iand dX0_unlikeDeeds_32 ?_
    obtain ⟨q4, g5, h⟩ := ob_some h
    refine r_callS (d' := (6, 0, false)) (As := [.int (s.1 &&& (-2))]) (st := []) mds_J6_bitCount_0f7a4 tm_RX0_67 rfl (by decide) rfl (Nat.le_refl _) (Nat.le_of_ble_eq_true rfl) rfl dX0_unlikeDeeds_33 (ctJ6_bitCount_0f7a4 g5) (k_I0 ?_)
    rw [← Option.some.inj h] at hk
    exact r_ireturn dX0_unlikeDeeds_36 rfl rfl hk
  · rw [if_neg c2] at h
    refine r_iload_n dX0_unlikeDeeds_12 2 rfl ?_
    refine r_iconst (v := 1) dX0_unlikeDeeds_13 (by decide) ?_
    refine r_aload_n dX0_unlikeDeeds_14 0 rfl ?_
    refine r_iload_n dX0_unlikeDeeds_15 3 rfl ?_
    refine r_iload_n dX0_unlikeDeeds_16 1 rfl ?_
    obtain ⟨q6, g7, h⟩ := ob_some h
    refine r_callV (d' := (8, 0, false)) (As := [.int s.2.1, .int x1]) (st := [.int 1, .int s.1]) mdv_X0_deedOf tm_RX0_136 (by decide) rfl rfl (by decide) rfl (Nat.le_refl _) (Nat.le_of_ble_eq_true rfl) rfl dX0_unlikeDeeds_17 h1 (ctX0_deedOf g7) (k_I0 ?_)
    refine r_ishl dX0_unlikeDeeds_20 ?_
    refine r_ior dX0_unlikeDeeds_21 ?_
    obtain ⟨u8, e9, h⟩ := bnd_some h
    refine r_eqI e9 ?_
    refine r_istore_n dX0_unlikeDeeds_22 rfl (Nat.le_of_ble_eq_true rfl) [(2, .int u8), (0, .ref a0), (1, .int x1), (3, .int s.2.1)] rfl ?_
    refine r_iinc (v := (s.2.1 + 1)) dX0_unlikeDeeds_23 3 rfl rfl (Nat.le_of_ble_eq_true rfl) [(3, .int (s.2.1 + 1)), (2, .int u8), (0, .ref a0), (1, .int x1)] rfl ?_
    refine r_goto (tgt := 4) dX0_unlikeDeeds_26 (by decide) ?_
    rw [← Option.some.inj h] at hk
    refine r_sub [2, 3, 1, 0] [(0, .ref a0), (1, .int x1), (2, .int u8), (3, .int (s.2.1 + 1))] rfl ?_
    exact hk
def fX0_unlikeDeeds_L4 (a0 : Nat) (x1 : Int32) (s : Int32 × Int32 × Wd) : Option (Int32 × Wd) := it (fX0_unlikeDeeds_L4_body a0 x1) FU s
set_option maxHeartbeats 1000000 in
set_option maxRecDepth 20000 in
theorem okX0_unlikeDeeds_L4 {E : Ev} {Q : Option Value → Wd → Prop} {a0 : Nat} {x1 : Int32} {s : Int32 × Int32 × Wd} {r : Int32 × Wd} (h : fX0_unlikeDeeds_L4 a0 x1 s = some r) (hk : (fun q : Int32 × Wd => Q (some (.int q.1)) q.2) r) : PX0_unlikeDeeds_L4 E Q a0 x1 s := it_runs (fun s r h hk => okX0_unlikeDeeds_L4_body h hk) FU s r h hk
def fX0_unlikeDeeds (a0 : Nat) (x1 : Int32) (w : Wd) : Option (Int32 × Wd) :=
  fX0_unlikeDeeds_L4 a0 x1 (0, 0, w)
set_option maxHeartbeats 1000000 in
set_option maxRecDepth 20000 in
theorem okX0_unlikeDeeds {E : Ev} {Q : Option Value → Wd → Prop} {a0 : Nat} {x1 : Int32} {w : Wd} {q : Int32 × Wd} (h : fX0_unlikeDeeds a0 x1 w = some q) (hk : (fun q : Int32 × Wd => Q (some (.int q.1)) q.2) q) : Runs E mX0_unlikeDeeds (9, 0, false) Q 0 0 [(0, .ref a0), (1, .int x1)] [] w := by
  unfold fX0_unlikeDeeds at h
  refine r_iconst (v := 0) dX0_unlikeDeeds_0 (by decide) ?_
  refine r_istore_n dX0_unlikeDeeds_1 rfl (Nat.le_of_ble_eq_true rfl) [(2, .int 0), (0, .ref a0), (1, .int x1)] rfl ?_
  refine r_iconst (v := 0) dX0_unlikeDeeds_2 (by decide) ?_
  refine r_istore_n dX0_unlikeDeeds_3 rfl (Nat.le_of_ble_eq_true rfl) [(3, .int 0), (2, .int 0), (0, .ref a0), (1, .int x1)] rfl ?_
  refine r_sub [2, 3, 1, 0] [(0, .ref a0), (1, .int x1), (2, .int 0), (3, .int 0)] rfl ?_
  exact okX0_unlikeDeeds_L4 h hk
set_option maxHeartbeats 1000000 in
set_option maxRecDepth 20000 in
theorem ctX0_unlikeDeeds {E : Ev} {a0 : Nat} {x1 : Int32} {w : Wd} {q : Int32 × Wd} (h : fX0_unlikeDeeds a0 x1 w = some q) : CT E mX0_unlikeDeeds (9, 0, false) [.ref a0, .int x1] w (QI q) := CT.of pl_RX0 (Nat.le_of_ble_eq_true rfl) (okX0_unlikeDeeds h ⟨rfl, rfl⟩)
def PX1_advance_L4 (E : Ev) (Q : Option Value → Wd → Prop) (a0 : Nat) (x1 : Int32) (s : Int32 × Wd) : Prop := Runs E mX1_advance (6, 0, false) Q 0 4 [(0, .ref a0), (1, .int x1), (3, .int s.1)] [] s.2
def fX1_advance_L4_body (a0 : Nat) (x1 : Int32) (s : Int32 × Wd) : Option ((Int32 × Wd) ⊕ (Int32 × Wd)) :=
  if s.1 < 0 then (wr (some (0, s.2))) else (chk (isO s.2 a0 1) (ob (wR s.2 a0 2) (fun o4 => chk (isA s.2 o4 0) (chk (inb s.1 (wn s.2 o4)) (if x1 ≤ (wI s.2 o4 (s.1).toNatClampNeg) then (bnd (sI s.2 o4 (s.1).toNatClampNeg 0) (fun w9 => some (.inl ((s.1 + (-1)), w9)))) else (wr (bnd (sI s.2 o4 (s.1).toNatClampNeg ((wI s.2 o4 (s.1).toNatClampNeg) + 1)) (fun w12 => some (1, w12)))))))))
set_option maxHeartbeats 1000000 in
set_option maxRecDepth 20000 in
theorem okX1_advance_L4_body {E : Ev} {Q : Option Value → Wd → Prop} {a0 : Nat} {x1 : Int32} {s : Int32 × Wd} {r : (Int32 × Wd) ⊕ (Int32 × Wd)} (h : fX1_advance_L4_body a0 x1 s = some r) (hk : (Sum.elim (PX1_advance_L4 E Q a0 x1) (fun q : Int32 × Wd => Q (some (.int q.1)) q.2)) r) : PX1_advance_L4 E Q a0 x1 s := by
  unfold fX1_advance_L4_body at h
  unfold PX1_advance_L4
  refine r_iload_n dX1_advance_4 2 rfl ?_
  refine r_if_lt (tgt := 43) dX1_advance_5 (by decide) (fun c1 => ?_) (fun c1 => ?_)
  · rw [if_pos c1] at h
    obtain ⟨r2, hr, h⟩ := wr_some h
    rw [hr] at hk
    refine r_iconst (v := 0) dX1_advance_43 (by decide) ?_
    rw [← Option.some.inj h] at hk
    exact r_ireturn dX1_advance_44 rfl rfl hk
  · rw [if_neg c1] at h
    refine r_aload_n dX1_advance_8 0 rfl ?_
    obtain ⟨h3, h⟩ := chk_some h
    obtain ⟨o4, g5, h⟩ := ob_some h
    refine r_getR (fl_RX1_19 rfl) rfl dX1_advance_9 h3 g5 ?_
    refine r_iload_n dX1_advance_12 2 rfl ?_
    obtain ⟨h6, h⟩ := chk_some h
    obtain ⟨h7, h⟩ := chk_some h
    refine r_iaload dX1_advance_13 h6 h7 ?_
    refine r_iload_n dX1_advance_14 1 rfl ?_
    refine r_icmp_ge (tgt := 30) dX1_advance_15 (by decide) (fun c8 => ?_) (fun c8 => ?_)
    · rw [if_pos c8] at h
      refine r_aload_n dX1_advance_30 0 rfl ?_
      refine r_getR (fl_RX1_19 rfl) rfl dX1_advance_31 h3 g5 ?_
      refine r_iload_n dX1_advance_34 2 rfl ?_
      refine r_iconst (v := 0) dX1_advance_35 (by decide) ?_
      obtain ⟨w9, e10, h⟩ := bnd_some h
      refine r_iastore dX1_advance_36 h6 h7 ?_
      refine r_eqW e10 ?_
      refine r_iinc (v := (s.1 + (-1))) dX1_advance_37 2 rfl rfl (Nat.le_of_ble_eq_true rfl) [(3, .int (s.1 + (-1))), (0, .ref a0), (1, .int x1)] rfl ?_
      refine r_goto (tgt := 4) dX1_advance_40 (by decide) ?_
      rw [← Option.some.inj h] at hk
      refine r_sub [1, 2, 0] [(0, .ref a0), (1, .int x1), (3, .int (s.1 + (-1)))] rfl ?_
      exact hk
    · rw [if_neg c8] at h
      obtain ⟨r11, hr, h⟩ := wr_some h
      rw [hr] at hk
      refine r_aload_n dX1_advance_18 0 rfl ?_
      refine r_getR (fl_RX1_19 rfl) rfl dX1_advance_19 h3 g5 ?_
      refine r_iload_n dX1_advance_22 2 rfl ?_
      refine r_dup2 dX1_advance_23 rfl rfl ?_
      refine r_iaload dX1_advance_24 h6 h7 ?_
      refine r_iconst (v := 1) dX1_advance_25 (by decide) ?_
      refine r_iadd dX1_advance_26 ?_
      obtain ⟨w12, e13, h⟩ := bnd_some h
      refine r_iastore dX1_advance_27 h6 h7 ?_
      refine r_eqW e13 ?_
      refine r_iconst (v := 1) dX1_advance_28 (by decide) ?_
      rw [← Option.some.inj h] at hk
      exact r_ireturn dX1_advance_29 rfl rfl hk
def fX1_advance_L4 (a0 : Nat) (x1 : Int32) (s : Int32 × Wd) : Option (Int32 × Wd) := it (fX1_advance_L4_body a0 x1) FU s
set_option maxHeartbeats 1000000 in
set_option maxRecDepth 20000 in
theorem okX1_advance_L4 {E : Ev} {Q : Option Value → Wd → Prop} {a0 : Nat} {x1 : Int32} {s : Int32 × Wd} {r : Int32 × Wd} (h : fX1_advance_L4 a0 x1 s = some r) (hk : (fun q : Int32 × Wd => Q (some (.int q.1)) q.2) r) : PX1_advance_L4 E Q a0 x1 s := it_runs (fun s r h hk => okX1_advance_L4_body h hk) FU s r h hk
def fX1_advance (a0 : Nat) (x1 : Int32) (x2 : Int32) (w : Wd) : Option (Int32 × Wd) :=
  bnd (x2 - 1) (fun u1 => fX1_advance_L4 a0 x1 (u1, w))
set_option maxHeartbeats 1000000 in
set_option maxRecDepth 20000 in
theorem okX1_advance {E : Ev} {Q : Option Value → Wd → Prop} {a0 : Nat} {x1 : Int32} {x2 : Int32} {w : Wd} {q : Int32 × Wd} (h : fX1_advance a0 x1 x2 w = some q) (hk : (fun q : Int32 × Wd => Q (some (.int q.1)) q.2) q) : Runs E mX1_advance (6, 0, false) Q 0 0 [(0, .ref a0), (1, .int x1), (2, .int x2)] [] w := by
  unfold fX1_advance at h
  refine r_iload_n dX1_advance_0 2 rfl ?_
  refine r_iconst (v := 1) dX1_advance_1 (by decide) ?_
  refine r_isub dX1_advance_2 ?_
  obtain ⟨u1, e2, h⟩ := bnd_some h
  refine r_eqI e2 ?_
  refine r_istore_n dX1_advance_3 rfl (Nat.le_of_ble_eq_true rfl) [(3, .int u1), (0, .ref a0), (1, .int x1), (2, .int x2)] rfl ?_
  refine r_sub [1, 2, 0] [(0, .ref a0), (1, .int x1), (3, .int u1)] rfl ?_
  exact okX1_advance_L4 h hk
set_option maxHeartbeats 1000000 in
set_option maxRecDepth 20000 in
theorem ctX1_advance {E : Ev} {a0 : Nat} {x1 : Int32} {x2 : Int32} {w : Wd} {q : Int32 × Wd} (h : fX1_advance a0 x1 x2 w = some q) : CT E mX1_advance (6, 0, false) [.ref a0, .int x1, .int x2] w (QI q) := CT.of pl_RX1 (Nat.le_of_ble_eq_true rfl) (okX1_advance h ⟨rfl, rfl⟩)
def fX6_intAt_b23 (s0 : Int32) (w : Wd) : Option (Int32 × Wd) :=
  some (s0, w)
set_option maxHeartbeats 1000000 in
set_option maxRecDepth 20000 in
theorem okX6_intAt_b23 {E : Ev} {Q : Option Value → Wd → Prop} {s0 : Int32} {w : Wd} {q : Int32 × Wd} (h : fX6_intAt_b23 s0 w = some q) (hk : (fun q : Int32 × Wd => Q (some (.int q.1)) q.2) q) : Runs E mX6_intAt (6, 0, false) Q 0 23 [] [.int s0] w := by
  unfold fX6_intAt_b23 at h
  rw [← Option.some.inj h] at hk
  exact r_ireturn dX6_intAt_23 rfl rfl hk
def fX6_intAt_b22 (w : Wd) : Option (Int32 × Wd) :=
  fX6_intAt_b23 0 w
set_option maxHeartbeats 1000000 in
set_option maxRecDepth 20000 in
theorem okX6_intAt_b22 {E : Ev} {Q : Option Value → Wd → Prop} {w : Wd} {q : Int32 × Wd} (h : fX6_intAt_b22 w = some q) (hk : (fun q : Int32 × Wd => Q (some (.int q.1)) q.2) q) : Runs E mX6_intAt (6, 0, false) Q 0 22 [] [] w := by
  unfold fX6_intAt_b22 at h
  refine r_iconst (v := 0) dX6_intAt_22 (by decide) ?_
  refine r_sub [] [] rfl ?_
  exact okX6_intAt_b23 h hk
def fX6_intAt (a0 : Nat) (x1 : Int32) (w : Wd) : Option (Int32 × Wd) :=
  if x1 < 0 then (fX6_intAt_b22 w) else (chk (isO w a0 6) (if (wI w a0 1) ≤ x1 then (fX6_intAt_b22 w) else (ob (wR w a0 0) (fun o4 => chk (isA w o4 1) (chk (inb x1 (wn w o4)) (fX6_intAt_b23 ((wL w o4 (x1).toNatClampNeg)).toInt32 w))))))
set_option maxHeartbeats 1000000 in
set_option maxRecDepth 20000 in
theorem okX6_intAt {E : Ev} {Q : Option Value → Wd → Prop} {a0 : Nat} {x1 : Int32} {w : Wd} {q : Int32 × Wd} (h : fX6_intAt a0 x1 w = some q) (hk : (fun q : Int32 × Wd => Q (some (.int q.1)) q.2) q) : Runs E mX6_intAt (6, 0, false) Q 0 0 [(0, .ref a0), (1, .int x1)] [] w := by
  unfold fX6_intAt at h
  refine r_iload_n dX6_intAt_0 1 rfl ?_
  refine r_if_lt (tgt := 22) dX6_intAt_1 (by decide) (fun c1 => ?_) (fun c1 => ?_)
  · rw [if_pos c1] at h
    refine r_sub [] [] rfl ?_
    exact okX6_intAt_b22 h hk
  · rw [if_neg c1] at h
    refine r_iload_n dX6_intAt_4 1 rfl ?_
    refine r_aload_n dX6_intAt_5 0 rfl ?_
    obtain ⟨h2, h⟩ := chk_some h
    refine r_getI (fl_RX6_15 rfl) rfl dX6_intAt_6 h2 ?_
    refine r_icmp_ge (tgt := 22) dX6_intAt_9 (by decide) (fun c3 => ?_) (fun c3 => ?_)
    · rw [if_pos c3] at h
      refine r_sub [] [] rfl ?_
      exact okX6_intAt_b22 h hk
    · rw [if_neg c3] at h
      refine r_aload_n dX6_intAt_12 0 rfl ?_
      obtain ⟨o4, g5, h⟩ := ob_some h
      refine r_getR (fl_RX6_9 rfl) rfl dX6_intAt_13 h2 g5 ?_
      refine r_iload_n dX6_intAt_16 1 rfl ?_
      obtain ⟨h6, h⟩ := chk_some h
      obtain ⟨h7, h⟩ := chk_some h
      refine r_laload dX6_intAt_17 h6 h7 ?_
      refine r_l2i dX6_intAt_18 ?_
      refine r_goto (tgt := 23) dX6_intAt_19 (by decide) ?_
      refine r_sub [] [] rfl ?_
      exact okX6_intAt_b23 h hk
set_option maxHeartbeats 1000000 in
set_option maxRecDepth 20000 in
theorem ctX6_intAt {E : Ev} {a0 : Nat} {x1 : Int32} {w : Wd} {q : Int32 × Wd} (h : fX6_intAt a0 x1 w = some q) : CT E mX6_intAt (6, 0, false) [.ref a0, .int x1] w (QI q) := CT.of pl_RX6 (Nat.le_of_ble_eq_true rfl) (okX6_intAt h ⟨rfl, rfl⟩)
def PX1_scoreLoad_L6 (E : Ev) (Q : Option Value → Wd → Prop) (a0 : Nat) (a1 : Nat) (x2 : Int32) (x3 : Int32) (s : Int32 × Int32 × Wd) : Prop := Runs E mX1_scoreLoad (8, 0, false) Q 0 6 [(0, .ref a0), (1, .ref a1), (2, .int x2), (3, .int x3), (4, .int s.1), (5, .int s.2.1)] [] s.2.2
def fX1_scoreLoad_b51 (a0 : Nat) (a1 : Nat) (x2 : Int32) (x3 : Int32) (x4 : Int32) (x5 : Int32) (w : Wd) : Option ((Int32 × Int32 × Wd) ⊕ (Int32 × Wd)) :=
  some (.inl (x4, (x5 + 1), w))
set_option maxHeartbeats 1000000 in
set_option maxRecDepth 20000 in
theorem okX1_scoreLoad_b51 {E : Ev} {Q : Option Value → Wd → Prop} {a0 : Nat} {a1 : Nat} {x2 : Int32} {x3 : Int32} {x4 : Int32} {x5 : Int32} {w : Wd} {q : (Int32 × Int32 × Wd) ⊕ (Int32 × Wd)} (h : fX1_scoreLoad_b51 a0 a1 x2 x3 x4 x5 w = some q) (hk : (Sum.elim (PX1_scoreLoad_L6 E Q a0 a1 x2 x3) (fun q : Int32 × Wd => Q (some (.int q.1)) q.2)) q) : Runs E mX1_scoreLoad (8, 0, false) Q 0 51 [(0, .ref a0), (1, .ref a1), (2, .int x2), (3, .int x3), (4, .int x4), (5, .int x5)] [] w := by
  unfold fX1_scoreLoad_b51 at h
  refine r_iinc (v := (x5 + 1)) dX1_scoreLoad_51 5 rfl rfl (Nat.le_of_ble_eq_true rfl) [(5, .int (x5 + 1)), (0, .ref a0), (1, .ref a1), (2, .int x2), (3, .int x3), (4, .int x4)] rfl ?_
  refine r_goto (tgt := 6) dX1_scoreLoad_54 (by decide) ?_
  rw [← Option.some.inj h] at hk
  refine r_sub [1, 2, 3, 4, 5, 0] [(0, .ref a0), (1, .ref a1), (2, .int x2), (3, .int x3), (4, .int x4), (5, .int (x5 + 1))] rfl ?_
  exact hk
def fX1_scoreLoad_L6_body (a0 : Nat) (a1 : Nat) (x2 : Int32) (x3 : Int32) (s : Int32 × Int32 × Wd) : Option ((Int32 × Int32 × Wd) ⊕ (Int32 × Wd)) :=
  if (12 : Int32) ≤ s.2.1 then (wr (some (s.1, s.2.2))) else (chk (isO s.2.2 a0 0) (ob (wR s.2.2 a0 0) (fun o4 => chk (isA s.2.2 o4 3) (chk (inb x2 (wn s.2.2 o4)) (ob (wR s.2.2 o4 (x2).toNatClampNeg) (fun o8 => chk (isO s.2.2 o8 4) (ob (fX0_deedIn a0 x2 s.2.1 x3 (wI s.2.2 o8 1) s.2.2) (fun q11 => chk (isO q11.2 a1 6) (ob (fX6_intAt a1 ((x2 * 12) + s.2.1) q11.2) (fun q14 => if q14.1 = q11.1 then (fX1_scoreLoad_b51 a0 a1 x2 x3 (s.1 + 1) s.2.1 q14.2) else (fX1_scoreLoad_b51 a0 a1 x2 x3 s.1 s.2.1 q14.2)))))))))))
set_option maxHeartbeats 1000000 in
set_option maxRecDepth 20000 in
theorem okX1_scoreLoad_L6_body {E : Ev} {Q : Option Value → Wd → Prop} {a0 : Nat} {a1 : Nat} {x2 : Int32} {x3 : Int32} {s : Int32 × Int32 × Wd} {r : (Int32 × Int32 × Wd) ⊕ (Int32 × Wd)} (h : fX1_scoreLoad_L6_body a0 a1 x2 x3 s = some r) (hk : (Sum.elim (PX1_scoreLoad_L6 E Q a0 a1 x2 x3) (fun q : Int32 × Wd => Q (some (.int q.1)) q.2)) r) : PX1_scoreLoad_L6 E Q a0 a1 x2 x3 s := by
  unfold fX1_scoreLoad_L6_body at h
  unfold PX1_scoreLoad_L6
  refine r_iload dX1_scoreLoad_6 5 rfl ?_
  refine r_bipush (v := 12) dX1_scoreLoad_8 (by decide) ?_
  refine r_icmp_ge (tgt := 57) dX1_scoreLoad_10 (by decide) (fun c1 => ?_) (fun c1 => ?_)
  · rw [if_pos c1] at h
    obtain ⟨r2, hr, h⟩ := wr_some h
    rw [hr] at hk
    refine r_iload dX1_scoreLoad_57 4 rfl ?_
    rw [← Option.some.inj h] at hk
    exact r_ireturn dX1_scoreLoad_59 rfl rfl hk
  · rw [if_neg c1] at h
    refine r_aload_n dX1_scoreLoad_13 0 rfl ?_
    refine r_iload_n dX1_scoreLoad_14 2 rfl ?_
    refine r_iload dX1_scoreLoad_15 5 rfl ?_
    refine r_iload_n dX1_scoreLoad_17 3 rfl ?_
    refine r_aload_n dX1_scoreLoad_18 0 rfl ?_
    obtain ⟨h3, h⟩ := chk_some h
    obtain ⟨o4, g5, h⟩ := ob_some h
    refine r_getR (fl_RX1_65 rfl) rfl dX1_scoreLoad_19 h3 g5 ?_
    refine r_iload_n dX1_scoreLoad_22 2 rfl ?_
    obtain ⟨h6, h⟩ := chk_some h
    obtain ⟨h7, h⟩ := chk_some h
    obtain ⟨o8, g9, h⟩ := ob_some h
    refine r_aaload 3 (by decide) (by decide) dX1_scoreLoad_23 h6 h7 g9 ?_
    obtain ⟨h10, h⟩ := chk_some h
    refine r_getI (fl_RX1_69 rfl) rfl dX1_scoreLoad_24 h10 ?_
    obtain ⟨q11, g12, h⟩ := ob_some h
    refine r_callV (d' := (7, 0, false)) (As := [.int x2, .int s.2.1, .int x3, .int (wI s.2.2 o8 1)]) (st := []) mdv_X0_deedIn tm_RX1_74 (by decide) rfl rfl (by decide) rfl (Nat.le_refl _) (Nat.le_of_ble_eq_true rfl) rfl dX1_scoreLoad_27 h3 (ctX0_deedIn g12) (k_I0 ?_)
    refine r_istore dX1_scoreLoad_30 (Nat.le_of_ble_eq_true rfl) [(6, .int q11.1), (0, .ref a0), (1, .ref a1), (2, .int x2), (3, .int x3), (4, .int s.1), (5, .int s.2.1)] rfl ?_
    refine r_aload_n dX1_scoreLoad_32 2 rfl ?_
    refine r_iload_n dX1_scoreLoad_33 3 rfl ?_
    refine r_bipush (v := 12) dX1_scoreLoad_34 (by decide) ?_
    refine r_imul dX1_scoreLoad_36 ?_
    refine r_iload dX1_scoreLoad_37 6 rfl ?_
    refine r_iadd dX1_scoreLoad_39 ?_
    obtain ⟨h13, h⟩ := chk_some h
    obtain ⟨q14, g15, h⟩ := ob_some h
    refine r_callV (d' := (6, 0, false)) (As := [.int ((x2 * 12) + s.2.1)]) (st := []) mdv_X6_intAt tm_RX1_78 (by decide) rfl rfl (by decide) rfl (Nat.le_refl _) (Nat.le_of_ble_eq_true rfl) rfl dX1_scoreLoad_40 h13 (ctX6_intAt g15) (k_I0 ?_)
    refine r_iload dX1_scoreLoad_43 0 rfl ?_
    refine r_icmp_ne (tgt := 51) dX1_scoreLoad_45 (by decide) (fun c16 => ?_) (fun c16 => ?_)
    · rw [if_neg c16] at h
      refine r_sub [1, 2, 3, 4, 5, 6] [(0, .ref a0), (1, .ref a1), (2, .int x2), (3, .int x3), (4, .int s.1), (5, .int s.2.1)] rfl ?_
      exact okX1_scoreLoad_b51 h hk
    · rw [if_pos c16] at h
      refine r_iinc (v := (s.1 + 1)) dX1_scoreLoad_48 5 rfl rfl (Nat.le_of_ble_eq_true rfl) [(4, .int (s.1 + 1)), (6, .int q11.1), (0, .ref a0), (1, .ref a1), (2, .int x2), (3, .int x3), (5, .int s.2.1)] rfl ?_
      refine r_sub [2, 3, 4, 5, 0, 6] [(0, .ref a0), (1, .ref a1), (2, .int x2), (3, .int x3), (4, .int (s.1 + 1)), (5, .int s.2.1)] rfl ?_
      exact okX1_scoreLoad_b51 h hk
def fX1_scoreLoad_L6 (a0 : Nat) (a1 : Nat) (x2 : Int32) (x3 : Int32) (s : Int32 × Int32 × Wd) : Option (Int32 × Wd) := it (fX1_scoreLoad_L6_body a0 a1 x2 x3) FU s
set_option maxHeartbeats 1000000 in
set_option maxRecDepth 20000 in
theorem okX1_scoreLoad_L6 {E : Ev} {Q : Option Value → Wd → Prop} {a0 : Nat} {a1 : Nat} {x2 : Int32} {x3 : Int32} {s : Int32 × Int32 × Wd} {r : Int32 × Wd} (h : fX1_scoreLoad_L6 a0 a1 x2 x3 s = some r) (hk : (fun q : Int32 × Wd => Q (some (.int q.1)) q.2) r) : PX1_scoreLoad_L6 E Q a0 a1 x2 x3 s := it_runs (fun s r h hk => okX1_scoreLoad_L6_body h hk) FU s r h hk
def fX1_scoreLoad (a0 : Nat) (a1 : Nat) (x2 : Int32) (x3 : Int32) (w : Wd) : Option (Int32 × Wd) :=
  fX1_scoreLoad_L6 a0 a1 x2 x3 (0, 0, w)
set_option maxHeartbeats 1000000 in
set_option maxRecDepth 20000 in
theorem okX1_scoreLoad {E : Ev} {Q : Option Value → Wd → Prop} {a0 : Nat} {a1 : Nat} {x2 : Int32} {x3 : Int32} {w : Wd} {q : Int32 × Wd} (h : fX1_scoreLoad a0 a1 x2 x3 w = some q) (hk : (fun q : Int32 × Wd => Q (some (.int q.1)) q.2) q) : Runs E mX1_scoreLoad (8, 0, false) Q 0 0 [(0, .ref a0), (1, .ref a1), (2, .int x2), (3, .int x3)] [] w := by
  unfold fX1_scoreLoad at h
  refine r_iconst (v := 0) dX1_scoreLoad_0 (by decide) ?_
  refine r_istore dX1_scoreLoad_1 (Nat.le_of_ble_eq_true rfl) [(4, .int 0), (0, .ref a0), (1, .ref a1), (2, .int x2), (3, .int x3)] rfl ?_
  refine r_iconst (v := 0) dX1_scoreLoad_3 (by decide) ?_
  refine r_istore dX1_scoreLoad_4 (Nat.le_of_ble_eq_true rfl) [(5, .int 0), (4, .int 0), (0, .ref a0), (1, .ref a1), (2, .int x2), (3, .int x3)] rfl ?_
  refine r_sub [2, 3, 4, 5, 1, 0] [(0, .ref a0), (1, .ref a1), (2, .int x2), (3, .int x3), (4, .int 0), (5, .int 0)] rfl ?_
  exact okX1_scoreLoad_L6 h hk
set_option maxHeartbeats 1000000 in
set_option maxRecDepth 20000 in
theorem ctX1_scoreLoad {E : Ev} {a0 : Nat} {a1 : Nat} {x2 : Int32} {x3 : Int32} {w : Wd} {q : Int32 × Wd} (h : fX1_scoreLoad a0 a1 x2 x3 w = some q) : CT E mX1_scoreLoad (8, 0, false) [.ref a0, .ref a1, .int x2, .int x3] w (QI q) := CT.of pl_RX1 (Nat.le_of_ble_eq_true rfl) (okX1_scoreLoad h ⟨rfl, rfl⟩)
def PX1_scoreLoads_L10 (E : Ev) (Q : Option Value → Wd → Prop) (a0 : Nat) (a1 : Nat) (a2 : Nat) (x4 : Int32) (s : Int32 × Wd) : Prop := Runs E mX1_scoreLoads (9, 0, false) Q 0 10 [(0, .ref a0), (1, .ref a1), (2, .ref a2), (4, .int x4), (5, .int s.1)] [] s.2
def PX1_scoreLoads_L35 (E : Ev) (Q : Option Value → Wd → Prop) (a0 : Nat) (a1 : Nat) (a2 : Nat) (x4 : Int32) (x5 : Int32) (x6 : Int32) (s : Int32 × Wd) : Prop := Runs E mX1_scoreLoads (9, 0, false) Q 0 35 [(0, .ref a0), (1, .ref a1), (2, .ref a2), (4, .int x4), (5, .int x5), (6, .int x6), (7, .int s.1)] [] s.2
def fX1_scoreLoads_L35_body (a0 : Nat) (a1 : Nat) (a2 : Nat) (x4 : Int32) (x5 : Int32) (x6 : Int32) (s : Int32 × Wd) : Option ((Int32 × Wd) ⊕ ((Int32 × Wd) ⊕ (Wd))) :=
  if x4 < s.1 then (wr (some (.inl ((x5 + 1), s.2)))) else (chk (isO s.2 a0 1) (ob (wR s.2 a0 4) (fun o4 => ob (fX1_scoreLoad a1 a2 x5 (x6 ||| s.1) s.2) (fun q6 => chk (isA q6.2 o4 0) (chk (inb ((x5 * 16) + s.1) (wn q6.2 o4)) (bnd (sI q6.2 o4 (((x5 * 16) + s.1)).toNatClampNeg q6.1) (fun w10 => some (.inl ((s.1 + 1), w10)))))))))
set_option maxHeartbeats 1000000 in
set_option maxRecDepth 20000 in
theorem okX1_scoreLoads_L35_body {E : Ev} {Q : Option Value → Wd → Prop} {a0 : Nat} {a1 : Nat} {a2 : Nat} {x4 : Int32} {x5 : Int32} {x6 : Int32} {s : Int32 × Wd} {r : (Int32 × Wd) ⊕ ((Int32 × Wd) ⊕ (Wd))} (h : fX1_scoreLoads_L35_body a0 a1 a2 x4 x5 x6 s = some r) (hk : (Sum.elim (PX1_scoreLoads_L35 E Q a0 a1 a2 x4 x5 x6) (Sum.elim (PX1_scoreLoads_L10 E Q a0 a1 a2 x4) (fun q : Wd => Q none q))) r) : PX1_scoreLoads_L35 E Q a0 a1 a2 x4 x5 x6 s := by
  unfold fX1_scoreLoads_L35_body at h
  unfold PX1_scoreLoads_L35
  refine r_iload dX1_scoreLoads_35 6 rfl ?_
  refine r_iload dX1_scoreLoads_37 3 rfl ?_
  refine r_icmp_gt (tgt := 73) dX1_scoreLoads_39 (by decide) (fun c1 => ?_) (fun c1 => ?_)
  · rw [if_pos c1] at h
    obtain ⟨r2, hr, h⟩ := wr_some h
    rw [hr] at hk
    refine r_iinc (v := (x5 + 1)) dX1_scoreLoads_73 4 rfl rfl (Nat.le_of_ble_eq_true rfl) [(5, .int (x5 + 1)), (0, .ref a0), (1, .ref a1), (2, .ref a2), (4, .int x4), (6, .int x6), (7, .int s.1)] rfl ?_
    refine r_goto (tgt := 10) dX1_scoreLoads_76 (by decide) ?_
    rw [← Option.some.inj h] at hk
    refine r_sub [1, 2, 3, 4, 0] [(0, .ref a0), (1, .ref a1), (2, .ref a2), (4, .int x4), (5, .int (x5 + 1))] rfl ?_
    exact hk
  · rw [if_neg c1] at h
    refine r_aload_n dX1_scoreLoads_42 0 rfl ?_
    obtain ⟨h3, h⟩ := chk_some h
    obtain ⟨o4, g5, h⟩ := ob_some h
    refine r_getR (fl_RX1_25 rfl) rfl dX1_scoreLoads_43 h3 g5 ?_
    refine r_iload dX1_scoreLoads_46 4 rfl ?_
    refine r_bipush (v := 16) dX1_scoreLoads_48 (by decide) ?_
    refine r_imul dX1_scoreLoads_50 ?_
    refine r_iload dX1_scoreLoads_51 6 rfl ?_
    refine r_iadd dX1_scoreLoads_53 ?_
    refine r_aload_n dX1_scoreLoads_54 1 rfl ?_
    refine r_aload_n dX1_scoreLoads_55 2 rfl ?_
    refine r_iload dX1_scoreLoads_56 4 rfl ?_
    refine r_iload dX1_scoreLoads_58 5 rfl ?_
    refine r_iload dX1_scoreLoads_60 6 rfl ?_
    refine r_ior dX1_scoreLoads_62 ?_
    obtain ⟨q6, g7, h⟩ := ob_some h
    refine r_callS (d' := (8, 0, false)) (As := [.ref a1, .ref a2, .int x5, .int (x6 ||| s.1)]) (st := [.int ((x5 * 16) + s.1), .ref o4]) mds_X1_scoreLoad tm_RX1_61 rfl (by decide) rfl (Nat.le_refl _) (Nat.le_of_ble_eq_true rfl) rfl dX1_scoreLoads_63 (ctX1_scoreLoad g7) (k_I0 ?_)
    obtain ⟨h8, h⟩ := chk_some h
    obtain ⟨h9, h⟩ := chk_some h
    obtain ⟨w10, e11, h⟩ := bnd_some h
    refine r_iastore dX1_scoreLoads_66 h8 h9 ?_
    refine r_eqW e11 ?_
    refine r_iinc (v := (s.1 + 1)) dX1_scoreLoads_67 6 rfl rfl (Nat.le_of_ble_eq_true rfl) [(7, .int (s.1 + 1)), (0, .ref a0), (1, .ref a1), (2, .ref a2), (4, .int x4), (5, .int x5), (6, .int x6)] rfl ?_
    refine r_goto (tgt := 35) dX1_scoreLoads_70 (by decide) ?_
    rw [← Option.some.inj h] at hk
    refine r_sub [1, 2, 3, 4, 5, 6, 0] [(0, .ref a0), (1, .ref a1), (2, .ref a2), (4, .int x4), (5, .int x5), (6, .int x6), (7, .int (s.1 + 1))] rfl ?_
    exact hk
def fX1_scoreLoads_L35 (a0 : Nat) (a1 : Nat) (a2 : Nat) (x4 : Int32) (x5 : Int32) (x6 : Int32) (s : Int32 × Wd) : Option ((Int32 × Wd) ⊕ (Wd)) := it (fX1_scoreLoads_L35_body a0 a1 a2 x4 x5 x6) FU s
set_option maxHeartbeats 1000000 in
set_option maxRecDepth 20000 in
theorem okX1_scoreLoads_L35 {E : Ev} {Q : Option Value → Wd → Prop} {a0 : Nat} {a1 : Nat} {a2 : Nat} {x4 : Int32} {x5 : Int32} {x6 : Int32} {s : Int32 × Wd} {r : (Int32 × Wd) ⊕ (Wd)} (h : fX1_scoreLoads_L35 a0 a1 a2 x4 x5 x6 s = some r) (hk : (Sum.elim (PX1_scoreLoads_L10 E Q a0 a1 a2 x4) (fun q : Wd => Q none q)) r) : PX1_scoreLoads_L35 E Q a0 a1 a2 x4 x5 x6 s := it_runs (fun s r h hk => okX1_scoreLoads_L35_body h hk) FU s r h hk
def fX1_scoreLoads_L10_body (a0 : Nat) (a1 : Nat) (a2 : Nat) (x4 : Int32) (s : Int32 × Wd) : Option ((Int32 × Wd) ⊕ (Wd)) :=
  chk (isO s.2 a1 0) (if (wI s.2 a1 3) ≤ s.1 then (wr (some s.2)) else (ob (fX0_wornBy a1 s.1 s.2) (fun q4 => bnd (q4.1 &&& (x4 ^^^ (-1))) (fun u6 => fX1_scoreLoads_L35 a0 a1 a2 x4 s.1 u6 (0, q4.2)))))
set_option maxHeartbeats 1000000 in
set_option maxRecDepth 20000 in
theorem okX1_scoreLoads_L10_body {E : Ev} {Q : Option Value → Wd → Prop} {a0 : Nat} {a1 : Nat} {a2 : Nat} {x4 : Int32} {s : Int32 × Wd} {r : (Int32 × Wd) ⊕ (Wd)} (h : fX1_scoreLoads_L10_body a0 a1 a2 x4 s = some r) (hk : (Sum.elim (PX1_scoreLoads_L10 E Q a0 a1 a2 x4) (fun q : Wd => Q none q)) r) : PX1_scoreLoads_L10 E Q a0 a1 a2 x4 s := by
  unfold fX1_scoreLoads_L10_body at h
  unfold PX1_scoreLoads_L10
  refine r_iload dX1_scoreLoads_10 4 rfl ?_
  refine r_aload_n dX1_scoreLoads_12 1 rfl ?_
  obtain ⟨h1, h⟩ := chk_some h
  refine r_getI (fl_RX1_38 rfl) rfl dX1_scoreLoads_13 h1 ?_
  refine r_icmp_ge (tgt := 79) dX1_scoreLoads_16 (by decide) (fun c2 => ?_) (fun c2 => ?_)
  · rw [if_pos c2] at h
    obtain ⟨r3, hr, h⟩ := wr_some h
    rw [hr] at hk
    rw [← Option.some.inj h] at hk
    exact r_return dX1_scoreLoads_79 rfl hk
  · rw [if_neg c2] at h
    refine r_aload_n dX1_scoreLoads_19 1 rfl ?_
    refine r_iload dX1_scoreLoads_20 4 rfl ?_
    obtain ⟨q4, g5, h⟩ := ob_some h
    refine r_callV (d' := (6, 0, false)) (As := [.int s.1]) (st := []) mdv_X0_wornBy tm_RX1_57 (by decide) rfl rfl (by decide) rfl (Nat.le_refl _) (Nat.le_of_ble_eq_true rfl) rfl dX1_scoreLoads_22 h1 (ctX0_wornBy g5) (k_I0 ?_)
    refine r_iload dX1_scoreLoads_25 3 rfl ?_
    refine r_iconst (v := (-1)) dX1_scoreLoads_27 (by decide) ?_
    refine r_ixor dX1_scoreLoads_28 ?_
    refine r_iand dX1_scoreLoads_29 ?_
    obtain ⟨u6, e7, h⟩ := bnd_some h
    refine r_eqI e7 ?_
    refine r_istore dX1_scoreLoads_30 (Nat.le_of_ble_eq_true rfl) [(6, .int u6), (0, .ref a0), (1, .ref a1), (2, .ref a2), (4, .int x4), (5, .int s.1)] rfl ?_
    refine r_iconst (v := 0) dX1_scoreLoads_32 (by decide) ?_
    refine r_istore dX1_scoreLoads_33 (Nat.le_of_ble_eq_true rfl) [(7, .int 0), (6, .int u6), (0, .ref a0), (1, .ref a1), (2, .ref a2), (4, .int x4), (5, .int s.1)] rfl ?_
    refine r_sub [2, 3, 4, 5, 6, 1, 0] [(0, .ref a0), (1, .ref a1), (2, .ref a2), (4, .int x4), (5, .int s.1), (6, .int u6), (7, .int 0)] rfl ?_
    exact okX1_scoreLoads_L35 h hk
def fX1_scoreLoads_L10 (a0 : Nat) (a1 : Nat) (a2 : Nat) (x4 : Int32) (s : Int32 × Wd) : Option (Wd) := it (fX1_scoreLoads_L10_body a0 a1 a2 x4) FU s
set_option maxHeartbeats 1000000 in
set_option maxRecDepth 20000 in
theorem okX1_scoreLoads_L10 {E : Ev} {Q : Option Value → Wd → Prop} {a0 : Nat} {a1 : Nat} {a2 : Nat} {x4 : Int32} {s : Int32 × Wd} {r : Wd} (h : fX1_scoreLoads_L10 a0 a1 a2 x4 s = some r) (hk : (fun q : Wd => Q none q) r) : PX1_scoreLoads_L10 E Q a0 a1 a2 x4 s := it_runs (fun s r h hk => okX1_scoreLoads_L10_body h hk) FU s r h hk
def fX1_scoreLoads (a0 : Nat) (a1 : Nat) (a2 : Nat) (x3 : Int32) (w : Wd) : Option (Wd) :=
  bnd ((1 <<< (x3 &&& 31)) - 1) (fun u1 => fX1_scoreLoads_L10 a0 a1 a2 u1 (0, w))
set_option maxHeartbeats 1000000 in
set_option maxRecDepth 20000 in
theorem okX1_scoreLoads {E : Ev} {Q : Option Value → Wd → Prop} {a0 : Nat} {a1 : Nat} {a2 : Nat} {x3 : Int32} {w : Wd} {q : Wd} (h : fX1_scoreLoads a0 a1 a2 x3 w = some q) (hk : (fun q : Wd => Q none q) q) : Runs E mX1_scoreLoads (9, 0, false) Q 0 0 [(0, .ref a0), (1, .ref a1), (2, .ref a2), (3, .int x3)] [] w := by
  unfold fX1_scoreLoads at h
  refine r_iconst (v := 1) dX1_scoreLoads_0 (by decide) ?_
  refine r_iload_n dX1_scoreLoads_1 3 rfl ?_
  refine r_ishl dX1_scoreLoads_2 ?_
  refine r_iconst (v := 1) dX1_scoreLoads_3 (by decide) ?_
  refine r_isub dX1_scoreLoads_4 ?_
  obtain ⟨u1, e2, h⟩ := bnd_some h
  refine r_eqI e2 ?_
  refine r_istore dX1_scoreLoads_5 (Nat.le_of_ble_eq_true rfl) [(4, .int u1), (0, .ref a0), (1, .ref a1), (2, .ref a2), (3, .int x3)] rfl ?_
  refine r_iconst (v := 0) dX1_scoreLoads_7 (by decide) ?_
  refine r_istore dX1_scoreLoads_8 (Nat.le_of_ble_eq_true rfl) [(5, .int 0), (4, .int u1), (0, .ref a0), (1, .ref a1), (2, .ref a2), (3, .int x3)] rfl ?_
  refine r_sub [2, 3, 4, 1, 0] [(0, .ref a0), (1, .ref a1), (2, .ref a2), (4, .int u1), (5, .int 0)] rfl ?_
  exact okX1_scoreLoads_L10 h hk
set_option maxHeartbeats 1000000 in
set_option maxRecDepth 20000 in
theorem ctX1_scoreLoads {E : Ev} {a0 : Nat} {a1 : Nat} {a2 : Nat} {x3 : Int32} {w : Wd} {q : Wd} (h : fX1_scoreLoads a0 a1 a2 x3 w = some q) : CT E mX1_scoreLoads (9, 0, false) [.ref a0, .ref a1, .ref a2, .int x3] w (QV q) := CT.of pl_RX1 (Nat.le_of_ble_eq_true rfl) (okX1_scoreLoads h ⟨rfl, rfl⟩)
def PX1_scoreWay_L10 (E : Ev) (Q : Option Value → Wd → Prop) (a0 : Nat) (x1 : Int32) (x2 : Int32) (s : Int32 × Wd) : Prop := Runs E mX1_scoreWay (7, 0, false) Q 0 10 [(0, .ref a0), (1, .int x1), (2, .int x2), (3, .int s.1)] [] s.2
def PX1_scoreWay_L54 (E : Ev) (Q : Option Value → Wd → Prop) (a0 : Nat) (x1 : Int32) (s : Int32 × Int32 × Wd) : Prop := Runs E mX1_scoreWay (7, 0, false) Q 0 54 [(0, .ref a0), (1, .int x1), (3, .int s.1), (4, .int s.2.1)] [] s.2.2
def fX1_scoreWay_L54_body (a0 : Nat) (x1 : Int32) (s : Int32 × Int32 × Wd) : Option ((Int32 × Int32 × Wd) ⊕ (Int32 × Wd)) :=
  if x1 ≤ s.2.1 then (wr (some (s.1, s.2.2))) else (chk (isO s.2.2 a0 1) (ob (wR s.2.2 a0 4) (fun o4 => ob (wR s.2.2 a0 3) (fun o6 => chk (isA s.2.2 o6 0) (chk (inb s.2.1 (wn s.2.2 o6)) (chk (isA s.2.2 o4 0) (chk (inb ((s.2.1 * 16) + (wI s.2.2 o6 (s.2.1).toNatClampNeg)) (wn s.2.2 o4)) (bnd (s.1 + (wI s.2.2 o4 (((s.2.1 * 16) + (wI s.2.2 o6 (s.2.1).toNatClampNeg))).toNatClampNeg)) (fun u12 => some (.inl (u12, (s.2.1 + 1), s.2.2)))))))))))
set_option maxHeartbeats 1000000 in
set_option maxRecDepth 20000 in
theorem okX1_scoreWay_L54_body {E : Ev} {Q : Option Value → Wd → Prop} {a0 : Nat} {x1 : Int32} {s : Int32 × Int32 × Wd} {r : (Int32 × Int32 × Wd) ⊕ (Int32 × Wd)} (h : fX1_scoreWay_L54_body a0 x1 s = some r) (hk : (Sum.elim (PX1_scoreWay_L54 E Q a0 x1) (fun q : Int32 × Wd => Q (some (.int q.1)) q.2)) r) : PX1_scoreWay_L54 E Q a0 x1 s := by
  unfold fX1_scoreWay_L54_body at h
  unfold PX1_scoreWay_L54
  refine r_iload dX1_scoreWay_54 3 rfl ?_
  refine r_iload_n dX1_scoreWay_56 1 rfl ?_
  refine r_icmp_ge (tgt := 87) dX1_scoreWay_57 (by decide) (fun c1 => ?_) (fun c1 => ?_)
  · rw [if_pos c1] at h
    obtain ⟨r2, hr, h⟩ := wr_some h
    rw [hr] at hk
    refine r_iload_n dX1_scoreWay_87 2 rfl ?_
    rw [← Option.some.inj h] at hk
    exact r_ireturn dX1_scoreWay_88 rfl rfl hk
  · rw [if_neg c1] at h
    refine r_iload_n dX1_scoreWay_60 2 rfl ?_
    refine r_aload_n dX1_scoreWay_61 0 rfl ?_
    obtain ⟨h3, h⟩ := chk_some h
    obtain ⟨o4, g5, h⟩ := ob_some h
    refine r_getR (fl_RX1_25 rfl) rfl dX1_scoreWay_62 h3 g5 ?_
    refine r_iload dX1_scoreWay_65 3 rfl ?_
    refine r_bipush (v := 16) dX1_scoreWay_67 (by decide) ?_
    refine r_imul dX1_scoreWay_69 ?_
    refine r_aload_n dX1_scoreWay_70 0 rfl ?_
    obtain ⟨o6, g7, h⟩ := ob_some h
    refine r_getR (fl_RX1_22 rfl) rfl dX1_scoreWay_71 h3 g7 ?_
    refine r_iload dX1_scoreWay_74 3 rfl ?_
    obtain ⟨h8, h⟩ := chk_some h
    obtain ⟨h9, h⟩ := chk_some h
    refine r_iaload dX1_scoreWay_76 h8 h9 ?_
    refine r_iadd dX1_scoreWay_77 ?_
    obtain ⟨h10, h⟩ := chk_some h
    obtain ⟨h11, h⟩ := chk_some h
    refine r_iaload dX1_scoreWay_78 h10 h11 ?_
    refine r_iadd dX1_scoreWay_79 ?_
    obtain ⟨u12, e13, h⟩ := bnd_some h
    refine r_eqI e13 ?_
    refine r_istore_n dX1_scoreWay_80 rfl (Nat.le_of_ble_eq_true rfl) [(3, .int u12), (0, .ref a0), (1, .int x1), (4, .int s.2.1)] rfl ?_
    refine r_iinc (v := (s.2.1 + 1)) dX1_scoreWay_81 3 rfl rfl (Nat.le_of_ble_eq_true rfl) [(4, .int (s.2.1 + 1)), (3, .int u12), (0, .ref a0), (1, .int x1)] rfl ?_
    refine r_goto (tgt := 54) dX1_scoreWay_84 (by decide) ?_
    rw [← Option.some.inj h] at hk
    refine r_sub [2, 3, 1, 0] [(0, .ref a0), (1, .int x1), (3, .int u12), (4, .int (s.2.1 + 1))] rfl ?_
    exact hk
def fX1_scoreWay_L54 (a0 : Nat) (x1 : Int32) (s : Int32 × Int32 × Wd) : Option (Int32 × Wd) := it (fX1_scoreWay_L54_body a0 x1) FU s
set_option maxHeartbeats 1000000 in
set_option maxRecDepth 20000 in
theorem okX1_scoreWay_L54 {E : Ev} {Q : Option Value → Wd → Prop} {a0 : Nat} {x1 : Int32} {s : Int32 × Int32 × Wd} {r : Int32 × Wd} (h : fX1_scoreWay_L54 a0 x1 s = some r) (hk : (fun q : Int32 × Wd => Q (some (.int q.1)) q.2) r) : PX1_scoreWay_L54 E Q a0 x1 s := it_runs (fun s r h hk => okX1_scoreWay_L54_body h hk) FU s r h hk
def fX1_scoreWay_b43 (a0 : Nat) (x1 : Int32) (x2 : Int32) (x3 : Int32) (w : Wd) : Option ((Int32 × Wd) ⊕ (Int32 × Wd)) :=
  some (.inl ((x3 + 1), w))
set_option maxHeartbeats 1000000 in
set_option maxRecDepth 20000 in
theorem okX1_scoreWay_b43 {E : Ev} {Q : Option Value → Wd → Prop} {a0 : Nat} {x1 : Int32} {x2 : Int32} {x3 : Int32} {w : Wd} {q : (Int32 × Wd) ⊕ (Int32 × Wd)} (h : fX1_scoreWay_b43 a0 x1 x2 x3 w = some q) (hk : (Sum.elim (PX1_scoreWay_L10 E Q a0 x1 x2) (fun q : Int32 × Wd => Q (some (.int q.1)) q.2)) q) : Runs E mX1_scoreWay (7, 0, false) Q 0 43 [(0, .ref a0), (1, .int x1), (2, .int x2), (3, .int x3)] [] w := by
  unfold fX1_scoreWay_b43 at h
  refine r_iinc (v := (x3 + 1)) dX1_scoreWay_43 3 rfl rfl (Nat.le_of_ble_eq_true rfl) [(3, .int (x3 + 1)), (0, .ref a0), (1, .int x1), (2, .int x2)] rfl ?_
  refine r_goto (tgt := 10) dX1_scoreWay_46 (by decide) ?_
  rw [← Option.some.inj h] at hk
  refine r_sub [1, 2, 3, 0] [(0, .ref a0), (1, .int x1), (2, .int x2), (3, .int (x3 + 1))] rfl ?_
  exact hk
def fX1_scoreWay_L10_body (a0 : Nat) (x1 : Int32) (x2 : Int32) (s : Int32 × Wd) : Option ((Int32 × Wd) ⊕ (Int32 × Wd)) :=
  if x2 ≤ s.1 then (wr (fX1_scoreWay_L54 a0 x1 (0, 0, s.2))) else (chk (isO s.2 a0 1) (ob (wR s.2 a0 2) (fun o4 => chk (isA s.2 o4 0) (chk (inb s.1 (wn s.2 o4)) (if (wI s.2 o4 (s.1).toNatClampNeg) ≤ 0 then (fX1_scoreWay_b43 a0 x1 x2 s.1 s.2) else (ob (wR s.2 a0 3) (fun o9 => chk (isA s.2 o9 0) (chk (inb ((wI s.2 o4 (s.1).toNatClampNeg) - 1) (wn s.2 o9)) (bnd (sI s.2 o9 (((wI s.2 o4 (s.1).toNatClampNeg) - 1)).toNatClampNeg ((wI s.2 o9 (((wI s.2 o4 (s.1).toNatClampNeg) - 1)).toNatClampNeg) ||| (1 <<< (s.1 &&& 31)))) (fun w13 => fX1_scoreWay_b43 a0 x1 x2 s.1 w13))))))))))
set_option maxHeartbeats 1000000 in
set_option maxRecDepth 20000 in
theorem okX1_scoreWay_L10_body {E : Ev} {Q : Option Value → Wd → Prop} {a0 : Nat} {x1 : Int32} {x2 : Int32} {s : Int32 × Wd} {r : (Int32 × Wd) ⊕ (Int32 × Wd)} (h : fX1_scoreWay_L10_body a0 x1 x2 s = some r) (hk : (Sum.elim (PX1_scoreWay_L10 E Q a0 x1 x2) (fun q : Int32 × Wd => Q (some (.int q.1)) q.2)) r) : PX1_scoreWay_L10 E Q a0 x1 x2 s := by
  unfold fX1_scoreWay_L10_body at h
  unfold PX1_scoreWay_L10
  refine r_iload_n dX1_scoreWay_10 3 rfl ?_
  refine r_iload_n dX1_scoreWay_11 2 rfl ?_
  refine r_icmp_ge (tgt := 49) dX1_scoreWay_12 (by decide) (fun c1 => ?_) (fun c1 => ?_)
  · rw [if_pos c1] at h
    obtain ⟨r2, hr, h⟩ := wr_some h
    rw [hr] at hk
    refine r_iconst (v := 0) dX1_scoreWay_49 (by decide) ?_
    refine r_istore_n dX1_scoreWay_50 rfl (Nat.le_of_ble_eq_true rfl) [(3, .int 0), (0, .ref a0), (1, .int x1), (2, .int x2)] rfl ?_
    refine r_iconst (v := 0) dX1_scoreWay_51 (by decide) ?_
    refine r_istore dX1_scoreWay_52 (Nat.le_of_ble_eq_true rfl) [(4, .int 0), (3, .int 0), (0, .ref a0), (1, .int x1), (2, .int x2)] rfl ?_
    refine r_sub [2, 3, 1, 0] [(0, .ref a0), (1, .int x1), (3, .int 0), (4, .int 0)] rfl ?_
    exact okX1_scoreWay_L54 h hk
  · rw [if_neg c1] at h
    refine r_aload_n dX1_scoreWay_15 0 rfl ?_
    obtain ⟨h3, h⟩ := chk_some h
    obtain ⟨o4, g5, h⟩ := ob_some h
    refine r_getR (fl_RX1_19 rfl) rfl dX1_scoreWay_16 h3 g5 ?_
    refine r_iload_n dX1_scoreWay_19 3 rfl ?_
    obtain ⟨h6, h⟩ := chk_some h
    obtain ⟨h7, h⟩ := chk_some h
    refine r_iaload dX1_scoreWay_20 h6 h7 ?_
    refine r_if_le (tgt := 43) dX1_scoreWay_21 (by decide) (fun c8 => ?_) (fun c8 => ?_)
    · rw [if_pos c8] at h
      refine r_sub [0, 1, 2, 3] [(0, .ref a0), (1, .int x1), (2, .int x2), (3, .int s.1)] rfl ?_
      exact okX1_scoreWay_b43 h hk
    · rw [if_neg c8] at h
      refine r_aload_n dX1_scoreWay_24 0 rfl ?_
      obtain ⟨o9, g10, h⟩ := ob_some h
      refine r_getR (fl_RX1_22 rfl) rfl dX1_scoreWay_25 h3 g10 ?_
      refine r_aload_n dX1_scoreWay_28 0 rfl ?_
      refine r_getR (fl_RX1_19 rfl) rfl dX1_scoreWay_29 h3 g5 ?_
      refine r_iload_n dX1_scoreWay_32 3 rfl ?_
      refine r_iaload dX1_scoreWay_33 h6 h7 ?_
      refine r_iconst (v := 1) dX1_scoreWay_34 (by decide) ?_
      refine r_isub dX1_scoreWay_35 ?_
      refine r_dup2 dX1_scoreWay_36 rfl rfl ?_
      obtain ⟨h11, h⟩ := chk_some h
      obtain ⟨h12, h⟩ := chk_some h
      refine r_iaload dX1_scoreWay_37 h11 h12 ?_
      refine r_iconst (v := 1) dX1_scoreWay_38 (by decide) ?_
      refine r_iload_n dX1_scoreWay_39 3 rfl ?_
      refine r_ishl dX1_scoreWay_40 ?_
      refine r_ior dX1_scoreWay_41 ?_
      obtain ⟨w13, e14, h⟩ := bnd_some h
      refine r_iastore dX1_scoreWay_42 h11 h12 ?_
      refine r_eqW e14 ?_
      refine r_sub [0, 1, 2, 3] [(0, .ref a0), (1, .int x1), (2, .int x2), (3, .int s.1)] rfl ?_
      exact okX1_scoreWay_b43 h hk
def fX1_scoreWay_L10 (a0 : Nat) (x1 : Int32) (x2 : Int32) (s : Int32 × Wd) : Option (Int32 × Wd) := it (fX1_scoreWay_L10_body a0 x1 x2) FU s
set_option maxHeartbeats 1000000 in
set_option maxRecDepth 20000 in
theorem okX1_scoreWay_L10 {E : Ev} {Q : Option Value → Wd → Prop} {a0 : Nat} {x1 : Int32} {x2 : Int32} {s : Int32 × Wd} {r : Int32 × Wd} (h : fX1_scoreWay_L10 a0 x1 x2 s = some r) (hk : (fun q : Int32 × Wd => Q (some (.int q.1)) q.2) r) : PX1_scoreWay_L10 E Q a0 x1 x2 s := it_runs (fun s r h hk => okX1_scoreWay_L10_body h hk) FU s r h hk
def fX1_scoreWay (a0 : Nat) (x1 : Int32) (x2 : Int32) (w : Wd) : Option (Int32 × Wd) :=
  chk (isO w a0 1) (ob (wR w a0 3) (fun o2 => ob (fJ7_fill_53178 o2 0 w) (fun q4 => fX1_scoreWay_L10 a0 x1 x2 (0, q4))))
set_option maxHeartbeats 1000000 in
set_option maxRecDepth 20000 in
theorem okX1_scoreWay {E : Ev} {Q : Option Value → Wd → Prop} {a0 : Nat} {x1 : Int32} {x2 : Int32} {w : Wd} {q : Int32 × Wd} (h : fX1_scoreWay a0 x1 x2 w = some q) (hk : (fun q : Int32 × Wd => Q (some (.int q.1)) q.2) q) : Runs E mX1_scoreWay (7, 0, false) Q 0 0 [(0, .ref a0), (1, .int x1), (2, .int x2)] [] w := by
  unfold fX1_scoreWay at h
  refine r_aload_n dX1_scoreWay_0 0 rfl ?_
  obtain ⟨h1, h⟩ := chk_some h
  obtain ⟨o2, g3, h⟩ := ob_some h
  refine r_getR (fl_RX1_22 rfl) rfl dX1_scoreWay_1 h1 g3 ?_
  refine r_iconst (v := 0) dX1_scoreWay_4 (by decide) ?_
  obtain ⟨q4, g5, h⟩ := ob_some h
  refine r_callS (d' := (6, 0, false)) (As := [.ref o2, .int 0]) (st := []) mds_J7_fill_53178 tm_RX1_32 rfl (by decide) rfl (Nat.le_refl _) (Nat.le_of_ble_eq_true rfl) rfl dX1_scoreWay_5 (ctJ7_fill_53178 g5) (k_V0 ?_)
  refine r_iconst (v := 0) dX1_scoreWay_8 (by decide) ?_
  refine r_istore_n dX1_scoreWay_9 rfl (Nat.le_of_ble_eq_true rfl) [(3, .int 0), (0, .ref a0), (1, .int x1), (2, .int x2)] rfl ?_
  refine r_sub [1, 2, 3, 0] [(0, .ref a0), (1, .int x1), (2, .int x2), (3, .int 0)] rfl ?_
  exact okX1_scoreWay_L10 h hk
set_option maxHeartbeats 1000000 in
set_option maxRecDepth 20000 in
theorem ctX1_scoreWay {E : Ev} {a0 : Nat} {x1 : Int32} {x2 : Int32} {w : Wd} {q : Int32 × Wd} (h : fX1_scoreWay a0 x1 x2 w = some q) : CT E mX1_scoreWay (7, 0, false) [.ref a0, .int x1, .int x2] w (QI q) := CT.of pl_RX1 (Nat.le_of_ble_eq_true rfl) (okX1_scoreWay h ⟨rfl, rfl⟩)
def PX1_search_L26 (E : Ev) (Q : Option Value → Wd → Prop) (a0 : Nat) (a1 : Nat) (x3 : Int32) (s : Int32 × Int32 × Wd) : Prop := Runs E mX1_search (10, 0, false) Q 0 26 [(0, .ref a0), (1, .ref a1), (3, .int x3), (4, .int s.1), (5, .int s.2.1)] [] s.2.2
def fX1_search_b96 (w : Wd) : Option (Wd) :=
  some w
set_option maxHeartbeats 1000000 in
set_option maxRecDepth 20000 in
theorem okX1_search_b96 {E : Ev} {Q : Option Value → Wd → Prop} {w : Wd} {q : Wd} (h : fX1_search_b96 w = some q) (hk : (fun q : Wd => Q none q) q) : Runs E mX1_search (10, 0, false) Q 0 96 [] [] w := by
  unfold fX1_search_b96 at h
  rw [← Option.some.inj h] at hk
  exact r_return dX1_search_96 rfl hk
def fX1_search_b79 (a0 : Nat) (a1 : Nat) (x3 : Int32) (x5 : Int32) (w : Wd) : Option ((Int32 × Int32 × Wd) ⊕ (Wd)) :=
  chk (isO w a1 0) (chk (isO w a0 1) (ob (fX1_advance a0 (wI w a1 3) x3 w) (fun q3 => some (.inl (q3.1, (x5 + 1), q3.2)))))
set_option maxHeartbeats 1000000 in
set_option maxRecDepth 20000 in
theorem okX1_search_b79 {E : Ev} {Q : Option Value → Wd → Prop} {a0 : Nat} {a1 : Nat} {x3 : Int32} {x5 : Int32} {w : Wd} {q : (Int32 × Int32 × Wd) ⊕ (Wd)} (h : fX1_search_b79 a0 a1 x3 x5 w = some q) (hk : (Sum.elim (PX1_search_L26 E Q a0 a1 x3) (fun q : Wd => Q none q)) q) : Runs E mX1_search (10, 0, false) Q 0 79 [(0, .ref a0), (1, .ref a1), (3, .int x3), (5, .int x5)] [] w := by
  unfold fX1_search_b79 at h
  refine r_aload_n dX1_search_79 0 rfl ?_
  refine r_aload_n dX1_search_80 1 rfl ?_
  obtain ⟨h1, h⟩ := chk_some h
  refine r_getI (fl_RX1_38 rfl) rfl dX1_search_81 h1 ?_
  refine r_iload_n dX1_search_84 2 rfl ?_
  obtain ⟨h2, h⟩ := chk_some h
  obtain ⟨q3, g4, h⟩ := ob_some h
  refine r_callV (d' := (6, 0, false)) (As := [.int (wI w a1 3), .int x3]) (st := []) mdv_X1_advance tm_RX1_53 (by decide) rfl rfl (by decide) rfl (Nat.le_refl _) (Nat.le_of_ble_eq_true rfl) rfl dX1_search_85 h2 (ctX1_advance g4) (k_I0 ?_)
  refine r_istore dX1_search_88 (Nat.le_of_ble_eq_true rfl) [(4, .int q3.1), (0, .ref a0), (1, .ref a1), (3, .int x3), (5, .int x5)] rfl ?_
  refine r_iinc (v := (x5 + 1)) dX1_search_90 4 rfl rfl (Nat.le_of_ble_eq_true rfl) [(5, .int (x5 + 1)), (4, .int q3.1), (0, .ref a0), (1, .ref a1), (3, .int x3)] rfl ?_
  refine r_goto (tgt := 26) dX1_search_93 (by decide) ?_
  rw [← Option.some.inj h] at hk
  refine r_sub [2, 3, 4, 1, 0] [(0, .ref a0), (1, .ref a1), (3, .int x3), (4, .int q3.1), (5, .int (x5 + 1))] rfl ?_
  exact hk
def fX1_search_L26_body (a0 : Nat) (a1 : Nat) (x3 : Int32) (s : Int32 × Int32 × Wd) : Option ((Int32 × Int32 × Wd) ⊕ (Wd)) :=
  if (2401 : Int32) ≤ s.2.1 then (wr (fX1_search_b96 s.2.2)) else (if s.1 = 0 then (wr (fX1_search_b96 s.2.2)) else (chk (isO s.2.2 a1 0) (chk (isO s.2.2 a0 1) (ob (fX1_scoreWay a0 (wI s.2.2 a1 3) x3 s.2.2) (fun q7 => chk (isO q7.2 a0 1) (if q7.1 ≤ (wI q7.2 a0 1) then (fX1_search_b79 a0 a1 x3 s.2.1 q7.2) else (bnd (sI q7.2 a0 1 q7.1) (fun w11 => chk (isO w11 a0 1) (ob (wR w11 a0 2) (fun o14 => ob (wR w11 a0 0) (fun o16 => chk (isA w11 o14 0) (chk (isA w11 o16 0) (chk (¬ (0 : Int32) < 0 ∧ ¬ (0 : Int32) < 0 ∧ ¬ (4 : Int32) < 0 ∧ (0 : Int32).toNatClampNeg + (4 : Int32).toNatClampNeg ≤ wn w11 o14 ∧ (0 : Int32).toNatClampNeg + (4 : Int32).toNatClampNeg ≤ wn w11 o16) (bnd (cpI w11 o14 o16 (0 : Int32).toNatClampNeg (0 : Int32).toNatClampNeg (4 : Int32).toNatClampNeg) (fun w21 => fX1_search_b79 a0 a1 x3 s.2.1 w21)))))))))))))))
set_option maxHeartbeats 1000000 in
set_option maxRecDepth 20000 in
theorem okX1_search_L26_body {E : Ev} {Q : Option Value → Wd → Prop} {a0 : Nat} {a1 : Nat} {x3 : Int32} {s : Int32 × Int32 × Wd} {r : (Int32 × Int32 × Wd) ⊕ (Wd)} (h : fX1_search_L26_body a0 a1 x3 s = some r) (hk : (Sum.elim (PX1_search_L26 E Q a0 a1 x3) (fun q : Wd => Q none q)) r) : PX1_search_L26 E Q a0 a1 x3 s := by
  unfold fX1_search_L26_body at h
  unfold PX1_search_L26
  refine r_iload dX1_search_26 4 rfl ?_
  refine r_sipush (v := 2401) dX1_search_28 (by decide) ?_
  refine r_icmp_ge (tgt := 96) dX1_search_31 (by decide) (fun c1 => ?_) (fun c1 => ?_)
  · rw [if_pos c1] at h
    obtain ⟨r2, hr, h⟩ := wr_some h
    rw [hr] at hk
    refine r_sub [] [] rfl ?_
    exact okX1_search_b96 h hk
  · rw [if_neg c1] at h
    refine r_iload dX1_search_34 3 rfl ?_
    refine r_if_eq (tgt := 96) dX1_search_36 (by decide) (fun c3 => ?_) (fun c3 => ?_)
    · rw [if_pos c3] at h
      obtain ⟨r4, hr, h⟩ := wr_some h
      rw [hr] at hk
      refine r_sub [] [] rfl ?_
      exact okX1_search_b96 h hk
    · rw [if_neg c3] at h
      refine r_aload_n dX1_search_39 0 rfl ?_
      refine r_aload_n dX1_search_40 1 rfl ?_
      obtain ⟨h5, h⟩ := chk_some h
      refine r_getI (fl_RX1_38 rfl) rfl dX1_search_41 h5 ?_
      refine r_iload_n dX1_search_44 2 rfl ?_
      obtain ⟨h6, h⟩ := chk_some h
      obtain ⟨q7, g8, h⟩ := ob_some h
      refine r_callV (d' := (7, 0, false)) (As := [.int (wI s.2.2 a1 3), .int x3]) (st := []) mdv_X1_scoreWay tm_RX1_43 (by decide) rfl rfl (by decide) rfl (Nat.le_refl _) (Nat.le_of_ble_eq_true rfl) rfl dX1_search_45 h6 (ctX1_scoreWay g8) (k_I0 ?_)
      refine r_istore dX1_search_48 (Nat.le_of_ble_eq_true rfl) [(6, .int q7.1), (0, .ref a0), (1, .ref a1), (3, .int x3), (4, .int s.1), (5, .int s.2.1)] rfl ?_
      refine r_iload dX1_search_50 0 rfl ?_
      refine r_aload_n dX1_search_52 1 rfl ?_
      obtain ⟨h9, h⟩ := chk_some h
      refine r_getI (fl_RX1_15 rfl) rfl dX1_search_53 h9 ?_
      refine r_icmp_le (tgt := 79) dX1_search_56 (by decide) (fun c10 => ?_) (fun c10 => ?_)
      · rw [if_pos c10] at h
        refine r_sub [1, 2, 3, 5] [(0, .ref a0), (1, .ref a1), (3, .int x3), (5, .int s.2.1)] rfl ?_
        exact okX1_search_b79 h hk
      · rw [if_neg c10] at h
        refine r_aload_n dX1_search_59 1 rfl ?_
        refine r_iload dX1_search_60 0 rfl ?_
        obtain ⟨w11, e12, h⟩ := bnd_some h
        refine r_putI (fl_RX1_15 rfl) rfl rfl (ck_ty (by decide) 1 (by decide)) rfl rfl dX1_search_62 h9 ?_
        refine r_eqW e12 ?_
        refine r_aload_n dX1_search_65 1 rfl ?_
        obtain ⟨h13, h⟩ := chk_some h
        obtain ⟨o14, g15, h⟩ := ob_some h
        refine r_getR (fl_RX1_19 rfl) rfl dX1_search_66 h13 g15 ?_
        refine r_iconst (v := 0) dX1_search_69 (by decide) ?_
        refine r_aload_n dX1_search_70 1 rfl ?_
        obtain ⟨o16, g17, h⟩ := ob_some h
        refine r_getR (fl_RX1_9 rfl) rfl dX1_search_71 h13 g17 ?_
        refine r_iconst (v := 0) dX1_search_74 (by decide) ?_
        refine r_iconst (v := 4) dX1_search_75 (by decide) ?_
        obtain ⟨h18, h⟩ := chk_some h
        obtain ⟨h19, h⟩ := chk_some h
        obtain ⟨h20, h⟩ := chk_some h
        obtain ⟨w21, e22, h⟩ := bnd_some h
        refine r_copyI rfl (Nat.le_of_ble_eq_true rfl) (Nat.le_of_ble_eq_true rfl) tm_RX1_47 tnat_ac tst_ac ti_sys dX1_search_76 h18 h19 h20.1 h20.2.1 h20.2.2.1 h20.2.2.2.1 h20.2.2.2.2 ?_
        refine r_eqW e22 ?_
        refine r_sub [1, 2, 3, 5] [(0, .ref a0), (1, .ref a1), (3, .int x3), (5, .int s.2.1)] rfl ?_
        exact okX1_search_b79 h hk
def fX1_search_L26 (a0 : Nat) (a1 : Nat) (x3 : Int32) (s : Int32 × Int32 × Wd) : Option (Wd) := it (fX1_search_L26_body a0 a1 x3) FU s
set_option maxHeartbeats 1000000 in
set_option maxRecDepth 20000 in
theorem okX1_search_L26 {E : Ev} {Q : Option Value → Wd → Prop} {a0 : Nat} {a1 : Nat} {x3 : Int32} {s : Int32 × Int32 × Wd} {r : Wd} (h : fX1_search_L26 a0 a1 x3 s = some r) (hk : (fun q : Wd => Q none q) r) : PX1_search_L26 E Q a0 a1 x3 s := it_runs (fun s r h hk => okX1_search_L26_body h hk) FU s r h hk
def fX1_search (a0 : Nat) (a1 : Nat) (a2 : Nat) (x3 : Int32) (w : Wd) : Option (Wd) :=
  chk (isO w a0 1) (ob (fX1_scoreLoads a0 a1 a2 x3 w) (fun q2 => chk (isO q2 a0 1) (ob (wR q2 a0 2) (fun o5 => ob (fJ7_fill_53178 o5 0 q2) (fun q7 => chk (isO q7 a0 1) (bnd (sI q7 a0 1 (-1)) (fun w10 => fX1_search_L26 a0 a1 x3 (1, 0, w10))))))))
set_option maxHeartbeats 1000000 in
set_option maxRecDepth 20000 in
theorem okX1_search {E : Ev} {Q : Option Value → Wd → Prop} {a0 : Nat} {a1 : Nat} {a2 : Nat} {x3 : Int32} {w : Wd} {q : Wd} (h : fX1_search a0 a1 a2 x3 w = some q) (hk : (fun q : Wd => Q none q) q) : Runs E mX1_search (10, 0, false) Q 0 0 [(0, .ref a0), (1, .ref a1), (2, .ref a2), (3, .int x3)] [] w := by
  unfold fX1_search at h
  refine r_aload_n dX1_search_0 0 rfl ?_
  refine r_aload_n dX1_search_1 1 rfl ?_
  refine r_aload_n dX1_search_2 2 rfl ?_
  refine r_iload_n dX1_search_3 3 rfl ?_
  obtain ⟨h1, h⟩ := chk_some h
  obtain ⟨q2, g3, h⟩ := ob_some h
  refine r_callV (d' := (9, 0, false)) (As := [.ref a1, .ref a2, .int x3]) (st := []) mdv_X1_scoreLoads tm_RX1_28 (by decide) rfl rfl (by decide) rfl (Nat.le_refl _) (Nat.le_of_ble_eq_true rfl) rfl dX1_search_4 h1 (ctX1_scoreLoads g3) (k_V0 ?_)
  refine r_aload_n dX1_search_7 0 rfl ?_
  obtain ⟨h4, h⟩ := chk_some h
  obtain ⟨o5, g6, h⟩ := ob_some h
  refine r_getR (fl_RX1_19 rfl) rfl dX1_search_8 h4 g6 ?_
  refine r_iconst (v := 0) dX1_search_11 (by decide) ?_
  obtain ⟨q7, g8, h⟩ := ob_some h
  refine r_callS (d' := (6, 0, false)) (As := [.ref o5, .int 0]) (st := []) mds_J7_fill_53178 tm_RX1_32 rfl (by decide) rfl (Nat.le_refl _) (Nat.le_of_ble_eq_true rfl) rfl dX1_search_12 (ctJ7_fill_53178 g8) (k_V0 ?_)
  refine r_aload_n dX1_search_15 0 rfl ?_
  refine r_iconst (v := (-1)) dX1_search_16 (by decide) ?_
  obtain ⟨h9, h⟩ := chk_some h
  obtain ⟨w10, e11, h⟩ := bnd_some h
  refine r_putI (fl_RX1_15 rfl) rfl rfl (ck_ty (by decide) 1 (by decide)) rfl rfl dX1_search_17 h9 ?_
  refine r_eqW e11 ?_
  refine r_iconst (v := 1) dX1_search_20 (by decide) ?_
  refine r_istore dX1_search_21 (Nat.le_of_ble_eq_true rfl) [(4, .int 1), (0, .ref a0), (1, .ref a1), (2, .ref a2), (3, .int x3)] rfl ?_
  refine r_iconst (v := 0) dX1_search_23 (by decide) ?_
  refine r_istore dX1_search_24 (Nat.le_of_ble_eq_true rfl) [(5, .int 0), (4, .int 1), (0, .ref a0), (1, .ref a1), (2, .ref a2), (3, .int x3)] rfl ?_
  refine r_sub [2, 3, 5, 1, 0] [(0, .ref a0), (1, .ref a1), (3, .int x3), (4, .int 1), (5, .int 0)] rfl ?_
  exact okX1_search_L26 h hk
set_option maxHeartbeats 1000000 in
set_option maxRecDepth 20000 in
theorem ctX1_search {E : Ev} {a0 : Nat} {a1 : Nat} {a2 : Nat} {x3 : Int32} {w : Wd} {q : Wd} (h : fX1_search a0 a1 a2 x3 w = some q) : CT E mX1_search (10, 0, false) [.ref a0, .ref a1, .ref a2, .int x3] w (QV q) := CT.of pl_RX1 (Nat.le_of_ble_eq_true rfl) (okX1_search h ⟨rfl, rfl⟩)
def PX2_hasLearnt_L2 (E : Ev) (Q : Option Value → Wd → Prop) (a0 : Nat) (a1 : Nat) (s : Int32 × Wd) : Prop := Runs E mX2_hasLearnt (7, 0, false) Q 0 2 [(0, .ref a0), (1, .ref a1), (2, .int s.1)] [] s.2
def fX2_hasLearnt_b30 (a0 : Nat) (a1 : Nat) (x2 : Int32) (w : Wd) : Option ((Int32 × Wd) ⊕ (Int32 × Wd)) :=
  some (.inl ((x2 + 1), w))
set_option maxHeartbeats 1000000 in
set_option maxRecDepth 20000 in
theorem okX2_hasLearnt_b30 {E : Ev} {Q : Option Value → Wd → Prop} {a0 : Nat} {a1 : Nat} {x2 : Int32} {w : Wd} {q : (Int32 × Wd) ⊕ (Int32 × Wd)} (h : fX2_hasLearnt_b30 a0 a1 x2 w = some q) (hk : (Sum.elim (PX2_hasLearnt_L2 E Q a0 a1) (fun q : Int32 × Wd => Q (some (.int q.1)) q.2)) q) : Runs E mX2_hasLearnt (7, 0, false) Q 0 30 [(0, .ref a0), (1, .ref a1), (2, .int x2)] [] w := by
  unfold fX2_hasLearnt_b30 at h
  refine r_iinc (v := (x2 + 1)) dX2_hasLearnt_30 2 rfl rfl (Nat.le_of_ble_eq_true rfl) [(2, .int (x2 + 1)), (0, .ref a0), (1, .ref a1)] rfl ?_
  refine r_goto (tgt := 2) dX2_hasLearnt_33 (by decide) ?_
  rw [← Option.some.inj h] at hk
  refine r_sub [1, 2, 0] [(0, .ref a0), (1, .ref a1), (2, .int (x2 + 1))] rfl ?_
  exact hk
def fX2_hasLearnt_L2_body (a0 : Nat) (a1 : Nat) (s : Int32 × Wd) : Option ((Int32 × Wd) ⊕ (Int32 × Wd)) :=
  if (12 : Int32) ≤ s.1 then (wr (some (1, s.2))) else (chk (isO s.2 a1 6) (ob (fX6_intAt a1 s.1 s.2) (fun q4 => if q4.1 = 0 then (fX2_hasLearnt_b30 a0 a1 s.1 q4.2) else (chk (isO q4.2 a0 2) (ob (wR q4.2 a0 0) (fun o8 => chk (isA q4.2 o8 0) (chk (inb s.1 (wn q4.2 o8)) (if (wI q4.2 o8 (s.1).toNatClampNeg) = q4.1 then (fX2_hasLearnt_b30 a0 a1 s.1 q4.2) else (wr (some (0, q4.2)))))))))))
set_option maxHeartbeats 1000000 in
set_option maxRecDepth 20000 in
theorem okX2_hasLearnt_L2_body {E : Ev} {Q : Option Value → Wd → Prop} {a0 : Nat} {a1 : Nat} {s : Int32 × Wd} {r : (Int32 × Wd) ⊕ (Int32 × Wd)} (h : fX2_hasLearnt_L2_body a0 a1 s = some r) (hk : (Sum.elim (PX2_hasLearnt_L2 E Q a0 a1) (fun q : Int32 × Wd => Q (some (.int q.1)) q.2)) r) : PX2_hasLearnt_L2 E Q a0 a1 s := by
  unfold fX2_hasLearnt_L2_body at h
  unfold PX2_hasLearnt_L2
  refine r_iload_n dX2_hasLearnt_2 2 rfl ?_
  refine r_bipush (v := 12) dX2_hasLearnt_3 (by decide) ?_
  refine r_icmp_ge (tgt := 36) dX2_hasLearnt_5 (by decide) (fun c1 => ?_) (fun c1 => ?_)
  · rw [if_pos c1] at h
    obtain ⟨r2, hr, h⟩ := wr_some h
    rw [hr] at hk
    refine r_iconst (v := 1) dX2_hasLearnt_36 (by decide) ?_
    rw [← Option.some.inj h] at hk
    exact r_ireturn dX2_hasLearnt_37 rfl rfl hk
  · rw [if_neg c1] at h
    refine r_aload_n dX2_hasLearnt_8 1 rfl ?_
    refine r_iload_n dX2_hasLearnt_9 2 rfl ?_
    obtain ⟨h3, h⟩ := chk_some h
    obtain ⟨q4, g5, h⟩ := ob_some h
    refine r_callV (d' := (6, 0, false)) (As := [.int s.1]) (st := []) mdv_X6_intAt tm_RX2_64 (by decide) rfl rfl (by decide) rfl (Nat.le_refl _) (Nat.le_of_ble_eq_true rfl) rfl dX2_hasLearnt_10 h3 (ctX6_intAt g5) (k_I0 ?_)
    refine r_istore_n dX2_hasLearnt_13 rfl (Nat.le_of_ble_eq_true rfl) [(3, .int q4.1), (0, .ref a0), (1, .ref a1), (2, .int s.1)] rfl ?_
    refine r_iload_n dX2_hasLearnt_14 0 rfl ?_
    refine r_if_eq (tgt := 30) dX2_hasLearnt_15 (by decide) (fun c6 => ?_) (fun c6 => ?_)
    · rw [if_pos c6] at h
      refine r_sub [1, 2, 3] [(0, .ref a0), (1, .ref a1), (2, .int s.1)] rfl ?_
      exact okX2_hasLearnt_b30 h hk
    · rw [if_neg c6] at h
      refine r_aload_n dX2_hasLearnt_18 1 rfl ?_
      obtain ⟨h7, h⟩ := chk_some h
      obtain ⟨o8, g9, h⟩ := ob_some h
      refine r_getR (fl_RX2_9 rfl) rfl dX2_hasLearnt_19 h7 g9 ?_
      refine r_iload_n dX2_hasLearnt_22 3 rfl ?_
      obtain ⟨h10, h⟩ := chk_some h
      obtain ⟨h11, h⟩ := chk_some h
      refine r_iaload dX2_hasLearnt_23 h10 h11 ?_
      refine r_iload_n dX2_hasLearnt_24 0 rfl ?_
      refine r_icmp_eq (tgt := 30) dX2_hasLearnt_25 (by decide) (fun c12 => ?_) (fun c12 => ?_)
      · rw [if_pos c12] at h
        refine r_sub [1, 2, 3] [(0, .ref a0), (1, .ref a1), (2, .int s.1)] rfl ?_
        exact okX2_hasLearnt_b30 h hk
      · rw [if_neg c12] at h
        obtain ⟨r13, hr, h⟩ := wr_some h
        rw [hr] at hk
        refine r_iconst (v := 0) dX2_hasLearnt_28 (by decide) ?_
        rw [← Option.some.inj h] at hk
        exact r_ireturn dX2_hasLearnt_29 rfl rfl hk
def fX2_hasLearnt_L2 (a0 : Nat) (a1 : Nat) (s : Int32 × Wd) : Option (Int32 × Wd) := it (fX2_hasLearnt_L2_body a0 a1) FU s
set_option maxHeartbeats 1000000 in
set_option maxRecDepth 20000 in
theorem okX2_hasLearnt_L2 {E : Ev} {Q : Option Value → Wd → Prop} {a0 : Nat} {a1 : Nat} {s : Int32 × Wd} {r : Int32 × Wd} (h : fX2_hasLearnt_L2 a0 a1 s = some r) (hk : (fun q : Int32 × Wd => Q (some (.int q.1)) q.2) r) : PX2_hasLearnt_L2 E Q a0 a1 s := it_runs (fun s r h hk => okX2_hasLearnt_L2_body h hk) FU s r h hk
def fX2_hasLearnt (a0 : Nat) (a1 : Nat) (w : Wd) : Option (Int32 × Wd) :=
  fX2_hasLearnt_L2 a0 a1 (0, w)
set_option maxHeartbeats 1000000 in
set_option maxRecDepth 20000 in
theorem okX2_hasLearnt {E : Ev} {Q : Option Value → Wd → Prop} {a0 : Nat} {a1 : Nat} {w : Wd} {q : Int32 × Wd} (h : fX2_hasLearnt a0 a1 w = some q) (hk : (fun q : Int32 × Wd => Q (some (.int q.1)) q.2) q) : Runs E mX2_hasLearnt (7, 0, false) Q 0 0 [(0, .ref a0), (1, .ref a1)] [] w := by
  unfold fX2_hasLearnt at h
  refine r_iconst (v := 0) dX2_hasLearnt_0 (by decide) ?_
  refine r_istore_n dX2_hasLearnt_1 rfl (Nat.le_of_ble_eq_true rfl) [(2, .int 0), (0, .ref a0), (1, .ref a1)] rfl ?_
  refine r_sub [1, 2, 0] [(0, .ref a0), (1, .ref a1), (2, .int 0)] rfl ?_
  exact okX2_hasLearnt_L2 h hk
set_option maxHeartbeats 1000000 in
set_option maxRecDepth 20000 in
theorem ctX2_hasLearnt {E : Ev} {a0 : Nat} {a1 : Nat} {w : Wd} {q : Int32 × Wd} (h : fX2_hasLearnt a0 a1 w = some q) : CT E mX2_hasLearnt (7, 0, false) [.ref a0, .ref a1] w (QI q) := CT.of pl_RX2 (Nat.le_of_ble_eq_true rfl) (okX2_hasLearnt h ⟨rfl, rfl⟩)
def PX2_isA_L7 (E : Ev) (Q : Option Value → Wd → Prop) (x1 : Int32) (s : Int32 × Int32 × Wd) : Prop := Runs E mX2_isA (6, 0, false) Q 0 7 [(1, .int x1), (2, .int s.1), (3, .int s.2.1)] [] s.2.2
def fX2_isA_b37 (w : Wd) : Option (Int32 × Wd) :=
  some (0, w)
set_option maxHeartbeats 1000000 in
set_option maxRecDepth 20000 in
theorem okX2_isA_b37 {E : Ev} {Q : Option Value → Wd → Prop} {w : Wd} {q : Int32 × Wd} (h : fX2_isA_b37 w = some q) (hk : (fun q : Int32 × Wd => Q (some (.int q.1)) q.2) q) : Runs E mX2_isA (6, 0, false) Q 0 37 [] [] w := by
  unfold fX2_isA_b37 at h
  refine r_iconst (v := 0) dX2_isA_37 (by decide) ?_
  rw [← Option.some.inj h] at hk
  exact r_ireturn dX2_isA_38 rfl rfl hk
def fX2_isA_L7_body (x1 : Int32) (s : Int32 × Int32 × Wd) : Option ((Int32 × Int32 × Wd) ⊕ (Int32 × Wd)) :=
  if (7 : Int32) ≤ s.2.1 then (wr (fX2_isA_b37 s.2.2)) else (if s.1 = (-1) then (wr (fX2_isA_b37 s.2.2)) else (if s.1 = x1 then (wr (some (1, s.2.2))) else (chk (inb s.1 (saV 0).length) (bnd ((saV 0).getD (s.1).toNatClampNeg 0) (fun u7 => some (.inl (u7, (s.2.1 + 1), s.2.2)))))))
set_option maxHeartbeats 1000000 in
set_option maxRecDepth 20000 in
theorem okX2_isA_L7_body {E : Ev} {Q : Option Value → Wd → Prop} {x1 : Int32} {s : Int32 × Int32 × Wd} {r : (Int32 × Int32 × Wd) ⊕ (Int32 × Wd)} (h : fX2_isA_L7_body x1 s = some r) (hk : (Sum.elim (PX2_isA_L7 E Q x1) (fun q : Int32 × Wd => Q (some (.int q.1)) q.2)) r) : PX2_isA_L7 E Q x1 s := by
  unfold fX2_isA_L7_body at h
  unfold PX2_isA_L7
  refine r_iload_n dX2_isA_7 2 rfl ?_
  refine r_bipush (v := 7) dX2_isA_8 (by decide) ?_
  refine r_icmp_ge (tgt := 37) dX2_isA_10 (by decide) (fun c1 => ?_) (fun c1 => ?_)
  · rw [if_pos c1] at h
    obtain ⟨r2, hr, h⟩ := wr_some h
    rw [hr] at hk
    refine r_sub [] [] rfl ?_
    exact okX2_isA_b37 h hk
  · rw [if_neg c1] at h
    refine r_iload_n dX2_isA_13 1 rfl ?_
    refine r_iconst (v := (-1)) dX2_isA_14 (by decide) ?_
    refine r_icmp_eq (tgt := 37) dX2_isA_15 (by decide) (fun c3 => ?_) (fun c3 => ?_)
    · rw [if_pos c3] at h
      obtain ⟨r4, hr, h⟩ := wr_some h
      rw [hr] at hk
      refine r_sub [] [] rfl ?_
      exact okX2_isA_b37 h hk
    · rw [if_neg c3] at h
      refine r_iload_n dX2_isA_18 1 rfl ?_
      refine r_iload_n dX2_isA_19 0 rfl ?_
      refine r_icmp_ne (tgt := 25) dX2_isA_20 (by decide) (fun c5 => ?_) (fun c5 => ?_)
      · rw [if_neg c5] at h
        refine r_getsN 0 (by decide) rfl (by decide) dX2_isA_25 ?_
        refine r_iload_n dX2_isA_28 1 rfl ?_
        obtain ⟨h6, h⟩ := chk_some h
        refine r_siaload 0 (by decide) dX2_isA_29 h6 ?_
        obtain ⟨u7, e8, h⟩ := bnd_some h
        refine r_eqI e8 ?_
        refine r_istore_n dX2_isA_30 rfl (Nat.le_of_ble_eq_true rfl) [(2, .int u7), (1, .int x1), (3, .int s.2.1)] rfl ?_
        refine r_iinc (v := (s.2.1 + 1)) dX2_isA_31 2 rfl rfl (Nat.le_of_ble_eq_true rfl) [(3, .int (s.2.1 + 1)), (2, .int u7), (1, .int x1)] rfl ?_
        refine r_goto (tgt := 7) dX2_isA_34 (by decide) ?_
        rw [← Option.some.inj h] at hk
        refine r_sub [2, 1, 0] [(1, .int x1), (2, .int u7), (3, .int (s.2.1 + 1))] rfl ?_
        exact hk
      · rw [if_pos c5] at h
        obtain ⟨r9, hr, h⟩ := wr_some h
        rw [hr] at hk
        refine r_iconst (v := 1) dX2_isA_23 (by decide) ?_
        rw [← Option.some.inj h] at hk
        exact r_ireturn dX2_isA_24 rfl rfl hk
def fX2_isA_L7 (x1 : Int32) (s : Int32 × Int32 × Wd) : Option (Int32 × Wd) := it (fX2_isA_L7_body x1) FU s
set_option maxHeartbeats 1000000 in
set_option maxRecDepth 20000 in
theorem okX2_isA_L7 {E : Ev} {Q : Option Value → Wd → Prop} {x1 : Int32} {s : Int32 × Int32 × Wd} {r : Int32 × Wd} (h : fX2_isA_L7 x1 s = some r) (hk : (fun q : Int32 × Wd => Q (some (.int q.1)) q.2) r) : PX2_isA_L7 E Q x1 s := it_runs (fun s r h hk => okX2_isA_L7_body h hk) FU s r h hk
def fX2_isA (a0 : Nat) (x1 : Int32) (w : Wd) : Option (Int32 × Wd) :=
  chk (isO w a0 2) (bnd (wI w a0 2) (fun u2 => fX2_isA_L7 x1 (u2, 0, w)))
set_option maxHeartbeats 1000000 in
set_option maxRecDepth 20000 in
theorem okX2_isA {E : Ev} {Q : Option Value → Wd → Prop} {a0 : Nat} {x1 : Int32} {w : Wd} {q : Int32 × Wd} (h : fX2_isA a0 x1 w = some q) (hk : (fun q : Int32 × Wd => Q (some (.int q.1)) q.2) q) : Runs E mX2_isA (6, 0, false) Q 0 0 [(0, .ref a0), (1, .int x1)] [] w := by
  unfold fX2_isA at h
  refine r_aload_n dX2_isA_0 0 rfl ?_
  obtain ⟨h1, h⟩ := chk_some h
  refine r_getI (fl_RX2_18 rfl) rfl dX2_isA_1 h1 ?_
  obtain ⟨u2, e3, h⟩ := bnd_some h
  refine r_eqI e3 ?_
  refine r_istore_n dX2_isA_4 rfl (Nat.le_of_ble_eq_true rfl) [(2, .int u2), (0, .ref a0), (1, .int x1)] rfl ?_
  refine r_iconst (v := 0) dX2_isA_5 (by decide) ?_
  refine r_istore_n dX2_isA_6 rfl (Nat.le_of_ble_eq_true rfl) [(3, .int 0), (2, .int u2), (0, .ref a0), (1, .int x1)] rfl ?_
  refine r_sub [3, 1, 0] [(1, .int x1), (2, .int u2), (3, .int 0)] rfl ?_
  exact okX2_isA_L7 h hk
set_option maxHeartbeats 1000000 in
set_option maxRecDepth 20000 in
theorem ctX2_isA {E : Ev} {a0 : Nat} {x1 : Int32} {w : Wd} {q : Int32 × Wd} (h : fX2_isA a0 x1 w = some q) : CT E mX2_isA (6, 0, false) [.ref a0, .int x1] w (QI q) := CT.of pl_RX2 (Nat.le_of_ble_eq_true rfl) (okX2_isA h ⟨rfl, rfl⟩)
def PX2_learnDay_L2 (E : Ev) (Q : Option Value → Wd → Prop) (a0 : Nat) (a1 : Nat) (s : Int32 × Wd) : Prop := Runs E mX2_learnDay (8, 0, false) Q 0 2 [(0, .ref a0), (1, .ref a1), (2, .int s.1)] [] s.2
def fX2_learnDay_L2_body (a0 : Nat) (a1 : Nat) (s : Int32 × Wd) : Option ((Int32 × Wd) ⊕ (Wd)) :=
  if (12 : Int32) ≤ s.1 then (wr (some s.2)) else (chk (isO s.2 a1 6) (ob (fX6_intAt a1 s.1 s.2) (fun q4 => chk (isO q4.2 a0 2) (ob (fX2_learn a0 s.1 q4.1 q4.2) (fun q7 => some (.inl ((s.1 + 1), q7.2)))))))
set_option maxHeartbeats 1000000 in
set_option maxRecDepth 20000 in
theorem okX2_learnDay_L2_body {E : Ev} {Q : Option Value → Wd → Prop} {a0 : Nat} {a1 : Nat} {s : Int32 × Wd} {r : (Int32 × Wd) ⊕ (Wd)} (h : fX2_learnDay_L2_body a0 a1 s = some r) (hk : (Sum.elim (PX2_learnDay_L2 E Q a0 a1) (fun q : Wd => Q none q)) r) : PX2_learnDay_L2 E Q a0 a1 s := by
  unfold fX2_learnDay_L2_body at h
  unfold PX2_learnDay_L2
  refine r_iload_n dX2_learnDay_2 2 rfl ?_
  refine r_bipush (v := 12) dX2_learnDay_3 (by decide) ?_
  refine r_icmp_ge (tgt := 25) dX2_learnDay_5 (by decide) (fun c1 => ?_) (fun c1 => ?_)
  · rw [if_pos c1] at h
    obtain ⟨r2, hr, h⟩ := wr_some h
    rw [hr] at hk
    rw [← Option.some.inj h] at hk
    exact r_return dX2_learnDay_25 rfl hk
  · rw [if_neg c1] at h
    refine r_aload_n dX2_learnDay_8 0 rfl ?_
    refine r_iload_n dX2_learnDay_9 2 rfl ?_
    refine r_aload_n dX2_learnDay_10 1 rfl ?_
    refine r_iload_n dX2_learnDay_11 2 rfl ?_
    obtain ⟨h3, h⟩ := chk_some h
    obtain ⟨q4, g5, h⟩ := ob_some h
    refine r_callV (d' := (6, 0, false)) (As := [.int s.1]) (st := [.int s.1, .ref a0]) mdv_X6_intAt tm_RX2_64 (by decide) rfl rfl (by decide) rfl (Nat.le_refl _) (Nat.le_of_ble_eq_true rfl) rfl dX2_learnDay_12 h3 (ctX6_intAt g5) (k_I0 ?_)
    obtain ⟨h6, h⟩ := chk_some h
    obtain ⟨q7, g8, h⟩ := ob_some h
    refine r_callV (d' := (7, 0, false)) (As := [.int s.1, .int q4.1]) (st := []) mdv_X2_learn tm_RX2_70 (by decide) rfl rfl (by decide) rfl (Nat.le_refl _) (Nat.le_of_ble_eq_true rfl) rfl dX2_learnDay_15 h6 (ctX2_learn g8) (k_I0 ?_)
    refine r_pop dX2_learnDay_18 rfl ?_
    refine r_iinc (v := (s.1 + 1)) dX2_learnDay_19 2 rfl rfl (Nat.le_of_ble_eq_true rfl) [(2, .int (s.1 + 1)), (0, .ref a0), (1, .ref a1)] rfl ?_
    refine r_goto (tgt := 2) dX2_learnDay_22 (by decide) ?_
    rw [← Option.some.inj h] at hk
    refine r_sub [1, 2, 0] [(0, .ref a0), (1, .ref a1), (2, .int (s.1 + 1))] rfl ?_
    exact hk
def fX2_learnDay_L2 (a0 : Nat) (a1 : Nat) (s : Int32 × Wd) : Option (Wd) := it (fX2_learnDay_L2_body a0 a1) FU s
set_option maxHeartbeats 1000000 in
set_option maxRecDepth 20000 in
theorem okX2_learnDay_L2 {E : Ev} {Q : Option Value → Wd → Prop} {a0 : Nat} {a1 : Nat} {s : Int32 × Wd} {r : Wd} (h : fX2_learnDay_L2 a0 a1 s = some r) (hk : (fun q : Wd => Q none q) r) : PX2_learnDay_L2 E Q a0 a1 s := it_runs (fun s r h hk => okX2_learnDay_L2_body h hk) FU s r h hk
def fX2_learnDay (a0 : Nat) (a1 : Nat) (w : Wd) : Option (Wd) :=
  fX2_learnDay_L2 a0 a1 (0, w)
set_option maxHeartbeats 1000000 in
set_option maxRecDepth 20000 in
theorem okX2_learnDay {E : Ev} {Q : Option Value → Wd → Prop} {a0 : Nat} {a1 : Nat} {w : Wd} {q : Wd} (h : fX2_learnDay a0 a1 w = some q) (hk : (fun q : Wd => Q none q) q) : Runs E mX2_learnDay (8, 0, false) Q 0 0 [(0, .ref a0), (1, .ref a1)] [] w := by
  unfold fX2_learnDay at h
  refine r_iconst (v := 0) dX2_learnDay_0 (by decide) ?_
  refine r_istore_n dX2_learnDay_1 rfl (Nat.le_of_ble_eq_true rfl) [(2, .int 0), (0, .ref a0), (1, .ref a1)] rfl ?_
  refine r_sub [1, 2, 0] [(0, .ref a0), (1, .ref a1), (2, .int 0)] rfl ?_
  exact okX2_learnDay_L2 h hk
set_option maxHeartbeats 1000000 in
set_option maxRecDepth 20000 in
theorem ctX2_learnDay {E : Ev} {a0 : Nat} {a1 : Nat} {w : Wd} {q : Wd} (h : fX2_learnDay a0 a1 w = some q) : CT E mX2_learnDay (8, 0, false) [.ref a0, .ref a1] w (QV q) := CT.of pl_RX2 (Nat.le_of_ble_eq_true rfl) (okX2_learnDay h ⟨rfl, rfl⟩)
def fX3_bodyAt_b28 (s0 : Int32) (w : Wd) : Option (Int32 × Wd) :=
  some (s0, w)
set_option maxHeartbeats 1000000 in
set_option maxRecDepth 20000 in
theorem okX3_bodyAt_b28 {E : Ev} {Q : Option Value → Wd → Prop} {s0 : Int32} {w : Wd} {q : Int32 × Wd} (h : fX3_bodyAt_b28 s0 w = some q) (hk : (fun q : Int32 × Wd => Q (some (.int q.1)) q.2) q) : Runs E mX3_bodyAt (6, 0, false) Q 0 28 [] [.int s0] w := by
  unfold fX3_bodyAt_b28 at h
  rw [← Option.some.inj h] at hk
  exact r_ireturn dX3_bodyAt_28 rfl rfl hk
def fX3_bodyAt_b27 (w : Wd) : Option (Int32 × Wd) :=
  fX3_bodyAt_b28 (-1) w
set_option maxHeartbeats 1000000 in
set_option maxRecDepth 20000 in
theorem okX3_bodyAt_b27 {E : Ev} {Q : Option Value → Wd → Prop} {w : Wd} {q : Int32 × Wd} (h : fX3_bodyAt_b27 w = some q) (hk : (fun q : Int32 × Wd => Q (some (.int q.1)) q.2) q) : Runs E mX3_bodyAt (6, 0, false) Q 0 27 [] [] w := by
  unfold fX3_bodyAt_b27 at h
  refine r_iconst (v := (-1)) dX3_bodyAt_27 (by decide) ?_
  refine r_sub [] [] rfl ?_
  exact okX3_bodyAt_b28 h hk
def fX3_bodyAt (a0 : Nat) (x1 : Int32) (w : Wd) : Option (Int32 × Wd) :=
  if x1 < 0 then (fX3_bodyAt_b27 w) else (chk (isO w a0 3) (if (wI w a0 0) ≤ x1 then (fX3_bodyAt_b27 w) else (if (20 : Int32) ≤ x1 then (fX3_bodyAt_b27 w) else (ob (wR w a0 1) (fun o5 => chk (isA w o5 0) (chk (inb x1 (wn w o5)) (fX3_bodyAt_b28 (wI w o5 (x1).toNatClampNeg) w)))))))
set_option maxHeartbeats 1000000 in
set_option maxRecDepth 20000 in
theorem okX3_bodyAt {E : Ev} {Q : Option Value → Wd → Prop} {a0 : Nat} {x1 : Int32} {w : Wd} {q : Int32 × Wd} (h : fX3_bodyAt a0 x1 w = some q) (hk : (fun q : Int32 × Wd => Q (some (.int q.1)) q.2) q) : Runs E mX3_bodyAt (6, 0, false) Q 0 0 [(0, .ref a0), (1, .int x1)] [] w := by
  unfold fX3_bodyAt at h
  refine r_iload_n dX3_bodyAt_0 1 rfl ?_
  refine r_if_lt (tgt := 27) dX3_bodyAt_1 (by decide) (fun c1 => ?_) (fun c1 => ?_)
  · rw [if_pos c1] at h
    refine r_sub [] [] rfl ?_
    exact okX3_bodyAt_b27 h hk
  · rw [if_neg c1] at h
    refine r_iload_n dX3_bodyAt_4 1 rfl ?_
    refine r_aload_n dX3_bodyAt_5 0 rfl ?_
    obtain ⟨h2, h⟩ := chk_some h
    refine r_getI (fl_RX3_9 rfl) rfl dX3_bodyAt_6 h2 ?_
    refine r_icmp_ge (tgt := 27) dX3_bodyAt_9 (by decide) (fun c3 => ?_) (fun c3 => ?_)
    · rw [if_pos c3] at h
      refine r_sub [] [] rfl ?_
      exact okX3_bodyAt_b27 h hk
    · rw [if_neg c3] at h
      refine r_iload_n dX3_bodyAt_12 1 rfl ?_
      refine r_bipush (v := 20) dX3_bodyAt_13 (by decide) ?_
      refine r_icmp_ge (tgt := 27) dX3_bodyAt_15 (by decide) (fun c4 => ?_) (fun c4 => ?_)
      · rw [if_pos c4] at h
        refine r_sub [] [] rfl ?_
        exact okX3_bodyAt_b27 h hk
      · rw [if_neg c4] at h
        refine r_aload_n dX3_bodyAt_18 0 rfl ?_
        obtain ⟨o5, g6, h⟩ := ob_some h
        refine r_getR (fl_RX3_15 rfl) rfl dX3_bodyAt_19 h2 g6 ?_
        refine r_iload_n dX3_bodyAt_22 1 rfl ?_
        obtain ⟨h7, h⟩ := chk_some h
        obtain ⟨h8, h⟩ := chk_some h
        refine r_iaload dX3_bodyAt_23 h7 h8 ?_
        refine r_goto (tgt := 28) dX3_bodyAt_24 (by decide) ?_
        refine r_sub [] [] rfl ?_
        exact okX3_bodyAt_b28 h hk
set_option maxHeartbeats 1000000 in
set_option maxRecDepth 20000 in
theorem ctX3_bodyAt {E : Ev} {a0 : Nat} {x1 : Int32} {w : Wd} {q : Int32 × Wd} (h : fX3_bodyAt a0 x1 w = some q) : CT E mX3_bodyAt (6, 0, false) [.ref a0, .int x1] w (QI q) := CT.of pl_RX3 (Nat.le_of_ble_eq_true rfl) (okX3_bodyAt h ⟨rfl, rfl⟩)
def fX3_forget (a0 : Nat) (w : Wd) : Option (Wd) :=
  chk (isO w a0 3) (bnd (sI w a0 0 0) (fun w2 => some w2))
set_option maxHeartbeats 1000000 in
set_option maxRecDepth 20000 in
theorem okX3_forget {E : Ev} {Q : Option Value → Wd → Prop} {a0 : Nat} {w : Wd} {q : Wd} (h : fX3_forget a0 w = some q) (hk : (fun q : Wd => Q none q) q) : Runs E mX3_forget (6, 0, false) Q 0 0 [(0, .ref a0)] [] w := by
  unfold fX3_forget at h
  refine r_aload_n dX3_forget_0 0 rfl ?_
  refine r_iconst (v := 0) dX3_forget_1 (by decide) ?_
  obtain ⟨h1, h⟩ := chk_some h
  obtain ⟨w2, e3, h⟩ := bnd_some h
  refine r_putI (fl_RX3_9 rfl) rfl rfl (ck_ty (by decide) 0 (by decide)) rfl rfl dX3_forget_2 h1 ?_
  refine r_eqW e3 ?_
  rw [← Option.some.inj h] at hk
  exact r_return dX3_forget_5 rfl hk
set_option maxHeartbeats 1000000 in
set_option maxRecDepth 20000 in
theorem ctX3_forget {E : Ev} {a0 : Nat} {w : Wd} {q : Wd} (h : fX3_forget a0 w = some q) : CT E mX3_forget (6, 0, false) [.ref a0] w (QV q) := CT.of pl_RX3 (Nat.le_of_ble_eq_true rfl) (okX3_forget h ⟨rfl, rfl⟩)
def fX3_note_b19 (a0 : Nat) (w : Wd) : Option (Wd) :=
  chk (isO w a0 3) (bnd (sI w a0 0 ((wI w a0 0) + 1)) (fun w2 => some w2))
set_option maxHeartbeats 1000000 in
set_option maxRecDepth 20000 in
theorem okX3_note_b19 {E : Ev} {Q : Option Value → Wd → Prop} {a0 : Nat} {w : Wd} {q : Wd} (h : fX3_note_b19 a0 w = some q) (hk : (fun q : Wd => Q none q) q) : Runs E mX3_note (6, 0, false) Q 0 19 [(0, .ref a0)] [] w := by
  unfold fX3_note_b19 at h
  refine r_aload_n dX3_note_19 0 rfl ?_
  refine r_dup dX3_note_20 rfl ?_
  obtain ⟨h1, h⟩ := chk_some h
  refine r_getI (fl_RX3_9 rfl) rfl dX3_note_21 h1 ?_
  refine r_iconst (v := 1) dX3_note_24 (by decide) ?_
  refine r_iadd dX3_note_25 ?_
  obtain ⟨w2, e3, h⟩ := bnd_some h
  refine r_putI (fl_RX3_9 rfl) rfl rfl (ck_ty (by decide) 0 (by decide)) rfl rfl dX3_note_26 h1 ?_
  refine r_eqW e3 ?_
  rw [← Option.some.inj h] at hk
  exact r_return dX3_note_29 rfl hk
def fX3_note (a0 : Nat) (x1 : Int32) (w : Wd) : Option (Wd) :=
  chk (isO w a0 3) (if (20 : Int32) ≤ (wI w a0 0) then (fX3_note_b19 a0 w) else (ob (wR w a0 1) (fun o3 => chk (isA w o3 0) (chk (inb (wI w a0 0) (wn w o3)) (bnd (sI w o3 ((wI w a0 0)).toNatClampNeg x1) (fun w7 => fX3_note_b19 a0 w7))))))
set_option maxHeartbeats 1000000 in
set_option maxRecDepth 20000 in
theorem okX3_note {E : Ev} {Q : Option Value → Wd → Prop} {a0 : Nat} {x1 : Int32} {w : Wd} {q : Wd} (h : fX3_note a0 x1 w = some q) (hk : (fun q : Wd => Q none q) q) : Runs E mX3_note (6, 0, false) Q 0 0 [(0, .ref a0), (1, .int x1)] [] w := by
  unfold fX3_note at h
  refine r_aload_n dX3_note_0 0 rfl ?_
  obtain ⟨h1, h⟩ := chk_some h
  refine r_getI (fl_RX3_9 rfl) rfl dX3_note_1 h1 ?_
  refine r_bipush (v := 20) dX3_note_4 (by decide) ?_
  refine r_icmp_ge (tgt := 19) dX3_note_6 (by decide) (fun c2 => ?_) (fun c2 => ?_)
  · rw [if_pos c2] at h
    refine r_sub [0] [(0, .ref a0)] rfl ?_
    exact okX3_note_b19 h hk
  · rw [if_neg c2] at h
    refine r_aload_n dX3_note_9 0 rfl ?_
    obtain ⟨o3, g4, h⟩ := ob_some h
    refine r_getR (fl_RX3_15 rfl) rfl dX3_note_10 h1 g4 ?_
    refine r_aload_n dX3_note_13 0 rfl ?_
    refine r_getI (fl_RX3_9 rfl) rfl dX3_note_14 h1 ?_
    refine r_iload_n dX3_note_17 1 rfl ?_
    obtain ⟨h5, h⟩ := chk_some h
    obtain ⟨h6, h⟩ := chk_some h
    obtain ⟨w7, e8, h⟩ := bnd_some h
    refine r_iastore dX3_note_18 h5 h6 ?_
    refine r_eqW e8 ?_
    refine r_sub [0] [(0, .ref a0)] rfl ?_
    exact okX3_note_b19 h hk
set_option maxHeartbeats 1000000 in
set_option maxRecDepth 20000 in
theorem ctX3_note {E : Ev} {a0 : Nat} {x1 : Int32} {w : Wd} {q : Wd} (h : fX3_note a0 x1 w = some q) : CT E mX3_note (6, 0, false) [.ref a0, .int x1] w (QV q) := CT.of pl_RX3 (Nat.le_of_ble_eq_true rfl) (okX3_note h ⟨rfl, rfl⟩)
def PX3_run_L6 (E : Ev) (Q : Option Value → Wd → Prop) (D : Nat) (a0 : Nat) (x2 : Int32) (x3 : Int32) (x4 : Int32) (s : Int32 × Int32 × Wd) : Prop := Runs E mX3_run (D + 7, 0, false) Q 0 6 [(0, .ref a0), (2, .int x2), (3, .int x3), (4, .int x4), (5, .int s.1), (6, .int s.2.1)] [] s.2.2
def fX3_run_b59 (rec : Nat → Int32 → Int32 → Int32 → Int32 → Wd → Option (Int32 × Wd)) (w : Wd) : Option (Int32 × Wd) :=
  some (0, w)
set_option maxHeartbeats 1000000 in
set_option maxRecDepth 20000 in
theorem okX3_run_b59 {E : Ev} {Q : Option Value → Wd → Prop} {D : Nat} {rec : Nat → Int32 → Int32 → Int32 → Int32 → Wd → Option (Int32 × Wd)} (hrec : ∀ {b0 : Nat} {b1 b2 b3 b4 : Int32} {w : Wd} {q : Int32 × Wd}, rec b0 b1 b2 b3 b4 w = some q → CT E mX3_run (D + 6, 0, false) [.ref b0, .int b1, .int b2, .int b3, .int b4] w (QI q)) {w : Wd} {q : Int32 × Wd} (h : fX3_run_b59 rec w = some q) (hk : (fun q : Int32 × Wd => Q (some (.int q.1)) q.2) q) : Runs E mX3_run (D + 7, 0, false) Q 0 59 [] [] w := by
  unfold fX3_run_b59 at h
  refine r_iconst (v := 0) dX3_run_59 (by decide) ?_
  rw [← Option.some.inj h] at hk
  exact r_ireturn dX3_run_60 rfl rfl hk
def fX3_run_b46 (rec : Nat → Int32 → Int32 → Int32 → Int32 → Wd → Option (Int32 × Wd)) (a0 : Nat) (x2 : Int32) (x3 : Int32) (x4 : Int32) (x5 : Int32) (w : Wd) : Option (Int32 × Wd) :=
  if x5 = (-1) then (fX3_run_b59 rec w) else (if x4 ≤ 40 then (chk (inb ((x5 * 3) + x2) (saV 3).length) (bnd ((saV 3).getD (((x5 * 3) + x2)).toNatClampNeg 0) (fun u4 => chk (isO w a0 3) (ob (fX3_note a0 u4 w) (fun q7 => bnd (x4 + 1) (fun u9 => if u4 = 10 then (chk (isO q7 a0 3) (some ((x3 + (wI q7 a0 3)), q7))) else (if u4 = 11 then (chk (isO q7 a0 3) (ob (rec a0 (wI q7 a0 2) 0 x3 u9 q7) (fun q15 => some ((q15.1 * 2), q15.2)))) else (if u4 = 12 then (chk (isO q7 a0 3) (ob (rec a0 (wI q7 a0 2) 1 x3 u9 q7) (fun q19 => chk (isO q19.2 a0 3) (ob (rec a0 (wI q19.2 a0 2) 0 (x3 - (wI q19.2 a0 4)) u9 q19.2) (fun q22 => some ((q19.1 ^^^ q22.1), q22.2)))))) else (if u4 = 20 then (chk (inb x5 (saV 0).length) (chk (isO q7 a0 3) (ob (rec a0 ((saV 0).getD (x5).toNatClampNeg 0) 0 x3 u9 q7) (fun q27 => chk (isO q27.2 a0 3) (some ((q27.1 + (wI q27.2 a0 4)), q27.2)))))) else (if u4 = 30 then (chk (inb x5 (saV 0).length) (chk (isO q7 a0 3) (ob (rec a0 ((saV 0).getD (x5).toNatClampNeg 0) 1 x3 u9 q7) (fun q33 => some ((q33.1 * 3), q33.2))))) else (if u4 = 40 then (chk (inb x5 (saV 0).length) (chk (isO q7 a0 3) (ob (rec a0 ((saV 0).getD (x5).toNatClampNeg 0) 1 (x3 + 1) u9 q7) (fun q38 => some (q38.1, q38.2))))) else (if u4 = 50 then (chk (inb x5 (saV 0).length) (chk (isO q7 a0 3) (ob (rec a0 ((saV 0).getD (x5).toNatClampNeg 0) 2 x3 u9 q7) (fun q43 => some ((-q43.1), q43.2))))) else (if u4 = 51 then (chk (inb x5 (saV 0).length) (chk (isO q7 a0 3) (ob (rec a0 ((saV 0).getD (x5).toNatClampNeg 0) 0 x3 u9 q7) (fun q48 => chk (isO q48.2 a0 3) (some ((q48.1 - (wI q48.2 a0 3)), q48.2)))))) else (if u4 = 60 then (chk (inb x5 (saV 0).length) (chk (isO q7 a0 3) (ob (rec a0 ((saV 0).getD (x5).toNatClampNeg 0) 2 x3 u9 q7) (fun q54 => some ((q54.1 ^^^ 5), q54.2))))) else (if u4 = 70 then (chk (inb x5 (saV 0).length) (chk (isO q7 a0 3) (ob (rec a0 ((saV 0).getD (x5).toNatClampNeg 0) 0 x3 u9 q7) (fun q59 => some ((q59.1 * 2), q59.2))))) else (chk (inb x5 (saV 0).length) (chk (isO q7 a0 3) (ob (rec a0 ((saV 0).getD (x5).toNatClampNeg 0) 1 (x3 - (wI q7 a0 4)) u9 q7) (fun q63 => some (q63.1, q63.2)))))))))))))))))))) else (fX3_run_b59 rec w))
set_option maxHeartbeats 1000000 in
set_option maxRecDepth 20000 in
theorem okX3_run_b46 {E : Ev} {Q : Option Value → Wd → Prop} {a0 : Nat} {x2 : Int32} {x3 : Int32} {x4 : Int32} {x5 : Int32} {D : Nat} {rec : Nat → Int32 → Int32 → Int32 → Int32 → Wd → Option (Int32 × Wd)} (hrec : ∀ {b0 : Nat} {b1 b2 b3 b4 : Int32} {w : Wd} {q : Int32 × Wd}, rec b0 b1 b2 b3 b4 w = some q → CT E mX3_run (D + 6, 0, false) [.ref b0, .int b1, .int b2, .int b3, .int b4] w (QI q)) {w : Wd} {q : Int32 × Wd} (h : fX3_run_b46 rec a0 x2 x3 x4 x5 w = some q) (hk : (fun q : Int32 × Wd => Q (some (.int q.1)) q.2) q) : Runs E mX3_run (D + 7, 0, false) Q 0 46 [(0, .ref a0), (2, .int x2), (3, .int x3), (4, .int x4), (5, .int x5)] [] w := by
  unfold fX3_run_b46 at h
  refine r_iload dX3_run_46 4 rfl ?_
  refine r_iconst (v := (-1)) dX3_run_48 (by decide) ?_
  refine r_icmp_eq (tgt := 59) dX3_run_49 (by decide) (fun c1 => ?_) (fun c1 => ?_)
  · rw [if_pos c1] at h
    refine r_sub [] [] rfl ?_
    exact okX3_run_b59 hrec h hk
  · rw [if_neg c1] at h
    refine r_iload dX3_run_52 3 rfl ?_
    refine r_bipush (v := 40) dX3_run_54 (by decide) ?_
    refine r_icmp_le (tgt := 61) dX3_run_56 (by decide) (fun c2 => ?_) (fun c2 => ?_)
    · rw [if_pos c2] at h
      refine r_gets 3 (by decide) tf_RX3_38 dX3_run_61 ?_
      refine r_iload dX3_run_64 4 rfl ?_
      refine r_iconst (v := 3) dX3_run_66 (by decide) ?_
      refine r_imul dX3_run_67 ?_
      refine r_iload_n dX3_run_68 1 rfl ?_
      refine r_iadd dX3_run_69 ?_
      obtain ⟨h3, h⟩ := chk_some h
      refine r_siaload 3 (by decide) dX3_run_70 h3 ?_
      obtain ⟨u4, e5, h⟩ := bnd_some h
      refine r_eqI e5 ?_
      refine r_istore dX3_run_71 (Nat.le_of_ble_eq_true rfl) [(6, .int u4), (0, .ref a0), (2, .int x2), (3, .int x3), (4, .int x4), (5, .int x5)] rfl ?_
      refine r_aload_n dX3_run_73 1 rfl ?_
      refine r_iload dX3_run_74 0 rfl ?_
      obtain ⟨h6, h⟩ := chk_some h
      obtain ⟨q7, g8, h⟩ := ob_some h
      refine r_callV (d' := (6, 0, false)) (As := [.int u4]) (st := []) mdv_X3_note tm_RX3_44 (by decide) rfl rfl (show 6 + 1 ≤ D + 7 by omega) rfl (Nat.le_refl _) (Nat.le_of_ble_eq_true rfl) rfl dX3_run_76 h6 (ctX3_note g8) (k_V0 ?_)
      refine r_iload dX3_run_79 4 rfl ?_
      refine r_iconst (v := 1) dX3_run_81 (by decide) ?_
      refine r_iadd dX3_run_82 ?_
      obtain ⟨u9, e10, h⟩ := bnd_some h
      refine r_eqI e10 ?_
      refine r_istore dX3_run_83 (Nat.le_of_ble_eq_true rfl) [(7, .int u9), (6, .int u4), (0, .ref a0), (2, .int x2), (3, .int x3), (4, .int x4), (5, .int x5)] rfl ?_
      refine r_iload dX3_run_85 1 rfl ?_
      by_cases c11 : u4 = 10
      · rw [if_pos c11] at h
        refine r_look (tgt := 176) dX3_run_87 (by decide) (by rw [c11] <;> decide) (by decide) ?_
        refine r_iload_n dX3_run_176 4 rfl ?_
        refine r_aload_n dX3_run_177 2 rfl ?_
        obtain ⟨h12, h⟩ := chk_some h
        refine r_getI (fl_RX3_22 rfl) rfl dX3_run_178 h12 ?_
        refine r_iadd dX3_run_181 ?_
        rw [← Option.some.inj h] at hk
        exact r_ireturn dX3_run_182 rfl rfl hk
      rw [if_neg c11] at h
      by_cases c13 : u4 = 11
      · rw [if_pos c13] at h
        refine r_look (tgt := 183) dX3_run_87 (by decide) (by rw [c13] <;> decide) (by decide) ?_
        refine r_aload_n dX3_run_183 2 rfl ?_
        refine r_aload_n dX3_run_184 2 rfl ?_
        obtain ⟨h14, h⟩ := chk_some h
        refine r_getI (fl_RX3_19 rfl) rfl dX3_run_185 h14 ?_
        refine r_iconst (v := 0) dX3_run_188 (by decide) ?_
        refine r_iload_n dX3_run_189 4 rfl ?_
        refine r_iload dX3_run_190 0 rfl ?_
        obtain ⟨q15, g16, h⟩ := ob_some h
        refine r_callV (d' := (D + 6, 0, false)) (As := [.int (wI q7 a0 2), .int 0, .int x3, .int u9]) (st := []) mdv_X3_run tm_RX3_34 (by decide) rfl rfl (show D + 6 + 1 ≤ D + 7 by omega) rfl (Nat.le_refl _) (Nat.le_of_ble_eq_true rfl) rfl dX3_run_192 h14 (hrec g16) (k_I0 ?_)
        refine r_iconst (v := 2) dX3_run_195 (by decide) ?_
        refine r_imul dX3_run_196 ?_
        rw [← Option.some.inj h] at hk
        exact r_ireturn dX3_run_197 rfl rfl hk
      rw [if_neg c13] at h
      by_cases c17 : u4 = 12
      · rw [if_pos c17] at h
        refine r_look (tgt := 198) dX3_run_87 (by decide) (by rw [c17] <;> decide) (by decide) ?_
        refine r_aload_n dX3_run_198 2 rfl ?_
        refine r_aload_n dX3_run_199 2 rfl ?_
        obtain ⟨h18, h⟩ := chk_some h
        refine r_getI (fl_RX3_19 rfl) rfl dX3_run_200 h18 ?_
        refine r_iconst (v := 1) dX3_run_203 (by decide) ?_
        refine r_iload_n dX3_run_204 4 rfl ?_
        refine r_iload dX3_run_205 0 rfl ?_
        obtain ⟨q19, g20, h⟩ := ob_some h
        refine r_callV (d' := (D + 6, 0, false)) (As := [.int (wI q7 a0 2), .int 1, .int x3, .int u9]) (st := []) mdv_X3_run tm_RX3_34 (by decide) rfl rfl (show D + 6 + 1 ≤ D + 7 by omega) rfl (Nat.le_refl _) (Nat.le_of_ble_eq_true rfl) rfl dX3_run_207 h18 (hrec g20) (k_I0 ?_)
        refine r_aload_n dX3_run_210 2 rfl ?_
        refine r_aload_n dX3_run_211 2 rfl ?_
        obtain ⟨h21, h⟩ := chk_some h
        refine r_getI (fl_RX3_19 rfl) rfl dX3_run_212 h21 ?_
        refine r_iconst (v := 0) dX3_run_215 (by decide) ?_
        refine r_iload_n dX3_run_216 4 rfl ?_
        refine r_aload_n dX3_run_217 2 rfl ?_
        refine r_getI (fl_RX3_25 rfl) rfl dX3_run_218 h21 ?_
        refine r_isub dX3_run_221 ?_
        refine r_iload dX3_run_222 0 rfl ?_
        obtain ⟨q22, g23, h⟩ := ob_some h
        refine r_callV (d' := (D + 6, 0, false)) (As := [.int (wI q19.2 a0 2), .int 0, .int (x3 - (wI q19.2 a0 4)), .int u9]) (st := [.int q19.1]) mdv_X3_run tm_RX3_34 (by decide) rfl rfl (show D + 6 + 1 ≤ D + 7 by omega) rfl (Nat.le_refl _) (Nat.le_of_ble_eq_true rfl) rfl dX3_run_224 h21 (hrec g23) (k_I0 ?_)
        refine r_ixor dX3_run_227 ?_
        rw [← Option.some.inj h] at hk
        exact r_ireturn dX3_run_228 rfl rfl hk
      rw [if_neg c17] at h
      by_cases c24 : u4 = 20
      · rw [if_pos c24] at h
        refine r_look (tgt := 229) dX3_run_87 (by decide) (by rw [c24] <;> decide) (by decide) ?_
        refine r_aload_n dX3_run_229 2 rfl ?_
        refine r_getsN 0 (by decide) rfl (by decide) dX3_run_230 ?_
        refine r_iload dX3_run_233 6 rfl ?_
        obtain ⟨h25, h⟩ := chk_some h
        refine r_siaload 0 (by decide) dX3_run_235 h25 ?_
        refine r_iconst (v := 0) dX3_run_236 (by decide) ?_
        refine r_iload_n dX3_run_237 4 rfl ?_
        refine r_iload dX3_run_238 0 rfl ?_
        obtain ⟨h26, h⟩ := chk_some h
        obtain ⟨q27, g28, h⟩ := ob_some h
        refine r_callV (d' := (D + 6, 0, false)) (As := [.int ((saV 0).getD (x5).toNatClampNeg 0), .int 0, .int x3, .int u9]) (st := []) mdv_X3_run tm_RX3_34 (by decide) rfl rfl (show D + 6 + 1 ≤ D + 7 by omega) rfl (Nat.le_refl _) (Nat.le_of_ble_eq_true rfl) rfl dX3_run_240 h26 (hrec g28) (k_I0 ?_)
        refine r_aload_n dX3_run_243 2 rfl ?_
        obtain ⟨h29, h⟩ := chk_some h
        refine r_getI (fl_RX3_25 rfl) rfl dX3_run_244 h29 ?_
        refine r_iadd dX3_run_247 ?_
        rw [← Option.some.inj h] at hk
        exact r_ireturn dX3_run_248 rfl rfl hk
      rw [if_neg c24] at h
      by_cases c30 : u4 = 30
      · rw [if_pos c30] at h
        refine r_look (tgt := 249) dX3_run_87 (by decide) (by rw [c30] <;> decide) (by decide) ?_
        refine r_aload_n dX3_run_249 2 rfl ?_
        refine r_getsN 0 (by decide) rfl (by decide) dX3_run_250 ?_
        refine r_iload dX3_run_253 6 rfl ?_
        obtain ⟨h31, h⟩ := chk_some h
        refine r_siaload 0 (by decide) dX3_run_255 h31 ?_
        refine r_iconst (v := 1) dX3_run_256 (by decide) ?_
        refine r_iload_n dX3_run_257 4 rfl ?_
        refine r_iload dX3_run_258 0 rfl ?_
        obtain ⟨h32, h⟩ := chk_some h
        obtain ⟨q33, g34, h⟩ := ob_some h
        refine r_callV (d' := (D + 6, 0, false)) (As := [.int ((saV 0).getD (x5).toNatClampNeg 0), .int 1, .int x3, .int u9]) (st := []) mdv_X3_run tm_RX3_34 (by decide) rfl rfl (show D + 6 + 1 ≤ D + 7 by omega) rfl (Nat.le_refl _) (Nat.le_of_ble_eq_true rfl) rfl dX3_run_260 h32 (hrec g34) (k_I0 ?_)
        refine r_iconst (v := 3) dX3_run_263 (by decide) ?_
        refine r_imul dX3_run_264 ?_
        rw [← Option.some.inj h] at hk
        exact r_ireturn dX3_run_265 rfl rfl hk
      rw [if_neg c30] at h
      by_cases c35 : u4 = 40
      · rw [if_pos c35] at h
        refine r_look (tgt := 266) dX3_run_87 (by decide) (by rw [c35] <;> decide) (by decide) ?_
        refine r_aload_n dX3_run_266 2 rfl ?_
        refine r_getsN 0 (by decide) rfl (by decide) dX3_run_267 ?_
        refine r_iload dX3_run_270 6 rfl ?_
        obtain ⟨h36, h⟩ := chk_some h
        refine r_siaload 0 (by decide) dX3_run_272 h36 ?_
        refine r_iconst (v := 1) dX3_run_273 (by decide) ?_
        refine r_iload_n dX3_run_274 4 rfl ?_
        refine r_iconst (v := 1) dX3_run_275 (by decide) ?_
        refine r_iadd dX3_run_276 ?_
        refine r_iload dX3_run_277 0 rfl ?_
        obtain ⟨h37, h⟩ := chk_some h
        obtain ⟨q38, g39, h⟩ := ob_some h
        refine r_callV (d' := (D + 6, 0, false)) (As := [.int ((saV 0).getD (x5).toNatClampNeg 0), .int 1, .int (x3 + 1), .int u9]) (st := []) mdv_X3_run tm_RX3_34 (by decide) rfl rfl (show D + 6 + 1 ≤ D + 7 by omega) rfl (Nat.le_refl _) (Nat.le_of_ble_eq_true rfl) rfl dX3_run_279 h37 (hrec g39) (k_I0 ?_)
        rw [← Option.some.inj h] at hk
        exact r_ireturn dX3_run_282 rfl rfl hk
      rw [if_neg c35] at h
      by_cases c40 : u4 = 50
      · rw [if_pos c40] at h
        refine r_look (tgt := 283) dX3_run_87 (by decide) (by rw [c40] <;> decide) (by decide) ?_
        refine r_aload_n dX3_run_283 2 rfl ?_
        refine r_getsN 0 (by decide) rfl (by decide) dX3_run_284 ?_
        refine r_iload dX3_run_287 6 rfl ?_
        obtain ⟨h41, h⟩ := chk_some h
        refine r_siaload 0 (by decide) dX3_run_289 h41 ?_
        refine r_iconst (v := 2) dX3_run_290 (by decide) ?_
        refine r_iload_n dX3_run_291 4 rfl ?_
        refine r_iload dX3_run_292 0 rfl ?_
        obtain ⟨h42, h⟩ := chk_some h
        obtain ⟨q43, g44, h⟩ := ob_some h
        refine r_callV (d' := (D + 6, 0, false)) (As := [.int ((saV 0).getD (x5).toNatClampNeg 0), .int 2, .int x3, .int u9]) (st := []) mdv_X3_run tm_RX3_34 (by decide) rfl rfl (show D + 6 + 1 ≤ D + 7 by omega) rfl (Nat.le_refl _) (Nat.le_of_ble_eq_true rfl) rfl dX3_run_294 h42 (hrec g44) (k_I0 ?_)
        refine r_ineg dX3_run_297 ?_
        rw [← Option.some.inj h] at hk
        exact r_ireturn dX3_run_298 rfl rfl hk
      rw [if_neg c40] at h
      by_cases c45 : u4 = 51
      · rw [if_pos c45] at h
        refine r_look (tgt := 299) dX3_run_87 (by decide) (by rw [c45] <;> decide) (by decide) ?_
        refine r_aload_n dX3_run_299 2 rfl ?_
        refine r_getsN 0 (by decide) rfl (by decide) dX3_run_300 ?_
        refine r_iload dX3_run_303 6 rfl ?_
        obtain ⟨h46, h⟩ := chk_some h
        refine r_siaload 0 (by decide) dX3_run_305 h46 ?_
        refine r_iconst (v := 0) dX3_run_306 (by decide) ?_
        refine r_iload_n dX3_run_307 4 rfl ?_
        refine r_iload dX3_run_308 0 rfl ?_
        obtain ⟨h47, h⟩ := chk_some h
        obtain ⟨q48, g49, h⟩ := ob_some h
        refine r_callV (d' := (D + 6, 0, false)) (As := [.int ((saV 0).getD (x5).toNatClampNeg 0), .int 0, .int x3, .int u9]) (st := []) mdv_X3_run tm_RX3_34 (by decide) rfl rfl (show D + 6 + 1 ≤ D + 7 by omega) rfl (Nat.le_refl _) (Nat.le_of_ble_eq_true rfl) rfl dX3_run_310 h47 (hrec g49) (k_I0 ?_)
        refine r_aload_n dX3_run_313 2 rfl ?_
        obtain ⟨h50, h⟩ := chk_some h
        refine r_getI (fl_RX3_22 rfl) rfl dX3_run_314 h50 ?_
        refine r_isub dX3_run_317 ?_
        rw [← Option.some.inj h] at hk
        exact r_ireturn dX3_run_318 rfl rfl hk
      rw [if_neg c45] at h
      by_cases c51 : u4 = 60
      · rw [if_pos c51] at h
        refine r_look (tgt := 319) dX3_run_87 (by decide) (by rw [c51] <;> decide) (by decide) ?_
        refine r_aload_n dX3_run_319 2 rfl ?_
        refine r_getsN 0 (by decide) rfl (by decide) dX3_run_320 ?_
        refine r_iload dX3_run_323 6 rfl ?_
        obtain ⟨h52, h⟩ := chk_some h
        refine r_siaload 0 (by decide) dX3_run_325 h52 ?_
        refine r_iconst (v := 2) dX3_run_326 (by decide) ?_
        refine r_iload_n dX3_run_327 4 rfl ?_
        refine r_iload dX3_run_328 0 rfl ?_
        obtain ⟨h53, h⟩ := chk_some h
        obtain ⟨q54, g55, h⟩ := ob_some h
        refine r_callV (d' := (D + 6, 0, false)) (As := [.int ((saV 0).getD (x5).toNatClampNeg 0), .int 2, .int x3, .int u9]) (st := []) mdv_X3_run tm_RX3_34 (by decide) rfl rfl (show D + 6 + 1 ≤ D + 7 by omega) rfl (Nat.le_refl _) (Nat.le_of_ble_eq_true rfl) rfl dX3_run_330 h53 (hrec g55) (k_I0 ?_)
        refine r_iconst (v := 5) dX3_run_333 (by decide) ?_
        refine r_ixor dX3_run_334 ?_
        rw [← Option.some.inj h] at hk
        exact r_ireturn dX3_run_335 rfl rfl hk
      rw [if_neg c51] at h
      by_cases c56 : u4 = 70
      · rw [if_pos c56] at h
        refine r_look (tgt := 336) dX3_run_87 (by decide) (by rw [c56] <;> decide) (by decide) ?_
        refine r_aload_n dX3_run_336 2 rfl ?_
        refine r_getsN 0 (by decide) rfl (by decide) dX3_run_337 ?_
        refine r_iload dX3_run_340 6 rfl ?_
        obtain ⟨h57, h⟩ := chk_some h
        refine r_siaload 0 (by decide) dX3_run_342 h57 ?_
        refine r_iconst (v := 0) dX3_run_343 (by decide) ?_
        refine r_iload_n dX3_run_344 4 rfl ?_
        refine r_iload dX3_run_345 0 rfl ?_
        obtain ⟨h58, h⟩ := chk_some h
        obtain ⟨q59, g60, h⟩ := ob_some h
        refine r_callV (d' := (D + 6, 0, false)) (As := [.int ((saV 0).getD (x5).toNatClampNeg 0), .int 0, .int x3, .int u9]) (st := []) mdv_X3_run tm_RX3_34 (by decide) rfl rfl (show D + 6 + 1 ≤ D + 7 by omega) rfl (Nat.le_refl _) (Nat.le_of_ble_eq_true rfl) rfl dX3_run_347 h58 (hrec g60) (k_I0 ?_)
        refine r_iconst (v := 2) dX3_run_350 (by decide) ?_
        refine r_imul dX3_run_351 ?_
        rw [← Option.some.inj h] at hk
        exact r_ireturn dX3_run_352 rfl rfl hk
      rw [if_neg c56] at h
      refine r_look (off := 266) (tgt := 353) dX3_run_87 (by decide) ((lv_osw (k := 10) c11 rfl).trans ((lv_osw (k := 11) c13 rfl).trans ((lv_osw (k := 12) c17 rfl).trans ((lv_osw (k := 20) c24 rfl).trans ((lv_osw (k := 30) c30 rfl).trans ((lv_osw (k := 40) c35 rfl).trans ((lv_osw (k := 50) c40 rfl).trans ((lv_osw (k := 51) c45 rfl).trans ((lv_osw (k := 60) c51 rfl).trans ((lv_osw (k := 70) c56 rfl).trans (rfl))))))))))) (by decide) ?_
      refine r_aload_n dX3_run_353 2 rfl ?_
      refine r_getsN 0 (by decide) rfl (by decide) dX3_run_354 ?_
      refine r_iload dX3_run_357 6 rfl ?_
      obtain ⟨h61, h⟩ := chk_some h
      refine r_siaload 0 (by decide) dX3_run_359 h61 ?_
      refine r_iconst (v := 1) dX3_run_360 (by decide) ?_
      refine r_iload_n dX3_run_361 4 rfl ?_
      refine r_aload_n dX3_run_362 2 rfl ?_
      obtain ⟨h62, h⟩ := chk_some h
      refine r_getI (fl_RX3_25 rfl) rfl dX3_run_363 h62 ?_
      refine r_isub dX3_run_366 ?_
      refine r_iload dX3_run_367 0 rfl ?_
      obtain ⟨q63, g64, h⟩ := ob_some h
      refine r_callV (d' := (D + 6, 0, false)) (As := [.int ((saV 0).getD (x5).toNatClampNeg 0), .int 1, .int (x3 - (wI q7 a0 4)), .int u9]) (st := []) mdv_X3_run tm_RX3_34 (by decide) rfl rfl (show D + 6 + 1 ≤ D + 7 by omega) rfl (Nat.le_refl _) (Nat.le_of_ble_eq_true rfl) rfl dX3_run_369 h62 (hrec g64) (k_I0 ?_)
      rw [← Option.some.inj h] at hk
      exact r_ireturn dX3_run_372 rfl rfl hk
    · rw [if_neg c2] at h
      refine r_sub [] [] rfl ?_
      exact okX3_run_b59 hrec h hk
def fX3_run_L6_body (rec : Nat → Int32 → Int32 → Int32 → Int32 → Wd → Option (Int32 × Wd)) (a0 : Nat) (x2 : Int32) (x3 : Int32) (x4 : Int32) (s : Int32 × Int32 × Wd) : Option ((Int32 × Int32 × Wd) ⊕ (Int32 × Wd)) :=
  if (7 : Int32) ≤ s.2.1 then (wr (fX3_run_b46 rec a0 x2 x3 x4 s.1 s.2.2)) else (if s.1 = (-1) then (wr (fX3_run_b46 rec a0 x2 x3 x4 s.1 s.2.2)) else (chk (inb ((s.1 * 3) + x2) (saV 3).length) (if ((saV 3).getD (((s.1 * 3) + x2)).toNatClampNeg 0) = 0 then (chk (inb s.1 (saV 0).length) (bnd ((saV 0).getD (s.1).toNatClampNeg 0) (fun u9 => some (.inl (u9, (s.2.1 + 1), s.2.2))))) else (wr (fX3_run_b46 rec a0 x2 x3 x4 s.1 s.2.2)))))
set_option maxHeartbeats 1000000 in
set_option maxRecDepth 20000 in
theorem okX3_run_L6_body {E : Ev} {Q : Option Value → Wd → Prop} {a0 : Nat} {x2 : Int32} {x3 : Int32} {x4 : Int32} {D : Nat} {rec : Nat → Int32 → Int32 → Int32 → Int32 → Wd → Option (Int32 × Wd)} (hrec : ∀ {b0 : Nat} {b1 b2 b3 b4 : Int32} {w : Wd} {q : Int32 × Wd}, rec b0 b1 b2 b3 b4 w = some q → CT E mX3_run (D + 6, 0, false) [.ref b0, .int b1, .int b2, .int b3, .int b4] w (QI q)) {s : Int32 × Int32 × Wd} {r : (Int32 × Int32 × Wd) ⊕ (Int32 × Wd)} (h : fX3_run_L6_body rec a0 x2 x3 x4 s = some r) (hk : (Sum.elim (PX3_run_L6 E Q D a0 x2 x3 x4) (fun q : Int32 × Wd => Q (some (.int q.1)) q.2)) r) : PX3_run_L6 E Q D a0 x2 x3 x4 s := by
  unfold fX3_run_L6_body at h
  unfold PX3_run_L6
  refine r_iload dX3_run_6 5 rfl ?_
  refine r_bipush (v := 7) dX3_run_8 (by decide) ?_
  refine r_icmp_ge (tgt := 46) dX3_run_10 (by decide) (fun c1 => ?_) (fun c1 => ?_)
  · rw [if_pos c1] at h
    obtain ⟨r2, hr, h⟩ := wr_some h
    rw [hr] at hk
    refine r_sub [0, 1, 2, 3, 4] [(0, .ref a0), (2, .int x2), (3, .int x3), (4, .int x4), (5, .int s.1)] rfl ?_
    exact okX3_run_b46 hrec h hk
  · rw [if_neg c1] at h
    refine r_iload dX3_run_13 4 rfl ?_
    refine r_iconst (v := (-1)) dX3_run_15 (by decide) ?_
    refine r_icmp_eq (tgt := 46) dX3_run_16 (by decide) (fun c3 => ?_) (fun c3 => ?_)
    · rw [if_pos c3] at h
      obtain ⟨r4, hr, h⟩ := wr_some h
      rw [hr] at hk
      refine r_sub [0, 1, 2, 3, 4] [(0, .ref a0), (2, .int x2), (3, .int x3), (4, .int x4), (5, .int s.1)] rfl ?_
      exact okX3_run_b46 hrec h hk
    · rw [if_neg c3] at h
      refine r_gets 3 (by decide) tf_RX3_38 dX3_run_19 ?_
      refine r_iload dX3_run_22 4 rfl ?_
      refine r_iconst (v := 3) dX3_run_24 (by decide) ?_
      refine r_imul dX3_run_25 ?_
      refine r_iload_n dX3_run_26 1 rfl ?_
      refine r_iadd dX3_run_27 ?_
      obtain ⟨h5, h⟩ := chk_some h
      refine r_siaload 3 (by decide) dX3_run_28 h5 ?_
      refine r_if_ne (tgt := 46) dX3_run_29 (by decide) (fun c6 => ?_) (fun c6 => ?_)
      · rw [if_neg c6] at h
        obtain ⟨r7, hr, h⟩ := wr_some h
        rw [hr] at hk
        refine r_sub [0, 1, 2, 3, 4] [(0, .ref a0), (2, .int x2), (3, .int x3), (4, .int x4), (5, .int s.1)] rfl ?_
        exact okX3_run_b46 hrec h hk
      · rw [if_pos c6] at h
        refine r_getsN 0 (by decide) rfl (by decide) dX3_run_32 ?_
        refine r_iload dX3_run_35 4 rfl ?_
        obtain ⟨h8, h⟩ := chk_some h
        refine r_siaload 0 (by decide) dX3_run_37 h8 ?_
        obtain ⟨u9, e10, h⟩ := bnd_some h
        refine r_eqI e10 ?_
        refine r_istore dX3_run_38 (Nat.le_of_ble_eq_true rfl) [(5, .int u9), (0, .ref a0), (2, .int x2), (3, .int x3), (4, .int x4), (6, .int s.2.1)] rfl ?_
        refine r_iinc (v := (s.2.1 + 1)) dX3_run_40 5 rfl rfl (Nat.le_of_ble_eq_true rfl) [(6, .int (s.2.1 + 1)), (5, .int u9), (0, .ref a0), (2, .int x2), (3, .int x3), (4, .int x4)] rfl ?_
        refine r_goto (tgt := 6) dX3_run_43 (by decide) ?_
        rw [← Option.some.inj h] at hk
        refine r_sub [2, 3, 4, 5, 1, 0] [(0, .ref a0), (2, .int x2), (3, .int x3), (4, .int x4), (5, .int u9), (6, .int (s.2.1 + 1))] rfl ?_
        exact hk
def fX3_run_L6 (rec : Nat → Int32 → Int32 → Int32 → Int32 → Wd → Option (Int32 × Wd)) (a0 : Nat) (x2 : Int32) (x3 : Int32) (x4 : Int32) (s : Int32 × Int32 × Wd) : Option (Int32 × Wd) := it (fX3_run_L6_body rec a0 x2 x3 x4) FU s
set_option maxHeartbeats 1000000 in
set_option maxRecDepth 20000 in
theorem okX3_run_L6 {E : Ev} {Q : Option Value → Wd → Prop} {a0 : Nat} {x2 : Int32} {x3 : Int32} {x4 : Int32} {D : Nat} {rec : Nat → Int32 → Int32 → Int32 → Int32 → Wd → Option (Int32 × Wd)} (hrec : ∀ {b0 : Nat} {b1 b2 b3 b4 : Int32} {w : Wd} {q : Int32 × Wd}, rec b0 b1 b2 b3 b4 w = some q → CT E mX3_run (D + 6, 0, false) [.ref b0, .int b1, .int b2, .int b3, .int b4] w (QI q)) {s : Int32 × Int32 × Wd} {r : Int32 × Wd} (h : fX3_run_L6 rec a0 x2 x3 x4 s = some r) (hk : (fun q : Int32 × Wd => Q (some (.int q.1)) q.2) r) : PX3_run_L6 E Q D a0 x2 x3 x4 s := it_runs (fun s r h hk => okX3_run_L6_body hrec h hk) FU s r h hk
def fX3_run (rec : Nat → Int32 → Int32 → Int32 → Int32 → Wd → Option (Int32 × Wd)) (a0 : Nat) (x1 : Int32) (x2 : Int32) (x3 : Int32) (x4 : Int32) (w : Wd) : Option (Int32 × Wd) :=
  fX3_run_L6 rec a0 x2 x3 x4 (x1, 0, w)
set_option maxHeartbeats 1000000 in
set_option maxRecDepth 20000 in
theorem okX3_run {E : Ev} {Q : Option Value → Wd → Prop} {a0 : Nat} {x1 : Int32} {x2 : Int32} {x3 : Int32} {x4 : Int32} {D : Nat} {rec : Nat → Int32 → Int32 → Int32 → Int32 → Wd → Option (Int32 × Wd)} (hrec : ∀ {b0 : Nat} {b1 b2 b3 b4 : Int32} {w : Wd} {q : Int32 × Wd}, rec b0 b1 b2 b3 b4 w = some q → CT E mX3_run (D + 6, 0, false) [.ref b0, .int b1, .int b2, .int b3, .int b4] w (QI q)) {w : Wd} {q : Int32 × Wd} (h : fX3_run rec a0 x1 x2 x3 x4 w = some q) (hk : (fun q : Int32 × Wd => Q (some (.int q.1)) q.2) q) : Runs E mX3_run (D + 7, 0, false) Q 0 0 [(0, .ref a0), (1, .int x1), (2, .int x2), (3, .int x3), (4, .int x4)] [] w := by
  unfold fX3_run at h
  refine r_iload_n dX3_run_0 1 rfl ?_
  refine r_istore dX3_run_1 (Nat.le_of_ble_eq_true rfl) [(5, .int x1), (0, .ref a0), (1, .int x1), (2, .int x2), (3, .int x3), (4, .int x4)] rfl ?_
  refine r_iconst (v := 0) dX3_run_3 (by decide) ?_
  refine r_istore dX3_run_4 (Nat.le_of_ble_eq_true rfl) [(6, .int 0), (5, .int x1), (0, .ref a0), (1, .int x1), (2, .int x2), (3, .int x3), (4, .int x4)] rfl ?_
  refine r_sub [2, 4, 5, 6, 1, 0] [(0, .ref a0), (2, .int x2), (3, .int x3), (4, .int x4), (5, .int x1), (6, .int 0)] rfl ?_
  exact okX3_run_L6 hrec h hk
def fX3_run_n : Nat → Nat → Int32 → Int32 → Int32 → Int32 → Wd → Option (Int32 × Wd)
  | 0 => fun _ _ _ _ _ _ => none
  | n + 1 => fX3_run (fX3_run_n n)
set_option maxHeartbeats 1000000 in
set_option maxRecDepth 20000 in
theorem ctX3_run_n {E : Ev} : ∀ (n : Nat) {b0 : Nat} {b1 b2 b3 b4 : Int32} {w : Wd} {q : Int32 × Wd}, fX3_run_n n b0 b1 b2 b3 b4 w = some q → CT E mX3_run (n + 6, 0, false) [.ref b0, .int b1, .int b2, .int b3, .int b4] w (QI q)
  | 0, _, _, _, _, _, _, _, h => by cases h
  | n + 1, _, _, _, _, _, _, _, h => CT.of pl_RX3 (Nat.le_of_ble_eq_true rfl) (okX3_run (D := n) (fun h => ctX3_run_n n h) h ⟨rfl, rfl⟩)
def fX3_run_12 : Nat → Int32 → Int32 → Int32 → Int32 → Wd → Option (Int32 × Wd) := fX3_run_n 12
set_option maxHeartbeats 1000000 in
set_option maxRecDepth 20000 in
theorem ctX3_run_12 {E : Ev} {b0 : Nat} {b1 b2 b3 b4 : Int32} {w : Wd} {q : Int32 × Wd} (h : fX3_run_12 b0 b1 b2 b3 b4 w = some q) : CT E mX3_run (18, 0, false) [.ref b0, .int b1, .int b2, .int b3, .int b4] w (QI q) := ctX3_run_n 12 h
