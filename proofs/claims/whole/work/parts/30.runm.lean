def PX8_judge_L33 (E : Ev) (Q : Option Value → Wd → Prop) (a0 : Nat) (x1 : Int32) (x2 : Int32) (s : Int32 × Wd) : Prop := Runs E mX8_judge (9, 0, false) Q 0 33 [(0, .ref a0), (1, .int x1), (2, .int x2), (4, .int s.1)] [] s.2
def fX8_judge_b70 (x4 : Int32) (w : Wd) : Option (Int32 × Wd) :=
  some (x4, w)
set_option maxHeartbeats 1000000 in
set_option maxRecDepth 20000 in
theorem okX8_judge_b70 {E : Ev} {Q : Option Value → Wd → Prop} {x4 : Int32} {w : Wd} {q : Int32 × Wd} (h : fX8_judge_b70 x4 w = some q) (hk : (fun q : Int32 × Wd => Q (some (.int q.1)) q.2) q) : Runs E mX8_judge (9, 0, false) Q 0 70 [(4, .int x4)] [] w := by
  unfold fX8_judge_b70 at h
  refine r_iload dX8_judge_70 0 rfl ?_
  rw [← Option.some.inj h] at hk
  exact r_ireturn dX8_judge_72 rfl rfl hk
def fX8_judge_L33_body (a0 : Nat) (x1 : Int32) (x2 : Int32) (s : Int32 × Wd) : Option ((Int32 × Wd) ⊕ (Int32 × Wd)) :=
  if (12 : Int32) ≤ s.1 then (wr (some ((-1), s.2))) else (chk (isO s.2 a0 8) (ob (fX8_told a0 x1 s.1 s.2) (fun q4 => ob (fX8_isDigit q4.1 q4.2) (fun q6 => if q6.1 = 0 then (wr (fX8_judge_b70 s.1 q6.2)) else (chk (isO q6.2 a0 8) (ob (fX8_told a0 x1 s.1 q6.2) (fun q11 => chk (isO q11.2 a0 8) (ob (fX8_doesNow a0 x2 s.1 q11.2) (fun q14 => if q11.1 = q14.1 then (some (.inl ((s.1 + 1), q14.2))) else (wr (fX8_judge_b70 s.1 q14.2)))))))))))
set_option maxHeartbeats 1000000 in
set_option maxRecDepth 20000 in
theorem okX8_judge_L33_body {E : Ev} {Q : Option Value → Wd → Prop} {a0 : Nat} {x1 : Int32} {x2 : Int32} {s : Int32 × Wd} {r : (Int32 × Wd) ⊕ (Int32 × Wd)} (h : fX8_judge_L33_body a0 x1 x2 s = some r) (hk : (Sum.elim (PX8_judge_L33 E Q a0 x1 x2) (fun q : Int32 × Wd => Q (some (.int q.1)) q.2)) r) : PX8_judge_L33 E Q a0 x1 x2 s := by
  unfold fX8_judge_L33_body at h
  unfold PX8_judge_L33
  refine r_iload dX8_judge_33 3 rfl ?_
  refine r_bipush (v := 12) dX8_judge_35 (by decide) ?_
  refine r_icmp_ge (tgt := 79) dX8_judge_37 (by decide) (fun c1 => ?_) (fun c1 => ?_)
  · rw [if_pos c1] at h
    obtain ⟨r2, hr, h⟩ := wr_some h
    rw [hr] at hk
    refine r_iconst (v := (-1)) dX8_judge_79 (by decide) ?_
    rw [← Option.some.inj h] at hk
    exact r_ireturn dX8_judge_80 rfl rfl hk
  · rw [if_neg c1] at h
    refine r_aload_n dX8_judge_40 0 rfl ?_
    refine r_iload_n dX8_judge_41 1 rfl ?_
    refine r_iload dX8_judge_42 3 rfl ?_
    obtain ⟨h3, h⟩ := chk_some h
    obtain ⟨q4, g5, h⟩ := ob_some h
    refine r_callV (d' := (6, 0, false)) (As := [.int x1, .int s.1]) (st := []) mdv_X8_told tm_RX8_248 (by decide) rfl rfl (by decide) rfl (Nat.le_refl _) (Nat.le_of_ble_eq_true rfl) rfl dX8_judge_44 h3 (ctX8_told g5) (k_I0 ?_)
    obtain ⟨q6, g7, h⟩ := ob_some h
    refine r_callS (d' := (7, 0, false)) (As := [.int q4.1]) (st := []) mds_X8_isDigit tm_RX8_113 rfl (by decide) rfl (Nat.le_refl _) (Nat.le_of_ble_eq_true rfl) rfl dX8_judge_47 (ctX8_isDigit g7) (k_I0 ?_)
    refine r_if_eq (tgt := 70) dX8_judge_50 (by decide) (fun c8 => ?_) (fun c8 => ?_)
    · rw [if_pos c8] at h
      obtain ⟨r9, hr, h⟩ := wr_some h
      rw [hr] at hk
      refine r_sub [3] [(4, .int s.1)] rfl ?_
      exact okX8_judge_b70 h hk
    · rw [if_neg c8] at h
      refine r_aload_n dX8_judge_53 0 rfl ?_
      refine r_iload_n dX8_judge_54 1 rfl ?_
      refine r_iload dX8_judge_55 3 rfl ?_
      obtain ⟨h10, h⟩ := chk_some h
      obtain ⟨q11, g12, h⟩ := ob_some h
      refine r_callV (d' := (6, 0, false)) (As := [.int x1, .int s.1]) (st := []) mdv_X8_told tm_RX8_248 (by decide) rfl rfl (by decide) rfl (Nat.le_refl _) (Nat.le_of_ble_eq_true rfl) rfl dX8_judge_57 h10 (ctX8_told g12) (k_I0 ?_)
      refine r_aload_n dX8_judge_60 0 rfl ?_
      refine r_iload_n dX8_judge_61 2 rfl ?_
      refine r_iload dX8_judge_62 3 rfl ?_
      obtain ⟨h13, h⟩ := chk_some h
      obtain ⟨q14, g15, h⟩ := ob_some h
      refine r_callV (d' := (8, 0, false)) (As := [.int x2, .int s.1]) (st := [.int q11.1]) mdv_X8_doesNow tm_RX8_217 (by decide) rfl rfl (by decide) rfl (Nat.le_refl _) (Nat.le_of_ble_eq_true rfl) rfl dX8_judge_64 h13 (ctX8_doesNow g15) (k_I0 ?_)
      refine r_icmp_eq (tgt := 73) dX8_judge_67 (by decide) (fun c16 => ?_) (fun c16 => ?_)
      · rw [if_pos c16] at h
        refine r_iinc (v := (s.1 + 1)) dX8_judge_73 3 rfl rfl (Nat.le_of_ble_eq_true rfl) [(4, .int (s.1 + 1)), (0, .ref a0), (1, .int x1), (2, .int x2)] rfl ?_
        refine r_goto (tgt := 33) dX8_judge_76 (by decide) ?_
        rw [← Option.some.inj h] at hk
        refine r_sub [1, 2, 3, 0] [(0, .ref a0), (1, .int x1), (2, .int x2), (4, .int (s.1 + 1))] rfl ?_
        exact hk
      · rw [if_neg c16] at h
        obtain ⟨r17, hr, h⟩ := wr_some h
        rw [hr] at hk
        refine r_sub [3] [(4, .int s.1)] rfl ?_
        exact okX8_judge_b70 h hk
def fX8_judge_L33 (a0 : Nat) (x1 : Int32) (x2 : Int32) (s : Int32 × Wd) : Option (Int32 × Wd) := it (fX8_judge_L33_body a0 x1 x2) FU s
set_option maxHeartbeats 1000000 in
set_option maxRecDepth 20000 in
theorem okX8_judge_L33 {E : Ev} {Q : Option Value → Wd → Prop} {a0 : Nat} {x1 : Int32} {x2 : Int32} {s : Int32 × Wd} {r : Int32 × Wd} (h : fX8_judge_L33 a0 x1 x2 s = some r) (hk : (fun q : Int32 × Wd => Q (some (.int q.1)) q.2) r) : PX8_judge_L33 E Q a0 x1 x2 s := it_runs (fun s r h hk => okX8_judge_L33_body h hk) FU s r h hk
def fX8_judge (a0 : Nat) (x1 : Int32) (x2 : Int32) (w : Wd) : Option (Int32 × Wd) :=
  chk (isO w a0 8) (ob (fX8_isOne a0 x2 w) (fun q2 => if q2.1 = 0 then (chk (isO q2.2 a0 8) (ob (fX8_no10 a0 (-1) q2.2) (fun q13 => some (q13.1, q13.2)))) else (chk (isO q2.2 a0 8) (ob (fX8_noDay a0 x1 q2.2) (fun q6 => if 0 ≤ q6.1 then (fX8_judge_L33 a0 x1 x2 (0, q6.2)) else (chk (isO q6.2 a0 8) (ob (fX8_no10 a0 q6.1 q6.2) (fun q10 => some (q10.1, q10.2)))))))))
set_option maxHeartbeats 1000000 in
set_option maxRecDepth 20000 in
theorem okX8_judge {E : Ev} {Q : Option Value → Wd → Prop} {a0 : Nat} {x1 : Int32} {x2 : Int32} {w : Wd} {q : Int32 × Wd} (h : fX8_judge a0 x1 x2 w = some q) (hk : (fun q : Int32 × Wd => Q (some (.int q.1)) q.2) q) : Runs E mX8_judge (9, 0, false) Q 0 0 [(0, .ref a0), (1, .int x1), (2, .int x2)] [] w := by
  unfold fX8_judge at h
  refine r_aload_n dX8_judge_0 0 rfl ?_
  refine r_iload_n dX8_judge_1 2 rfl ?_
  obtain ⟨h1, h⟩ := chk_some h
  obtain ⟨q2, g3, h⟩ := ob_some h
  refine r_callV (d' := (7, 0, false)) (As := [.int x2]) (st := []) mdv_X8_isOne tm_RX8_122 (by decide) rfl rfl (by decide) rfl (Nat.le_refl _) (Nat.le_of_ble_eq_true rfl) rfl dX8_judge_2 h1 (ctX8_isOne g3) (k_I0 ?_)
  refine r_if_ne (tgt := 14) dX8_judge_5 (by decide) (fun c4 => ?_) (fun c4 => ?_)
  · rw [if_neg c4] at h
    refine r_aload_n dX8_judge_14 0 rfl ?_
    refine r_iload_n dX8_judge_15 1 rfl ?_
    obtain ⟨h5, h⟩ := chk_some h
    obtain ⟨q6, g7, h⟩ := ob_some h
    refine r_callV (d' := (8, 0, false)) (As := [.int x1]) (st := []) mdv_X8_noDay tm_RX8_245 (by decide) rfl rfl (by decide) rfl (Nat.le_refl _) (Nat.le_of_ble_eq_true rfl) rfl dX8_judge_16 h5 (ctX8_noDay g7) (k_I0 ?_)
    refine r_istore_n dX8_judge_19 rfl (Nat.le_of_ble_eq_true rfl) [(3, .int q6.1), (0, .ref a0), (1, .int x1), (2, .int x2)] rfl ?_
    refine r_iload_n dX8_judge_20 0 rfl ?_
    refine r_if_ge (tgt := 30) dX8_judge_21 (by decide) (fun c8 => ?_) (fun c8 => ?_)
    · rw [if_pos c8] at h
      refine r_iconst (v := 0) dX8_judge_30 (by decide) ?_
      refine r_istore dX8_judge_31 (Nat.le_of_ble_eq_true rfl) [(4, .int 0), (3, .int q6.1), (0, .ref a0), (1, .int x1), (2, .int x2)] rfl ?_
      refine r_sub [2, 3, 4, 0] [(0, .ref a0), (1, .int x1), (2, .int x2), (4, .int 0)] rfl ?_
      exact okX8_judge_L33 h hk
    · rw [if_neg c8] at h
      refine r_aload_n dX8_judge_24 1 rfl ?_
      refine r_iload_n dX8_judge_25 0 rfl ?_
      obtain ⟨h9, h⟩ := chk_some h
      obtain ⟨q10, g11, h⟩ := ob_some h
      refine r_callV (d' := (7, 0, false)) (As := [.int q6.1]) (st := []) mdv_X8_no10 tm_RX8_132 (by decide) rfl rfl (by decide) rfl (Nat.le_refl _) (Nat.le_of_ble_eq_true rfl) rfl dX8_judge_26 h9 (ctX8_no10 g11) (k_I0 ?_)
      rw [← Option.some.inj h] at hk
      exact r_ireturn dX8_judge_29 rfl rfl hk
  · rw [if_pos c4] at h
    refine r_aload_n dX8_judge_8 0 rfl ?_
    refine r_iconst (v := (-1)) dX8_judge_9 (by decide) ?_
    obtain ⟨h12, h⟩ := chk_some h
    obtain ⟨q13, g14, h⟩ := ob_some h
    refine r_callV (d' := (7, 0, false)) (As := [.int (-1)]) (st := []) mdv_X8_no10 tm_RX8_132 (by decide) rfl rfl (by decide) rfl (Nat.le_refl _) (Nat.le_of_ble_eq_true rfl) rfl dX8_judge_10 h12 (ctX8_no10 g14) (k_I0 ?_)
    rw [← Option.some.inj h] at hk
    exact r_ireturn dX8_judge_13 rfl rfl hk
set_option maxHeartbeats 1000000 in
set_option maxRecDepth 20000 in
theorem ctX8_judge {E : Ev} {a0 : Nat} {x1 : Int32} {x2 : Int32} {w : Wd} {q : Int32 × Wd} (h : fX8_judge a0 x1 x2 w = some q) : CT E mX8_judge (9, 0, false) [.ref a0, .int x1, .int x2] w (QI q) := CT.of pl_RX8 (Nat.le_of_ble_eq_true rfl) (okX8_judge h ⟨rfl, rfl⟩)
def PX8_kept_L33 (E : Ev) (Q : Option Value → Wd → Prop) (a0 : Nat) (x1 : Int32) (x2 : Int32) (s : Int32 × Int32 × Wd) : Prop := Runs E mX8_kept (8, 0, false) Q 0 33 [(0, .ref a0), (1, .int x1), (2, .int x2), (3, .int s.1), (4, .int s.2.1)] [] s.2.2
def fX8_kept_b69 (a0 : Nat) (x1 : Int32) (x2 : Int32) (x3 : Int32) (x4 : Int32) (w : Wd) : Option ((Int32 × Int32 × Wd) ⊕ (Int32 × Wd)) :=
  some (.inl (x3, (x4 + 1), w))
set_option maxHeartbeats 1000000 in
set_option maxRecDepth 20000 in
theorem okX8_kept_b69 {E : Ev} {Q : Option Value → Wd → Prop} {a0 : Nat} {x1 : Int32} {x2 : Int32} {x3 : Int32} {x4 : Int32} {w : Wd} {q : (Int32 × Int32 × Wd) ⊕ (Int32 × Wd)} (h : fX8_kept_b69 a0 x1 x2 x3 x4 w = some q) (hk : (Sum.elim (PX8_kept_L33 E Q a0 x1 x2) (fun q : Int32 × Wd => Q (some (.int q.1)) q.2)) q) : Runs E mX8_kept (8, 0, false) Q 0 69 [(0, .ref a0), (1, .int x1), (2, .int x2), (3, .int x3), (4, .int x4)] [] w := by
  unfold fX8_kept_b69 at h
  refine r_iinc (v := (x4 + 1)) dX8_kept_69 4 rfl rfl (Nat.le_of_ble_eq_true rfl) [(4, .int (x4 + 1)), (0, .ref a0), (1, .int x1), (2, .int x2), (3, .int x3)] rfl ?_
  refine r_goto (tgt := 33) dX8_kept_72 (by decide) ?_
  rw [← Option.some.inj h] at hk
  refine r_sub [1, 2, 3, 4, 0] [(0, .ref a0), (1, .int x1), (2, .int x2), (3, .int x3), (4, .int (x4 + 1))] rfl ?_
  exact hk
def fX8_kept_L33_body (a0 : Nat) (x1 : Int32) (x2 : Int32) (s : Int32 × Int32 × Wd) : Option ((Int32 × Int32 × Wd) ⊕ (Int32 × Wd)) :=
  if (12 : Int32) ≤ s.2.1 then (wr (some (s.1, s.2.2))) else (chk (isO s.2.2 a0 8) (ob (wR s.2.2 a0 11) (fun o4 => chk (isA s.2.2 o4 0) (chk (inb ((12 * x1) + s.2.1) (wn s.2.2 o4)) (ob (wR s.2.2 a0 7) (fun o8 => chk (isA s.2.2 o8 0) (chk (inb x1 (wn s.2.2 o8)) (ob (fX8_washedBy (wI s.2.2 o8 (x1).toNatClampNeg) s.2.2) (fun q12 => if (wI s.2.2 o4 (((12 * x1) + s.2.1)).toNatClampNeg) ≤ (x2 * q12.1) then (fX8_kept_b69 a0 x1 x2 s.1 s.2.1 q12.2) else (fX8_kept_b69 a0 x1 x2 (s.1 + 1) s.2.1 q12.2))))))))))
set_option maxHeartbeats 1000000 in
set_option maxRecDepth 20000 in
theorem okX8_kept_L33_body {E : Ev} {Q : Option Value → Wd → Prop} {a0 : Nat} {x1 : Int32} {x2 : Int32} {s : Int32 × Int32 × Wd} {r : (Int32 × Int32 × Wd) ⊕ (Int32 × Wd)} (h : fX8_kept_L33_body a0 x1 x2 s = some r) (hk : (Sum.elim (PX8_kept_L33 E Q a0 x1 x2) (fun q : Int32 × Wd => Q (some (.int q.1)) q.2)) r) : PX8_kept_L33 E Q a0 x1 x2 s := by
  unfold fX8_kept_L33_body at h
  unfold PX8_kept_L33
  refine r_iload dX8_kept_33 4 rfl ?_
  refine r_bipush (v := 12) dX8_kept_35 (by decide) ?_
  refine r_icmp_ge (tgt := 75) dX8_kept_37 (by decide) (fun c1 => ?_) (fun c1 => ?_)
  · rw [if_pos c1] at h
    obtain ⟨r2, hr, h⟩ := wr_some h
    rw [hr] at hk
    refine r_iload_n dX8_kept_75 3 rfl ?_
    rw [← Option.some.inj h] at hk
    exact r_ireturn dX8_kept_76 rfl rfl hk
  · rw [if_neg c1] at h
    refine r_aload_n dX8_kept_40 0 rfl ?_
    obtain ⟨h3, h⟩ := chk_some h
    obtain ⟨o4, g5, h⟩ := ob_some h
    refine r_getR (fl_RX8_38 rfl) rfl dX8_kept_41 h3 g5 ?_
    refine r_bipush (v := 12) dX8_kept_44 (by decide) ?_
    refine r_iload_n dX8_kept_46 1 rfl ?_
    refine r_imul dX8_kept_47 ?_
    refine r_iload dX8_kept_48 4 rfl ?_
    refine r_iadd dX8_kept_50 ?_
    obtain ⟨h6, h⟩ := chk_some h
    obtain ⟨h7, h⟩ := chk_some h
    refine r_iaload dX8_kept_51 h6 h7 ?_
    refine r_iload_n dX8_kept_52 2 rfl ?_
    refine r_aload_n dX8_kept_53 0 rfl ?_
    obtain ⟨o8, g9, h⟩ := ob_some h
    refine r_getR (fl_RX8_26 rfl) rfl dX8_kept_54 h3 g9 ?_
    refine r_iload_n dX8_kept_57 1 rfl ?_
    obtain ⟨h10, h⟩ := chk_some h
    obtain ⟨h11, h⟩ := chk_some h
    refine r_iaload dX8_kept_58 h10 h11 ?_
    obtain ⟨q12, g13, h⟩ := ob_some h
    refine r_callS (d' := (6, 0, false)) (As := [.int (wI s.2.2 o8 (x1).toNatClampNeg)]) (st := [.int x2, .int (wI s.2.2 o4 (((12 * x1) + s.2.1)).toNatClampNeg)]) mds_X8_washedBy tm_RX8_227 rfl (by decide) rfl (Nat.le_refl _) (Nat.le_of_ble_eq_true rfl) rfl dX8_kept_59 (ctX8_washedBy g13) (k_I0 ?_)
    refine r_imul dX8_kept_62 ?_
    refine r_icmp_le (tgt := 69) dX8_kept_63 (by decide) (fun c14 => ?_) (fun c14 => ?_)
    · rw [if_pos c14] at h
      refine r_sub [0, 1, 2, 3, 4] [(0, .ref a0), (1, .int x1), (2, .int x2), (3, .int s.1), (4, .int s.2.1)] rfl ?_
      exact okX8_kept_b69 h hk
    · rw [if_neg c14] at h
      refine r_iinc (v := (s.1 + 1)) dX8_kept_66 3 rfl rfl (Nat.le_of_ble_eq_true rfl) [(3, .int (s.1 + 1)), (0, .ref a0), (1, .int x1), (2, .int x2), (4, .int s.2.1)] rfl ?_
      refine r_sub [1, 2, 3, 0, 4] [(0, .ref a0), (1, .int x1), (2, .int x2), (3, .int (s.1 + 1)), (4, .int s.2.1)] rfl ?_
      exact okX8_kept_b69 h hk
def fX8_kept_L33 (a0 : Nat) (x1 : Int32) (x2 : Int32) (s : Int32 × Int32 × Wd) : Option (Int32 × Wd) := it (fX8_kept_L33_body a0 x1 x2) FU s
set_option maxHeartbeats 1000000 in
set_option maxRecDepth 20000 in
theorem okX8_kept_L33 {E : Ev} {Q : Option Value → Wd → Prop} {a0 : Nat} {x1 : Int32} {x2 : Int32} {s : Int32 × Int32 × Wd} {r : Int32 × Wd} (h : fX8_kept_L33 a0 x1 x2 s = some r) (hk : (fun q : Int32 × Wd => Q (some (.int q.1)) q.2) r) : PX8_kept_L33 E Q a0 x1 x2 s := it_runs (fun s r h hk => okX8_kept_L33_body h hk) FU s r h hk
def fX8_kept (a0 : Nat) (x1 : Int32) (x2 : Int32) (w : Wd) : Option (Int32 × Wd) :=
  chk (isO w a0 8) (ob (fX8_isGarment a0 x1 w) (fun q2 => if q2.1 = 0 then (chk (isO q2.2 a0 8) (ob (fX8_no a0 (-1) q2.2) (fun q12 => some (q12.1, q12.2)))) else (ob (fX8_isDigit x2 q2.2) (fun q5 => if q5.1 = 0 then (chk (isO q5.2 a0 8) (ob (fX8_no a0 (-6) q5.2) (fun q9 => some (q9.1, q9.2)))) else (fX8_kept_L33 a0 x1 x2 (0, 0, q5.2))))))
set_option maxHeartbeats 1000000 in
set_option maxRecDepth 20000 in
theorem okX8_kept {E : Ev} {Q : Option Value → Wd → Prop} {a0 : Nat} {x1 : Int32} {x2 : Int32} {w : Wd} {q : Int32 × Wd} (h : fX8_kept a0 x1 x2 w = some q) (hk : (fun q : Int32 × Wd => Q (some (.int q.1)) q.2) q) : Runs E mX8_kept (8, 0, false) Q 0 0 [(0, .ref a0), (1, .int x1), (2, .int x2)] [] w := by
  unfold fX8_kept at h
  refine r_aload_n dX8_kept_0 0 rfl ?_
  refine r_iload_n dX8_kept_1 1 rfl ?_
  obtain ⟨h1, h⟩ := chk_some h
  obtain ⟨q2, g3, h⟩ := ob_some h
  refine r_callV (d' := (7, 0, false)) (As := [.int x1]) (st := []) mdv_X8_isGarment tm_RX8_93 (by decide) rfl rfl (by decide) rfl (Nat.le_refl _) (Nat.le_of_ble_eq_true rfl) rfl dX8_kept_2 h1 (ctX8_isGarment g3) (k_I0 ?_)
  refine r_if_ne (tgt := 14) dX8_kept_5 (by decide) (fun c4 => ?_) (fun c4 => ?_)
  · rw [if_neg c4] at h
    refine r_iload_n dX8_kept_14 2 rfl ?_
    obtain ⟨q5, g6, h⟩ := ob_some h
    refine r_callS (d' := (7, 0, false)) (As := [.int x2]) (st := []) mds_X8_isDigit tm_RX8_113 rfl (by decide) rfl (Nat.le_refl _) (Nat.le_of_ble_eq_true rfl) rfl dX8_kept_15 (ctX8_isDigit g6) (k_I0 ?_)
    refine r_if_ne (tgt := 28) dX8_kept_18 (by decide) (fun c7 => ?_) (fun c7 => ?_)
    · rw [if_neg c7] at h
      refine r_iconst (v := 0) dX8_kept_28 (by decide) ?_
      refine r_istore_n dX8_kept_29 rfl (Nat.le_of_ble_eq_true rfl) [(3, .int 0), (0, .ref a0), (1, .int x1), (2, .int x2)] rfl ?_
      refine r_iconst (v := 0) dX8_kept_30 (by decide) ?_
      refine r_istore dX8_kept_31 (Nat.le_of_ble_eq_true rfl) [(4, .int 0), (3, .int 0), (0, .ref a0), (1, .int x1), (2, .int x2)] rfl ?_
      refine r_sub [2, 3, 4, 1, 0] [(0, .ref a0), (1, .int x1), (2, .int x2), (3, .int 0), (4, .int 0)] rfl ?_
      exact okX8_kept_L33 h hk
    · rw [if_pos c7] at h
      refine r_aload_n dX8_kept_21 0 rfl ?_
      refine r_bipush (v := (-6)) dX8_kept_22 (by decide) ?_
      obtain ⟨h8, h⟩ := chk_some h
      obtain ⟨q9, g10, h⟩ := ob_some h
      refine r_callV (d' := (6, 0, false)) (As := [.int (-6)]) (st := []) mdv_X8_no tm_RX8_72 (by decide) rfl rfl (by decide) rfl (Nat.le_refl _) (Nat.le_of_ble_eq_true rfl) rfl dX8_kept_24 h8 (ctX8_no g10) (k_I0 ?_)
      rw [← Option.some.inj h] at hk
      exact r_ireturn dX8_kept_27 rfl rfl hk
  · rw [if_pos c4] at h
    refine r_aload_n dX8_kept_8 0 rfl ?_
    refine r_iconst (v := (-1)) dX8_kept_9 (by decide) ?_
    obtain ⟨h11, h⟩ := chk_some h
    obtain ⟨q12, g13, h⟩ := ob_some h
    refine r_callV (d' := (6, 0, false)) (As := [.int (-1)]) (st := []) mdv_X8_no tm_RX8_72 (by decide) rfl rfl (by decide) rfl (Nat.le_refl _) (Nat.le_of_ble_eq_true rfl) rfl dX8_kept_10 h11 (ctX8_no g13) (k_I0 ?_)
    rw [← Option.some.inj h] at hk
    exact r_ireturn dX8_kept_13 rfl rfl hk
set_option maxHeartbeats 1000000 in
set_option maxRecDepth 20000 in
theorem ctX8_kept {E : Ev} {a0 : Nat} {x1 : Int32} {x2 : Int32} {w : Wd} {q : Int32 × Wd} (h : fX8_kept a0 x1 x2 w = some q) : CT E mX8_kept (8, 0, false) [.ref a0, .int x1, .int x2] w (QI q) := CT.of pl_RX8 (Nat.le_of_ble_eq_true rfl) (okX8_kept h ⟨rfl, rfl⟩)
def fX8_like_b30 (s0 : Int32) (w : Wd) : Option (Int32 × Wd) :=
  some (s0, w)
set_option maxHeartbeats 1000000 in
set_option maxRecDepth 20000 in
theorem okX8_like_b30 {E : Ev} {Q : Option Value → Wd → Prop} {s0 : Int32} {w : Wd} {q : Int32 × Wd} (h : fX8_like_b30 s0 w = some q) (hk : (fun q : Int32 × Wd => Q (some (.int q.1)) q.2) q) : Runs E mX8_like (8, 0, false) Q 0 30 [] [.int s0] w := by
  unfold fX8_like_b30 at h
  rw [← Option.some.inj h] at hk
  exact r_ireturn dX8_like_30 rfl rfl hk
def fX8_like_b25 (a0 : Nat) (w : Wd) : Option (Int32 × Wd) :=
  chk (isO w a0 8) (ob (fX8_no a0 (-1) w) (fun q2 => fX8_like_b30 q2.1 q2.2))
set_option maxHeartbeats 1000000 in
set_option maxRecDepth 20000 in
theorem okX8_like_b25 {E : Ev} {Q : Option Value → Wd → Prop} {a0 : Nat} {w : Wd} {q : Int32 × Wd} (h : fX8_like_b25 a0 w = some q) (hk : (fun q : Int32 × Wd => Q (some (.int q.1)) q.2) q) : Runs E mX8_like (8, 0, false) Q 0 25 [(0, .ref a0)] [] w := by
  unfold fX8_like_b25 at h
  refine r_aload_n dX8_like_25 0 rfl ?_
  refine r_iconst (v := (-1)) dX8_like_26 (by decide) ?_
  obtain ⟨h1, h⟩ := chk_some h
  obtain ⟨q2, g3, h⟩ := ob_some h
  refine r_callV (d' := (6, 0, false)) (As := [.int (-1)]) (st := []) mdv_X8_no tm_RX8_72 (by decide) rfl rfl (by decide) rfl (Nat.le_refl _) (Nat.le_of_ble_eq_true rfl) rfl dX8_like_27 h1 (ctX8_no g3) (k_I0 ?_)
  refine r_sub [] [] rfl ?_
  exact okX8_like_b30 h hk
def fX8_like (a0 : Nat) (x1 : Int32) (x2 : Int32) (w : Wd) : Option (Int32 × Wd) :=
  chk (isO w a0 8) (ob (fX8_isGarment a0 x1 w) (fun q2 => if q2.1 = 0 then (fX8_like_b25 a0 q2.2) else (chk (isO q2.2 a0 8) (ob (fX8_isOne a0 x2 q2.2) (fun q6 => if q6.1 = 0 then (fX8_like_b25 a0 q6.2) else (chk (isO q6.2 a0 8) (ob (fX8_likeOf a0 x1 x2 q6.2) (fun q10 => fX8_like_b30 q10.1 q10.2))))))))
set_option maxHeartbeats 1000000 in
set_option maxRecDepth 20000 in
theorem okX8_like {E : Ev} {Q : Option Value → Wd → Prop} {a0 : Nat} {x1 : Int32} {x2 : Int32} {w : Wd} {q : Int32 × Wd} (h : fX8_like a0 x1 x2 w = some q) (hk : (fun q : Int32 × Wd => Q (some (.int q.1)) q.2) q) : Runs E mX8_like (8, 0, false) Q 0 0 [(0, .ref a0), (1, .int x1), (2, .int x2)] [] w := by
  unfold fX8_like at h
  refine r_aload_n dX8_like_0 0 rfl ?_
  refine r_iload_n dX8_like_1 1 rfl ?_
  obtain ⟨h1, h⟩ := chk_some h
  obtain ⟨q2, g3, h⟩ := ob_some h
  refine r_callV (d' := (7, 0, false)) (As := [.int x1]) (st := []) mdv_X8_isGarment tm_RX8_93 (by decide) rfl rfl (by decide) rfl (Nat.le_refl _) (Nat.le_of_ble_eq_true rfl) rfl dX8_like_2 h1 (ctX8_isGarment g3) (k_I0 ?_)
  refine r_if_eq (tgt := 25) dX8_like_5 (by decide) (fun c4 => ?_) (fun c4 => ?_)
  · rw [if_pos c4] at h
    refine r_sub [0] [(0, .ref a0)] rfl ?_
    exact okX8_like_b25 h hk
  · rw [if_neg c4] at h
    refine r_aload_n dX8_like_8 0 rfl ?_
    refine r_iload_n dX8_like_9 2 rfl ?_
    obtain ⟨h5, h⟩ := chk_some h
    obtain ⟨q6, g7, h⟩ := ob_some h
    refine r_callV (d' := (7, 0, false)) (As := [.int x2]) (st := []) mdv_X8_isOne tm_RX8_122 (by decide) rfl rfl (by decide) rfl (Nat.le_refl _) (Nat.le_of_ble_eq_true rfl) rfl dX8_like_10 h5 (ctX8_isOne g7) (k_I0 ?_)
    refine r_if_eq (tgt := 25) dX8_like_13 (by decide) (fun c8 => ?_) (fun c8 => ?_)
    · rw [if_pos c8] at h
      refine r_sub [0] [(0, .ref a0)] rfl ?_
      exact okX8_like_b25 h hk
    · rw [if_neg c8] at h
      refine r_aload_n dX8_like_16 0 rfl ?_
      refine r_iload_n dX8_like_17 1 rfl ?_
      refine r_iload_n dX8_like_18 2 rfl ?_
      obtain ⟨h9, h⟩ := chk_some h
      obtain ⟨q10, g11, h⟩ := ob_some h
      refine r_callV (d' := (6, 0, false)) (As := [.int x1, .int x2]) (st := []) mdv_X8_likeOf tm_RX8_239 (by decide) rfl rfl (by decide) rfl (Nat.le_refl _) (Nat.le_of_ble_eq_true rfl) rfl dX8_like_19 h9 (ctX8_likeOf g11) (k_I0 ?_)
      refine r_goto (tgt := 30) dX8_like_22 (by decide) ?_
      refine r_sub [] [] rfl ?_
      exact okX8_like_b30 h hk
set_option maxHeartbeats 1000000 in
set_option maxRecDepth 20000 in
theorem ctX8_like {E : Ev} {a0 : Nat} {x1 : Int32} {x2 : Int32} {w : Wd} {q : Int32 × Wd} (h : fX8_like a0 x1 x2 w = some q) : CT E mX8_like (8, 0, false) [.ref a0, .int x1, .int x2] w (QI q) := CT.of pl_RX8 (Nat.le_of_ble_eq_true rfl) (okX8_like h ⟨rfl, rfl⟩)
def fX8_own_b28 (a0 : Nat) (w : Wd) : Option (Int32 × Wd) :=
  chk (isO w a0 8) (ob (fX8_no a0 (-6) w) (fun q2 => some (q2.1, q2.2)))
set_option maxHeartbeats 1000000 in
set_option maxRecDepth 20000 in
theorem okX8_own_b28 {E : Ev} {Q : Option Value → Wd → Prop} {a0 : Nat} {w : Wd} {q : Int32 × Wd} (h : fX8_own_b28 a0 w = some q) (hk : (fun q : Int32 × Wd => Q (some (.int q.1)) q.2) q) : Runs E mX8_own (8, 0, false) Q 0 28 [(0, .ref a0)] [] w := by
  unfold fX8_own_b28 at h
  refine r_aload_n dX8_own_28 0 rfl ?_
  refine r_bipush (v := (-6)) dX8_own_29 (by decide) ?_
  obtain ⟨h1, h⟩ := chk_some h
  obtain ⟨q2, g3, h⟩ := ob_some h
  refine r_callV (d' := (6, 0, false)) (As := [.int (-6)]) (st := []) mdv_X8_no tm_RX8_72 (by decide) rfl rfl (by decide) rfl (Nat.le_refl _) (Nat.le_of_ble_eq_true rfl) rfl dX8_own_31 h1 (ctX8_no g3) (k_I0 ?_)
  rw [← Option.some.inj h] at hk
  exact r_ireturn dX8_own_34 rfl rfl hk
def fX8_own (a0 : Nat) (x1 : Int32) (x2 : Int32) (x3 : Int32) (w : Wd) : Option (Int32 × Wd) :=
  chk (isO w a0 8) (ob (fX8_isOne a0 x1 w) (fun q2 => if q2.1 = 0 then (chk (isO q2.2 a0 8) (ob (fX8_no a0 (-1) q2.2) (fun q21 => some (q21.1, q21.2)))) else (ob (fX8_isHour x2 q2.2) (fun q5 => if q5.1 = 0 then (fX8_own_b28 a0 q5.2) else (ob (fX8_isDigit x3 q5.2) (fun q8 => if q8.1 = 0 then (fX8_own_b28 a0 q8.2) else (chk (isO q8.2 a0 8) (ob (wR q8.2 a0 5) (fun o12 => chk (isA q8.2 o12 0) (chk (inb ((12 * x1) + x2) (wn q8.2 o12)) (bnd (wI q8.2 o12 (((12 * x1) + x2)).toNatClampNeg) (fun u16 => bnd (sI q8.2 o12 (((12 * x1) + x2)).toNatClampNeg x3) (fun w18 => some (u16, w18))))))))))))))
set_option maxHeartbeats 1000000 in
set_option maxRecDepth 20000 in
theorem okX8_own {E : Ev} {Q : Option Value → Wd → Prop} {a0 : Nat} {x1 : Int32} {x2 : Int32} {x3 : Int32} {w : Wd} {q : Int32 × Wd} (h : fX8_own a0 x1 x2 x3 w = some q) (hk : (fun q : Int32 × Wd => Q (some (.int q.1)) q.2) q) : Runs E mX8_own (8, 0, false) Q 0 0 [(0, .ref a0), (1, .int x1), (2, .int x2), (3, .int x3)] [] w := by
  unfold fX8_own at h
  refine r_aload_n dX8_own_0 0 rfl ?_
  refine r_iload_n dX8_own_1 1 rfl ?_
  obtain ⟨h1, h⟩ := chk_some h
  obtain ⟨q2, g3, h⟩ := ob_some h
  refine r_callV (d' := (7, 0, false)) (As := [.int x1]) (st := []) mdv_X8_isOne tm_RX8_122 (by decide) rfl rfl (by decide) rfl (Nat.le_refl _) (Nat.le_of_ble_eq_true rfl) rfl dX8_own_2 h1 (ctX8_isOne g3) (k_I0 ?_)
  refine r_if_ne (tgt := 14) dX8_own_5 (by decide) (fun c4 => ?_) (fun c4 => ?_)
  · rw [if_neg c4] at h
    refine r_iload_n dX8_own_14 2 rfl ?_
    obtain ⟨q5, g6, h⟩ := ob_some h
    refine r_callS (d' := (7, 0, false)) (As := [.int x2]) (st := []) mds_X8_isHour tm_RX8_125 rfl (by decide) rfl (Nat.le_refl _) (Nat.le_of_ble_eq_true rfl) rfl dX8_own_15 (ctX8_isHour g6) (k_I0 ?_)
    refine r_if_eq (tgt := 28) dX8_own_18 (by decide) (fun c7 => ?_) (fun c7 => ?_)
    · rw [if_pos c7] at h
      refine r_sub [0] [(0, .ref a0)] rfl ?_
      exact okX8_own_b28 h hk
    · rw [if_neg c7] at h
      refine r_iload_n dX8_own_21 3 rfl ?_
      obtain ⟨q8, g9, h⟩ := ob_some h
      refine r_callS (d' := (7, 0, false)) (As := [.int x3]) (st := []) mds_X8_isDigit tm_RX8_113 rfl (by decide) rfl (Nat.le_refl _) (Nat.le_of_ble_eq_true rfl) rfl dX8_own_22 (ctX8_isDigit g9) (k_I0 ?_)
      refine r_if_ne (tgt := 35) dX8_own_25 (by decide) (fun c10 => ?_) (fun c10 => ?_)
      · rw [if_neg c10] at h
        refine r_aload_n dX8_own_35 0 rfl ?_
        obtain ⟨h11, h⟩ := chk_some h
        obtain ⟨o12, g13, h⟩ := ob_some h
        refine r_getR (fl_RX8_23 rfl) rfl dX8_own_36 h11 g13 ?_
        refine r_bipush (v := 12) dX8_own_39 (by decide) ?_
        refine r_iload_n dX8_own_41 1 rfl ?_
        refine r_imul dX8_own_42 ?_
        refine r_iload_n dX8_own_43 2 rfl ?_
        refine r_iadd dX8_own_44 ?_
        obtain ⟨h14, h⟩ := chk_some h
        obtain ⟨h15, h⟩ := chk_some h
        refine r_iaload dX8_own_45 h14 h15 ?_
        obtain ⟨u16, e17, h⟩ := bnd_some h
        refine r_eqI e17 ?_
        refine r_istore dX8_own_46 (Nat.le_of_ble_eq_true rfl) [(4, .int u16), (0, .ref a0), (1, .int x1), (2, .int x2), (3, .int x3)] rfl ?_
        refine r_aload_n dX8_own_48 1 rfl ?_
        refine r_getR (fl_RX8_23 rfl) rfl dX8_own_49 h11 g13 ?_
        refine r_bipush (v := 12) dX8_own_52 (by decide) ?_
        refine r_iload_n dX8_own_54 2 rfl ?_
        refine r_imul dX8_own_55 ?_
        refine r_iload_n dX8_own_56 3 rfl ?_
        refine r_iadd dX8_own_57 ?_
        refine r_iload_n dX8_own_58 4 rfl ?_
        obtain ⟨w18, e19, h⟩ := bnd_some h
        refine r_iastore dX8_own_59 h14 h15 ?_
        refine r_eqW e19 ?_
        refine r_iload dX8_own_60 0 rfl ?_
        rw [← Option.some.inj h] at hk
        exact r_ireturn dX8_own_62 rfl rfl hk
      · rw [if_pos c10] at h
        refine r_sub [0] [(0, .ref a0)] rfl ?_
        exact okX8_own_b28 h hk
  · rw [if_pos c4] at h
    refine r_aload_n dX8_own_8 0 rfl ?_
    refine r_iconst (v := (-1)) dX8_own_9 (by decide) ?_
    obtain ⟨h20, h⟩ := chk_some h
    obtain ⟨q21, g22, h⟩ := ob_some h
    refine r_callV (d' := (6, 0, false)) (As := [.int (-1)]) (st := []) mdv_X8_no tm_RX8_72 (by decide) rfl rfl (by decide) rfl (Nat.le_refl _) (Nat.le_of_ble_eq_true rfl) rfl dX8_own_10 h20 (ctX8_no g22) (k_I0 ?_)
    rw [← Option.some.inj h] at hk
    exact r_ireturn dX8_own_13 rfl rfl hk
set_option maxHeartbeats 1000000 in
set_option maxRecDepth 20000 in
theorem ctX8_own {E : Ev} {a0 : Nat} {x1 : Int32} {x2 : Int32} {x3 : Int32} {w : Wd} {q : Int32 × Wd} (h : fX8_own a0 x1 x2 x3 w = some q) : CT E mX8_own (8, 0, false) [.ref a0, .int x1, .int x2, .int x3] w (QI q) := CT.of pl_RX8 (Nat.le_of_ble_eq_true rfl) (okX8_own h ⟨rfl, rfl⟩)
def fX8_person_b37 (s0 : Int32) (w : Wd) : Option (Int32 × Wd) :=
  some (s0, w)
set_option maxHeartbeats 1000000 in
set_option maxRecDepth 20000 in
theorem okX8_person_b37 {E : Ev} {Q : Option Value → Wd → Prop} {s0 : Int32} {w : Wd} {q : Int32 × Wd} (h : fX8_person_b37 s0 w = some q) (hk : (fun q : Int32 × Wd => Q (some (.int q.1)) q.2) q) : Runs E mX8_person (8, 0, false) Q 0 37 [] [.int s0] w := by
  unfold fX8_person_b37 at h
  rw [← Option.some.inj h] at hk
  exact r_ireturn dX8_person_37 rfl rfl hk
def fX8_person (a0 : Nat) (x1 : Int32) (w : Wd) : Option (Int32 × Wd) :=
  ob (fX8_isDigit x1 w) (fun q1 => if q1.1 = 0 then (chk (isO q1.2 a0 8) (ob (fX8_no a0 (-6) q1.2) (fun q11 => some (q11.1, q11.2)))) else (chk (isO q1.2 a0 8) (if (wI q1.2 a0 3) = 6 then (ob (fX8_no a0 (-7) q1.2) (fun q8 => fX8_person_b37 q8.1 q8.2)) else (ob (fX8_newOne a0 x1 q1.2) (fun q6 => fX8_person_b37 q6.1 q6.2)))))
set_option maxHeartbeats 1000000 in
set_option maxRecDepth 20000 in
theorem okX8_person {E : Ev} {Q : Option Value → Wd → Prop} {a0 : Nat} {x1 : Int32} {w : Wd} {q : Int32 × Wd} (h : fX8_person a0 x1 w = some q) (hk : (fun q : Int32 × Wd => Q (some (.int q.1)) q.2) q) : Runs E mX8_person (8, 0, false) Q 0 0 [(0, .ref a0), (1, .int x1)] [] w := by
  unfold fX8_person at h
  refine r_iload_n dX8_person_0 1 rfl ?_
  obtain ⟨q1, g2, h⟩ := ob_some h
  refine r_callS (d' := (7, 0, false)) (As := [.int x1]) (st := []) mds_X8_isDigit tm_RX8_113 rfl (by decide) rfl (Nat.le_refl _) (Nat.le_of_ble_eq_true rfl) rfl dX8_person_1 (ctX8_isDigit g2) (k_I0 ?_)
  refine r_if_ne (tgt := 14) dX8_person_4 (by decide) (fun c3 => ?_) (fun c3 => ?_)
  · rw [if_neg c3] at h
    refine r_aload_n dX8_person_14 0 rfl ?_
    obtain ⟨h4, h⟩ := chk_some h
    refine r_getI (fl_RX8_83 rfl) rfl dX8_person_15 h4 ?_
    refine r_bipush (v := 6) dX8_person_18 (by decide) ?_
    refine r_icmp_ne (tgt := 32) dX8_person_20 (by decide) (fun c5 => ?_) (fun c5 => ?_)
    · rw [if_neg c5] at h
      refine r_aload_n dX8_person_32 0 rfl ?_
      refine r_iload_n dX8_person_33 1 rfl ?_
      obtain ⟨q6, g7, h⟩ := ob_some h
      refine r_callV (d' := (6, 0, false)) (As := [.int x1]) (st := []) mdv_X8_newOne tm_RX8_116 (by decide) rfl rfl (by decide) rfl (Nat.le_refl _) (Nat.le_of_ble_eq_true rfl) rfl dX8_person_34 h4 (ctX8_newOne g7) (k_I0 ?_)
      refine r_sub [] [] rfl ?_
      exact okX8_person_b37 h hk
    · rw [if_pos c5] at h
      refine r_aload_n dX8_person_23 0 rfl ?_
      refine r_bipush (v := (-7)) dX8_person_24 (by decide) ?_
      obtain ⟨q8, g9, h⟩ := ob_some h
      refine r_callV (d' := (6, 0, false)) (As := [.int (-7)]) (st := []) mdv_X8_no tm_RX8_72 (by decide) rfl rfl (by decide) rfl (Nat.le_refl _) (Nat.le_of_ble_eq_true rfl) rfl dX8_person_26 h4 (ctX8_no g9) (k_I0 ?_)
      refine r_goto (tgt := 37) dX8_person_29 (by decide) ?_
      refine r_sub [] [] rfl ?_
      exact okX8_person_b37 h hk
  · rw [if_pos c3] at h
    refine r_aload_n dX8_person_7 0 rfl ?_
    refine r_bipush (v := (-6)) dX8_person_8 (by decide) ?_
    obtain ⟨h10, h⟩ := chk_some h
    obtain ⟨q11, g12, h⟩ := ob_some h
    refine r_callV (d' := (6, 0, false)) (As := [.int (-6)]) (st := []) mdv_X8_no tm_RX8_72 (by decide) rfl rfl (by decide) rfl (Nat.le_refl _) (Nat.le_of_ble_eq_true rfl) rfl dX8_person_10 h10 (ctX8_no g12) (k_I0 ?_)
    rw [← Option.some.inj h] at hk
    exact r_ireturn dX8_person_13 rfl rfl hk
set_option maxHeartbeats 1000000 in
set_option maxRecDepth 20000 in
theorem ctX8_person {E : Ev} {a0 : Nat} {x1 : Int32} {w : Wd} {q : Int32 × Wd} (h : fX8_person a0 x1 w = some q) : CT E mX8_person (8, 0, false) [.ref a0, .int x1] w (QI q) := CT.of pl_RX8 (Nat.le_of_ble_eq_true rfl) (okX8_person h ⟨rfl, rfl⟩)
def PX8_personOf_L82 (E : Ev) (Q : Option Value → Wd → Prop) (a0 : Nat) (x1 : Int32) (s : Int32 × Int32 × Wd) : Prop := Runs E mX8_personOf (8, 0, false) Q 0 82 [(0, .ref a0), (1, .int x1), (3, .int s.1), (4, .int s.2.1)] [] s.2.2
def fX8_personOf_b109 (a0 : Nat) (x1 : Int32) (x3 : Int32) (x4 : Int32) (w : Wd) : Option ((Int32 × Int32 × Wd) ⊕ (Int32 × Wd)) :=
  some (.inl (x3, (x4 + 1), w))
set_option maxHeartbeats 1000000 in
set_option maxRecDepth 20000 in
theorem okX8_personOf_b109 {E : Ev} {Q : Option Value → Wd → Prop} {a0 : Nat} {x1 : Int32} {x3 : Int32} {x4 : Int32} {w : Wd} {q : (Int32 × Int32 × Wd) ⊕ (Int32 × Wd)} (h : fX8_personOf_b109 a0 x1 x3 x4 w = some q) (hk : (Sum.elim (PX8_personOf_L82 E Q a0 x1) (fun q : Int32 × Wd => Q (some (.int q.1)) q.2)) q) : Runs E mX8_personOf (8, 0, false) Q 0 109 [(0, .ref a0), (1, .int x1), (3, .int x3), (4, .int x4)] [] w := by
  unfold fX8_personOf_b109 at h
  refine r_iinc (v := (x4 + 1)) dX8_personOf_109 3 rfl rfl (Nat.le_of_ble_eq_true rfl) [(4, .int (x4 + 1)), (0, .ref a0), (1, .int x1), (3, .int x3)] rfl ?_
  refine r_goto (tgt := 82) dX8_personOf_112 (by decide) ?_
  rw [← Option.some.inj h] at hk
  refine r_sub [1, 2, 3, 0] [(0, .ref a0), (1, .int x1), (3, .int x3), (4, .int (x4 + 1))] rfl ?_
  exact hk
def fX8_personOf_L82_body (a0 : Nat) (x1 : Int32) (s : Int32 × Int32 × Wd) : Option ((Int32 × Int32 × Wd) ⊕ (Int32 × Wd)) :=
  chk (isO s.2.2 a0 8) (if (wI s.2.2 a0 6) ≤ s.2.1 then (wr (some (s.1, s.2.2))) else (ob (wR s.2.2 a0 9) (fun o4 => chk (isA s.2.2 o4 0) (chk (inb s.2.1 (wn s.2.2 o4)) (if (wI s.2.2 o4 (s.2.1).toNatClampNeg) = x1 then (bnd (s.1 ||| (1 <<< (s.2.1 &&& 31))) (fun u9 => fX8_personOf_b109 a0 x1 u9 s.2.1 s.2.2)) else (fX8_personOf_b109 a0 x1 s.1 s.2.1 s.2.2))))))
set_option maxHeartbeats 1000000 in
set_option maxRecDepth 20000 in
theorem okX8_personOf_L82_body {E : Ev} {Q : Option Value → Wd → Prop} {a0 : Nat} {x1 : Int32} {s : Int32 × Int32 × Wd} {r : (Int32 × Int32 × Wd) ⊕ (Int32 × Wd)} (h : fX8_personOf_L82_body a0 x1 s = some r) (hk : (Sum.elim (PX8_personOf_L82 E Q a0 x1) (fun q : Int32 × Wd => Q (some (.int q.1)) q.2)) r) : PX8_personOf_L82 E Q a0 x1 s := by
  unfold fX8_personOf_L82_body at h
  unfold PX8_personOf_L82
  refine r_iload dX8_personOf_82 3 rfl ?_
  refine r_aload_n dX8_personOf_84 0 rfl ?_
  obtain ⟨h1, h⟩ := chk_some h
  refine r_getI (fl_RX8_76 rfl) rfl dX8_personOf_85 h1 ?_
  refine r_icmp_ge (tgt := 115) dX8_personOf_88 (by decide) (fun c2 => ?_) (fun c2 => ?_)
  · rw [if_pos c2] at h
    obtain ⟨r3, hr, h⟩ := wr_some h
    rw [hr] at hk
    refine r_iload_n dX8_personOf_115 2 rfl ?_
    rw [← Option.some.inj h] at hk
    exact r_ireturn dX8_personOf_116 rfl rfl hk
  · rw [if_neg c2] at h
    refine r_aload_n dX8_personOf_91 0 rfl ?_
    obtain ⟨o4, g5, h⟩ := ob_some h
    refine r_getR (fl_RX8_32 rfl) rfl dX8_personOf_92 h1 g5 ?_
    refine r_iload dX8_personOf_95 3 rfl ?_
    obtain ⟨h6, h⟩ := chk_some h
    obtain ⟨h7, h⟩ := chk_some h
    refine r_iaload dX8_personOf_97 h6 h7 ?_
    refine r_iload_n dX8_personOf_98 1 rfl ?_
    refine r_icmp_ne (tgt := 109) dX8_personOf_99 (by decide) (fun c8 => ?_) (fun c8 => ?_)
    · rw [if_neg c8] at h
      refine r_sub [0, 1, 2, 3] [(0, .ref a0), (1, .int x1), (3, .int s.1), (4, .int s.2.1)] rfl ?_
      exact okX8_personOf_b109 h hk
    · rw [if_pos c8] at h
      refine r_iload_n dX8_personOf_102 2 rfl ?_
      refine r_iconst (v := 1) dX8_personOf_103 (by decide) ?_
      refine r_iload dX8_personOf_104 3 rfl ?_
      refine r_ishl dX8_personOf_106 ?_
      refine r_ior dX8_personOf_107 ?_
      obtain ⟨u9, e10, h⟩ := bnd_some h
      refine r_eqI e10 ?_
      refine r_istore_n dX8_personOf_108 rfl (Nat.le_of_ble_eq_true rfl) [(3, .int u9), (0, .ref a0), (1, .int x1), (4, .int s.2.1)] rfl ?_
      refine r_sub [1, 2, 0, 3] [(0, .ref a0), (1, .int x1), (3, .int u9), (4, .int s.2.1)] rfl ?_
      exact okX8_personOf_b109 h hk
def fX8_personOf_L82 (a0 : Nat) (x1 : Int32) (s : Int32 × Int32 × Wd) : Option (Int32 × Wd) := it (fX8_personOf_L82_body a0 x1) FU s
set_option maxHeartbeats 1000000 in
set_option maxRecDepth 20000 in
theorem okX8_personOf_L82 {E : Ev} {Q : Option Value → Wd → Prop} {a0 : Nat} {x1 : Int32} {s : Int32 × Int32 × Wd} {r : Int32 × Wd} (h : fX8_personOf_L82 a0 x1 s = some r) (hk : (fun q : Int32 × Wd => Q (some (.int q.1)) q.2) r) : PX8_personOf_L82 E Q a0 x1 s := it_runs (fun s r h hk => okX8_personOf_L82_body h hk) FU s r h hk
def fX8_personOf (a0 : Nat) (x1 : Int32) (x2 : Int32) (w : Wd) : Option (Int32 × Wd) :=
  chk (isO w a0 8) (ob (fX8_isOne a0 x1 w) (fun q2 => if q2.1 = 0 then (chk (isO q2.2 a0 8) (ob (fX8_no a0 (-5) q2.2) (fun q24 => some (q24.1, q24.2)))) else (ob (fX8_within x2 10 21 q2.2) (fun q5 => if q5.1 = 0 then (if x2 = 0 then (chk (isO q5.2 a0 8) (ob (wR q5.2 a0 4) (fun o10 => chk (isA q5.2 o10 0) (chk (inb x1 (wn q5.2 o10)) (some ((wI q5.2 o10 (x1).toNatClampNeg), q5.2)))))) else (if x2 = 1 then (fX8_personOf_L82 a0 x1 (0, 0, q5.2)) else (chk (isO q5.2 a0 8) (ob (fX8_no a0 (-5) q5.2) (fun q16 => some (q16.1, q16.2)))))) else (chk (isO q5.2 a0 8) (ob (wR q5.2 a0 5) (fun o19 => chk (isA q5.2 o19 0) (chk (inb (((12 * x1) + x2) - 10) (wn q5.2 o19)) (some ((wI q5.2 o19 ((((12 * x1) + x2) - 10)).toNatClampNeg), q5.2))))))))))
set_option maxHeartbeats 1000000 in
set_option maxRecDepth 20000 in
theorem okX8_personOf {E : Ev} {Q : Option Value → Wd → Prop} {a0 : Nat} {x1 : Int32} {x2 : Int32} {w : Wd} {q : Int32 × Wd} (h : fX8_personOf a0 x1 x2 w = some q) (hk : (fun q : Int32 × Wd => Q (some (.int q.1)) q.2) q) : Runs E mX8_personOf (8, 0, false) Q 0 0 [(0, .ref a0), (1, .int x1), (2, .int x2)] [] w := by
  unfold fX8_personOf at h
  refine r_aload_n dX8_personOf_0 0 rfl ?_
  refine r_iload_n dX8_personOf_1 1 rfl ?_
  obtain ⟨h1, h⟩ := chk_some h
  obtain ⟨q2, g3, h⟩ := ob_some h
  refine r_callV (d' := (7, 0, false)) (As := [.int x1]) (st := []) mdv_X8_isOne tm_RX8_122 (by decide) rfl rfl (by decide) rfl (Nat.le_refl _) (Nat.le_of_ble_eq_true rfl) rfl dX8_personOf_2 h1 (ctX8_isOne g3) (k_I0 ?_)
  refine r_if_ne (tgt := 15) dX8_personOf_5 (by decide) (fun c4 => ?_) (fun c4 => ?_)
  · rw [if_neg c4] at h
    refine r_iload_n dX8_personOf_15 2 rfl ?_
    refine r_bipush (v := 10) dX8_personOf_16 (by decide) ?_
    refine r_bipush (v := 21) dX8_personOf_18 (by decide) ?_
    obtain ⟨q5, g6, h⟩ := ob_some h
    refine r_callS (d' := (6, 0, false)) (As := [.int x2, .int 10, .int 21]) (st := []) mds_X8_within tm_RX8_79 rfl (by decide) rfl (Nat.le_refl _) (Nat.le_of_ble_eq_true rfl) rfl dX8_personOf_20 (ctX8_within g6) (k_I0 ?_)
    refine r_if_eq (tgt := 41) dX8_personOf_23 (by decide) (fun c7 => ?_) (fun c7 => ?_)
    · rw [if_pos c7] at h
      refine r_iconst (v := 0) dX8_personOf_41 (by decide) ?_
      refine r_istore_n dX8_personOf_42 rfl (Nat.le_of_ble_eq_true rfl) [(3, .int 0), (0, .ref a0), (1, .int x1), (2, .int x2)] rfl ?_
      refine r_iload_n dX8_personOf_43 3 rfl ?_
      by_cases c8 : x2 = 0
      · rw [if_pos c8] at h
        refine r_look (tgt := 72) dX8_personOf_44 (by decide) (by rw [c8] <;> decide) (by decide) ?_
        refine r_aload_n dX8_personOf_72 1 rfl ?_
        obtain ⟨h9, h⟩ := chk_some h
        obtain ⟨o10, g11, h⟩ := ob_some h
        refine r_getR (fl_RX8_20 rfl) rfl dX8_personOf_73 h9 g11 ?_
        refine r_iload_n dX8_personOf_76 2 rfl ?_
        obtain ⟨h12, h⟩ := chk_some h
        obtain ⟨h13, h⟩ := chk_some h
        refine r_iaload dX8_personOf_77 h12 h13 ?_
        rw [← Option.some.inj h] at hk
        exact r_ireturn dX8_personOf_78 rfl rfl hk
      rw [if_neg c8] at h
      by_cases c14 : x2 = 1
      · rw [if_pos c14] at h
        refine r_look (tgt := 79) dX8_personOf_44 (by decide) (by rw [c14] <;> decide) (by decide) ?_
        refine r_iconst (v := 0) dX8_personOf_79 (by decide) ?_
        refine r_istore dX8_personOf_80 (Nat.le_of_ble_eq_true rfl) [(4, .int 0), (3, .int 0), (0, .ref a0), (1, .int x1), (2, .int x2)] rfl ?_
        refine r_sub [2, 3, 1, 0] [(0, .ref a0), (1, .int x1), (3, .int 0), (4, .int 0)] rfl ?_
        exact okX8_personOf_L82 h hk
      rw [if_neg c14] at h
      refine r_look (off := 73) (tgt := 117) dX8_personOf_44 (by decide) ((lv_osw (k := 0) c8 rfl).trans ((lv_osw (k := 1) c14 rfl).trans (rfl))) (by decide) ?_
      refine r_aload_n dX8_personOf_117 1 rfl ?_
      refine r_bipush (v := (-5)) dX8_personOf_118 (by decide) ?_
      obtain ⟨h15, h⟩ := chk_some h
      obtain ⟨q16, g17, h⟩ := ob_some h
      refine r_callV (d' := (6, 0, false)) (As := [.int (-5)]) (st := []) mdv_X8_no tm_RX8_72 (by decide) rfl rfl (by decide) rfl (Nat.le_refl _) (Nat.le_of_ble_eq_true rfl) rfl dX8_personOf_120 h15 (ctX8_no g17) (k_I0 ?_)
      rw [← Option.some.inj h] at hk
      exact r_ireturn dX8_personOf_123 rfl rfl hk
    · rw [if_neg c7] at h
      refine r_aload_n dX8_personOf_26 0 rfl ?_
      obtain ⟨h18, h⟩ := chk_some h
      obtain ⟨o19, g20, h⟩ := ob_some h
      refine r_getR (fl_RX8_23 rfl) rfl dX8_personOf_27 h18 g20 ?_
      refine r_bipush (v := 12) dX8_personOf_30 (by decide) ?_
      refine r_iload_n dX8_personOf_32 1 rfl ?_
      refine r_imul dX8_personOf_33 ?_
      refine r_iload_n dX8_personOf_34 2 rfl ?_
      refine r_iadd dX8_personOf_35 ?_
      refine r_bipush (v := 10) dX8_personOf_36 (by decide) ?_
      refine r_isub dX8_personOf_38 ?_
      obtain ⟨h21, h⟩ := chk_some h
      obtain ⟨h22, h⟩ := chk_some h
      refine r_iaload dX8_personOf_39 h21 h22 ?_
      rw [← Option.some.inj h] at hk
      exact r_ireturn dX8_personOf_40 rfl rfl hk
  · rw [if_pos c4] at h
    refine r_aload_n dX8_personOf_8 0 rfl ?_
    refine r_bipush (v := (-5)) dX8_personOf_9 (by decide) ?_
    obtain ⟨h23, h⟩ := chk_some h
    obtain ⟨q24, g25, h⟩ := ob_some h
    refine r_callV (d' := (6, 0, false)) (As := [.int (-5)]) (st := []) mdv_X8_no tm_RX8_72 (by decide) rfl rfl (by decide) rfl (Nat.le_refl _) (Nat.le_of_ble_eq_true rfl) rfl dX8_personOf_11 h23 (ctX8_no g25) (k_I0 ?_)
    rw [← Option.some.inj h] at hk
    exact r_ireturn dX8_personOf_14 rfl rfl hk
set_option maxHeartbeats 1000000 in
set_option maxRecDepth 20000 in
theorem ctX8_personOf {E : Ev} {a0 : Nat} {x1 : Int32} {x2 : Int32} {w : Wd} {q : Int32 × Wd} (h : fX8_personOf a0 x1 x2 w = some q) : CT E mX8_personOf (8, 0, false) [.ref a0, .int x1, .int x2] w (QI q) := CT.of pl_RX8 (Nat.le_of_ble_eq_true rfl) (okX8_personOf h ⟨rfl, rfl⟩)
def PX8_restore_L24 (E : Ev) (Q : Option Value → Wd → Prop) (a0 : Nat) (s : Int32 × Wd) : Prop := Runs E mX8_restore (7, 0, false) Q 0 24 [(0, .ref a0), (1, .int s.1)] [] s.2
def fX8_restore_b58 (a0 : Nat) (x1 : Int32) (w : Wd) : Option ((Int32 × Wd) ⊕ (Int32 × Wd)) :=
  some (.inl ((x1 + 1), w))
set_option maxHeartbeats 1000000 in
set_option maxRecDepth 20000 in
theorem okX8_restore_b58 {E : Ev} {Q : Option Value → Wd → Prop} {a0 : Nat} {x1 : Int32} {w : Wd} {q : (Int32 × Wd) ⊕ (Int32 × Wd)} (h : fX8_restore_b58 a0 x1 w = some q) (hk : (Sum.elim (PX8_restore_L24 E Q a0) (fun q : Int32 × Wd => Q (some (.int q.1)) q.2)) q) : Runs E mX8_restore (7, 0, false) Q 0 58 [(0, .ref a0), (1, .int x1)] [] w := by
  unfold fX8_restore_b58 at h
  refine r_iinc (v := (x1 + 1)) dX8_restore_58 1 rfl rfl (Nat.le_of_ble_eq_true rfl) [(1, .int (x1 + 1)), (0, .ref a0)] rfl ?_
  refine r_goto (tgt := 24) dX8_restore_61 (by decide) ?_
  rw [← Option.some.inj h] at hk
  refine r_sub [1, 0] [(0, .ref a0), (1, .int (x1 + 1))] rfl ?_
  exact hk
def fX8_restore_L24_body (a0 : Nat) (s : Int32 × Wd) : Option ((Int32 × Wd) ⊕ (Int32 × Wd)) :=
  if (8 : Int32) ≤ s.1 then (wr (chk (isO s.2 a0 8) (some ((wI s.2 a0 6), s.2)))) else (chk (isO s.2 a0 8) (ob (fX8_isRow a0 s.1 s.2) (fun q5 => if q5.1 = 0 then (chk (isO q5.2 a0 8) (ob (wR q5.2 a0 0) (fun o9 => chk (isA q5.2 o9 0) (chk (inb s.1 (wn q5.2 o9)) (if (wI q5.2 o9 (s.1).toNatClampNeg) < (wI q5.2 a0 6) then (fX8_restore_b58 a0 s.1 q5.2) else (bnd (sI q5.2 o9 (s.1).toNatClampNeg (-1)) (fun w14 => fX8_restore_b58 a0 s.1 w14))))))) else (fX8_restore_b58 a0 s.1 q5.2))))
set_option maxHeartbeats 1000000 in
set_option maxRecDepth 20000 in
theorem okX8_restore_L24_body {E : Ev} {Q : Option Value → Wd → Prop} {a0 : Nat} {s : Int32 × Wd} {r : (Int32 × Wd) ⊕ (Int32 × Wd)} (h : fX8_restore_L24_body a0 s = some r) (hk : (Sum.elim (PX8_restore_L24 E Q a0) (fun q : Int32 × Wd => Q (some (.int q.1)) q.2)) r) : PX8_restore_L24 E Q a0 s := by
  unfold fX8_restore_L24_body at h
  unfold PX8_restore_L24
  refine r_iload_n dX8_restore_24 1 rfl ?_
  refine r_bipush (v := 8) dX8_restore_25 (by decide) ?_
  refine r_icmp_ge (tgt := 64) dX8_restore_27 (by decide) (fun c1 => ?_) (fun c1 => ?_)
  · rw [if_pos c1] at h
    obtain ⟨r2, hr, h⟩ := wr_some h
    rw [hr] at hk
    refine r_aload_n dX8_restore_64 0 rfl ?_
    obtain ⟨h3, h⟩ := chk_some h
    refine r_getI (fl_RX8_76 rfl) rfl dX8_restore_65 h3 ?_
    rw [← Option.some.inj h] at hk
    exact r_ireturn dX8_restore_68 rfl rfl hk
  · rw [if_neg c1] at h
    refine r_aload_n dX8_restore_30 0 rfl ?_
    refine r_iload_n dX8_restore_31 1 rfl ?_
    obtain ⟨h4, h⟩ := chk_some h
    obtain ⟨q5, g6, h⟩ := ob_some h
    refine r_callV (d' := (6, 0, false)) (As := [.int s.1]) (st := []) mdv_X8_isRow tm_RX8_86 (by decide) rfl rfl (by decide) rfl (Nat.le_refl _) (Nat.le_of_ble_eq_true rfl) rfl dX8_restore_32 h4 (ctX8_isRow g6) (k_I0 ?_)
    refine r_if_ne (tgt := 58) dX8_restore_35 (by decide) (fun c7 => ?_) (fun c7 => ?_)
    · rw [if_neg c7] at h
      refine r_sub [0, 1] [(0, .ref a0), (1, .int s.1)] rfl ?_
      exact okX8_restore_b58 h hk
    · rw [if_pos c7] at h
      refine r_aload_n dX8_restore_38 0 rfl ?_
      obtain ⟨h8, h⟩ := chk_some h
      obtain ⟨o9, g10, h⟩ := ob_some h
      refine r_getR (fl_RX8_7 rfl) rfl dX8_restore_39 h8 g10 ?_
      refine r_iload_n dX8_restore_42 1 rfl ?_
      obtain ⟨h11, h⟩ := chk_some h
      obtain ⟨h12, h⟩ := chk_some h
      refine r_iaload dX8_restore_43 h11 h12 ?_
      refine r_aload_n dX8_restore_44 0 rfl ?_
      refine r_getI (fl_RX8_76 rfl) rfl dX8_restore_45 h8 ?_
      refine r_icmp_lt (tgt := 58) dX8_restore_48 (by decide) (fun c13 => ?_) (fun c13 => ?_)
      · rw [if_pos c13] at h
        refine r_sub [0, 1] [(0, .ref a0), (1, .int s.1)] rfl ?_
        exact okX8_restore_b58 h hk
      · rw [if_neg c13] at h
        refine r_aload_n dX8_restore_51 0 rfl ?_
        refine r_getR (fl_RX8_7 rfl) rfl dX8_restore_52 h8 g10 ?_
        refine r_iload_n dX8_restore_55 1 rfl ?_
        refine r_iconst (v := (-1)) dX8_restore_56 (by decide) ?_
        obtain ⟨w14, e15, h⟩ := bnd_some h
        refine r_iastore dX8_restore_57 h11 h12 ?_
        refine r_eqW e15 ?_
        refine r_sub [0, 1] [(0, .ref a0), (1, .int s.1)] rfl ?_
        exact okX8_restore_b58 h hk
def fX8_restore_L24 (a0 : Nat) (s : Int32 × Wd) : Option (Int32 × Wd) := it (fX8_restore_L24_body a0) FU s
set_option maxHeartbeats 1000000 in
set_option maxRecDepth 20000 in
theorem okX8_restore_L24 {E : Ev} {Q : Option Value → Wd → Prop} {a0 : Nat} {s : Int32 × Wd} {r : Int32 × Wd} (h : fX8_restore_L24 a0 s = some r) (hk : (fun q : Int32 × Wd => Q (some (.int q.1)) q.2) r) : PX8_restore_L24 E Q a0 s := it_runs (fun s r h hk => okX8_restore_L24_body h hk) FU s r h hk
def fX8_restore (a0 : Nat) (w : Wd) : Option (Int32 × Wd) :=
  chk (isO w a0 8) (if (wI w a0 18) = 0 then (ob (fX8_no a0 (-6) w) (fun q7 => some (q7.1, q7.2))) else (ob (wR w a0 19) (fun o3 => ob (fX8_again a0 o3 w) (fun q5 => fX8_restore_L24 a0 (0, q5)))))
set_option maxHeartbeats 1000000 in
set_option maxRecDepth 20000 in
theorem okX8_restore {E : Ev} {Q : Option Value → Wd → Prop} {a0 : Nat} {w : Wd} {q : Int32 × Wd} (h : fX8_restore a0 w = some q) (hk : (fun q : Int32 × Wd => Q (some (.int q.1)) q.2) q) : Runs E mX8_restore (7, 0, false) Q 0 0 [(0, .ref a0)] [] w := by
  unfold fX8_restore at h
  refine r_aload_n dX8_restore_0 0 rfl ?_
  obtain ⟨h1, h⟩ := chk_some h
  refine r_getI (fl_RX8_284 rfl) rfl dX8_restore_1 h1 ?_
  refine r_if_ne (tgt := 14) dX8_restore_4 (by decide) (fun c2 => ?_) (fun c2 => ?_)
  · rw [if_neg c2] at h
    refine r_aload_n dX8_restore_14 0 rfl ?_
    refine r_aload_n dX8_restore_15 0 rfl ?_
    obtain ⟨o3, g4, h⟩ := ob_some h
    refine r_getR (fl_RX8_47 rfl) rfl dX8_restore_16 h1 g4 ?_
    obtain ⟨q5, g6, h⟩ := ob_some h
    refine r_callV (d' := (6, 0, false)) (As := [.ref o3]) (st := []) mdv_X8_again tm_RX8_202 (by decide) rfl rfl (by decide) rfl (Nat.le_refl _) (Nat.le_of_ble_eq_true rfl) rfl dX8_restore_19 h1 (ctX8_again g6) (k_V0 ?_)
    refine r_iconst (v := 0) dX8_restore_22 (by decide) ?_
    refine r_istore_n dX8_restore_23 rfl (Nat.le_of_ble_eq_true rfl) [(1, .int 0), (0, .ref a0)] rfl ?_
    refine r_sub [1, 0] [(0, .ref a0), (1, .int 0)] rfl ?_
    exact okX8_restore_L24 h hk
  · rw [if_pos c2] at h
    refine r_aload_n dX8_restore_7 0 rfl ?_
    refine r_bipush (v := (-6)) dX8_restore_8 (by decide) ?_
    obtain ⟨q7, g8, h⟩ := ob_some h
    refine r_callV (d' := (6, 0, false)) (As := [.int (-6)]) (st := []) mdv_X8_no tm_RX8_72 (by decide) rfl rfl (by decide) rfl (Nat.le_refl _) (Nat.le_of_ble_eq_true rfl) rfl dX8_restore_10 h1 (ctX8_no g8) (k_I0 ?_)
    rw [← Option.some.inj h] at hk
    exact r_ireturn dX8_restore_13 rfl rfl hk
set_option maxHeartbeats 1000000 in
set_option maxRecDepth 20000 in
theorem ctX8_restore {E : Ev} {a0 : Nat} {w : Wd} {q : Int32 × Wd} (h : fX8_restore a0 w = some q) : CT E mX8_restore (7, 0, false) [.ref a0] w (QI q) := CT.of pl_RX8 (Nat.le_of_ble_eq_true rfl) (okX8_restore h ⟨rfl, rfl⟩)
def PX8_row_L77 (E : Ev) (Q : Option Value → Wd → Prop) (a0 : Nat) (x1 : Int32) (s : Int32 × Wd) : Prop := Runs E mX8_row (7, 0, false) Q 0 77 [(0, .ref a0), (1, .int x1), (4, .int s.1)] [] s.2
def fX8_row_L77_body (a0 : Nat) (x1 : Int32) (s : Int32 × Wd) : Option ((Int32 × Wd) ⊕ (Int32 × Wd)) :=
  if (160 : Int32) ≤ s.1 then (wr (some (1, s.2))) else (chk (isO s.2 a0 8) (ob (wR s.2 a0 2) (fun o4 => chk (isA s.2 o4 1) (chk (inb ((160 * x1) + s.1) (wn s.2 o4)) (bnd (sL s.2 o4 (((160 * x1) + s.1)).toNatClampNeg 0) (fun w8 => some (.inl ((s.1 + 1), w8))))))))
set_option maxHeartbeats 1000000 in
set_option maxRecDepth 20000 in
theorem okX8_row_L77_body {E : Ev} {Q : Option Value → Wd → Prop} {a0 : Nat} {x1 : Int32} {s : Int32 × Wd} {r : (Int32 × Wd) ⊕ (Int32 × Wd)} (h : fX8_row_L77_body a0 x1 s = some r) (hk : (Sum.elim (PX8_row_L77 E Q a0 x1) (fun q : Int32 × Wd => Q (some (.int q.1)) q.2)) r) : PX8_row_L77 E Q a0 x1 s := by
  unfold fX8_row_L77_body at h
  unfold PX8_row_L77
  refine r_iload dX8_row_77 2 rfl ?_
  refine r_sipush (v := 160) dX8_row_79 (by decide) ?_
  refine r_icmp_ge (tgt := 105) dX8_row_82 (by decide) (fun c1 => ?_) (fun c1 => ?_)
  · rw [if_pos c1] at h
    obtain ⟨r2, hr, h⟩ := wr_some h
    rw [hr] at hk
    refine r_iconst (v := 1) dX8_row_105 (by decide) ?_
    rw [← Option.some.inj h] at hk
    exact r_ireturn dX8_row_106 rfl rfl hk
  · rw [if_neg c1] at h
    refine r_aload_n dX8_row_85 0 rfl ?_
    obtain ⟨h3, h⟩ := chk_some h
    obtain ⟨o4, g5, h⟩ := ob_some h
    refine r_getR (fl_RX8_16 rfl) rfl dX8_row_86 h3 g5 ?_
    refine r_sipush (v := 160) dX8_row_89 (by decide) ?_
    refine r_iload_n dX8_row_92 1 rfl ?_
    refine r_imul dX8_row_93 ?_
    refine r_iload dX8_row_94 2 rfl ?_
    refine r_iadd dX8_row_96 ?_
    refine r_lconst (v := 0) dX8_row_97 (by decide) ?_
    obtain ⟨h6, h⟩ := chk_some h
    obtain ⟨h7, h⟩ := chk_some h
    obtain ⟨w8, e9, h⟩ := bnd_some h
    refine r_lastore dX8_row_98 h6 h7 ?_
    refine r_eqW e9 ?_
    refine r_iinc (v := (s.1 + 1)) dX8_row_99 2 rfl rfl (Nat.le_of_ble_eq_true rfl) [(4, .int (s.1 + 1)), (0, .ref a0), (1, .int x1)] rfl ?_
    refine r_goto (tgt := 77) dX8_row_102 (by decide) ?_
    rw [← Option.some.inj h] at hk
    refine r_sub [1, 2, 0] [(0, .ref a0), (1, .int x1), (4, .int (s.1 + 1))] rfl ?_
    exact hk
def fX8_row_L77 (a0 : Nat) (x1 : Int32) (s : Int32 × Wd) : Option (Int32 × Wd) := it (fX8_row_L77_body a0 x1) FU s
set_option maxHeartbeats 1000000 in
set_option maxRecDepth 20000 in
theorem okX8_row_L77 {E : Ev} {Q : Option Value → Wd → Prop} {a0 : Nat} {x1 : Int32} {s : Int32 × Wd} {r : Int32 × Wd} (h : fX8_row_L77 a0 x1 s = some r) (hk : (fun q : Int32 × Wd => Q (some (.int q.1)) q.2) r) : PX8_row_L77 E Q a0 x1 s := it_runs (fun s r h hk => okX8_row_L77_body h hk) FU s r h hk
def fX8_row (a0 : Nat) (x1 : Int32) (x2 : Int32) (x3 : Int32) (w : Wd) : Option (Int32 × Wd) :=
  ob (fX8_within x1 0 7 w) (fun q1 => if q1.1 = 0 then (chk (isO q1.2 a0 8) (ob (fX8_no a0 (-1) q1.2) (fun q33 => some (q33.1, q33.2)))) else (if 0 ≤ x3 then (ob (fX8_within x2 0 3 q1.2) (fun q5 => if q5.1 = 0 then (chk (isO q5.2 a0 8) (ob (fX8_no a0 (-6) q5.2) (fun q27 => some (q27.1, q27.2)))) else (if x3 ≤ 160 then (chk (isO q5.2 a0 8) (ob (wR q5.2 a0 0) (fun o10 => chk (isA q5.2 o10 0) (chk (inb x1 (wn q5.2 o10)) (bnd (sI q5.2 o10 (x1).toNatClampNeg (100 + x2)) (fun w14 => chk (isO w14 a0 8) (ob (wR w14 a0 1) (fun o17 => chk (isA w14 o17 0) (chk (inb x1 (wn w14 o17)) (bnd (sI w14 o17 (x1).toNatClampNeg x3) (fun w21 => fX8_row_L77 a0 x1 (0, w21)))))))))))) else (chk (isO q5.2 a0 8) (ob (fX8_no a0 (-7) q5.2) (fun q24 => some (q24.1, q24.2))))))) else (chk (isO q1.2 a0 8) (ob (fX8_no a0 (-4) q1.2) (fun q30 => some (q30.1, q30.2))))))
set_option maxHeartbeats 1000000 in
set_option maxRecDepth 20000 in
theorem okX8_row {E : Ev} {Q : Option Value → Wd → Prop} {a0 : Nat} {x1 : Int32} {x2 : Int32} {x3 : Int32} {w : Wd} {q : Int32 × Wd} (h : fX8_row a0 x1 x2 x3 w = some q) (hk : (fun q : Int32 × Wd => Q (some (.int q.1)) q.2) q) : Runs E mX8_row (7, 0, false) Q 0 0 [(0, .ref a0), (1, .int x1), (2, .int x2), (3, .int x3)] [] w := by
  unfold fX8_row at h
  refine r_iload_n dX8_row_0 1 rfl ?_
  refine r_iconst (v := 0) dX8_row_1 (by decide) ?_
  refine r_bipush (v := 7) dX8_row_2 (by decide) ?_
  obtain ⟨q1, g2, h⟩ := ob_some h
  refine r_callS (d' := (6, 0, false)) (As := [.int x1, .int 0, .int 7]) (st := []) mds_X8_within tm_RX8_79 rfl (by decide) rfl (Nat.le_refl _) (Nat.le_of_ble_eq_true rfl) rfl dX8_row_4 (ctX8_within g2) (k_I0 ?_)
  refine r_if_ne (tgt := 16) dX8_row_7 (by decide) (fun c3 => ?_) (fun c3 => ?_)
  · rw [if_neg c3] at h
    refine r_iload_n dX8_row_16 3 rfl ?_
    refine r_if_ge (tgt := 27) dX8_row_17 (by decide) (fun c4 => ?_) (fun c4 => ?_)
    · rw [if_pos c4] at h
      refine r_iload_n dX8_row_27 2 rfl ?_
      refine r_iconst (v := 0) dX8_row_28 (by decide) ?_
      refine r_iconst (v := 3) dX8_row_29 (by decide) ?_
      obtain ⟨q5, g6, h⟩ := ob_some h
      refine r_callS (d' := (6, 0, false)) (As := [.int x2, .int 0, .int 3]) (st := []) mds_X8_within tm_RX8_79 rfl (by decide) rfl (Nat.le_refl _) (Nat.le_of_ble_eq_true rfl) rfl dX8_row_30 (ctX8_within g6) (k_I0 ?_)
      refine r_if_ne (tgt := 43) dX8_row_33 (by decide) (fun c7 => ?_) (fun c7 => ?_)
      · rw [if_neg c7] at h
        refine r_iload_n dX8_row_43 3 rfl ?_
        refine r_sipush (v := 160) dX8_row_44 (by decide) ?_
        refine r_icmp_le (tgt := 57) dX8_row_47 (by decide) (fun c8 => ?_) (fun c8 => ?_)
        · rw [if_pos c8] at h
          refine r_aload_n dX8_row_57 0 rfl ?_
          obtain ⟨h9, h⟩ := chk_some h
          obtain ⟨o10, g11, h⟩ := ob_some h
          refine r_getR (fl_RX8_7 rfl) rfl dX8_row_58 h9 g11 ?_
          refine r_iload_n dX8_row_61 1 rfl ?_
          refine r_bipush (v := 100) dX8_row_62 (by decide) ?_
          refine r_iload_n dX8_row_64 2 rfl ?_
          refine r_iadd dX8_row_65 ?_
          obtain ⟨h12, h⟩ := chk_some h
          obtain ⟨h13, h⟩ := chk_some h
          obtain ⟨w14, e15, h⟩ := bnd_some h
          refine r_iastore dX8_row_66 h12 h13 ?_
          refine r_eqW e15 ?_
          refine r_aload_n dX8_row_67 0 rfl ?_
          obtain ⟨h16, h⟩ := chk_some h
          obtain ⟨o17, g18, h⟩ := ob_some h
          refine r_getR (fl_RX8_13 rfl) rfl dX8_row_68 h16 g18 ?_
          refine r_iload_n dX8_row_71 1 rfl ?_
          refine r_iload_n dX8_row_72 3 rfl ?_
          obtain ⟨h19, h⟩ := chk_some h
          obtain ⟨h20, h⟩ := chk_some h
          obtain ⟨w21, e22, h⟩ := bnd_some h
          refine r_iastore dX8_row_73 h19 h20 ?_
          refine r_eqW e22 ?_
          refine r_iconst (v := 0) dX8_row_74 (by decide) ?_
          refine r_istore dX8_row_75 (Nat.le_of_ble_eq_true rfl) [(4, .int 0), (0, .ref a0), (1, .int x1), (2, .int x2), (3, .int x3)] rfl ?_
          refine r_sub [1, 2, 0] [(0, .ref a0), (1, .int x1), (4, .int 0)] rfl ?_
          exact okX8_row_L77 h hk
        · rw [if_neg c8] at h
          refine r_aload_n dX8_row_50 0 rfl ?_
          refine r_bipush (v := (-7)) dX8_row_51 (by decide) ?_
          obtain ⟨h23, h⟩ := chk_some h
          obtain ⟨q24, g25, h⟩ := ob_some h
          refine r_callV (d' := (6, 0, false)) (As := [.int (-7)]) (st := []) mdv_X8_no tm_RX8_72 (by decide) rfl rfl (by decide) rfl (Nat.le_refl _) (Nat.le_of_ble_eq_true rfl) rfl dX8_row_53 h23 (ctX8_no g25) (k_I0 ?_)
          rw [← Option.some.inj h] at hk
          exact r_ireturn dX8_row_56 rfl rfl hk
      · rw [if_pos c7] at h
        refine r_aload_n dX8_row_36 0 rfl ?_
        refine r_bipush (v := (-6)) dX8_row_37 (by decide) ?_
        obtain ⟨h26, h⟩ := chk_some h
        obtain ⟨q27, g28, h⟩ := ob_some h
        refine r_callV (d' := (6, 0, false)) (As := [.int (-6)]) (st := []) mdv_X8_no tm_RX8_72 (by decide) rfl rfl (by decide) rfl (Nat.le_refl _) (Nat.le_of_ble_eq_true rfl) rfl dX8_row_39 h26 (ctX8_no g28) (k_I0 ?_)
        rw [← Option.some.inj h] at hk
        exact r_ireturn dX8_row_42 rfl rfl hk
    · rw [if_neg c4] at h
      refine r_aload_n dX8_row_20 0 rfl ?_
      refine r_bipush (v := (-4)) dX8_row_21 (by decide) ?_
      obtain ⟨h29, h⟩ := chk_some h
      obtain ⟨q30, g31, h⟩ := ob_some h
      refine r_callV (d' := (6, 0, false)) (As := [.int (-4)]) (st := []) mdv_X8_no tm_RX8_72 (by decide) rfl rfl (by decide) rfl (Nat.le_refl _) (Nat.le_of_ble_eq_true rfl) rfl dX8_row_23 h29 (ctX8_no g31) (k_I0 ?_)
      rw [← Option.some.inj h] at hk
      exact r_ireturn dX8_row_26 rfl rfl hk
  · rw [if_pos c3] at h
    refine r_aload_n dX8_row_10 0 rfl ?_
    refine r_iconst (v := (-1)) dX8_row_11 (by decide) ?_
    obtain ⟨h32, h⟩ := chk_some h
    obtain ⟨q33, g34, h⟩ := ob_some h
    refine r_callV (d' := (6, 0, false)) (As := [.int (-1)]) (st := []) mdv_X8_no tm_RX8_72 (by decide) rfl rfl (by decide) rfl (Nat.le_refl _) (Nat.le_of_ble_eq_true rfl) rfl dX8_row_12 h32 (ctX8_no g34) (k_I0 ?_)
    rw [← Option.some.inj h] at hk
    exact r_ireturn dX8_row_15 rfl rfl hk
set_option maxHeartbeats 1000000 in
set_option maxRecDepth 20000 in
theorem ctX8_row {E : Ev} {a0 : Nat} {x1 : Int32} {x2 : Int32} {x3 : Int32} {w : Wd} {q : Int32 × Wd} (h : fX8_row a0 x1 x2 x3 w = some q) : CT E mX8_row (7, 0, false) [.ref a0, .int x1, .int x2, .int x3] w (QI q) := CT.of pl_RX8 (Nat.le_of_ble_eq_true rfl) (okX8_row h ⟨rfl, rfl⟩)
def fX8_says_b20 (a0 : Nat) (w : Wd) : Option (Int32 × Wd) :=
  chk (isO w a0 8) (ob (fX8_no a0 (-1) w) (fun q2 => some (q2.1, q2.2)))
set_option maxHeartbeats 1000000 in
set_option maxRecDepth 20000 in
theorem okX8_says_b20 {E : Ev} {Q : Option Value → Wd → Prop} {a0 : Nat} {w : Wd} {q : Int32 × Wd} (h : fX8_says_b20 a0 w = some q) (hk : (fun q : Int32 × Wd => Q (some (.int q.1)) q.2) q) : Runs E mX8_says (9, 0, false) Q 0 20 [(0, .ref a0)] [] w := by
  unfold fX8_says_b20 at h
  refine r_aload_n dX8_says_20 0 rfl ?_
  refine r_iconst (v := (-1)) dX8_says_21 (by decide) ?_
  obtain ⟨h1, h⟩ := chk_some h
  obtain ⟨q2, g3, h⟩ := ob_some h
  refine r_callV (d' := (6, 0, false)) (As := [.int (-1)]) (st := []) mdv_X8_no tm_RX8_72 (by decide) rfl rfl (by decide) rfl (Nat.le_refl _) (Nat.le_of_ble_eq_true rfl) rfl dX8_says_22 h1 (ctX8_no g3) (k_I0 ?_)
  rw [← Option.some.inj h] at hk
  exact r_ireturn dX8_says_25 rfl rfl hk
def PX8_says_L145 (E : Ev) (Q : Option Value → Wd → Prop) (a0 : Nat) (x3 : Int32) (s : Int32 × Int32 × Wd) : Prop := Runs E mX8_says (9, 0, false) Q 0 145 [(0, .ref a0), (3, .int x3), (4, .int s.1), (5, .int s.2.1)] [] s.2.2
def fX8_says_b165 (a0 : Nat) (x3 : Int32) (x4 : Int32) (x5 : Int32) (w : Wd) : Option ((Int32 × Int32 × Wd) ⊕ (Int32 × Wd)) :=
  some (.inl (x4, (x5 + 1), w))
set_option maxHeartbeats 1000000 in
set_option maxRecDepth 20000 in
theorem okX8_says_b165 {E : Ev} {Q : Option Value → Wd → Prop} {a0 : Nat} {x3 : Int32} {x4 : Int32} {x5 : Int32} {w : Wd} {q : (Int32 × Int32 × Wd) ⊕ (Int32 × Wd)} (h : fX8_says_b165 a0 x3 x4 x5 w = some q) (hk : (Sum.elim (PX8_says_L145 E Q a0 x3) (fun q : Int32 × Wd => Q (some (.int q.1)) q.2)) q) : Runs E mX8_says (9, 0, false) Q 0 165 [(0, .ref a0), (3, .int x3), (4, .int x4), (5, .int x5)] [] w := by
  unfold fX8_says_b165 at h
  refine r_iinc (v := (x5 + 1)) dX8_says_165 3 rfl rfl (Nat.le_of_ble_eq_true rfl) [(5, .int (x5 + 1)), (0, .ref a0), (3, .int x3), (4, .int x4)] rfl ?_
  refine r_goto (tgt := 145) dX8_says_168 (by decide) ?_
  rw [← Option.some.inj h] at hk
  refine r_sub [1, 2, 3, 0] [(0, .ref a0), (3, .int x3), (4, .int x4), (5, .int (x5 + 1))] rfl ?_
  exact hk
def fX8_says_L145_body (a0 : Nat) (x3 : Int32) (s : Int32 × Int32 × Wd) : Option ((Int32 × Int32 × Wd) ⊕ (Int32 × Wd)) :=
  if (12 : Int32) ≤ s.2.1 then (wr (some (s.1, s.2.2))) else (chk (isO s.2.2 a0 8) (ob (fX8_couldGo a0 x3 s.2.1 s.2.2) (fun q4 => if q4.1 = 0 then (fX8_says_b165 a0 x3 s.1 s.2.1 q4.2) else (fX8_says_b165 a0 x3 (s.1 + 1) s.2.1 q4.2))))
set_option maxHeartbeats 1000000 in
set_option maxRecDepth 20000 in
theorem okX8_says_L145_body {E : Ev} {Q : Option Value → Wd → Prop} {a0 : Nat} {x3 : Int32} {s : Int32 × Int32 × Wd} {r : (Int32 × Int32 × Wd) ⊕ (Int32 × Wd)} (h : fX8_says_L145_body a0 x3 s = some r) (hk : (Sum.elim (PX8_says_L145 E Q a0 x3) (fun q : Int32 × Wd => Q (some (.int q.1)) q.2)) r) : PX8_says_L145 E Q a0 x3 s := by
  unfold fX8_says_L145_body at h
  unfold PX8_says_L145
  refine r_iload dX8_says_145 3 rfl ?_
  refine r_bipush (v := 12) dX8_says_147 (by decide) ?_
  refine r_icmp_ge (tgt := 171) dX8_says_149 (by decide) (fun c1 => ?_) (fun c1 => ?_)
  · rw [if_pos c1] at h
    obtain ⟨r2, hr, h⟩ := wr_some h
    rw [hr] at hk
    refine r_iload dX8_says_171 2 rfl ?_
    rw [← Option.some.inj h] at hk
    exact r_ireturn dX8_says_173 rfl rfl hk
  · rw [if_neg c1] at h
    refine r_aload_n dX8_says_152 0 rfl ?_
    refine r_iload_n dX8_says_153 1 rfl ?_
    refine r_iload dX8_says_154 3 rfl ?_
    obtain ⟨h3, h⟩ := chk_some h
    obtain ⟨q4, g5, h⟩ := ob_some h
    refine r_callV (d' := (8, 0, false)) (As := [.int x3, .int s.2.1]) (st := []) mdv_X8_couldGo tm_RX8_110 (by decide) rfl rfl (by decide) rfl (Nat.le_refl _) (Nat.le_of_ble_eq_true rfl) rfl dX8_says_156 h3 (ctX8_couldGo g5) (k_I0 ?_)
    refine r_if_eq (tgt := 165) dX8_says_159 (by decide) (fun c6 => ?_) (fun c6 => ?_)
    · rw [if_pos c6] at h
      refine r_sub [0, 1, 2, 3] [(0, .ref a0), (3, .int x3), (4, .int s.1), (5, .int s.2.1)] rfl ?_
      exact okX8_says_b165 h hk
    · rw [if_neg c6] at h
      refine r_iinc (v := (s.1 + 1)) dX8_says_162 2 rfl rfl (Nat.le_of_ble_eq_true rfl) [(4, .int (s.1 + 1)), (0, .ref a0), (3, .int x3), (5, .int s.2.1)] rfl ?_
      refine r_sub [1, 2, 0, 3] [(0, .ref a0), (3, .int x3), (4, .int (s.1 + 1)), (5, .int s.2.1)] rfl ?_
      exact okX8_says_b165 h hk
def fX8_says_L145 (a0 : Nat) (x3 : Int32) (s : Int32 × Int32 × Wd) : Option (Int32 × Wd) := it (fX8_says_L145_body a0 x3) FU s
set_option maxHeartbeats 1000000 in
set_option maxRecDepth 20000 in
theorem okX8_says_L145 {E : Ev} {Q : Option Value → Wd → Prop} {a0 : Nat} {x3 : Int32} {s : Int32 × Int32 × Wd} {r : Int32 × Wd} (h : fX8_says_L145 a0 x3 s = some r) (hk : (fun q : Int32 × Wd => Q (some (.int q.1)) q.2) r) : PX8_says_L145 E Q a0 x3 s := it_runs (fun s r h hk => okX8_says_L145_body h hk) FU s r h hk
def fX8_says_b142 (a0 : Nat) (x3 : Int32) (x4 : Int32) (w : Wd) : Option (Int32 × Wd) :=
  fX8_says_L145 a0 x3 (x4, 0, w)
set_option maxHeartbeats 1000000 in
set_option maxRecDepth 20000 in
theorem okX8_says_b142 {E : Ev} {Q : Option Value → Wd → Prop} {a0 : Nat} {x3 : Int32} {x4 : Int32} {w : Wd} {q : Int32 × Wd} (h : fX8_says_b142 a0 x3 x4 w = some q) (hk : (fun q : Int32 × Wd => Q (some (.int q.1)) q.2) q) : Runs E mX8_says (9, 0, false) Q 0 142 [(0, .ref a0), (3, .int x3), (4, .int x4)] [] w := by
  unfold fX8_says_b142 at h
  refine r_iconst (v := 0) dX8_says_142 (by decide) ?_
  refine r_istore dX8_says_143 (Nat.le_of_ble_eq_true rfl) [(5, .int 0), (0, .ref a0), (3, .int x3), (4, .int x4)] rfl ?_
  refine r_sub [1, 2, 3, 0] [(0, .ref a0), (3, .int x3), (4, .int x4), (5, .int 0)] rfl ?_
  exact okX8_says_L145 h hk
def fX8_says_b126 (a0 : Nat) (x3 : Int32) (w : Wd) : Option (Int32 × Wd) :=
  chk (isO w a0 8) (ob (fX8_step a0 x3 0 w) (fun q2 => some (q2.1, q2.2)))
set_option maxHeartbeats 1000000 in
set_option maxRecDepth 20000 in
theorem okX8_says_b126 {E : Ev} {Q : Option Value → Wd → Prop} {a0 : Nat} {x3 : Int32} {w : Wd} {q : Int32 × Wd} (h : fX8_says_b126 a0 x3 w = some q) (hk : (fun q : Int32 × Wd => Q (some (.int q.1)) q.2) q) : Runs E mX8_says (9, 0, false) Q 0 126 [(0, .ref a0), (3, .int x3)] [] w := by
  unfold fX8_says_b126 at h
  refine r_aload_n dX8_says_126 0 rfl ?_
  refine r_iload_n dX8_says_127 1 rfl ?_
  refine r_iconst (v := 0) dX8_says_128 (by decide) ?_
  obtain ⟨h1, h⟩ := chk_some h
  obtain ⟨q2, g3, h⟩ := ob_some h
  refine r_callV (d' := (6, 0, false)) (As := [.int x3, .int 0]) (st := []) mdv_X8_step tm_RX8_106 (by decide) rfl rfl (by decide) rfl (Nat.le_refl _) (Nat.le_of_ble_eq_true rfl) rfl dX8_says_129 h1 (ctX8_step g3) (k_I0 ?_)
  rw [← Option.some.inj h] at hk
  exact r_ireturn dX8_says_132 rfl rfl hk
def fX8_says_b65 (a0 : Nat) (x2 : Int32) (x3 : Int32) (w : Wd) : Option (Int32 × Wd) :=
  if 0 ≤ x3 then (if x2 = 0 then (chk (isO w a0 8) (ob (fX8_habits a0 x3 w) (fun q4 => some (q4.1, q4.2)))) else (if x2 = 1 then (fX8_says_b142 a0 x3 0 w) else (if x2 = 2 then (fX8_says_b126 a0 x3 w) else (if x2 = 3 then (fX8_says_b142 a0 x3 0 w) else (if x2 = 4 then (chk (isO w a0 8) (ob (fX8_habits a0 x3 w) (fun q11 => some ((12 - q11.1), q11.2)))) else (if x2 = 5 then (fX8_says_b126 a0 x3 w) else (fX8_says_b142 a0 x3 0 w))))))) else (chk (isO w a0 8) (ob (fX8_no a0 (-3) w) (fun q15 => some (q15.1, q15.2))))
set_option maxHeartbeats 1000000 in
set_option maxRecDepth 20000 in
theorem okX8_says_b65 {E : Ev} {Q : Option Value → Wd → Prop} {a0 : Nat} {x2 : Int32} {x3 : Int32} {w : Wd} {q : Int32 × Wd} (h : fX8_says_b65 a0 x2 x3 w = some q) (hk : (fun q : Int32 × Wd => Q (some (.int q.1)) q.2) q) : Runs E mX8_says (9, 0, false) Q 0 65 [(0, .ref a0), (2, .int x2), (3, .int x3)] [] w := by
  unfold fX8_says_b65 at h
  refine r_iload_n dX8_says_65 2 rfl ?_
  refine r_if_ge (tgt := 76) dX8_says_66 (by decide) (fun c1 => ?_) (fun c1 => ?_)
  · rw [if_pos c1] at h
    refine r_iconst (v := 0) dX8_says_76 (by decide) ?_
    refine r_istore dX8_says_77 (Nat.le_of_ble_eq_true rfl) [(4, .int 0), (0, .ref a0), (2, .int x2), (3, .int x3)] rfl ?_
    refine r_iload_n dX8_says_79 2 rfl ?_
    by_cases c2 : x2 = 0
    · rw [if_pos c2] at h
      refine r_tabIn (tgt := 120) dX8_says_80 (by rw [c2] <;> decide) (by rw [c2] <;> decide) (by rw [c2] <;> rfl) (by decide) ?_
      refine r_aload_n dX8_says_120 1 rfl ?_
      refine r_iload_n dX8_says_121 3 rfl ?_
      obtain ⟨h3, h⟩ := chk_some h
      obtain ⟨q4, g5, h⟩ := ob_some h
      refine r_callV (d' := (6, 0, false)) (As := [.int x3]) (st := []) mdv_X8_habits tm_RX8_103 (by decide) rfl rfl (by decide) rfl (Nat.le_refl _) (Nat.le_of_ble_eq_true rfl) rfl dX8_says_122 h3 (ctX8_habits g5) (k_I0 ?_)
      rw [← Option.some.inj h] at hk
      exact r_ireturn dX8_says_125 rfl rfl hk
    rw [if_neg c2] at h
    by_cases c6 : x2 = 1
    · rw [if_pos c6] at h
      refine r_tabIn (tgt := 142) dX8_says_80 (by rw [c6] <;> decide) (by rw [c6] <;> decide) (by rw [c6] <;> rfl) (by decide) ?_
      refine r_sub [1, 3, 0] [(0, .ref a0), (3, .int x3), (4, .int 0)] rfl ?_
      exact okX8_says_b142 h hk
    rw [if_neg c6] at h
    by_cases c7 : x2 = 2
    · rw [if_pos c7] at h
      refine r_tabIn (tgt := 126) dX8_says_80 (by rw [c7] <;> decide) (by rw [c7] <;> decide) (by rw [c7] <;> rfl) (by decide) ?_
      refine r_sub [1, 3] [(0, .ref a0), (3, .int x3)] rfl ?_
      exact okX8_says_b126 h hk
    rw [if_neg c7] at h
    by_cases c8 : x2 = 3
    · rw [if_pos c8] at h
      refine r_tabIn (tgt := 142) dX8_says_80 (by rw [c8] <;> decide) (by rw [c8] <;> decide) (by rw [c8] <;> rfl) (by decide) ?_
      refine r_sub [1, 3, 0] [(0, .ref a0), (3, .int x3), (4, .int 0)] rfl ?_
      exact okX8_says_b142 h hk
    rw [if_neg c8] at h
    by_cases c9 : x2 = 4
    · rw [if_pos c9] at h
      refine r_tabIn (tgt := 133) dX8_says_80 (by rw [c9] <;> decide) (by rw [c9] <;> decide) (by rw [c9] <;> rfl) (by decide) ?_
      refine r_bipush (v := 12) dX8_says_133 (by decide) ?_
      refine r_aload_n dX8_says_135 1 rfl ?_
      refine r_iload_n dX8_says_136 3 rfl ?_
      obtain ⟨h10, h⟩ := chk_some h
      obtain ⟨q11, g12, h⟩ := ob_some h
      refine r_callV (d' := (6, 0, false)) (As := [.int x3]) (st := [.int 12]) mdv_X8_habits tm_RX8_103 (by decide) rfl rfl (by decide) rfl (Nat.le_refl _) (Nat.le_of_ble_eq_true rfl) rfl dX8_says_137 h10 (ctX8_habits g12) (k_I0 ?_)
      refine r_isub dX8_says_140 ?_
      rw [← Option.some.inj h] at hk
      exact r_ireturn dX8_says_141 rfl rfl hk
    rw [if_neg c9] at h
    by_cases c13 : x2 = 5
    · rw [if_pos c13] at h
      refine r_tabIn (tgt := 126) dX8_says_80 (by rw [c13] <;> decide) (by rw [c13] <;> decide) (by rw [c13] <;> rfl) (by decide) ?_
      refine r_sub [1, 3] [(0, .ref a0), (3, .int x3)] rfl ?_
      exact okX8_says_b126 h hk
    rw [if_neg c13] at h
    refine r_tabOut (tgt := 142) dX8_says_80 (by have := lv_neT (k := 0) (a := 0) c2 rfl; have := lv_neT (k := 1) (a := 1) c6 rfl; have := lv_neT (k := 2) (a := 2) c7 rfl; have := lv_neT (k := 3) (a := 3) c8 rfl; have := lv_neT (k := 4) (a := 4) c9 rfl; have := lv_neT (k := 5) (a := 5) c13 rfl; omega) (by decide) ?_
    refine r_sub [1, 3, 0] [(0, .ref a0), (3, .int x3), (4, .int 0)] rfl ?_
    exact okX8_says_b142 h hk
  · rw [if_neg c1] at h
    refine r_aload_n dX8_says_69 0 rfl ?_
    refine r_bipush (v := (-3)) dX8_says_70 (by decide) ?_
    obtain ⟨h14, h⟩ := chk_some h
    obtain ⟨q15, g16, h⟩ := ob_some h
    refine r_callV (d' := (6, 0, false)) (As := [.int (-3)]) (st := []) mdv_X8_no tm_RX8_72 (by decide) rfl rfl (by decide) rfl (Nat.le_refl _) (Nat.le_of_ble_eq_true rfl) rfl dX8_says_72 h14 (ctX8_no g16) (k_I0 ?_)
    rw [← Option.some.inj h] at hk
    exact r_ireturn dX8_says_75 rfl rfl hk
def fX8_says_b58 (a0 : Nat) (w : Wd) : Option (Int32 × Wd) :=
  chk (isO w a0 8) (ob (fX8_no a0 (-2) w) (fun q2 => some (q2.1, q2.2)))
set_option maxHeartbeats 1000000 in
set_option maxRecDepth 20000 in
theorem okX8_says_b58 {E : Ev} {Q : Option Value → Wd → Prop} {a0 : Nat} {w : Wd} {q : Int32 × Wd} (h : fX8_says_b58 a0 w = some q) (hk : (fun q : Int32 × Wd => Q (some (.int q.1)) q.2) q) : Runs E mX8_says (9, 0, false) Q 0 58 [(0, .ref a0)] [] w := by
  unfold fX8_says_b58 at h
  refine r_aload_n dX8_says_58 0 rfl ?_
  refine r_bipush (v := (-2)) dX8_says_59 (by decide) ?_
  obtain ⟨h1, h⟩ := chk_some h
  obtain ⟨q2, g3, h⟩ := ob_some h
  refine r_callV (d' := (6, 0, false)) (As := [.int (-2)]) (st := []) mdv_X8_no tm_RX8_72 (by decide) rfl rfl (by decide) rfl (Nat.le_refl _) (Nat.le_of_ble_eq_true rfl) rfl dX8_says_61 h1 (ctX8_no g3) (k_I0 ?_)
  rw [← Option.some.inj h] at hk
  exact r_ireturn dX8_says_64 rfl rfl hk
def fX8_says (a0 : Nat) (x1 : Int32) (x2 : Int32) (w : Wd) : Option (Int32 × Wd) :=
  ob (fX8_within x1 0 7 w) (fun q1 => if q1.1 = 0 then (fX8_says_b20 a0 q1.2) else (ob (fX8_within x2 0 6 q1.2) (fun q4 => if q4.1 = 0 then (fX8_says_b20 a0 q4.2) else (chk (isO q4.2 a0 8) (ob (wR q4.2 a0 0) (fun o8 => chk (isA q4.2 o8 0) (chk (inb x1 (wn q4.2 o8)) (bnd (wI q4.2 o8 (x1).toNatClampNeg) (fun u12 => if u12 < 0 then (fX8_says_b65 a0 x2 u12 q4.2) else (ob (fX8_isRow a0 x1 q4.2) (fun q15 => if q15.1 = 0 then (chk (isO q15.2 a0 8) (ob (wR q15.2 a0 7) (fun o19 => chk (isA q15.2 o19 0) (chk (inb u12 (wn q15.2 o19)) (ob (fX8_isUnder (wI q15.2 o19 (u12).toNatClampNeg) x2 q15.2) (fun q23 => if q23.1 = 0 then (fX8_says_b58 a0 q23.2) else (fX8_says_b65 a0 x2 u12 q23.2))))))) else (fX8_says_b58 a0 q15.2))))))))))))
set_option maxHeartbeats 1000000 in
set_option maxRecDepth 20000 in
theorem okX8_says {E : Ev} {Q : Option Value → Wd → Prop} {a0 : Nat} {x1 : Int32} {x2 : Int32} {w : Wd} {q : Int32 × Wd} (h : fX8_says a0 x1 x2 w = some q) (hk : (fun q : Int32 × Wd => Q (some (.int q.1)) q.2) q) : Runs E mX8_says (9, 0, false) Q 0 0 [(0, .ref a0), (1, .int x1), (2, .int x2)] [] w := by
  unfold fX8_says at h
  refine r_iload_n dX8_says_0 1 rfl ?_
  refine r_iconst (v := 0) dX8_says_1 (by decide) ?_
  refine r_bipush (v := 7) dX8_says_2 (by decide) ?_
  obtain ⟨q1, g2, h⟩ := ob_some h
  refine r_callS (d' := (6, 0, false)) (As := [.int x1, .int 0, .int 7]) (st := []) mds_X8_within tm_RX8_79 rfl (by decide) rfl (Nat.le_refl _) (Nat.le_of_ble_eq_true rfl) rfl dX8_says_4 (ctX8_within g2) (k_I0 ?_)
  refine r_if_eq (tgt := 20) dX8_says_7 (by decide) (fun c3 => ?_) (fun c3 => ?_)
  · rw [if_pos c3] at h
    refine r_sub [0] [(0, .ref a0)] rfl ?_
    exact okX8_says_b20 h hk
  · rw [if_neg c3] at h
    refine r_iload_n dX8_says_10 2 rfl ?_
    refine r_iconst (v := 0) dX8_says_11 (by decide) ?_
    refine r_bipush (v := 6) dX8_says_12 (by decide) ?_
    obtain ⟨q4, g5, h⟩ := ob_some h
    refine r_callS (d' := (6, 0, false)) (As := [.int x2, .int 0, .int 6]) (st := []) mds_X8_within tm_RX8_79 rfl (by decide) rfl (Nat.le_refl _) (Nat.le_of_ble_eq_true rfl) rfl dX8_says_14 (ctX8_within g5) (k_I0 ?_)
    refine r_if_ne (tgt := 26) dX8_says_17 (by decide) (fun c6 => ?_) (fun c6 => ?_)
    · rw [if_neg c6] at h
      refine r_aload_n dX8_says_26 0 rfl ?_
      obtain ⟨h7, h⟩ := chk_some h
      obtain ⟨o8, g9, h⟩ := ob_some h
      refine r_getR (fl_RX8_7 rfl) rfl dX8_says_27 h7 g9 ?_
      refine r_iload_n dX8_says_30 1 rfl ?_
      obtain ⟨h10, h⟩ := chk_some h
      obtain ⟨h11, h⟩ := chk_some h
      refine r_iaload dX8_says_31 h10 h11 ?_
      obtain ⟨u12, e13, h⟩ := bnd_some h
      refine r_eqI e13 ?_
      refine r_istore_n dX8_says_32 rfl (Nat.le_of_ble_eq_true rfl) [(3, .int u12), (0, .ref a0), (1, .int x1), (2, .int x2)] rfl ?_
      refine r_iload_n dX8_says_33 0 rfl ?_
      refine r_if_lt (tgt := 65) dX8_says_34 (by decide) (fun c14 => ?_) (fun c14 => ?_)
      · rw [if_pos c14] at h
        refine r_sub [1, 3, 0] [(0, .ref a0), (2, .int x2), (3, .int u12)] rfl ?_
        exact okX8_says_b65 h hk
      · rw [if_neg c14] at h
        refine r_aload_n dX8_says_37 1 rfl ?_
        refine r_iload_n dX8_says_38 2 rfl ?_
        obtain ⟨q15, g16, h⟩ := ob_some h
        refine r_callV (d' := (6, 0, false)) (As := [.int x1]) (st := []) mdv_X8_isRow tm_RX8_86 (by decide) rfl rfl (by decide) rfl (Nat.le_refl _) (Nat.le_of_ble_eq_true rfl) rfl dX8_says_39 h7 (ctX8_isRow g16) (k_I0 ?_)
        refine r_if_ne (tgt := 58) dX8_says_42 (by decide) (fun c17 => ?_) (fun c17 => ?_)
        · rw [if_neg c17] at h
          refine r_sub [1] [(0, .ref a0)] rfl ?_
          exact okX8_says_b58 h hk
        · rw [if_pos c17] at h
          refine r_aload_n dX8_says_45 1 rfl ?_
          obtain ⟨h18, h⟩ := chk_some h
          obtain ⟨o19, g20, h⟩ := ob_some h
          refine r_getR (fl_RX8_26 rfl) rfl dX8_says_46 h18 g20 ?_
          refine r_iload_n dX8_says_49 0 rfl ?_
          obtain ⟨h21, h⟩ := chk_some h
          obtain ⟨h22, h⟩ := chk_some h
          refine r_iaload dX8_says_50 h21 h22 ?_
          refine r_iload_n dX8_says_51 3 rfl ?_
          obtain ⟨q23, g24, h⟩ := ob_some h
          refine r_callS (d' := (7, 0, false)) (As := [.int (wI q15.2 o19 (u12).toNatClampNeg), .int x2]) (st := []) mds_X8_isUnder tm_RX8_99 rfl (by decide) rfl (Nat.le_refl _) (Nat.le_of_ble_eq_true rfl) rfl dX8_says_52 (ctX8_isUnder g24) (k_I0 ?_)
          refine r_if_ne (tgt := 65) dX8_says_55 (by decide) (fun c25 => ?_) (fun c25 => ?_)
          · rw [if_neg c25] at h
            refine r_sub [1, 3, 0] [(0, .ref a0), (2, .int x2), (3, .int u12)] rfl ?_
            exact okX8_says_b65 h hk
          · rw [if_pos c25] at h
            refine r_sub [1] [(0, .ref a0)] rfl ?_
            exact okX8_says_b58 h hk
    · rw [if_pos c6] at h
      refine r_sub [0] [(0, .ref a0)] rfl ?_
      exact okX8_says_b20 h hk
set_option maxHeartbeats 1000000 in
set_option maxRecDepth 20000 in
theorem ctX8_says {E : Ev} {a0 : Nat} {x1 : Int32} {x2 : Int32} {w : Wd} {q : Int32 × Wd} (h : fX8_says a0 x1 x2 w = some q) : CT E mX8_says (9, 0, false) [.ref a0, .int x1, .int x2] w (QI q) := CT.of pl_RX8 (Nat.le_of_ble_eq_true rfl) (okX8_says h ⟨rfl, rfl⟩)
def fX8_seed (a0 : Nat) (x1 : Int32) (w : Wd) : Option (Int32 × Wd) :=
  chk (isO w a0 8) (bnd (wI w a0 13) (fun u2 => bnd (sI w a0 13 x1) (fun w4 => some (u2, w4))))
set_option maxHeartbeats 1000000 in
set_option maxRecDepth 20000 in
theorem okX8_seed {E : Ev} {Q : Option Value → Wd → Prop} {a0 : Nat} {x1 : Int32} {w : Wd} {q : Int32 × Wd} (h : fX8_seed a0 x1 w = some q) (hk : (fun q : Int32 × Wd => Q (some (.int q.1)) q.2) q) : Runs E mX8_seed (6, 0, false) Q 0 0 [(0, .ref a0), (1, .int x1)] [] w := by
  unfold fX8_seed at h
  refine r_aload_n dX8_seed_0 0 rfl ?_
  obtain ⟨h1, h⟩ := chk_some h
  refine r_getI (fl_RX8_65 rfl) rfl dX8_seed_1 h1 ?_
  obtain ⟨u2, e3, h⟩ := bnd_some h
  refine r_eqI e3 ?_
  refine r_istore_n dX8_seed_4 rfl (Nat.le_of_ble_eq_true rfl) [(2, .int u2), (0, .ref a0), (1, .int x1)] rfl ?_
  refine r_aload_n dX8_seed_5 1 rfl ?_
  refine r_iload_n dX8_seed_6 2 rfl ?_
  obtain ⟨w4, e5, h⟩ := bnd_some h
  refine r_putI (fl_RX8_65 rfl) rfl rfl (ck_ty (by decide) 13 (by decide)) rfl rfl dX8_seed_7 h1 ?_
  refine r_eqW e5 ?_
  refine r_iload_n dX8_seed_10 0 rfl ?_
  rw [← Option.some.inj h] at hk
  exact r_ireturn dX8_seed_11 rfl rfl hk
set_option maxHeartbeats 1000000 in
set_option maxRecDepth 20000 in
theorem ctX8_seed {E : Ev} {a0 : Nat} {x1 : Int32} {w : Wd} {q : Int32 × Wd} (h : fX8_seed a0 x1 w = some q) : CT E mX8_seed (6, 0, false) [.ref a0, .int x1] w (QI q) := CT.of pl_RX8 (Nat.le_of_ble_eq_true rfl) (okX8_seed h ⟨rfl, rfl⟩)
def fX8_set_b102 (s0 : Int64) (s1 : Int32) (s2 : Nat) (w : Wd) : Option (Int32 × Wd) :=
  chk (isA w s2 1) (chk (inb s1 (wn w s2)) (bnd (sL w s2 (s1).toNatClampNeg s0) (fun w3 => some (1, w3))))
set_option maxHeartbeats 1000000 in
set_option maxRecDepth 20000 in
theorem okX8_set_b102 {E : Ev} {Q : Option Value → Wd → Prop} {s0 : Int64} {s1 : Int32} {s2 : Nat} {w : Wd} {q : Int32 × Wd} (h : fX8_set_b102 s0 s1 s2 w = some q) (hk : (fun q : Int32 × Wd => Q (some (.int q.1)) q.2) q) : Runs E mX8_set (8, 0, false) Q 0 102 [] [.long s0, .int s1, .ref s2] w := by
  unfold fX8_set_b102 at h
  obtain ⟨h1, h⟩ := chk_some h
  obtain ⟨h2, h⟩ := chk_some h
  obtain ⟨w3, e4, h⟩ := bnd_some h
  refine r_lastore dX8_set_102 h1 h2 ?_
  refine r_eqW e4 ?_
  refine r_iconst (v := 1) dX8_set_103 (by decide) ?_
  rw [← Option.some.inj h] at hk
  exact r_ireturn dX8_set_104 rfl rfl hk
def fX8_set (a0 : Nat) (x1 : Int32) (x2 : Int32) (y3 : Int64) (w : Wd) : Option (Int32 × Wd) :=
  chk (isO w a0 8) (ob (fX8_noRow a0 x1 w) (fun q2 => if 0 ≤ q2.1 then (chk (isO q2.2 a0 8) (ob (wR q2.2 a0 1) (fun o6 => chk (isA q2.2 o6 0) (chk (inb x1 (wn q2.2 o6)) (ob (fX8_within x2 0 ((wI q2.2 o6 (x1).toNatClampNeg) - 1) q2.2) (fun q10 => if q10.1 = 0 then (chk (isO q10.2 a0 8) (ob (fX8_no a0 (-5) q10.2) (fun q26 => some (q26.1, q26.2)))) else (chk (isO q10.2 a0 8) (ob (wR q10.2 a0 0) (fun o14 => chk (isA q10.2 o14 0) (chk (inb x1 (wn q10.2 o14)) (bnd ((wI q10.2 o14 (x1).toNatClampNeg) - 100) (fun u18 => ob (wR q10.2 a0 2) (fun o20 => if u18 = 0 then (fX8_set_b102 (((y3).toInt32).toInt8.toInt32).toInt64 ((160 * x1) + x2) o20 q10.2) else (if u18 = 1 then (fX8_set_b102 (((y3).toInt32).toInt16.toInt32).toInt64 ((160 * x1) + x2) o20 q10.2) else (if u18 = 2 then (fX8_set_b102 ((y3).toInt32).toInt64 ((160 * x1) + x2) o20 q10.2) else (fX8_set_b102 y3 ((160 * x1) + x2) o20 q10.2)))))))))))))))) else (chk (isO q2.2 a0 8) (ob (fX8_no a0 q2.1 q2.2) (fun q29 => some (q29.1, q29.2))))))
set_option maxHeartbeats 1000000 in
set_option maxRecDepth 20000 in
theorem okX8_set {E : Ev} {Q : Option Value → Wd → Prop} {a0 : Nat} {x1 : Int32} {x2 : Int32} {y3 : Int64} {w : Wd} {q : Int32 × Wd} (h : fX8_set a0 x1 x2 y3 w = some q) (hk : (fun q : Int32 × Wd => Q (some (.int q.1)) q.2) q) : Runs E mX8_set (8, 0, false) Q 0 0 [(0, .ref a0), (1, .int x1), (2, .int x2), (3, .long y3)] [] w := by
  unfold fX8_set at h
  refine r_aload_n dX8_set_0 0 rfl ?_
  refine r_iload_n dX8_set_1 1 rfl ?_
  obtain ⟨h1, h⟩ := chk_some h
  obtain ⟨q2, g3, h⟩ := ob_some h
  refine r_callV (d' := (7, 0, false)) (As := [.int x1]) (st := []) mdv_X8_noRow tm_RX8_90 (by decide) rfl rfl (by decide) rfl (Nat.le_refl _) (Nat.le_of_ble_eq_true rfl) rfl dX8_set_2 h1 (ctX8_noRow g3) (k_I0 ?_)
  refine r_istore dX8_set_5 (Nat.le_of_ble_eq_true rfl) [(5, .int q2.1), (0, .ref a0), (1, .int x1), (2, .int x2), (3, .long y3)] rfl ?_
  refine r_iload dX8_set_7 0 rfl ?_
  refine r_if_ge (tgt := 19) dX8_set_9 (by decide) (fun c4 => ?_) (fun c4 => ?_)
  · rw [if_pos c4] at h
    refine r_iload_n dX8_set_19 3 rfl ?_
    refine r_iconst (v := 0) dX8_set_20 (by decide) ?_
    refine r_aload_n dX8_set_21 1 rfl ?_
    obtain ⟨h5, h⟩ := chk_some h
    obtain ⟨o6, g7, h⟩ := ob_some h
    refine r_getR (fl_RX8_13 rfl) rfl dX8_set_22 h5 g7 ?_
    refine r_iload_n dX8_set_25 2 rfl ?_
    obtain ⟨h8, h⟩ := chk_some h
    obtain ⟨h9, h⟩ := chk_some h
    refine r_iaload dX8_set_26 h8 h9 ?_
    refine r_iconst (v := 1) dX8_set_27 (by decide) ?_
    refine r_isub dX8_set_28 ?_
    obtain ⟨q10, g11, h⟩ := ob_some h
    refine r_callS (d' := (6, 0, false)) (As := [.int x2, .int 0, .int ((wI q2.2 o6 (x1).toNatClampNeg) - 1)]) (st := []) mds_X8_within tm_RX8_79 rfl (by decide) rfl (Nat.le_refl _) (Nat.le_of_ble_eq_true rfl) rfl dX8_set_29 (ctX8_within g11) (k_I0 ?_)
    refine r_if_ne (tgt := 42) dX8_set_32 (by decide) (fun c12 => ?_) (fun c12 => ?_)
    · rw [if_neg c12] at h
      refine r_aload_n dX8_set_42 1 rfl ?_
      obtain ⟨h13, h⟩ := chk_some h
      obtain ⟨o14, g15, h⟩ := ob_some h
      refine r_getR (fl_RX8_7 rfl) rfl dX8_set_43 h13 g15 ?_
      refine r_iload_n dX8_set_46 2 rfl ?_
      obtain ⟨h16, h⟩ := chk_some h
      obtain ⟨h17, h⟩ := chk_some h
      refine r_iaload dX8_set_47 h16 h17 ?_
      refine r_bipush (v := 100) dX8_set_48 (by decide) ?_
      refine r_isub dX8_set_50 ?_
      obtain ⟨u18, e19, h⟩ := bnd_some h
      refine r_eqI e19 ?_
      refine r_istore dX8_set_51 (Nat.le_of_ble_eq_true rfl) [(6, .int u18), (5, .int q2.1), (0, .ref a0), (1, .int x1), (2, .int x2), (3, .long y3)] rfl ?_
      refine r_aload_n dX8_set_53 2 rfl ?_
      obtain ⟨o20, g21, h⟩ := ob_some h
      refine r_getR (fl_RX8_16 rfl) rfl dX8_set_54 h13 g21 ?_
      refine r_sipush (v := 160) dX8_set_57 (by decide) ?_
      refine r_iload_n dX8_set_60 3 rfl ?_
      refine r_imul dX8_set_61 ?_
      refine r_iload_n dX8_set_62 4 rfl ?_
      refine r_iadd dX8_set_63 ?_
      refine r_iload dX8_set_64 0 rfl ?_
      refine r_if_ne (tgt := 76) dX8_set_66 (by decide) (fun c22 => ?_) (fun c22 => ?_)
      · rw [if_neg c22] at h
        refine r_iload dX8_set_76 0 rfl ?_
        refine r_iconst (v := 1) dX8_set_78 (by decide) ?_
        refine r_icmp_ne (tgt := 89) dX8_set_79 (by decide) (fun c23 => ?_) (fun c23 => ?_)
        · rw [if_neg c23] at h
          refine r_iload dX8_set_89 0 rfl ?_
          refine r_iconst (v := 2) dX8_set_91 (by decide) ?_
          refine r_icmp_ne (tgt := 101) dX8_set_92 (by decide) (fun c24 => ?_) (fun c24 => ?_)
          · rw [if_neg c24] at h
            refine r_lload_n dX8_set_101 5 rfl ?_
            refine r_sub [] [] rfl ?_
            exact okX8_set_b102 h hk
          · rw [if_pos c24] at h
            refine r_lload_n dX8_set_95 5 rfl ?_
            refine r_l2i dX8_set_96 ?_
            refine r_i2l dX8_set_97 ?_
            refine r_goto (tgt := 102) dX8_set_98 (by decide) ?_
            refine r_sub [] [] rfl ?_
            exact okX8_set_b102 h hk
        · rw [if_pos c23] at h
          refine r_lload_n dX8_set_82 5 rfl ?_
          refine r_l2i dX8_set_83 ?_
          refine r_i2s dX8_set_84 ?_
          refine r_i2l dX8_set_85 ?_
          refine r_goto (tgt := 102) dX8_set_86 (by decide) ?_
          refine r_sub [] [] rfl ?_
          exact okX8_set_b102 h hk
      · rw [if_pos c22] at h
        refine r_lload_n dX8_set_69 5 rfl ?_
        refine r_l2i dX8_set_70 ?_
        refine r_i2b dX8_set_71 ?_
        refine r_i2l dX8_set_72 ?_
        refine r_goto (tgt := 102) dX8_set_73 (by decide) ?_
        refine r_sub [] [] rfl ?_
        exact okX8_set_b102 h hk
    · rw [if_pos c12] at h
      refine r_aload_n dX8_set_35 1 rfl ?_
      refine r_bipush (v := (-5)) dX8_set_36 (by decide) ?_
      obtain ⟨h25, h⟩ := chk_some h
      obtain ⟨q26, g27, h⟩ := ob_some h
      refine r_callV (d' := (6, 0, false)) (As := [.int (-5)]) (st := []) mdv_X8_no tm_RX8_72 (by decide) rfl rfl (by decide) rfl (Nat.le_refl _) (Nat.le_of_ble_eq_true rfl) rfl dX8_set_38 h25 (ctX8_no g27) (k_I0 ?_)
      rw [← Option.some.inj h] at hk
      exact r_ireturn dX8_set_41 rfl rfl hk
  · rw [if_neg c4] at h
    refine r_aload_n dX8_set_12 1 rfl ?_
    refine r_iload dX8_set_13 0 rfl ?_
    obtain ⟨h28, h⟩ := chk_some h
    obtain ⟨q29, g30, h⟩ := ob_some h
    refine r_callV (d' := (6, 0, false)) (As := [.int q2.1]) (st := []) mdv_X8_no tm_RX8_72 (by decide) rfl rfl (by decide) rfl (Nat.le_refl _) (Nat.le_of_ble_eq_true rfl) rfl dX8_set_15 h28 (ctX8_no g30) (k_I0 ?_)
    rw [← Option.some.inj h] at hk
    exact r_ireturn dX8_set_18 rfl rfl hk
set_option maxHeartbeats 1000000 in
set_option maxRecDepth 20000 in
theorem ctX8_set {E : Ev} {a0 : Nat} {x1 : Int32} {x2 : Int32} {y3 : Int64} {w : Wd} {q : Int32 × Wd} (h : fX8_set a0 x1 x2 y3 w = some q) : CT E mX8_set (8, 0, false) [.ref a0, .int x1, .int x2, .long y3] w (QI q) := CT.of pl_RX8 (Nat.le_of_ble_eq_true rfl) (okX8_set h ⟨rfl, rfl⟩)
def PX8_settled_L12 (E : Ev) (Q : Option Value → Wd → Prop) (a0 : Nat) (s : Int32 × Int32 × Wd) : Prop := Runs E mX8_settled (10, 0, false) Q 0 12 [(0, .ref a0), (1, .int s.1), (2, .int s.2.1)] [] s.2.2
def fX8_settled_b108 (a0 : Nat) (x1 : Int32) (w : Wd) : Option (Int32 × Wd) :=
  chk (isO w a0 8) (ob (wR w a0 21) (fun o2 => ob (fX8_again a0 o2 w) (fun q4 => some (x1, q4))))
set_option maxHeartbeats 1000000 in
set_option maxRecDepth 20000 in
theorem okX8_settled_b108 {E : Ev} {Q : Option Value → Wd → Prop} {a0 : Nat} {x1 : Int32} {w : Wd} {q : Int32 × Wd} (h : fX8_settled_b108 a0 x1 w = some q) (hk : (fun q : Int32 × Wd => Q (some (.int q.1)) q.2) q) : Runs E mX8_settled (10, 0, false) Q 0 108 [(0, .ref a0), (1, .int x1)] [] w := by
  unfold fX8_settled_b108 at h
  refine r_aload_n dX8_settled_108 0 rfl ?_
  refine r_aload_n dX8_settled_109 0 rfl ?_
  obtain ⟨h1, h⟩ := chk_some h
  obtain ⟨o2, g3, h⟩ := ob_some h
  refine r_getR (fl_RX8_53 rfl) rfl dX8_settled_110 h1 g3 ?_
  obtain ⟨q4, g5, h⟩ := ob_some h
  refine r_callV (d' := (6, 0, false)) (As := [.ref o2]) (st := []) mdv_X8_again tm_RX8_202 (by decide) rfl rfl (by decide) rfl (Nat.le_refl _) (Nat.le_of_ble_eq_true rfl) rfl dX8_settled_113 h1 (ctX8_again g5) (k_V0 ?_)
  refine r_iload_n dX8_settled_116 1 rfl ?_
  rw [← Option.some.inj h] at hk
  exact r_ireturn dX8_settled_117 rfl rfl hk
def PX8_settled_L41 (E : Ev) (Q : Option Value → Wd → Prop) (a0 : Nat) (x1 : Int32) (x2 : Int32) (s : Int32 × Int32 × Wd) : Prop := Runs E mX8_settled (10, 0, false) Q 0 41 [(0, .ref a0), (1, .int x1), (2, .int x2), (3, .int s.1), (4, .int s.2.1)] [] s.2.2
def fX8_settled_b102 (a0 : Nat) (x1 : Int32) (x2 : Int32) (w : Wd) : Option ((Int32 × Int32 × Wd) ⊕ (Int32 × Wd)) :=
  some (.inl (x1, (x2 + 1), w))
set_option maxHeartbeats 1000000 in
set_option maxRecDepth 20000 in
theorem okX8_settled_b102 {E : Ev} {Q : Option Value → Wd → Prop} {a0 : Nat} {x1 : Int32} {x2 : Int32} {w : Wd} {q : (Int32 × Int32 × Wd) ⊕ (Int32 × Wd)} (h : fX8_settled_b102 a0 x1 x2 w = some q) (hk : (Sum.elim (PX8_settled_L12 E Q a0) (fun q : Int32 × Wd => Q (some (.int q.1)) q.2)) q) : Runs E mX8_settled (10, 0, false) Q 0 102 [(0, .ref a0), (1, .int x1), (2, .int x2)] [] w := by
  unfold fX8_settled_b102 at h
  refine r_iinc (v := (x2 + 1)) dX8_settled_102 2 rfl rfl (Nat.le_of_ble_eq_true rfl) [(2, .int (x2 + 1)), (0, .ref a0), (1, .int x1)] rfl ?_
  refine r_goto (tgt := 12) dX8_settled_105 (by decide) ?_
  rw [← Option.some.inj h] at hk
  refine r_sub [1, 2, 0] [(0, .ref a0), (1, .int x1), (2, .int (x2 + 1))] rfl ?_
  exact hk
def fX8_settled_b90 (a0 : Nat) (x1 : Int32) (x2 : Int32) (x3 : Int32) (x4 : Int32) (w : Wd) : Option ((Int32 × Int32 × Wd) ⊕ ((Int32 × Int32 × Wd) ⊕ (Int32 × Wd))) :=
  some (.inl (x3, (x4 + 1), w))
set_option maxHeartbeats 1000000 in
set_option maxRecDepth 20000 in
theorem okX8_settled_b90 {E : Ev} {Q : Option Value → Wd → Prop} {a0 : Nat} {x1 : Int32} {x2 : Int32} {x3 : Int32} {x4 : Int32} {w : Wd} {q : (Int32 × Int32 × Wd) ⊕ ((Int32 × Int32 × Wd) ⊕ (Int32 × Wd))} (h : fX8_settled_b90 a0 x1 x2 x3 x4 w = some q) (hk : (Sum.elim (PX8_settled_L41 E Q a0 x1 x2) (Sum.elim (PX8_settled_L12 E Q a0) (fun q : Int32 × Wd => Q (some (.int q.1)) q.2))) q) : Runs E mX8_settled (10, 0, false) Q 0 90 [(0, .ref a0), (1, .int x1), (2, .int x2), (3, .int x3), (4, .int x4)] [] w := by
  unfold fX8_settled_b90 at h
  refine r_iinc (v := (x4 + 1)) dX8_settled_90 4 rfl rfl (Nat.le_of_ble_eq_true rfl) [(4, .int (x4 + 1)), (0, .ref a0), (1, .int x1), (2, .int x2), (3, .int x3)] rfl ?_
  refine r_goto (tgt := 41) dX8_settled_93 (by decide) ?_
  rw [← Option.some.inj h] at hk
  refine r_sub [1, 2, 3, 4, 0] [(0, .ref a0), (1, .int x1), (2, .int x2), (3, .int x3), (4, .int (x4 + 1))] rfl ?_
  exact hk
def fX8_settled_b88 (a0 : Nat) (x1 : Int32) (x2 : Int32) (x4 : Int32) (w : Wd) : Option ((Int32 × Int32 × Wd) ⊕ ((Int32 × Int32 × Wd) ⊕ (Int32 × Wd))) :=
  fX8_settled_b90 a0 x1 x2 0 x4 w
set_option maxHeartbeats 1000000 in
set_option maxRecDepth 20000 in
theorem okX8_settled_b88 {E : Ev} {Q : Option Value → Wd → Prop} {a0 : Nat} {x1 : Int32} {x2 : Int32} {x4 : Int32} {w : Wd} {q : (Int32 × Int32 × Wd) ⊕ ((Int32 × Int32 × Wd) ⊕ (Int32 × Wd))} (h : fX8_settled_b88 a0 x1 x2 x4 w = some q) (hk : (Sum.elim (PX8_settled_L41 E Q a0 x1 x2) (Sum.elim (PX8_settled_L12 E Q a0) (fun q : Int32 × Wd => Q (some (.int q.1)) q.2))) q) : Runs E mX8_settled (10, 0, false) Q 0 88 [(0, .ref a0), (1, .int x1), (2, .int x2), (4, .int x4)] [] w := by
  unfold fX8_settled_b88 at h
  refine r_iconst (v := 0) dX8_settled_88 (by decide) ?_
  refine r_istore_n dX8_settled_89 rfl (Nat.le_of_ble_eq_true rfl) [(3, .int 0), (0, .ref a0), (1, .int x1), (2, .int x2), (4, .int x4)] rfl ?_
  refine r_sub [1, 2, 3, 0, 4] [(0, .ref a0), (1, .int x1), (2, .int x2), (3, .int 0), (4, .int x4)] rfl ?_
  exact okX8_settled_b90 h hk
def fX8_settled_L41_body (a0 : Nat) (x1 : Int32) (x2 : Int32) (s : Int32 × Int32 × Wd) : Option ((Int32 × Int32 × Wd) ⊕ ((Int32 × Int32 × Wd) ⊕ (Int32 × Wd))) :=
  if (96 : Int32) ≤ s.2.1 then (wr (if s.1 = 0 then (fX8_settled_b102 a0 x1 x2 s.2.2) else (fX8_settled_b102 a0 x2 x2 s.2.2))) else (chk (isO s.2.2 a0 8) (ob (wR s.2.2 a0 10) (fun o5 => chk (isA s.2.2 o5 0) (chk (inb s.2.1 (wn s.2.2 o5)) (ob (wR s.2.2 a0 20) (fun o9 => chk (isA s.2.2 o9 0) (chk (inb (24 + s.2.1) (wn s.2.2 o9)) (if (wI s.2.2 o5 (s.2.1).toNatClampNeg) = (wI s.2.2 o9 ((24 + s.2.1)).toNatClampNeg) then (ob (wR s.2.2 a0 11) (fun o14 => chk (isA s.2.2 o14 0) (chk (inb s.2.1 (wn s.2.2 o14)) (chk (inb (120 + s.2.1) (wn s.2.2 o9)) (if (wI s.2.2 o14 (s.2.1).toNatClampNeg) = (wI s.2.2 o9 ((120 + s.2.1)).toNatClampNeg) then (fX8_settled_b90 a0 x1 x2 s.1 s.2.1 s.2.2) else (fX8_settled_b88 a0 x1 x2 s.2.1 s.2.2)))))) else (fX8_settled_b88 a0 x1 x2 s.2.1 s.2.2)))))))))
set_option maxHeartbeats 1000000 in
set_option maxRecDepth 20000 in
theorem okX8_settled_L41_body {E : Ev} {Q : Option Value → Wd → Prop} {a0 : Nat} {x1 : Int32} {x2 : Int32} {s : Int32 × Int32 × Wd} {r : (Int32 × Int32 × Wd) ⊕ ((Int32 × Int32 × Wd) ⊕ (Int32 × Wd))} (h : fX8_settled_L41_body a0 x1 x2 s = some r) (hk : (Sum.elim (PX8_settled_L41 E Q a0 x1 x2) (Sum.elim (PX8_settled_L12 E Q a0) (fun q : Int32 × Wd => Q (some (.int q.1)) q.2))) r) : PX8_settled_L41 E Q a0 x1 x2 s := by
  unfold fX8_settled_L41_body at h
  unfold PX8_settled_L41
  refine r_iload dX8_settled_41 4 rfl ?_
  refine r_bipush (v := 96) dX8_settled_43 (by decide) ?_
  refine r_icmp_ge (tgt := 96) dX8_settled_45 (by decide) (fun c1 => ?_) (fun c1 => ?_)
  · rw [if_pos c1] at h
    obtain ⟨r2, hr, h⟩ := wr_some h
    rw [hr] at hk
    refine r_iload_n dX8_settled_96 3 rfl ?_
    refine r_if_eq (tgt := 102) dX8_settled_97 (by decide) (fun c3 => ?_) (fun c3 => ?_)
    · rw [if_pos c3] at h
      refine r_sub [0, 1, 2] [(0, .ref a0), (1, .int x1), (2, .int x2)] rfl ?_
      exact okX8_settled_b102 h hk
    · rw [if_neg c3] at h
      refine r_iload_n dX8_settled_100 2 rfl ?_
      refine r_istore_n dX8_settled_101 rfl (Nat.le_of_ble_eq_true rfl) [(1, .int x2), (0, .ref a0), (2, .int x2), (3, .int s.1), (4, .int s.2.1)] rfl ?_
      refine r_sub [1, 0, 2] [(0, .ref a0), (1, .int x2), (2, .int x2)] rfl ?_
      exact okX8_settled_b102 h hk
  · rw [if_neg c1] at h
    refine r_aload_n dX8_settled_48 0 rfl ?_
    obtain ⟨h4, h⟩ := chk_some h
    obtain ⟨o5, g6, h⟩ := ob_some h
    refine r_getR (fl_RX8_35 rfl) rfl dX8_settled_49 h4 g6 ?_
    refine r_iload dX8_settled_52 4 rfl ?_
    obtain ⟨h7, h⟩ := chk_some h
    obtain ⟨h8, h⟩ := chk_some h
    refine r_iaload dX8_settled_54 h7 h8 ?_
    refine r_aload_n dX8_settled_55 0 rfl ?_
    obtain ⟨o9, g10, h⟩ := ob_some h
    refine r_getR (fl_RX8_50 rfl) rfl dX8_settled_56 h4 g10 ?_
    refine r_bipush (v := 24) dX8_settled_59 (by decide) ?_
    refine r_iload dX8_settled_61 4 rfl ?_
    refine r_iadd dX8_settled_63 ?_
    obtain ⟨h11, h⟩ := chk_some h
    obtain ⟨h12, h⟩ := chk_some h
    refine r_iaload dX8_settled_64 h11 h12 ?_
    refine r_icmp_ne (tgt := 88) dX8_settled_65 (by decide) (fun c13 => ?_) (fun c13 => ?_)
    · rw [if_neg c13] at h
      refine r_sub [0, 1, 2, 4] [(0, .ref a0), (1, .int x1), (2, .int x2), (4, .int s.2.1)] rfl ?_
      exact okX8_settled_b88 h hk
    · rw [if_pos c13] at h
      refine r_aload_n dX8_settled_68 0 rfl ?_
      obtain ⟨o14, g15, h⟩ := ob_some h
      refine r_getR (fl_RX8_38 rfl) rfl dX8_settled_69 h4 g15 ?_
      refine r_iload dX8_settled_72 4 rfl ?_
      obtain ⟨h16, h⟩ := chk_some h
      obtain ⟨h17, h⟩ := chk_some h
      refine r_iaload dX8_settled_74 h16 h17 ?_
      refine r_aload_n dX8_settled_75 0 rfl ?_
      refine r_getR (fl_RX8_50 rfl) rfl dX8_settled_76 h4 g10 ?_
      refine r_bipush (v := 120) dX8_settled_79 (by decide) ?_
      refine r_iload dX8_settled_81 4 rfl ?_
      refine r_iadd dX8_settled_83 ?_
      obtain ⟨h18, h⟩ := chk_some h
      refine r_iaload dX8_settled_84 h11 h18 ?_
      refine r_icmp_eq (tgt := 90) dX8_settled_85 (by decide) (fun c19 => ?_) (fun c19 => ?_)
      · rw [if_pos c19] at h
        refine r_sub [0, 1, 2, 3, 4] [(0, .ref a0), (1, .int x1), (2, .int x2), (3, .int s.1), (4, .int s.2.1)] rfl ?_
        exact okX8_settled_b90 h hk
      · rw [if_neg c19] at h
        refine r_sub [0, 1, 2, 4] [(0, .ref a0), (1, .int x1), (2, .int x2), (4, .int s.2.1)] rfl ?_
        exact okX8_settled_b88 h hk
def fX8_settled_L41 (a0 : Nat) (x1 : Int32) (x2 : Int32) (s : Int32 × Int32 × Wd) : Option ((Int32 × Int32 × Wd) ⊕ (Int32 × Wd)) := it (fX8_settled_L41_body a0 x1 x2) FU s
set_option maxHeartbeats 1000000 in
set_option maxRecDepth 20000 in
theorem okX8_settled_L41 {E : Ev} {Q : Option Value → Wd → Prop} {a0 : Nat} {x1 : Int32} {x2 : Int32} {s : Int32 × Int32 × Wd} {r : (Int32 × Int32 × Wd) ⊕ (Int32 × Wd)} (h : fX8_settled_L41 a0 x1 x2 s = some r) (hk : (Sum.elim (PX8_settled_L12 E Q a0) (fun q : Int32 × Wd => Q (some (.int q.1)) q.2)) r) : PX8_settled_L41 E Q a0 x1 x2 s := it_runs (fun s r h hk => okX8_settled_L41_body h hk) FU s r h hk
def fX8_settled_L12_body (a0 : Nat) (s : Int32 × Int32 × Wd) : Option ((Int32 × Int32 × Wd) ⊕ (Int32 × Wd)) :=
  if (61 : Int32) ≤ s.2.1 then (wr (fX8_settled_b108 a0 s.1 s.2.2)) else (if s.1 = (-1) then (chk (isO s.2.2 a0 8) (ob (wR s.2.2 a0 20) (fun o6 => ob (fX8_keep a0 o6 s.2.2) (fun q8 => chk (isO q8 a0 8) (ob (fX8_day a0 q8) (fun q11 => fX8_settled_L41 a0 s.1 s.2.1 (1, 0, q11.2))))))) else (wr (fX8_settled_b108 a0 s.1 s.2.2)))
set_option maxHeartbeats 1000000 in
set_option maxRecDepth 20000 in
theorem okX8_settled_L12_body {E : Ev} {Q : Option Value → Wd → Prop} {a0 : Nat} {s : Int32 × Int32 × Wd} {r : (Int32 × Int32 × Wd) ⊕ (Int32 × Wd)} (h : fX8_settled_L12_body a0 s = some r) (hk : (Sum.elim (PX8_settled_L12 E Q a0) (fun q : Int32 × Wd => Q (some (.int q.1)) q.2)) r) : PX8_settled_L12 E Q a0 s := by
  unfold fX8_settled_L12_body at h
  unfold PX8_settled_L12
  refine r_iload_n dX8_settled_12 2 rfl ?_
  refine r_bipush (v := 61) dX8_settled_13 (by decide) ?_
  refine r_icmp_ge (tgt := 108) dX8_settled_15 (by decide) (fun c1 => ?_) (fun c1 => ?_)
  · rw [if_pos c1] at h
    obtain ⟨r2, hr, h⟩ := wr_some h
    rw [hr] at hk
    refine r_sub [0, 1] [(0, .ref a0), (1, .int s.1)] rfl ?_
    exact okX8_settled_b108 h hk
  · rw [if_neg c1] at h
    refine r_iload_n dX8_settled_18 1 rfl ?_
    refine r_iconst (v := (-1)) dX8_settled_19 (by decide) ?_
    refine r_icmp_ne (tgt := 108) dX8_settled_20 (by decide) (fun c3 => ?_) (fun c3 => ?_)
    · rw [if_neg c3] at h
      obtain ⟨r4, hr, h⟩ := wr_some h
      rw [hr] at hk
      refine r_sub [0, 1] [(0, .ref a0), (1, .int s.1)] rfl ?_
      exact okX8_settled_b108 h hk
    · rw [if_pos c3] at h
      refine r_aload_n dX8_settled_23 0 rfl ?_
      refine r_aload_n dX8_settled_24 0 rfl ?_
      obtain ⟨h5, h⟩ := chk_some h
      obtain ⟨o6, g7, h⟩ := ob_some h
      refine r_getR (fl_RX8_50 rfl) rfl dX8_settled_25 h5 g7 ?_
      obtain ⟨q8, g9, h⟩ := ob_some h
      refine r_callV (d' := (6, 0, false)) (As := [.ref o6]) (st := []) mdv_X8_keep tm_RX8_194 (by decide) rfl rfl (by decide) rfl (Nat.le_refl _) (Nat.le_of_ble_eq_true rfl) rfl dX8_settled_28 h5 (ctX8_keep g9) (k_V0 ?_)
      refine r_aload_n dX8_settled_31 0 rfl ?_
      obtain ⟨h10, h⟩ := chk_some h
      obtain ⟨q11, g12, h⟩ := ob_some h
      refine r_callV (d' := (9, 0, false)) (As := []) (st := []) mdv_X8_day tm_RX8_192 (by decide) rfl rfl (by decide) rfl (Nat.le_refl _) (Nat.le_of_ble_eq_true rfl) rfl dX8_settled_32 h10 (ctX8_day g12) (k_I0 ?_)
      refine r_pop dX8_settled_35 rfl ?_
      refine r_iconst (v := 1) dX8_settled_36 (by decide) ?_
      refine r_istore_n dX8_settled_37 rfl (Nat.le_of_ble_eq_true rfl) [(3, .int 1), (0, .ref a0), (1, .int s.1), (2, .int s.2.1)] rfl ?_
      refine r_iconst (v := 0) dX8_settled_38 (by decide) ?_
      refine r_istore dX8_settled_39 (Nat.le_of_ble_eq_true rfl) [(4, .int 0), (3, .int 1), (0, .ref a0), (1, .int s.1), (2, .int s.2.1)] rfl ?_
      refine r_sub [2, 3, 4, 1, 0] [(0, .ref a0), (1, .int s.1), (2, .int s.2.1), (3, .int 1), (4, .int 0)] rfl ?_
      exact okX8_settled_L41 h hk
def fX8_settled_L12 (a0 : Nat) (s : Int32 × Int32 × Wd) : Option (Int32 × Wd) := it (fX8_settled_L12_body a0) FU s
set_option maxHeartbeats 1000000 in
set_option maxRecDepth 20000 in
theorem okX8_settled_L12 {E : Ev} {Q : Option Value → Wd → Prop} {a0 : Nat} {s : Int32 × Int32 × Wd} {r : Int32 × Wd} (h : fX8_settled_L12 a0 s = some r) (hk : (fun q : Int32 × Wd => Q (some (.int q.1)) q.2) r) : PX8_settled_L12 E Q a0 s := it_runs (fun s r h hk => okX8_settled_L12_body h hk) FU s r h hk
def fX8_settled (a0 : Nat) (w : Wd) : Option (Int32 × Wd) :=
  chk (isO w a0 8) (ob (wR w a0 21) (fun o2 => ob (fX8_keep a0 o2 w) (fun q4 => fX8_settled_L12 a0 ((-1), 0, q4))))
set_option maxHeartbeats 1000000 in
set_option maxRecDepth 20000 in
theorem okX8_settled {E : Ev} {Q : Option Value → Wd → Prop} {a0 : Nat} {w : Wd} {q : Int32 × Wd} (h : fX8_settled a0 w = some q) (hk : (fun q : Int32 × Wd => Q (some (.int q.1)) q.2) q) : Runs E mX8_settled (10, 0, false) Q 0 0 [(0, .ref a0)] [] w := by
  unfold fX8_settled at h
  refine r_aload_n dX8_settled_0 0 rfl ?_
  refine r_aload_n dX8_settled_1 0 rfl ?_
  obtain ⟨h1, h⟩ := chk_some h
  obtain ⟨o2, g3, h⟩ := ob_some h
  refine r_getR (fl_RX8_53 rfl) rfl dX8_settled_2 h1 g3 ?_
  obtain ⟨q4, g5, h⟩ := ob_some h
  refine r_callV (d' := (6, 0, false)) (As := [.ref o2]) (st := []) mdv_X8_keep tm_RX8_194 (by decide) rfl rfl (by decide) rfl (Nat.le_refl _) (Nat.le_of_ble_eq_true rfl) rfl dX8_settled_5 h1 (ctX8_keep g5) (k_V0 ?_)
  refine r_iconst (v := (-1)) dX8_settled_8 (by decide) ?_
  refine r_istore_n dX8_settled_9 rfl (Nat.le_of_ble_eq_true rfl) [(1, .int (-1)), (0, .ref a0)] rfl ?_
  refine r_iconst (v := 0) dX8_settled_10 (by decide) ?_
  refine r_istore_n dX8_settled_11 rfl (Nat.le_of_ble_eq_true rfl) [(2, .int 0), (1, .int (-1)), (0, .ref a0)] rfl ?_
  refine r_sub [2, 1, 0] [(0, .ref a0), (1, .int (-1)), (2, .int 0)] rfl ?_
  exact okX8_settled_L12 h hk
set_option maxHeartbeats 1000000 in
set_option maxRecDepth 20000 in
theorem ctX8_settled {E : Ev} {a0 : Nat} {w : Wd} {q : Int32 × Wd} (h : fX8_settled a0 w = some q) : CT E mX8_settled (10, 0, false) [.ref a0] w (QI q) := CT.of pl_RX8 (Nat.le_of_ble_eq_true rfl) (okX8_settled h ⟨rfl, rfl⟩)
def fX8_show_b23 (a0 : Nat) (w : Wd) : Option (Int32 × Wd) :=
  chk (isO w a0 8) (ob (fX8_no a0 (-1) w) (fun q2 => some (q2.1, q2.2)))
set_option maxHeartbeats 1000000 in
set_option maxRecDepth 20000 in
theorem okX8_show_b23 {E : Ev} {Q : Option Value → Wd → Prop} {a0 : Nat} {w : Wd} {q : Int32 × Wd} (h : fX8_show_b23 a0 w = some q) (hk : (fun q : Int32 × Wd => Q (some (.int q.1)) q.2) q) : Runs E mX8_show (8, 0, false) Q 0 23 [(0, .ref a0)] [] w := by
  unfold fX8_show_b23 at h
  refine r_aload_n dX8_show_23 0 rfl ?_
  refine r_iconst (v := (-1)) dX8_show_24 (by decide) ?_
  obtain ⟨h1, h⟩ := chk_some h
  obtain ⟨q2, g3, h⟩ := ob_some h
  refine r_callV (d' := (6, 0, false)) (As := [.int (-1)]) (st := []) mdv_X8_no tm_RX8_72 (by decide) rfl rfl (by decide) rfl (Nat.le_refl _) (Nat.le_of_ble_eq_true rfl) rfl dX8_show_25 h1 (ctX8_no g3) (k_I0 ?_)
  rw [← Option.some.inj h] at hk
  exact r_ireturn dX8_show_28 rfl rfl hk
def fX8_show_b46 (s0 : Int32) (w : Wd) : Option (Int32 × Wd) :=
  some (s0, w)
set_option maxHeartbeats 1000000 in
set_option maxRecDepth 20000 in
theorem okX8_show_b46 {E : Ev} {Q : Option Value → Wd → Prop} {s0 : Int32} {w : Wd} {q : Int32 × Wd} (h : fX8_show_b46 s0 w = some q) (hk : (fun q : Int32 × Wd => Q (some (.int q.1)) q.2) q) : Runs E mX8_show (8, 0, false) Q 0 46 [] [.int s0] w := by
  unfold fX8_show_b46 at h
  rw [← Option.some.inj h] at hk
  exact r_ireturn dX8_show_46 rfl rfl hk
def fX8_show_b29 (a0 : Nat) (x1 : Int32) (x2 : Int32) (w : Wd) : Option (Int32 × Wd) :=
  chk (isO w a0 8) (ob (wR w a0 0) (fun o2 => chk (isA w o2 0) (chk (inb x1 (wn w o2)) (bnd (sI w o2 (x1).toNatClampNeg x2) (fun w6 => if x2 = (-1) then (fX8_show_b46 0 w6) else (fX8_show_b46 1 w6))))))
set_option maxHeartbeats 1000000 in
set_option maxRecDepth 20000 in
theorem okX8_show_b29 {E : Ev} {Q : Option Value → Wd → Prop} {a0 : Nat} {x1 : Int32} {x2 : Int32} {w : Wd} {q : Int32 × Wd} (h : fX8_show_b29 a0 x1 x2 w = some q) (hk : (fun q : Int32 × Wd => Q (some (.int q.1)) q.2) q) : Runs E mX8_show (8, 0, false) Q 0 29 [(0, .ref a0), (1, .int x1), (2, .int x2)] [] w := by
  unfold fX8_show_b29 at h
  refine r_aload_n dX8_show_29 0 rfl ?_
  obtain ⟨h1, h⟩ := chk_some h
  obtain ⟨o2, g3, h⟩ := ob_some h
  refine r_getR (fl_RX8_7 rfl) rfl dX8_show_30 h1 g3 ?_
  refine r_iload_n dX8_show_33 1 rfl ?_
  refine r_iload_n dX8_show_34 2 rfl ?_
  obtain ⟨h4, h⟩ := chk_some h
  obtain ⟨h5, h⟩ := chk_some h
  obtain ⟨w6, e7, h⟩ := bnd_some h
  refine r_iastore dX8_show_35 h4 h5 ?_
  refine r_eqW e7 ?_
  refine r_iload_n dX8_show_36 2 rfl ?_
  refine r_iconst (v := (-1)) dX8_show_37 (by decide) ?_
  refine r_icmp_ne (tgt := 45) dX8_show_38 (by decide) (fun c8 => ?_) (fun c8 => ?_)
  · rw [if_neg c8] at h
    refine r_iconst (v := 1) dX8_show_45 (by decide) ?_
    refine r_sub [] [] rfl ?_
    exact okX8_show_b46 h hk
  · rw [if_pos c8] at h
    refine r_iconst (v := 0) dX8_show_41 (by decide) ?_
    refine r_goto (tgt := 46) dX8_show_42 (by decide) ?_
    refine r_sub [] [] rfl ?_
    exact okX8_show_b46 h hk
def fX8_show (a0 : Nat) (x1 : Int32) (x2 : Int32) (w : Wd) : Option (Int32 × Wd) :=
  ob (fX8_within x1 0 7 w) (fun q1 => if q1.1 = 0 then (fX8_show_b23 a0 q1.2) else (if x2 = (-1) then (fX8_show_b29 a0 x1 x2 q1.2) else (chk (isO q1.2 a0 8) (ob (fX8_isGarment a0 x2 q1.2) (fun q6 => if q6.1 = 0 then (fX8_show_b23 a0 q6.2) else (fX8_show_b29 a0 x1 x2 q6.2))))))
set_option maxHeartbeats 1000000 in
set_option maxRecDepth 20000 in
theorem okX8_show {E : Ev} {Q : Option Value → Wd → Prop} {a0 : Nat} {x1 : Int32} {x2 : Int32} {w : Wd} {q : Int32 × Wd} (h : fX8_show a0 x1 x2 w = some q) (hk : (fun q : Int32 × Wd => Q (some (.int q.1)) q.2) q) : Runs E mX8_show (8, 0, false) Q 0 0 [(0, .ref a0), (1, .int x1), (2, .int x2)] [] w := by
  unfold fX8_show at h
  refine r_iload_n dX8_show_0 1 rfl ?_
  refine r_iconst (v := 0) dX8_show_1 (by decide) ?_
  refine r_bipush (v := 7) dX8_show_2 (by decide) ?_
  obtain ⟨q1, g2, h⟩ := ob_some h
  refine r_callS (d' := (6, 0, false)) (As := [.int x1, .int 0, .int 7]) (st := []) mds_X8_within tm_RX8_79 rfl (by decide) rfl (Nat.le_refl _) (Nat.le_of_ble_eq_true rfl) rfl dX8_show_4 (ctX8_within g2) (k_I0 ?_)
  refine r_if_eq (tgt := 23) dX8_show_7 (by decide) (fun c3 => ?_) (fun c3 => ?_)
  · rw [if_pos c3] at h
    refine r_sub [0] [(0, .ref a0)] rfl ?_
    exact okX8_show_b23 h hk
  · rw [if_neg c3] at h
    refine r_iload_n dX8_show_10 2 rfl ?_
    refine r_iconst (v := (-1)) dX8_show_11 (by decide) ?_
    refine r_icmp_eq (tgt := 29) dX8_show_12 (by decide) (fun c4 => ?_) (fun c4 => ?_)
    · rw [if_pos c4] at h
      refine r_sub [0, 1, 2] [(0, .ref a0), (1, .int x1), (2, .int x2)] rfl ?_
      exact okX8_show_b29 h hk
    · rw [if_neg c4] at h
      refine r_aload_n dX8_show_15 0 rfl ?_
      refine r_iload_n dX8_show_16 2 rfl ?_
      obtain ⟨h5, h⟩ := chk_some h
      obtain ⟨q6, g7, h⟩ := ob_some h
      refine r_callV (d' := (7, 0, false)) (As := [.int x2]) (st := []) mdv_X8_isGarment tm_RX8_93 (by decide) rfl rfl (by decide) rfl (Nat.le_refl _) (Nat.le_of_ble_eq_true rfl) rfl dX8_show_17 h5 (ctX8_isGarment g7) (k_I0 ?_)
      refine r_if_ne (tgt := 29) dX8_show_20 (by decide) (fun c8 => ?_) (fun c8 => ?_)
      · rw [if_neg c8] at h
        refine r_sub [0, 1, 2] [(0, .ref a0), (1, .int x1), (2, .int x2)] rfl ?_
        exact okX8_show_b29 h hk
      · rw [if_pos c8] at h
        refine r_sub [0] [(0, .ref a0)] rfl ?_
        exact okX8_show_b23 h hk
set_option maxHeartbeats 1000000 in
set_option maxRecDepth 20000 in
theorem ctX8_show {E : Ev} {a0 : Nat} {x1 : Int32} {x2 : Int32} {w : Wd} {q : Int32 × Wd} (h : fX8_show a0 x1 x2 w = some q) : CT E mX8_show (8, 0, false) [.ref a0, .int x1, .int x2] w (QI q) := CT.of pl_RX8 (Nat.le_of_ble_eq_true rfl) (okX8_show h ⟨rfl, rfl⟩)
def PX8_status_L61 (E : Ev) (Q : Option Value → Wd → Prop) (a0 : Nat) (s : Int32 × Int32 × Wd) : Prop := Runs E mX8_status (8, 0, false) Q 0 61 [(0, .ref a0), (2, .int s.1), (3, .int s.2.1)] [] s.2.2
def fX8_status_b82 (a0 : Nat) (x2 : Int32) (x3 : Int32) (w : Wd) : Option ((Int32 × Int32 × Wd) ⊕ (Int32 × Wd)) :=
  some (.inl (x2, (x3 + 1), w))
set_option maxHeartbeats 1000000 in
set_option maxRecDepth 20000 in
theorem okX8_status_b82 {E : Ev} {Q : Option Value → Wd → Prop} {a0 : Nat} {x2 : Int32} {x3 : Int32} {w : Wd} {q : (Int32 × Int32 × Wd) ⊕ (Int32 × Wd)} (h : fX8_status_b82 a0 x2 x3 w = some q) (hk : (Sum.elim (PX8_status_L61 E Q a0) (fun q : Int32 × Wd => Q (some (.int q.1)) q.2)) q) : Runs E mX8_status (8, 0, false) Q 0 82 [(0, .ref a0), (2, .int x2), (3, .int x3)] [] w := by
  unfold fX8_status_b82 at h
  refine r_iinc (v := (x3 + 1)) dX8_status_82 2 rfl rfl (Nat.le_of_ble_eq_true rfl) [(3, .int (x3 + 1)), (0, .ref a0), (2, .int x2)] rfl ?_
  refine r_goto (tgt := 61) dX8_status_85 (by decide) ?_
  rw [← Option.some.inj h] at hk
  refine r_sub [1, 2, 0] [(0, .ref a0), (2, .int x2), (3, .int (x3 + 1))] rfl ?_
  exact hk
def fX8_status_L61_body (a0 : Nat) (s : Int32 × Int32 × Wd) : Option ((Int32 × Int32 × Wd) ⊕ (Int32 × Wd)) :=
  chk (isO s.2.2 a0 8) (if (wI s.2.2 a0 6) ≤ s.2.1 then (wr (some (s.1, s.2.2))) else (ob (wR s.2.2 a0 9) (fun o4 => chk (isA s.2.2 o4 0) (chk (inb s.2.1 (wn s.2.2 o4)) (if (wI s.2.2 o4 (s.2.1).toNatClampNeg) = (-1) then (fX8_status_b82 a0 s.1 s.2.1 s.2.2) else (fX8_status_b82 a0 (s.1 + 1) s.2.1 s.2.2))))))
set_option maxHeartbeats 1000000 in
set_option maxRecDepth 20000 in
theorem okX8_status_L61_body {E : Ev} {Q : Option Value → Wd → Prop} {a0 : Nat} {s : Int32 × Int32 × Wd} {r : (Int32 × Int32 × Wd) ⊕ (Int32 × Wd)} (h : fX8_status_L61_body a0 s = some r) (hk : (Sum.elim (PX8_status_L61 E Q a0) (fun q : Int32 × Wd => Q (some (.int q.1)) q.2)) r) : PX8_status_L61 E Q a0 s := by
  unfold fX8_status_L61_body at h
  unfold PX8_status_L61
  refine r_iload_n dX8_status_61 2 rfl ?_
  refine r_aload_n dX8_status_62 0 rfl ?_
  obtain ⟨h1, h⟩ := chk_some h
  refine r_getI (fl_RX8_76 rfl) rfl dX8_status_63 h1 ?_
  refine r_icmp_ge (tgt := 88) dX8_status_66 (by decide) (fun c2 => ?_) (fun c2 => ?_)
  · rw [if_pos c2] at h
    obtain ⟨r3, hr, h⟩ := wr_some h
    rw [hr] at hk
    refine r_iload_n dX8_status_88 1 rfl ?_
    rw [← Option.some.inj h] at hk
    exact r_ireturn dX8_status_89 rfl rfl hk
  · rw [if_neg c2] at h
    refine r_aload_n dX8_status_69 0 rfl ?_
    obtain ⟨o4, g5, h⟩ := ob_some h
    refine r_getR (fl_RX8_32 rfl) rfl dX8_status_70 h1 g5 ?_
    refine r_iload_n dX8_status_73 2 rfl ?_
    obtain ⟨h6, h⟩ := chk_some h
    obtain ⟨h7, h⟩ := chk_some h
    refine r_iaload dX8_status_74 h6 h7 ?_
    refine r_iconst (v := (-1)) dX8_status_75 (by decide) ?_
    refine r_icmp_eq (tgt := 82) dX8_status_76 (by decide) (fun c8 => ?_) (fun c8 => ?_)
    · rw [if_pos c8] at h
      refine r_sub [0, 1, 2] [(0, .ref a0), (2, .int s.1), (3, .int s.2.1)] rfl ?_
      exact okX8_status_b82 h hk
    · rw [if_neg c8] at h
      refine r_iinc (v := (s.1 + 1)) dX8_status_79 1 rfl rfl (Nat.le_of_ble_eq_true rfl) [(2, .int (s.1 + 1)), (0, .ref a0), (3, .int s.2.1)] rfl ?_
      refine r_sub [1, 0, 2] [(0, .ref a0), (2, .int (s.1 + 1)), (3, .int s.2.1)] rfl ?_
      exact okX8_status_b82 h hk
def fX8_status_L61 (a0 : Nat) (s : Int32 × Int32 × Wd) : Option (Int32 × Wd) := it (fX8_status_L61_body a0) FU s
set_option maxHeartbeats 1000000 in
set_option maxRecDepth 20000 in
theorem okX8_status_L61 {E : Ev} {Q : Option Value → Wd → Prop} {a0 : Nat} {s : Int32 × Int32 × Wd} {r : Int32 × Wd} (h : fX8_status_L61 a0 s = some r) (hk : (fun q : Int32 × Wd => Q (some (.int q.1)) q.2) r) : PX8_status_L61 E Q a0 s := it_runs (fun s r h hk => okX8_status_L61_body h hk) FU s r h hk
def fX8_status_b129 (s0 : Int32) (w : Wd) : Option (Int32 × Wd) :=
  some (s0, w)
set_option maxHeartbeats 1000000 in
set_option maxRecDepth 20000 in
theorem okX8_status_b129 {E : Ev} {Q : Option Value → Wd → Prop} {s0 : Int32} {w : Wd} {q : Int32 × Wd} (h : fX8_status_b129 s0 w = some q) (hk : (fun q : Int32 × Wd => Q (some (.int q.1)) q.2) q) : Runs E mX8_status (8, 0, false) Q 0 129 [] [.int s0] w := by
  unfold fX8_status_b129 at h
  rw [← Option.some.inj h] at hk
  exact r_ireturn dX8_status_129 rfl rfl hk
def fX8_status (a0 : Nat) (x1 : Int32) (w : Wd) : Option (Int32 × Wd) :=
  if x1 = 0 then (chk (isO w a0 8) (some ((wI w a0 6), w))) else (if x1 = 1 then (chk (isO w a0 8) (some ((wI w a0 3), w))) else (if x1 = 2 then (chk (isO w a0 8) (ob (fX8_allHabits a0 w) (fun q7 => some (q7.1, q7.2)))) else (if x1 = 3 then (fX8_status_L61 a0 (0, 0, w)) else (if x1 = 4 then (chk (isO w a0 8) (some ((wI w a0 12), w))) else (if x1 = 5 then (chk (isO w a0 8) (some ((wI w a0 13), w))) else (if x1 = 6 then (chk (isO w a0 8) (some ((wI w a0 16), w))) else (ob (fX8_within x1 11 17 w) (fun q16 => if q16.1 = 0 then (fX8_status_b129 (-1) q16.2) else (chk (isO q16.2 a0 8) (ob (wR q16.2 a0 15) (fun o20 => chk (isA q16.2 o20 0) (chk (inb (x1 - 10) (wn q16.2 o20)) (fX8_status_b129 (wI q16.2 o20 ((x1 - 10)).toNatClampNeg) q16.2)))))))))))))
set_option maxHeartbeats 1000000 in
set_option maxRecDepth 20000 in
theorem okX8_status {E : Ev} {Q : Option Value → Wd → Prop} {a0 : Nat} {x1 : Int32} {w : Wd} {q : Int32 × Wd} (h : fX8_status a0 x1 w = some q) (hk : (fun q : Int32 × Wd => Q (some (.int q.1)) q.2) q) : Runs E mX8_status (8, 0, false) Q 0 0 [(0, .ref a0), (1, .int x1)] [] w := by
  unfold fX8_status at h
  refine r_iconst (v := 0) dX8_status_0 (by decide) ?_
  refine r_istore_n dX8_status_1 rfl (Nat.le_of_ble_eq_true rfl) [(2, .int 0), (0, .ref a0), (1, .int x1)] rfl ?_
  refine r_iload_n dX8_status_2 2 rfl ?_
  by_cases c1 : x1 = 0
  · rw [if_pos c1] at h
    refine r_tabIn (tgt := 44) dX8_status_3 (by rw [c1] <;> decide) (by rw [c1] <;> decide) (by rw [c1] <;> rfl) (by decide) ?_
    refine r_aload_n dX8_status_44 1 rfl ?_
    obtain ⟨h2, h⟩ := chk_some h
    refine r_getI (fl_RX8_76 rfl) rfl dX8_status_45 h2 ?_
    rw [← Option.some.inj h] at hk
    exact r_ireturn dX8_status_48 rfl rfl hk
  rw [if_neg c1] at h
  by_cases c3 : x1 = 1
  · rw [if_pos c3] at h
    refine r_tabIn (tgt := 49) dX8_status_3 (by rw [c3] <;> decide) (by rw [c3] <;> decide) (by rw [c3] <;> rfl) (by decide) ?_
    refine r_aload_n dX8_status_49 1 rfl ?_
    obtain ⟨h4, h⟩ := chk_some h
    refine r_getI (fl_RX8_83 rfl) rfl dX8_status_50 h4 ?_
    rw [← Option.some.inj h] at hk
    exact r_ireturn dX8_status_53 rfl rfl hk
  rw [if_neg c3] at h
  by_cases c5 : x1 = 2
  · rw [if_pos c5] at h
    refine r_tabIn (tgt := 54) dX8_status_3 (by rw [c5] <;> decide) (by rw [c5] <;> decide) (by rw [c5] <;> rfl) (by decide) ?_
    refine r_aload_n dX8_status_54 1 rfl ?_
    obtain ⟨h6, h⟩ := chk_some h
    obtain ⟨q7, g8, h⟩ := ob_some h
    refine r_callV (d' := (7, 0, false)) (As := []) (st := []) mdv_X8_allHabits tm_RX8_266 (by decide) rfl rfl (by decide) rfl (Nat.le_refl _) (Nat.le_of_ble_eq_true rfl) rfl dX8_status_55 h6 (ctX8_allHabits g8) (k_I0 ?_)
    rw [← Option.some.inj h] at hk
    exact r_ireturn dX8_status_58 rfl rfl hk
  rw [if_neg c5] at h
  by_cases c9 : x1 = 3
  · rw [if_pos c9] at h
    refine r_tabIn (tgt := 59) dX8_status_3 (by rw [c9] <;> decide) (by rw [c9] <;> decide) (by rw [c9] <;> rfl) (by decide) ?_
    refine r_iconst (v := 0) dX8_status_59 (by decide) ?_
    refine r_istore_n dX8_status_60 rfl (Nat.le_of_ble_eq_true rfl) [(3, .int 0), (2, .int 0), (0, .ref a0), (1, .int x1)] rfl ?_
    refine r_sub [2, 1, 0] [(0, .ref a0), (2, .int 0), (3, .int 0)] rfl ?_
    exact okX8_status_L61 h hk
  rw [if_neg c9] at h
  by_cases c10 : x1 = 4
  · rw [if_pos c10] at h
    refine r_tabIn (tgt := 90) dX8_status_3 (by rw [c10] <;> decide) (by rw [c10] <;> decide) (by rw [c10] <;> rfl) (by decide) ?_
    refine r_aload_n dX8_status_90 1 rfl ?_
    obtain ⟨h11, h⟩ := chk_some h
    refine r_getI (fl_RX8_224 rfl) rfl dX8_status_91 h11 ?_
    rw [← Option.some.inj h] at hk
    exact r_ireturn dX8_status_94 rfl rfl hk
  rw [if_neg c10] at h
  by_cases c12 : x1 = 5
  · rw [if_pos c12] at h
    refine r_tabIn (tgt := 95) dX8_status_3 (by rw [c12] <;> decide) (by rw [c12] <;> decide) (by rw [c12] <;> rfl) (by decide) ?_
    refine r_aload_n dX8_status_95 1 rfl ?_
    obtain ⟨h13, h⟩ := chk_some h
    refine r_getI (fl_RX8_65 rfl) rfl dX8_status_96 h13 ?_
    rw [← Option.some.inj h] at hk
    exact r_ireturn dX8_status_99 rfl rfl hk
  rw [if_neg c12] at h
  by_cases c14 : x1 = 6
  · rw [if_pos c14] at h
    refine r_tabIn (tgt := 100) dX8_status_3 (by rw [c14] <;> decide) (by rw [c14] <;> decide) (by rw [c14] <;> rfl) (by decide) ?_
    refine r_aload_n dX8_status_100 1 rfl ?_
    obtain ⟨h15, h⟩ := chk_some h
    refine r_getI (fl_RX8_269 rfl) rfl dX8_status_101 h15 ?_
    rw [← Option.some.inj h] at hk
    exact r_ireturn dX8_status_104 rfl rfl hk
  rw [if_neg c14] at h
  refine r_tabOut (tgt := 105) dX8_status_3 (by have := lv_neT (k := 0) (a := 0) c1 rfl; have := lv_neT (k := 1) (a := 1) c3 rfl; have := lv_neT (k := 2) (a := 2) c5 rfl; have := lv_neT (k := 3) (a := 3) c9 rfl; have := lv_neT (k := 4) (a := 4) c10 rfl; have := lv_neT (k := 5) (a := 5) c12 rfl; have := lv_neT (k := 6) (a := 6) c14 rfl; omega) (by decide) ?_
  refine r_iload_n dX8_status_105 2 rfl ?_
  refine r_bipush (v := 11) dX8_status_106 (by decide) ?_
  refine r_bipush (v := 17) dX8_status_108 (by decide) ?_
  obtain ⟨q16, g17, h⟩ := ob_some h
  refine r_callS (d' := (6, 0, false)) (As := [.int x1, .int 11, .int 17]) (st := []) mds_X8_within tm_RX8_79 rfl (by decide) rfl (Nat.le_refl _) (Nat.le_of_ble_eq_true rfl) rfl dX8_status_110 (ctX8_within g17) (k_I0 ?_)
  refine r_if_eq (tgt := 128) dX8_status_113 (by decide) (fun c18 => ?_) (fun c18 => ?_)
  · rw [if_pos c18] at h
    refine r_iconst (v := (-1)) dX8_status_128 (by decide) ?_
    refine r_sub [] [] rfl ?_
    exact okX8_status_b129 h hk
  · rw [if_neg c18] at h
    refine r_aload_n dX8_status_116 1 rfl ?_
    obtain ⟨h19, h⟩ := chk_some h
    obtain ⟨o20, g21, h⟩ := ob_some h
    refine r_getR (fl_RX8_41 rfl) rfl dX8_status_117 h19 g21 ?_
    refine r_iload_n dX8_status_120 2 rfl ?_
    refine r_bipush (v := 10) dX8_status_121 (by decide) ?_
    refine r_isub dX8_status_123 ?_
    obtain ⟨h22, h⟩ := chk_some h
    obtain ⟨h23, h⟩ := chk_some h
    refine r_iaload dX8_status_124 h22 h23 ?_
    refine r_goto (tgt := 129) dX8_status_125 (by decide) ?_
    refine r_sub [] [] rfl ?_
    exact okX8_status_b129 h hk
set_option maxHeartbeats 1000000 in
set_option maxRecDepth 20000 in
theorem ctX8_status {E : Ev} {a0 : Nat} {x1 : Int32} {w : Wd} {q : Int32 × Wd} (h : fX8_status a0 x1 w = some q) : CT E mX8_status (8, 0, false) [.ref a0, .int x1] w (QI q) := CT.of pl_RX8 (Nat.le_of_ble_eq_true rfl) (okX8_status h ⟨rfl, rfl⟩)
def PX8_taught_L33 (E : Ev) (Q : Option Value → Wd → Prop) (a0 : Nat) (x1 : Int32) (x2 : Int32) (s : Int32 × Wd) : Prop := Runs E mX8_taught (9, 0, false) Q 0 33 [(0, .ref a0), (1, .int x1), (2, .int x2), (4, .int s.1)] [] s.2
def PX8_taught_L80 (E : Ev) (Q : Option Value → Wd → Prop) (a0 : Nat) (x1 : Int32) (x2 : Int32) (s : Int32 × Int32 × Wd) : Prop := Runs E mX8_taught (9, 0, false) Q 0 80 [(0, .ref a0), (1, .int x1), (2, .int x2), (4, .int s.1), (5, .int s.2.1)] [] s.2.2
def fX8_taught_b192 (a0 : Nat) (x4 : Int32) (w : Wd) : Option (Int32 × Wd) :=
  chk (isO w a0 8) (ob (wR w a0 21) (fun o2 => ob (fX8_again a0 o2 w) (fun q4 => some (x4, q4))))
set_option maxHeartbeats 1000000 in
set_option maxRecDepth 20000 in
theorem okX8_taught_b192 {E : Ev} {Q : Option Value → Wd → Prop} {a0 : Nat} {x4 : Int32} {w : Wd} {q : Int32 × Wd} (h : fX8_taught_b192 a0 x4 w = some q) (hk : (fun q : Int32 × Wd => Q (some (.int q.1)) q.2) q) : Runs E mX8_taught (9, 0, false) Q 0 192 [(0, .ref a0), (4, .int x4)] [] w := by
  unfold fX8_taught_b192 at h
  refine r_aload_n dX8_taught_192 0 rfl ?_
  refine r_aload_n dX8_taught_193 0 rfl ?_
  obtain ⟨h1, h⟩ := chk_some h
  obtain ⟨o2, g3, h⟩ := ob_some h
  refine r_getR (fl_RX8_53 rfl) rfl dX8_taught_194 h1 g3 ?_
  obtain ⟨q4, g5, h⟩ := ob_some h
  refine r_callV (d' := (6, 0, false)) (As := [.ref o2]) (st := []) mdv_X8_again tm_RX8_202 (by decide) rfl rfl (by decide) rfl (Nat.le_refl _) (Nat.le_of_ble_eq_true rfl) rfl dX8_taught_197 h1 (ctX8_again g5) (k_V0 ?_)
  refine r_iload dX8_taught_200 1 rfl ?_
  rw [← Option.some.inj h] at hk
  exact r_ireturn dX8_taught_202 rfl rfl hk
def PX8_taught_L99 (E : Ev) (Q : Option Value → Wd → Prop) (a0 : Nat) (x1 : Int32) (x2 : Int32) (x4 : Int32) (x5 : Int32) (s : Int32 × Int32 × Wd) : Prop := Runs E mX8_taught (9, 0, false) Q 0 99 [(0, .ref a0), (1, .int x1), (2, .int x2), (4, .int x4), (5, .int x5), (6, .int s.1), (7, .int s.2.1)] [] s.2.2
def PX8_taught_L159 (E : Ev) (Q : Option Value → Wd → Prop) (a0 : Nat) (x1 : Int32) (x2 : Int32) (x4 : Int32) (x5 : Int32) (s : Int32 × Wd) : Prop := Runs E mX8_taught (9, 0, false) Q 0 159 [(0, .ref a0), (1, .int x1), (2, .int x2), (4, .int x4), (5, .int x5), (7, .int s.1)] [] s.2
def fX8_taught_L159_body (a0 : Nat) (x1 : Int32) (x2 : Int32) (x4 : Int32) (x5 : Int32) (s : Int32 × Wd) : Option ((Int32 × Wd) ⊕ ((Int32 × Int32 × Wd) ⊕ (Int32 × Wd))) :=
  if (12 : Int32) ≤ s.1 then (wr (some (.inl (x4, (x5 + 1), s.2)))) else (chk (isO s.2 a0 8) (ob (fX8_told a0 x1 s.1 s.2) (fun q4 => chk (isO q4.2 a0 8) (ob (fX8_learns a0 x2 s.1 q4.1 q4.2) (fun q7 => some (.inl ((s.1 + 1), q7)))))))
set_option maxHeartbeats 1000000 in
set_option maxRecDepth 20000 in
theorem okX8_taught_L159_body {E : Ev} {Q : Option Value → Wd → Prop} {a0 : Nat} {x1 : Int32} {x2 : Int32} {x4 : Int32} {x5 : Int32} {s : Int32 × Wd} {r : (Int32 × Wd) ⊕ ((Int32 × Int32 × Wd) ⊕ (Int32 × Wd))} (h : fX8_taught_L159_body a0 x1 x2 x4 x5 s = some r) (hk : (Sum.elim (PX8_taught_L159 E Q a0 x1 x2 x4 x5) (Sum.elim (PX8_taught_L80 E Q a0 x1 x2) (fun q : Int32 × Wd => Q (some (.int q.1)) q.2))) r) : PX8_taught_L159 E Q a0 x1 x2 x4 x5 s := by
  unfold fX8_taught_L159_body at h
  unfold PX8_taught_L159
  refine r_iload dX8_taught_159 5 rfl ?_
  refine r_bipush (v := 12) dX8_taught_161 (by decide) ?_
  refine r_icmp_ge (tgt := 186) dX8_taught_163 (by decide) (fun c1 => ?_) (fun c1 => ?_)
  · rw [if_pos c1] at h
    obtain ⟨r2, hr, h⟩ := wr_some h
    rw [hr] at hk
    refine r_iinc (v := (x5 + 1)) dX8_taught_186 4 rfl rfl (Nat.le_of_ble_eq_true rfl) [(5, .int (x5 + 1)), (0, .ref a0), (1, .int x1), (2, .int x2), (4, .int x4), (7, .int s.1)] rfl ?_
    refine r_goto (tgt := 80) dX8_taught_189 (by decide) ?_
    rw [← Option.some.inj h] at hk
    refine r_sub [1, 2, 3, 4, 0] [(0, .ref a0), (1, .int x1), (2, .int x2), (4, .int x4), (5, .int (x5 + 1))] rfl ?_
    exact hk
  · rw [if_neg c1] at h
    refine r_aload_n dX8_taught_166 0 rfl ?_
    refine r_iload_n dX8_taught_167 2 rfl ?_
    refine r_iload dX8_taught_168 5 rfl ?_
    refine r_aload_n dX8_taught_170 0 rfl ?_
    refine r_iload_n dX8_taught_171 1 rfl ?_
    refine r_iload dX8_taught_172 5 rfl ?_
    obtain ⟨h3, h⟩ := chk_some h
    obtain ⟨q4, g5, h⟩ := ob_some h
    refine r_callV (d' := (6, 0, false)) (As := [.int x1, .int s.1]) (st := [.int s.1, .int x2, .ref a0]) mdv_X8_told tm_RX8_248 (by decide) rfl rfl (by decide) rfl (Nat.le_refl _) (Nat.le_of_ble_eq_true rfl) rfl dX8_taught_174 h3 (ctX8_told g5) (k_I0 ?_)
    obtain ⟨h6, h⟩ := chk_some h
    obtain ⟨q7, g8, h⟩ := ob_some h
    refine r_callV (d' := (8, 0, false)) (As := [.int x2, .int s.1, .int q4.1]) (st := []) mdv_X8_learns tm_RX8_220 (by decide) rfl rfl (by decide) rfl (Nat.le_refl _) (Nat.le_of_ble_eq_true rfl) rfl dX8_taught_177 h6 (ctX8_learns g8) (k_V0 ?_)
    refine r_iinc (v := (s.1 + 1)) dX8_taught_180 5 rfl rfl (Nat.le_of_ble_eq_true rfl) [(7, .int (s.1 + 1)), (0, .ref a0), (1, .int x1), (2, .int x2), (4, .int x4), (5, .int x5)] rfl ?_
    refine r_goto (tgt := 159) dX8_taught_183 (by decide) ?_
    rw [← Option.some.inj h] at hk
    refine r_sub [1, 2, 3, 4, 5, 0] [(0, .ref a0), (1, .int x1), (2, .int x2), (4, .int x4), (5, .int x5), (7, .int (s.1 + 1))] rfl ?_
    exact hk
def fX8_taught_L159 (a0 : Nat) (x1 : Int32) (x2 : Int32) (x4 : Int32) (x5 : Int32) (s : Int32 × Wd) : Option ((Int32 × Int32 × Wd) ⊕ (Int32 × Wd)) := it (fX8_taught_L159_body a0 x1 x2 x4 x5) FU s
set_option maxHeartbeats 1000000 in
set_option maxRecDepth 20000 in
theorem okX8_taught_L159 {E : Ev} {Q : Option Value → Wd → Prop} {a0 : Nat} {x1 : Int32} {x2 : Int32} {x4 : Int32} {x5 : Int32} {s : Int32 × Wd} {r : (Int32 × Int32 × Wd) ⊕ (Int32 × Wd)} (h : fX8_taught_L159 a0 x1 x2 x4 x5 s = some r) (hk : (Sum.elim (PX8_taught_L80 E Q a0 x1 x2) (fun q : Int32 × Wd => Q (some (.int q.1)) q.2)) r) : PX8_taught_L159 E Q a0 x1 x2 x4 x5 s := it_runs (fun s r h hk => okX8_taught_L159_body h hk) FU s r h hk
def fX8_taught_b156 (a0 : Nat) (x1 : Int32) (x2 : Int32) (x4 : Int32) (x5 : Int32) (w : Wd) : Option ((Int32 × Int32 × Wd) ⊕ (Int32 × Wd)) :=
  fX8_taught_L159 a0 x1 x2 x4 x5 (0, w)
set_option maxHeartbeats 1000000 in
set_option maxRecDepth 20000 in
theorem okX8_taught_b156 {E : Ev} {Q : Option Value → Wd → Prop} {a0 : Nat} {x1 : Int32} {x2 : Int32} {x4 : Int32} {x5 : Int32} {w : Wd} {q : (Int32 × Int32 × Wd) ⊕ (Int32 × Wd)} (h : fX8_taught_b156 a0 x1 x2 x4 x5 w = some q) (hk : (Sum.elim (PX8_taught_L80 E Q a0 x1 x2) (fun q : Int32 × Wd => Q (some (.int q.1)) q.2)) q) : Runs E mX8_taught (9, 0, false) Q 0 156 [(0, .ref a0), (1, .int x1), (2, .int x2), (4, .int x4), (5, .int x5)] [] w := by
  unfold fX8_taught_b156 at h
  refine r_iconst (v := 0) dX8_taught_156 (by decide) ?_
  refine r_istore dX8_taught_157 (Nat.le_of_ble_eq_true rfl) [(7, .int 0), (0, .ref a0), (1, .int x1), (2, .int x2), (4, .int x4), (5, .int x5)] rfl ?_
  refine r_sub [1, 2, 3, 4, 5, 0] [(0, .ref a0), (1, .int x1), (2, .int x2), (4, .int x4), (5, .int x5), (7, .int 0)] rfl ?_
  exact okX8_taught_L159 h hk
def fX8_taught_b141 (a0 : Nat) (x1 : Int32) (x2 : Int32) (x4 : Int32) (x5 : Int32) (x6 : Int32) (x7 : Int32) (w : Wd) : Option ((Int32 × Int32 × Wd) ⊕ ((Int32 × Int32 × Wd) ⊕ (Int32 × Wd))) :=
  some (.inl (x6, (x7 + 1), w))
set_option maxHeartbeats 1000000 in
set_option maxRecDepth 20000 in
theorem okX8_taught_b141 {E : Ev} {Q : Option Value → Wd → Prop} {a0 : Nat} {x1 : Int32} {x2 : Int32} {x4 : Int32} {x5 : Int32} {x6 : Int32} {x7 : Int32} {w : Wd} {q : (Int32 × Int32 × Wd) ⊕ ((Int32 × Int32 × Wd) ⊕ (Int32 × Wd))} (h : fX8_taught_b141 a0 x1 x2 x4 x5 x6 x7 w = some q) (hk : (Sum.elim (PX8_taught_L99 E Q a0 x1 x2 x4 x5) (Sum.elim (PX8_taught_L80 E Q a0 x1 x2) (fun q : Int32 × Wd => Q (some (.int q.1)) q.2))) q) : Runs E mX8_taught (9, 0, false) Q 0 141 [(0, .ref a0), (1, .int x1), (2, .int x2), (4, .int x4), (5, .int x5), (6, .int x6), (7, .int x7)] [] w := by
  unfold fX8_taught_b141 at h
  refine r_iinc (v := (x7 + 1)) dX8_taught_141 6 rfl rfl (Nat.le_of_ble_eq_true rfl) [(7, .int (x7 + 1)), (0, .ref a0), (1, .int x1), (2, .int x2), (4, .int x4), (5, .int x5), (6, .int x6)] rfl ?_
  refine r_goto (tgt := 99) dX8_taught_144 (by decide) ?_
  rw [← Option.some.inj h] at hk
  refine r_sub [1, 2, 3, 4, 5, 6, 0] [(0, .ref a0), (1, .int x1), (2, .int x2), (4, .int x4), (5, .int x5), (6, .int x6), (7, .int (x7 + 1))] rfl ?_
  exact hk
def fX8_taught_L99_body (a0 : Nat) (x1 : Int32) (x2 : Int32) (x4 : Int32) (x5 : Int32) (s : Int32 × Int32 × Wd) : Option ((Int32 × Int32 × Wd) ⊕ ((Int32 × Int32 × Wd) ⊕ (Int32 × Wd))) :=
  if (12 : Int32) ≤ s.2.1 then (wr (if s.1 = 0 then (fX8_taught_b156 a0 x1 x2 x4 x5 s.2.2) else (fX8_taught_b156 a0 x1 x2 x5 x5 s.2.2))) else (chk (isO s.2.2 a0 8) (ob (fX8_told a0 x1 s.2.1 s.2.2) (fun q5 => if q5.1 = 0 then (fX8_taught_b141 a0 x1 x2 x4 x5 s.1 s.2.1 q5.2) else (chk (isO q5.2 a0 8) (ob (fX8_told a0 x1 s.2.1 q5.2) (fun q9 => chk (isO q9.2 a0 8) (ob (wR q9.2 a0 10) (fun o12 => chk (isA q9.2 o12 0) (chk (inb ((12 * x2) + s.2.1) (wn q9.2 o12)) (if q9.1 = (wI q9.2 o12 (((12 * x2) + s.2.1)).toNatClampNeg) then (fX8_taught_b141 a0 x1 x2 x4 x5 s.1 s.2.1 q9.2) else (fX8_taught_b141 a0 x1 x2 x4 x5 0 s.2.1 q9.2)))))))))))
set_option maxHeartbeats 1000000 in
set_option maxRecDepth 20000 in
theorem okX8_taught_L99_body {E : Ev} {Q : Option Value → Wd → Prop} {a0 : Nat} {x1 : Int32} {x2 : Int32} {x4 : Int32} {x5 : Int32} {s : Int32 × Int32 × Wd} {r : (Int32 × Int32 × Wd) ⊕ ((Int32 × Int32 × Wd) ⊕ (Int32 × Wd))} (h : fX8_taught_L99_body a0 x1 x2 x4 x5 s = some r) (hk : (Sum.elim (PX8_taught_L99 E Q a0 x1 x2 x4 x5) (Sum.elim (PX8_taught_L80 E Q a0 x1 x2) (fun q : Int32 × Wd => Q (some (.int q.1)) q.2))) r) : PX8_taught_L99 E Q a0 x1 x2 x4 x5 s := by
  unfold fX8_taught_L99_body at h
  unfold PX8_taught_L99
  refine r_iload dX8_taught_99 6 rfl ?_
  refine r_bipush (v := 12) dX8_taught_101 (by decide) ?_
  refine r_icmp_ge (tgt := 147) dX8_taught_103 (by decide) (fun c1 => ?_) (fun c1 => ?_)
  · rw [if_pos c1] at h
    obtain ⟨r2, hr, h⟩ := wr_some h
    rw [hr] at hk
    refine r_iload dX8_taught_147 5 rfl ?_
    refine r_if_eq (tgt := 156) dX8_taught_149 (by decide) (fun c3 => ?_) (fun c3 => ?_)
    · rw [if_pos c3] at h
      refine r_sub [0, 1, 2, 3, 4] [(0, .ref a0), (1, .int x1), (2, .int x2), (4, .int x4), (5, .int x5)] rfl ?_
      exact okX8_taught_b156 h hk
    · rw [if_neg c3] at h
      refine r_iload dX8_taught_152 4 rfl ?_
      refine r_istore dX8_taught_154 (Nat.le_of_ble_eq_true rfl) [(4, .int x5), (0, .ref a0), (1, .int x1), (2, .int x2), (5, .int x5), (6, .int s.1), (7, .int s.2.1)] rfl ?_
      refine r_sub [1, 2, 3, 0, 4] [(0, .ref a0), (1, .int x1), (2, .int x2), (4, .int x5), (5, .int x5)] rfl ?_
      exact okX8_taught_b156 h hk
  · rw [if_neg c1] at h
    refine r_aload_n dX8_taught_106 0 rfl ?_
    refine r_iload_n dX8_taught_107 1 rfl ?_
    refine r_iload dX8_taught_108 6 rfl ?_
    obtain ⟨h4, h⟩ := chk_some h
    obtain ⟨q5, g6, h⟩ := ob_some h
    refine r_callV (d' := (6, 0, false)) (As := [.int x1, .int s.2.1]) (st := []) mdv_X8_told tm_RX8_248 (by decide) rfl rfl (by decide) rfl (Nat.le_refl _) (Nat.le_of_ble_eq_true rfl) rfl dX8_taught_110 h4 (ctX8_told g6) (k_I0 ?_)
    refine r_if_eq (tgt := 141) dX8_taught_113 (by decide) (fun c7 => ?_) (fun c7 => ?_)
    · rw [if_pos c7] at h
      refine r_sub [0, 1, 2, 3, 4, 5, 6] [(0, .ref a0), (1, .int x1), (2, .int x2), (4, .int x4), (5, .int x5), (6, .int s.1), (7, .int s.2.1)] rfl ?_
      exact okX8_taught_b141 h hk
    · rw [if_neg c7] at h
      refine r_aload_n dX8_taught_116 0 rfl ?_
      refine r_iload_n dX8_taught_117 1 rfl ?_
      refine r_iload dX8_taught_118 6 rfl ?_
      obtain ⟨h8, h⟩ := chk_some h
      obtain ⟨q9, g10, h⟩ := ob_some h
      refine r_callV (d' := (6, 0, false)) (As := [.int x1, .int s.2.1]) (st := []) mdv_X8_told tm_RX8_248 (by decide) rfl rfl (by decide) rfl (Nat.le_refl _) (Nat.le_of_ble_eq_true rfl) rfl dX8_taught_120 h8 (ctX8_told g10) (k_I0 ?_)
      refine r_aload_n dX8_taught_123 0 rfl ?_
      obtain ⟨h11, h⟩ := chk_some h
      obtain ⟨o12, g13, h⟩ := ob_some h
      refine r_getR (fl_RX8_35 rfl) rfl dX8_taught_124 h11 g13 ?_
      refine r_bipush (v := 12) dX8_taught_127 (by decide) ?_
      refine r_iload_n dX8_taught_129 2 rfl ?_
      refine r_imul dX8_taught_130 ?_
      refine r_iload dX8_taught_131 6 rfl ?_
      refine r_iadd dX8_taught_133 ?_
      obtain ⟨h14, h⟩ := chk_some h
      obtain ⟨h15, h⟩ := chk_some h
      refine r_iaload dX8_taught_134 h14 h15 ?_
      refine r_icmp_eq (tgt := 141) dX8_taught_135 (by decide) (fun c16 => ?_) (fun c16 => ?_)
      · rw [if_pos c16] at h
        refine r_sub [0, 1, 2, 3, 4, 5, 6] [(0, .ref a0), (1, .int x1), (2, .int x2), (4, .int x4), (5, .int x5), (6, .int s.1), (7, .int s.2.1)] rfl ?_
        exact okX8_taught_b141 h hk
      · rw [if_neg c16] at h
        refine r_iconst (v := 0) dX8_taught_138 (by decide) ?_
        refine r_istore dX8_taught_139 (Nat.le_of_ble_eq_true rfl) [(6, .int 0), (0, .ref a0), (1, .int x1), (2, .int x2), (4, .int x4), (5, .int x5), (7, .int s.2.1)] rfl ?_
        refine r_sub [1, 2, 3, 4, 5, 0, 6] [(0, .ref a0), (1, .int x1), (2, .int x2), (4, .int x4), (5, .int x5), (6, .int 0), (7, .int s.2.1)] rfl ?_
        exact okX8_taught_b141 h hk
def fX8_taught_L99 (a0 : Nat) (x1 : Int32) (x2 : Int32) (x4 : Int32) (x5 : Int32) (s : Int32 × Int32 × Wd) : Option ((Int32 × Int32 × Wd) ⊕ (Int32 × Wd)) := it (fX8_taught_L99_body a0 x1 x2 x4 x5) FU s
set_option maxHeartbeats 1000000 in
set_option maxRecDepth 20000 in
theorem okX8_taught_L99 {E : Ev} {Q : Option Value → Wd → Prop} {a0 : Nat} {x1 : Int32} {x2 : Int32} {x4 : Int32} {x5 : Int32} {s : Int32 × Int32 × Wd} {r : (Int32 × Int32 × Wd) ⊕ (Int32 × Wd)} (h : fX8_taught_L99 a0 x1 x2 x4 x5 s = some r) (hk : (Sum.elim (PX8_taught_L80 E Q a0 x1 x2) (fun q : Int32 × Wd => Q (some (.int q.1)) q.2)) r) : PX8_taught_L99 E Q a0 x1 x2 x4 x5 s := it_runs (fun s r h hk => okX8_taught_L99_body h hk) FU s r h hk
def fX8_taught_L80_body (a0 : Nat) (x1 : Int32) (x2 : Int32) (s : Int32 × Int32 × Wd) : Option ((Int32 × Int32 × Wd) ⊕ (Int32 × Wd)) :=
  if (61 : Int32) ≤ s.2.1 then (wr (fX8_taught_b192 a0 s.1 s.2.2)) else (if s.1 = (-1) then (fX8_taught_L99 a0 x1 x2 s.1 s.2.1 (1, 0, s.2.2)) else (wr (fX8_taught_b192 a0 s.1 s.2.2)))
set_option maxHeartbeats 1000000 in
set_option maxRecDepth 20000 in
theorem okX8_taught_L80_body {E : Ev} {Q : Option Value → Wd → Prop} {a0 : Nat} {x1 : Int32} {x2 : Int32} {s : Int32 × Int32 × Wd} {r : (Int32 × Int32 × Wd) ⊕ (Int32 × Wd)} (h : fX8_taught_L80_body a0 x1 x2 s = some r) (hk : (Sum.elim (PX8_taught_L80 E Q a0 x1 x2) (fun q : Int32 × Wd => Q (some (.int q.1)) q.2)) r) : PX8_taught_L80 E Q a0 x1 x2 s := by
  unfold fX8_taught_L80_body at h
  unfold PX8_taught_L80
  refine r_iload dX8_taught_80 4 rfl ?_
  refine r_bipush (v := 61) dX8_taught_82 (by decide) ?_
  refine r_icmp_ge (tgt := 192) dX8_taught_84 (by decide) (fun c1 => ?_) (fun c1 => ?_)
  · rw [if_pos c1] at h
    obtain ⟨r2, hr, h⟩ := wr_some h
    rw [hr] at hk
    refine r_sub [0, 3] [(0, .ref a0), (4, .int s.1)] rfl ?_
    exact okX8_taught_b192 h hk
  · rw [if_neg c1] at h
    refine r_iload dX8_taught_87 3 rfl ?_
    refine r_iconst (v := (-1)) dX8_taught_89 (by decide) ?_
    refine r_icmp_ne (tgt := 192) dX8_taught_90 (by decide) (fun c3 => ?_) (fun c3 => ?_)
    · rw [if_neg c3] at h
      obtain ⟨r4, hr, h⟩ := wr_some h
      rw [hr] at hk
      refine r_sub [0, 3] [(0, .ref a0), (4, .int s.1)] rfl ?_
      exact okX8_taught_b192 h hk
    · rw [if_pos c3] at h
      refine r_iconst (v := 1) dX8_taught_93 (by decide) ?_
      refine r_istore dX8_taught_94 (Nat.le_of_ble_eq_true rfl) [(6, .int 1), (0, .ref a0), (1, .int x1), (2, .int x2), (4, .int s.1), (5, .int s.2.1)] rfl ?_
      refine r_iconst (v := 0) dX8_taught_96 (by decide) ?_
      refine r_istore dX8_taught_97 (Nat.le_of_ble_eq_true rfl) [(7, .int 0), (6, .int 1), (0, .ref a0), (1, .int x1), (2, .int x2), (4, .int s.1), (5, .int s.2.1)] rfl ?_
      refine r_sub [2, 3, 4, 5, 6, 1, 0] [(0, .ref a0), (1, .int x1), (2, .int x2), (4, .int s.1), (5, .int s.2.1), (6, .int 1), (7, .int 0)] rfl ?_
      exact okX8_taught_L99 h hk
def fX8_taught_L80 (a0 : Nat) (x1 : Int32) (x2 : Int32) (s : Int32 × Int32 × Wd) : Option (Int32 × Wd) := it (fX8_taught_L80_body a0 x1 x2) FU s
set_option maxHeartbeats 1000000 in
set_option maxRecDepth 20000 in
theorem okX8_taught_L80 {E : Ev} {Q : Option Value → Wd → Prop} {a0 : Nat} {x1 : Int32} {x2 : Int32} {s : Int32 × Int32 × Wd} {r : Int32 × Wd} (h : fX8_taught_L80 a0 x1 x2 s = some r) (hk : (fun q : Int32 × Wd => Q (some (.int q.1)) q.2) r) : PX8_taught_L80 E Q a0 x1 x2 s := it_runs (fun s r h hk => okX8_taught_L80_body h hk) FU s r h hk
def fX8_taught_L33_body (a0 : Nat) (x1 : Int32) (x2 : Int32) (s : Int32 × Wd) : Option ((Int32 × Wd) ⊕ (Int32 × Wd)) :=
  if (12 : Int32) ≤ s.1 then (wr (chk (isO s.2 a0 8) (ob (wR s.2 a0 21) (fun o4 => ob (fX8_keep a0 o4 s.2) (fun q6 => fX8_taught_L80 a0 x1 x2 ((-1), 0, q6)))))) else (chk (isO s.2 a0 8) (ob (fX8_told a0 x1 s.1 s.2) (fun q9 => ob (fX8_isDigit q9.1 q9.2) (fun q11 => if q11.1 = 0 then (wr (chk (isO q11.2 a0 8) (ob (fX8_no10 a0 (-6) q11.2) (fun q16 => some (q16.1, q16.2))))) else (some (.inl ((s.1 + 1), q11.2)))))))
set_option maxHeartbeats 1000000 in
set_option maxRecDepth 20000 in
theorem okX8_taught_L33_body {E : Ev} {Q : Option Value → Wd → Prop} {a0 : Nat} {x1 : Int32} {x2 : Int32} {s : Int32 × Wd} {r : (Int32 × Wd) ⊕ (Int32 × Wd)} (h : fX8_taught_L33_body a0 x1 x2 s = some r) (hk : (Sum.elim (PX8_taught_L33 E Q a0 x1 x2) (fun q : Int32 × Wd => Q (some (.int q.1)) q.2)) r) : PX8_taught_L33 E Q a0 x1 x2 s := by
  unfold fX8_taught_L33_body at h
  unfold PX8_taught_L33
  refine r_iload dX8_taught_33 3 rfl ?_
  refine r_bipush (v := 12) dX8_taught_35 (by decide) ?_
  refine r_icmp_ge (tgt := 66) dX8_taught_37 (by decide) (fun c1 => ?_) (fun c1 => ?_)
  · rw [if_pos c1] at h
    obtain ⟨r2, hr, h⟩ := wr_some h
    rw [hr] at hk
    refine r_aload_n dX8_taught_66 0 rfl ?_
    refine r_aload_n dX8_taught_67 0 rfl ?_
    obtain ⟨h3, h⟩ := chk_some h
    obtain ⟨o4, g5, h⟩ := ob_some h
    refine r_getR (fl_RX8_53 rfl) rfl dX8_taught_68 h3 g5 ?_
    obtain ⟨q6, g7, h⟩ := ob_some h
    refine r_callV (d' := (6, 0, false)) (As := [.ref o4]) (st := []) mdv_X8_keep tm_RX8_194 (by decide) rfl rfl (by decide) rfl (Nat.le_refl _) (Nat.le_of_ble_eq_true rfl) rfl dX8_taught_71 h3 (ctX8_keep g7) (k_V0 ?_)
    refine r_iconst (v := (-1)) dX8_taught_74 (by decide) ?_
    refine r_istore dX8_taught_75 (Nat.le_of_ble_eq_true rfl) [(4, .int (-1)), (0, .ref a0), (1, .int x1), (2, .int x2)] rfl ?_
    refine r_iconst (v := 0) dX8_taught_77 (by decide) ?_
    refine r_istore dX8_taught_78 (Nat.le_of_ble_eq_true rfl) [(5, .int 0), (4, .int (-1)), (0, .ref a0), (1, .int x1), (2, .int x2)] rfl ?_
    refine r_sub [2, 3, 4, 1, 0] [(0, .ref a0), (1, .int x1), (2, .int x2), (4, .int (-1)), (5, .int 0)] rfl ?_
    exact okX8_taught_L80 h hk
  · rw [if_neg c1] at h
    refine r_aload_n dX8_taught_40 0 rfl ?_
    refine r_iload_n dX8_taught_41 1 rfl ?_
    refine r_iload dX8_taught_42 3 rfl ?_
    obtain ⟨h8, h⟩ := chk_some h
    obtain ⟨q9, g10, h⟩ := ob_some h
    refine r_callV (d' := (6, 0, false)) (As := [.int x1, .int s.1]) (st := []) mdv_X8_told tm_RX8_248 (by decide) rfl rfl (by decide) rfl (Nat.le_refl _) (Nat.le_of_ble_eq_true rfl) rfl dX8_taught_44 h8 (ctX8_told g10) (k_I0 ?_)
    obtain ⟨q11, g12, h⟩ := ob_some h
    refine r_callS (d' := (7, 0, false)) (As := [.int q9.1]) (st := []) mds_X8_isDigit tm_RX8_113 rfl (by decide) rfl (Nat.le_refl _) (Nat.le_of_ble_eq_true rfl) rfl dX8_taught_47 (ctX8_isDigit g12) (k_I0 ?_)
    refine r_if_ne (tgt := 60) dX8_taught_50 (by decide) (fun c13 => ?_) (fun c13 => ?_)
    · rw [if_neg c13] at h
      refine r_iinc (v := (s.1 + 1)) dX8_taught_60 3 rfl rfl (Nat.le_of_ble_eq_true rfl) [(4, .int (s.1 + 1)), (0, .ref a0), (1, .int x1), (2, .int x2)] rfl ?_
      refine r_goto (tgt := 33) dX8_taught_63 (by decide) ?_
      rw [← Option.some.inj h] at hk
      refine r_sub [1, 2, 3, 0] [(0, .ref a0), (1, .int x1), (2, .int x2), (4, .int (s.1 + 1))] rfl ?_
      exact hk
    · rw [if_pos c13] at h
      obtain ⟨r14, hr, h⟩ := wr_some h
      rw [hr] at hk
      refine r_aload_n dX8_taught_53 0 rfl ?_
      refine r_bipush (v := (-6)) dX8_taught_54 (by decide) ?_
      obtain ⟨h15, h⟩ := chk_some h
      obtain ⟨q16, g17, h⟩ := ob_some h
      refine r_callV (d' := (7, 0, false)) (As := [.int (-6)]) (st := []) mdv_X8_no10 tm_RX8_132 (by decide) rfl rfl (by decide) rfl (Nat.le_refl _) (Nat.le_of_ble_eq_true rfl) rfl dX8_taught_56 h15 (ctX8_no10 g17) (k_I0 ?_)
      rw [← Option.some.inj h] at hk
      exact r_ireturn dX8_taught_59 rfl rfl hk
def fX8_taught_L33 (a0 : Nat) (x1 : Int32) (x2 : Int32) (s : Int32 × Wd) : Option (Int32 × Wd) := it (fX8_taught_L33_body a0 x1 x2) FU s
set_option maxHeartbeats 1000000 in
set_option maxRecDepth 20000 in
theorem okX8_taught_L33 {E : Ev} {Q : Option Value → Wd → Prop} {a0 : Nat} {x1 : Int32} {x2 : Int32} {s : Int32 × Wd} {r : Int32 × Wd} (h : fX8_taught_L33 a0 x1 x2 s = some r) (hk : (fun q : Int32 × Wd => Q (some (.int q.1)) q.2) r) : PX8_taught_L33 E Q a0 x1 x2 s := it_runs (fun s r h hk => okX8_taught_L33_body h hk) FU s r h hk
def fX8_taught (a0 : Nat) (x1 : Int32) (x2 : Int32) (w : Wd) : Option (Int32 × Wd) :=
  chk (isO w a0 8) (ob (fX8_isGarment a0 x2 w) (fun q2 => if q2.1 = 0 then (chk (isO q2.2 a0 8) (ob (fX8_no10 a0 (-1) q2.2) (fun q13 => some (q13.1, q13.2)))) else (chk (isO q2.2 a0 8) (ob (fX8_noDay a0 x1 q2.2) (fun q6 => if 0 ≤ q6.1 then (fX8_taught_L33 a0 x1 x2 (0, q6.2)) else (chk (isO q6.2 a0 8) (ob (fX8_no10 a0 q6.1 q6.2) (fun q10 => some (q10.1, q10.2)))))))))
set_option maxHeartbeats 1000000 in
set_option maxRecDepth 20000 in
theorem okX8_taught {E : Ev} {Q : Option Value → Wd → Prop} {a0 : Nat} {x1 : Int32} {x2 : Int32} {w : Wd} {q : Int32 × Wd} (h : fX8_taught a0 x1 x2 w = some q) (hk : (fun q : Int32 × Wd => Q (some (.int q.1)) q.2) q) : Runs E mX8_taught (9, 0, false) Q 0 0 [(0, .ref a0), (1, .int x1), (2, .int x2)] [] w := by
  unfold fX8_taught at h
  refine r_aload_n dX8_taught_0 0 rfl ?_
  refine r_iload_n dX8_taught_1 2 rfl ?_
  obtain ⟨h1, h⟩ := chk_some h
  obtain ⟨q2, g3, h⟩ := ob_some h
  refine r_callV (d' := (7, 0, false)) (As := [.int x2]) (st := []) mdv_X8_isGarment tm_RX8_93 (by decide) rfl rfl (by decide) rfl (Nat.le_refl _) (Nat.le_of_ble_eq_true rfl) rfl dX8_taught_2 h1 (ctX8_isGarment g3) (k_I0 ?_)
  refine r_if_ne (tgt := 14) dX8_taught_5 (by decide) (fun c4 => ?_) (fun c4 => ?_)
  · rw [if_neg c4] at h
    refine r_aload_n dX8_taught_14 0 rfl ?_
    refine r_iload_n dX8_taught_15 1 rfl ?_
    obtain ⟨h5, h⟩ := chk_some h
    obtain ⟨q6, g7, h⟩ := ob_some h
    refine r_callV (d' := (8, 0, false)) (As := [.int x1]) (st := []) mdv_X8_noDay tm_RX8_245 (by decide) rfl rfl (by decide) rfl (Nat.le_refl _) (Nat.le_of_ble_eq_true rfl) rfl dX8_taught_16 h5 (ctX8_noDay g7) (k_I0 ?_)
    refine r_istore_n dX8_taught_19 rfl (Nat.le_of_ble_eq_true rfl) [(3, .int q6.1), (0, .ref a0), (1, .int x1), (2, .int x2)] rfl ?_
    refine r_iload_n dX8_taught_20 0 rfl ?_
    refine r_if_ge (tgt := 30) dX8_taught_21 (by decide) (fun c8 => ?_) (fun c8 => ?_)
    · rw [if_pos c8] at h
      refine r_iconst (v := 0) dX8_taught_30 (by decide) ?_
      refine r_istore dX8_taught_31 (Nat.le_of_ble_eq_true rfl) [(4, .int 0), (3, .int q6.1), (0, .ref a0), (1, .int x1), (2, .int x2)] rfl ?_
      refine r_sub [2, 3, 4, 0] [(0, .ref a0), (1, .int x1), (2, .int x2), (4, .int 0)] rfl ?_
      exact okX8_taught_L33 h hk
    · rw [if_neg c8] at h
      refine r_aload_n dX8_taught_24 1 rfl ?_
      refine r_iload_n dX8_taught_25 0 rfl ?_
      obtain ⟨h9, h⟩ := chk_some h
      obtain ⟨q10, g11, h⟩ := ob_some h
      refine r_callV (d' := (7, 0, false)) (As := [.int q6.1]) (st := []) mdv_X8_no10 tm_RX8_132 (by decide) rfl rfl (by decide) rfl (Nat.le_refl _) (Nat.le_of_ble_eq_true rfl) rfl dX8_taught_26 h9 (ctX8_no10 g11) (k_I0 ?_)
      rw [← Option.some.inj h] at hk
      exact r_ireturn dX8_taught_29 rfl rfl hk
  · rw [if_pos c4] at h
    refine r_aload_n dX8_taught_8 0 rfl ?_
    refine r_iconst (v := (-1)) dX8_taught_9 (by decide) ?_
    obtain ⟨h12, h⟩ := chk_some h
    obtain ⟨q13, g14, h⟩ := ob_some h
    refine r_callV (d' := (7, 0, false)) (As := [.int (-1)]) (st := []) mdv_X8_no10 tm_RX8_132 (by decide) rfl rfl (by decide) rfl (Nat.le_refl _) (Nat.le_of_ble_eq_true rfl) rfl dX8_taught_10 h12 (ctX8_no10 g14) (k_I0 ?_)
    rw [← Option.some.inj h] at hk
    exact r_ireturn dX8_taught_13 rfl rfl hk
set_option maxHeartbeats 1000000 in
set_option maxRecDepth 20000 in
theorem ctX8_taught {E : Ev} {a0 : Nat} {x1 : Int32} {x2 : Int32} {w : Wd} {q : Int32 × Wd} (h : fX8_taught a0 x1 x2 w = some q) : CT E mX8_taught (9, 0, false) [.ref a0, .int x1, .int x2] w (QI q) := CT.of pl_RX8 (Nat.le_of_ble_eq_true rfl) (okX8_taught h ⟨rfl, rfl⟩)
def fX8_trace_b28 (s0 : Int32) (w : Wd) : Option (Int32 × Wd) :=
  some (s0, w)
set_option maxHeartbeats 1000000 in
set_option maxRecDepth 20000 in
theorem okX8_trace_b28 {E : Ev} {Q : Option Value → Wd → Prop} {s0 : Int32} {w : Wd} {q : Int32 × Wd} (h : fX8_trace_b28 s0 w = some q) (hk : (fun q : Int32 × Wd => Q (some (.int q.1)) q.2) q) : Runs E mX8_trace (6, 0, false) Q 0 28 [] [.int s0] w := by
  unfold fX8_trace_b28 at h
  rw [← Option.some.inj h] at hk
  exact r_ireturn dX8_trace_28 rfl rfl hk
def fX8_trace_b27 (w : Wd) : Option (Int32 × Wd) :=
  fX8_trace_b28 (-1) w
set_option maxHeartbeats 1000000 in
set_option maxRecDepth 20000 in
theorem okX8_trace_b27 {E : Ev} {Q : Option Value → Wd → Prop} {w : Wd} {q : Int32 × Wd} (h : fX8_trace_b27 w = some q) (hk : (fun q : Int32 × Wd => Q (some (.int q.1)) q.2) q) : Runs E mX8_trace (6, 0, false) Q 0 27 [] [] w := by
  unfold fX8_trace_b27 at h
  refine r_iconst (v := (-1)) dX8_trace_27 (by decide) ?_
  refine r_sub [] [] rfl ?_
  exact okX8_trace_b28 h hk
def fX8_trace (a0 : Nat) (x1 : Int32) (w : Wd) : Option (Int32 × Wd) :=
  if x1 < 0 then (fX8_trace_b27 w) else (chk (isO w a0 8) (if (wI w a0 16) ≤ x1 then (fX8_trace_b27 w) else (if (20 : Int32) ≤ x1 then (fX8_trace_b27 w) else (ob (wR w a0 17) (fun o5 => chk (isA w o5 0) (chk (inb x1 (wn w o5)) (fX8_trace_b28 (wI w o5 (x1).toNatClampNeg) w)))))))
set_option maxHeartbeats 1000000 in
set_option maxRecDepth 20000 in
theorem okX8_trace {E : Ev} {Q : Option Value → Wd → Prop} {a0 : Nat} {x1 : Int32} {w : Wd} {q : Int32 × Wd} (h : fX8_trace a0 x1 w = some q) (hk : (fun q : Int32 × Wd => Q (some (.int q.1)) q.2) q) : Runs E mX8_trace (6, 0, false) Q 0 0 [(0, .ref a0), (1, .int x1)] [] w := by
  unfold fX8_trace at h
  refine r_iload_n dX8_trace_0 1 rfl ?_
  refine r_if_lt (tgt := 27) dX8_trace_1 (by decide) (fun c1 => ?_) (fun c1 => ?_)
  · rw [if_pos c1] at h
    refine r_sub [] [] rfl ?_
    exact okX8_trace_b27 h hk
  · rw [if_neg c1] at h
    refine r_iload_n dX8_trace_4 1 rfl ?_
    refine r_aload_n dX8_trace_5 0 rfl ?_
    obtain ⟨h2, h⟩ := chk_some h
    refine r_getI (fl_RX8_269 rfl) rfl dX8_trace_6 h2 ?_
    refine r_icmp_ge (tgt := 27) dX8_trace_9 (by decide) (fun c3 => ?_) (fun c3 => ?_)
    · rw [if_pos c3] at h
      refine r_sub [] [] rfl ?_
      exact okX8_trace_b27 h hk
    · rw [if_neg c3] at h
      refine r_iload_n dX8_trace_12 1 rfl ?_
      refine r_bipush (v := 20) dX8_trace_13 (by decide) ?_
      refine r_icmp_ge (tgt := 27) dX8_trace_15 (by decide) (fun c4 => ?_) (fun c4 => ?_)
      · rw [if_pos c4] at h
        refine r_sub [] [] rfl ?_
        exact okX8_trace_b27 h hk
      · rw [if_neg c4] at h
        refine r_aload_n dX8_trace_18 0 rfl ?_
        obtain ⟨o5, g6, h⟩ := ob_some h
        refine r_getR (fl_RX8_44 rfl) rfl dX8_trace_19 h2 g6 ?_
        refine r_iload_n dX8_trace_22 1 rfl ?_
        obtain ⟨h7, h⟩ := chk_some h
        obtain ⟨h8, h⟩ := chk_some h
        refine r_iaload dX8_trace_23 h7 h8 ?_
        refine r_goto (tgt := 28) dX8_trace_24 (by decide) ?_
        refine r_sub [] [] rfl ?_
        exact okX8_trace_b28 h hk
set_option maxHeartbeats 1000000 in
set_option maxRecDepth 20000 in
theorem ctX8_trace {E : Ev} {a0 : Nat} {x1 : Int32} {w : Wd} {q : Int32 × Wd} (h : fX8_trace a0 x1 w = some q) : CT E mX8_trace (6, 0, false) [.ref a0, .int x1] w (QI q) := CT.of pl_RX8 (Nat.le_of_ble_eq_true rfl) (okX8_trace h ⟨rfl, rfl⟩)
def fX8_two_b16 (a0 : Nat) (w : Wd) : Option (Int32 × Wd) :=
  chk (isO w a0 8) (ob (fX8_no a0 (-1) w) (fun q2 => some (q2.1, q2.2)))
set_option maxHeartbeats 1000000 in
set_option maxRecDepth 20000 in
theorem okX8_two_b16 {E : Ev} {Q : Option Value → Wd → Prop} {a0 : Nat} {w : Wd} {q : Int32 × Wd} (h : fX8_two_b16 a0 w = some q) (hk : (fun q : Int32 × Wd => Q (some (.int q.1)) q.2) q) : Runs E mX8_two (8, 0, false) Q 0 16 [(0, .ref a0)] [] w := by
  unfold fX8_two_b16 at h
  refine r_aload_n dX8_two_16 0 rfl ?_
  refine r_iconst (v := (-1)) dX8_two_17 (by decide) ?_
  obtain ⟨h1, h⟩ := chk_some h
  obtain ⟨q2, g3, h⟩ := ob_some h
  refine r_callV (d' := (6, 0, false)) (As := [.int (-1)]) (st := []) mdv_X8_no tm_RX8_72 (by decide) rfl rfl (by decide) rfl (Nat.le_refl _) (Nat.le_of_ble_eq_true rfl) rfl dX8_two_18 h1 (ctX8_no g3) (k_I0 ?_)
  rw [← Option.some.inj h] at hk
  exact r_ireturn dX8_two_21 rfl rfl hk
def PX8_two_L56 (E : Ev) (Q : Option Value → Wd → Prop) (a0 : Nat) (x1 : Int32) (x2 : Int32) (x3 : Int32) (s : Int32 × Int32 × Wd) : Prop := Runs E mX8_two (8, 0, false) Q 0 56 [(0, .ref a0), (1, .int x1), (2, .int x2), (3, .int x3), (4, .int s.1), (5, .int s.2.1)] [] s.2.2
def fX8_two_b135 (a0 : Nat) (x1 : Int32) (x2 : Int32) (x3 : Int32) (x4 : Int32) (x5 : Int32) (w : Wd) : Option ((Int32 × Int32 × Wd) ⊕ (Int32 × Wd)) :=
  some (.inl (x4, (x5 + 1), w))
set_option maxHeartbeats 1000000 in
set_option maxRecDepth 20000 in
theorem okX8_two_b135 {E : Ev} {Q : Option Value → Wd → Prop} {a0 : Nat} {x1 : Int32} {x2 : Int32} {x3 : Int32} {x4 : Int32} {x5 : Int32} {w : Wd} {q : (Int32 × Int32 × Wd) ⊕ (Int32 × Wd)} (h : fX8_two_b135 a0 x1 x2 x3 x4 x5 w = some q) (hk : (Sum.elim (PX8_two_L56 E Q a0 x1 x2 x3) (fun q : Int32 × Wd => Q (some (.int q.1)) q.2)) q) : Runs E mX8_two (8, 0, false) Q 0 135 [(0, .ref a0), (1, .int x1), (2, .int x2), (3, .int x3), (4, .int x4), (5, .int x5)] [] w := by
  unfold fX8_two_b135 at h
  refine r_iinc (v := (x5 + 1)) dX8_two_135 5 rfl rfl (Nat.le_of_ble_eq_true rfl) [(5, .int (x5 + 1)), (0, .ref a0), (1, .int x1), (2, .int x2), (3, .int x3), (4, .int x4)] rfl ?_
  refine r_goto (tgt := 56) dX8_two_138 (by decide) ?_
  rw [← Option.some.inj h] at hk
  refine r_sub [1, 2, 3, 4, 5, 0] [(0, .ref a0), (1, .int x1), (2, .int x2), (3, .int x3), (4, .int x4), (5, .int (x5 + 1))] rfl ?_
  exact hk
def fX8_two_b132 (a0 : Nat) (x1 : Int32) (x2 : Int32) (x3 : Int32) (x4 : Int32) (x5 : Int32) (w : Wd) : Option ((Int32 × Int32 × Wd) ⊕ (Int32 × Wd)) :=
  fX8_two_b135 a0 x1 x2 x3 (x4 + 1) x5 w
set_option maxHeartbeats 1000000 in
set_option maxRecDepth 20000 in
theorem okX8_two_b132 {E : Ev} {Q : Option Value → Wd → Prop} {a0 : Nat} {x1 : Int32} {x2 : Int32} {x3 : Int32} {x4 : Int32} {x5 : Int32} {w : Wd} {q : (Int32 × Int32 × Wd) ⊕ (Int32 × Wd)} (h : fX8_two_b132 a0 x1 x2 x3 x4 x5 w = some q) (hk : (Sum.elim (PX8_two_L56 E Q a0 x1 x2 x3) (fun q : Int32 × Wd => Q (some (.int q.1)) q.2)) q) : Runs E mX8_two (8, 0, false) Q 0 132 [(0, .ref a0), (1, .int x1), (2, .int x2), (3, .int x3), (4, .int x4), (5, .int x5)] [] w := by
  unfold fX8_two_b132 at h
  refine r_iinc (v := (x4 + 1)) dX8_two_132 4 rfl rfl (Nat.le_of_ble_eq_true rfl) [(4, .int (x4 + 1)), (0, .ref a0), (1, .int x1), (2, .int x2), (3, .int x3), (5, .int x5)] rfl ?_
  refine r_sub [1, 2, 3, 4, 0, 5] [(0, .ref a0), (1, .int x1), (2, .int x2), (3, .int x3), (4, .int (x4 + 1)), (5, .int x5)] rfl ?_
  exact okX8_two_b135 h hk
def fX8_two_L56_body (a0 : Nat) (x1 : Int32) (x2 : Int32) (x3 : Int32) (s : Int32 × Int32 × Wd) : Option ((Int32 × Int32 × Wd) ⊕ (Int32 × Wd)) :=
  if (12 : Int32) ≤ s.2.1 then (wr (some (s.1, s.2.2))) else (chk (isO s.2.2 a0 8) (ob (wR s.2.2 a0 10) (fun o4 => chk (isA s.2.2 o4 0) (chk (inb ((12 * x1) + s.2.1) (wn s.2.2 o4)) (bnd (wI s.2.2 o4 (((12 * x1) + s.2.1)).toNatClampNeg) (fun u8 => chk (inb ((12 * x2) + s.2.1) (wn s.2.2 o4)) (bnd (wI s.2.2 o4 (((12 * x2) + s.2.1)).toNatClampNeg) (fun u11 => if x3 = 0 then (if u8 = 0 then (fX8_two_b135 a0 x1 x2 x3 s.1 s.2.1 s.2.2) else (if u11 = 0 then (fX8_two_b135 a0 x1 x2 x3 s.1 s.2.1 s.2.2) else (if u8 = u11 then (fX8_two_b135 a0 x1 x2 x3 s.1 s.2.1 s.2.2) else (fX8_two_b132 a0 x1 x2 x3 s.1 s.2.1 s.2.2)))) else (ob (fX8_pull a0 x1 s.2.1 s.2.2) (fun q14 => chk (isO q14.2 a0 8) (ob (fX8_pull a0 x2 s.2.1 q14.2) (fun q17 => if q14.1 ≤ q17.1 then (fX8_two_b135 a0 x1 x2 x3 s.1 s.2.1 q17.2) else (fX8_two_b132 a0 x1 x2 x3 s.1 s.2.1 q17.2)))))))))))))
set_option maxHeartbeats 1000000 in
set_option maxRecDepth 20000 in
theorem okX8_two_L56_body {E : Ev} {Q : Option Value → Wd → Prop} {a0 : Nat} {x1 : Int32} {x2 : Int32} {x3 : Int32} {s : Int32 × Int32 × Wd} {r : (Int32 × Int32 × Wd) ⊕ (Int32 × Wd)} (h : fX8_two_L56_body a0 x1 x2 x3 s = some r) (hk : (Sum.elim (PX8_two_L56 E Q a0 x1 x2 x3) (fun q : Int32 × Wd => Q (some (.int q.1)) q.2)) r) : PX8_two_L56 E Q a0 x1 x2 x3 s := by
  unfold fX8_two_L56_body at h
  unfold PX8_two_L56
  refine r_iload dX8_two_56 5 rfl ?_
  refine r_bipush (v := 12) dX8_two_58 (by decide) ?_
  refine r_icmp_ge (tgt := 141) dX8_two_60 (by decide) (fun c1 => ?_) (fun c1 => ?_)
  · rw [if_pos c1] at h
    obtain ⟨r2, hr, h⟩ := wr_some h
    rw [hr] at hk
    refine r_iload dX8_two_141 4 rfl ?_
    rw [← Option.some.inj h] at hk
    exact r_ireturn dX8_two_143 rfl rfl hk
  · rw [if_neg c1] at h
    refine r_aload_n dX8_two_63 0 rfl ?_
    obtain ⟨h3, h⟩ := chk_some h
    obtain ⟨o4, g5, h⟩ := ob_some h
    refine r_getR (fl_RX8_35 rfl) rfl dX8_two_64 h3 g5 ?_
    refine r_bipush (v := 12) dX8_two_67 (by decide) ?_
    refine r_iload_n dX8_two_69 1 rfl ?_
    refine r_imul dX8_two_70 ?_
    refine r_iload dX8_two_71 5 rfl ?_
    refine r_iadd dX8_two_73 ?_
    obtain ⟨h6, h⟩ := chk_some h
    obtain ⟨h7, h⟩ := chk_some h
    refine r_iaload dX8_two_74 h6 h7 ?_
    obtain ⟨u8, e9, h⟩ := bnd_some h
    refine r_eqI e9 ?_
    refine r_istore dX8_two_75 (Nat.le_of_ble_eq_true rfl) [(6, .int u8), (0, .ref a0), (1, .int x1), (2, .int x2), (3, .int x3), (4, .int s.1), (5, .int s.2.1)] rfl ?_
    refine r_aload_n dX8_two_77 1 rfl ?_
    refine r_getR (fl_RX8_35 rfl) rfl dX8_two_78 h3 g5 ?_
    refine r_bipush (v := 12) dX8_two_81 (by decide) ?_
    refine r_iload_n dX8_two_83 3 rfl ?_
    refine r_imul dX8_two_84 ?_
    refine r_iload dX8_two_85 6 rfl ?_
    refine r_iadd dX8_two_87 ?_
    obtain ⟨h10, h⟩ := chk_some h
    refine r_iaload dX8_two_88 h6 h10 ?_
    obtain ⟨u11, e12, h⟩ := bnd_some h
    refine r_eqI e12 ?_
    refine r_istore dX8_two_89 (Nat.le_of_ble_eq_true rfl) [(7, .int u11), (6, .int u8), (0, .ref a0), (1, .int x1), (2, .int x2), (3, .int x3), (4, .int s.1), (5, .int s.2.1)] rfl ?_
    refine r_iload_n dX8_two_91 5 rfl ?_
    refine r_if_ne (tgt := 115) dX8_two_92 (by decide) (fun c13 => ?_) (fun c13 => ?_)
    · rw [if_neg c13] at h
      refine r_aload_n dX8_two_115 2 rfl ?_
      refine r_iload_n dX8_two_116 3 rfl ?_
      refine r_iload dX8_two_117 7 rfl ?_
      obtain ⟨q14, g15, h⟩ := ob_some h
      refine r_callV (d' := (6, 0, false)) (As := [.int x1, .int s.2.1]) (st := []) mdv_X8_pull tm_RX8_135 (by decide) rfl rfl (by decide) rfl (Nat.le_refl _) (Nat.le_of_ble_eq_true rfl) rfl dX8_two_119 h3 (ctX8_pull g15) (k_I0 ?_)
      refine r_aload_n dX8_two_122 2 rfl ?_
      refine r_iload_n dX8_two_123 4 rfl ?_
      refine r_iload dX8_two_124 7 rfl ?_
      obtain ⟨h16, h⟩ := chk_some h
      obtain ⟨q17, g18, h⟩ := ob_some h
      refine r_callV (d' := (6, 0, false)) (As := [.int x2, .int s.2.1]) (st := [.int q14.1]) mdv_X8_pull tm_RX8_135 (by decide) rfl rfl (by decide) rfl (Nat.le_refl _) (Nat.le_of_ble_eq_true rfl) rfl dX8_two_126 h16 (ctX8_pull g18) (k_I0 ?_)
      refine r_icmp_le (tgt := 135) dX8_two_129 (by decide) (fun c19 => ?_) (fun c19 => ?_)
      · rw [if_pos c19] at h
        refine r_sub [2, 3, 4, 5, 6, 7] [(0, .ref a0), (1, .int x1), (2, .int x2), (3, .int x3), (4, .int s.1), (5, .int s.2.1)] rfl ?_
        exact okX8_two_b135 h hk
      · rw [if_neg c19] at h
        refine r_sub [2, 3, 4, 5, 6, 7] [(0, .ref a0), (1, .int x1), (2, .int x2), (3, .int x3), (4, .int s.1), (5, .int s.2.1)] rfl ?_
        exact okX8_two_b132 h hk
    · rw [if_pos c13] at h
      refine r_iload dX8_two_95 1 rfl ?_
      refine r_if_eq (tgt := 135) dX8_two_97 (by decide) (fun c20 => ?_) (fun c20 => ?_)
      · rw [if_pos c20] at h
        refine r_sub [2, 3, 4, 5, 6, 7] [(0, .ref a0), (1, .int x1), (2, .int x2), (3, .int x3), (4, .int s.1), (5, .int s.2.1)] rfl ?_
        exact okX8_two_b135 h hk
      · rw [if_neg c20] at h
        refine r_iload dX8_two_100 0 rfl ?_
        refine r_if_eq (tgt := 135) dX8_two_102 (by decide) (fun c21 => ?_) (fun c21 => ?_)
        · rw [if_pos c21] at h
          refine r_sub [2, 3, 4, 5, 6, 7] [(0, .ref a0), (1, .int x1), (2, .int x2), (3, .int x3), (4, .int s.1), (5, .int s.2.1)] rfl ?_
          exact okX8_two_b135 h hk
        · rw [if_neg c21] at h
          refine r_iload dX8_two_105 1 rfl ?_
          refine r_iload dX8_two_107 0 rfl ?_
          refine r_icmp_eq (tgt := 135) dX8_two_109 (by decide) (fun c22 => ?_) (fun c22 => ?_)
          · rw [if_pos c22] at h
            refine r_sub [2, 3, 4, 5, 6, 7] [(0, .ref a0), (1, .int x1), (2, .int x2), (3, .int x3), (4, .int s.1), (5, .int s.2.1)] rfl ?_
            exact okX8_two_b135 h hk
          · rw [if_neg c22] at h
            refine r_goto (tgt := 132) dX8_two_112 (by decide) ?_
            refine r_sub [2, 3, 4, 5, 6, 7] [(0, .ref a0), (1, .int x1), (2, .int x2), (3, .int x3), (4, .int s.1), (5, .int s.2.1)] rfl ?_
            exact okX8_two_b132 h hk
def fX8_two_L56 (a0 : Nat) (x1 : Int32) (x2 : Int32) (x3 : Int32) (s : Int32 × Int32 × Wd) : Option (Int32 × Wd) := it (fX8_two_L56_body a0 x1 x2 x3) FU s
set_option maxHeartbeats 1000000 in
set_option maxRecDepth 20000 in
theorem okX8_two_L56 {E : Ev} {Q : Option Value → Wd → Prop} {a0 : Nat} {x1 : Int32} {x2 : Int32} {x3 : Int32} {s : Int32 × Int32 × Wd} {r : Int32 × Wd} (h : fX8_two_L56 a0 x1 x2 x3 s = some r) (hk : (fun q : Int32 × Wd => Q (some (.int q.1)) q.2) r) : PX8_two_L56 E Q a0 x1 x2 x3 s := it_runs (fun s r h hk => okX8_two_L56_body h hk) FU s r h hk
def fX8_two (a0 : Nat) (x1 : Int32) (x2 : Int32) (x3 : Int32) (w : Wd) : Option (Int32 × Wd) :=
  chk (isO w a0 8) (ob (fX8_isGarment a0 x1 w) (fun q2 => if q2.1 = 0 then (fX8_two_b16 a0 q2.2) else (chk (isO q2.2 a0 8) (ob (fX8_isGarment a0 x2 q2.2) (fun q6 => if q6.1 = 0 then (fX8_two_b16 a0 q6.2) else (ob (fX8_within x3 0 1 q6.2) (fun q9 => if q9.1 = 0 then (chk (isO q9.2 a0 8) (ob (fX8_no a0 (-5) q9.2) (fun q17 => some (q17.1, q17.2)))) else (if x1 = x2 then (chk (isO q9.2 a0 8) (ob (fX8_no a0 (-6) q9.2) (fun q14 => some (q14.1, q14.2)))) else (fX8_two_L56 a0 x1 x2 x3 (0, 0, q9.2))))))))))
set_option maxHeartbeats 1000000 in
set_option maxRecDepth 20000 in
theorem okX8_two {E : Ev} {Q : Option Value → Wd → Prop} {a0 : Nat} {x1 : Int32} {x2 : Int32} {x3 : Int32} {w : Wd} {q : Int32 × Wd} (h : fX8_two a0 x1 x2 x3 w = some q) (hk : (fun q : Int32 × Wd => Q (some (.int q.1)) q.2) q) : Runs E mX8_two (8, 0, false) Q 0 0 [(0, .ref a0), (1, .int x1), (2, .int x2), (3, .int x3)] [] w := by
  unfold fX8_two at h
  refine r_aload_n dX8_two_0 0 rfl ?_
  refine r_iload_n dX8_two_1 1 rfl ?_
  obtain ⟨h1, h⟩ := chk_some h
  obtain ⟨q2, g3, h⟩ := ob_some h
  refine r_callV (d' := (7, 0, false)) (As := [.int x1]) (st := []) mdv_X8_isGarment tm_RX8_93 (by decide) rfl rfl (by decide) rfl (Nat.le_refl _) (Nat.le_of_ble_eq_true rfl) rfl dX8_two_2 h1 (ctX8_isGarment g3) (k_I0 ?_)
  refine r_if_eq (tgt := 16) dX8_two_5 (by decide) (fun c4 => ?_) (fun c4 => ?_)
  · rw [if_pos c4] at h
    refine r_sub [0] [(0, .ref a0)] rfl ?_
    exact okX8_two_b16 h hk
  · rw [if_neg c4] at h
    refine r_aload_n dX8_two_8 0 rfl ?_
    refine r_iload_n dX8_two_9 2 rfl ?_
    obtain ⟨h5, h⟩ := chk_some h
    obtain ⟨q6, g7, h⟩ := ob_some h
    refine r_callV (d' := (7, 0, false)) (As := [.int x2]) (st := []) mdv_X8_isGarment tm_RX8_93 (by decide) rfl rfl (by decide) rfl (Nat.le_refl _) (Nat.le_of_ble_eq_true rfl) rfl dX8_two_10 h5 (ctX8_isGarment g7) (k_I0 ?_)
    refine r_if_ne (tgt := 22) dX8_two_13 (by decide) (fun c8 => ?_) (fun c8 => ?_)
    · rw [if_neg c8] at h
      refine r_iload_n dX8_two_22 3 rfl ?_
      refine r_iconst (v := 0) dX8_two_23 (by decide) ?_
      refine r_iconst (v := 1) dX8_two_24 (by decide) ?_
      obtain ⟨q9, g10, h⟩ := ob_some h
      refine r_callS (d' := (6, 0, false)) (As := [.int x3, .int 0, .int 1]) (st := []) mds_X8_within tm_RX8_79 rfl (by decide) rfl (Nat.le_refl _) (Nat.le_of_ble_eq_true rfl) rfl dX8_two_25 (ctX8_within g10) (k_I0 ?_)
      refine r_if_ne (tgt := 38) dX8_two_28 (by decide) (fun c11 => ?_) (fun c11 => ?_)
      · rw [if_neg c11] at h
        refine r_iload_n dX8_two_38 1 rfl ?_
        refine r_iload_n dX8_two_39 2 rfl ?_
        refine r_icmp_ne (tgt := 50) dX8_two_40 (by decide) (fun c12 => ?_) (fun c12 => ?_)
        · rw [if_neg c12] at h
          refine r_iconst (v := 0) dX8_two_50 (by decide) ?_
          refine r_istore dX8_two_51 (Nat.le_of_ble_eq_true rfl) [(4, .int 0), (0, .ref a0), (1, .int x1), (2, .int x2), (3, .int x3)] rfl ?_
          refine r_iconst (v := 0) dX8_two_53 (by decide) ?_
          refine r_istore dX8_two_54 (Nat.le_of_ble_eq_true rfl) [(5, .int 0), (4, .int 0), (0, .ref a0), (1, .int x1), (2, .int x2), (3, .int x3)] rfl ?_
          refine r_sub [2, 3, 4, 5, 1, 0] [(0, .ref a0), (1, .int x1), (2, .int x2), (3, .int x3), (4, .int 0), (5, .int 0)] rfl ?_
          exact okX8_two_L56 h hk
        · rw [if_pos c12] at h
          refine r_aload_n dX8_two_43 0 rfl ?_
          refine r_bipush (v := (-6)) dX8_two_44 (by decide) ?_
          obtain ⟨h13, h⟩ := chk_some h
          obtain ⟨q14, g15, h⟩ := ob_some h
          refine r_callV (d' := (6, 0, false)) (As := [.int (-6)]) (st := []) mdv_X8_no tm_RX8_72 (by decide) rfl rfl (by decide) rfl (Nat.le_refl _) (Nat.le_of_ble_eq_true rfl) rfl dX8_two_46 h13 (ctX8_no g15) (k_I0 ?_)
          rw [← Option.some.inj h] at hk
          exact r_ireturn dX8_two_49 rfl rfl hk
      · rw [if_pos c11] at h
        refine r_aload_n dX8_two_31 0 rfl ?_
        refine r_bipush (v := (-5)) dX8_two_32 (by decide) ?_
        obtain ⟨h16, h⟩ := chk_some h
        obtain ⟨q17, g18, h⟩ := ob_some h
        refine r_callV (d' := (6, 0, false)) (As := [.int (-5)]) (st := []) mdv_X8_no tm_RX8_72 (by decide) rfl rfl (by decide) rfl (Nat.le_refl _) (Nat.le_of_ble_eq_true rfl) rfl dX8_two_34 h16 (ctX8_no g18) (k_I0 ?_)
        rw [← Option.some.inj h] at hk
        exact r_ireturn dX8_two_37 rfl rfl hk
    · rw [if_pos c8] at h
      refine r_sub [0] [(0, .ref a0)] rfl ?_
      exact okX8_two_b16 h hk
set_option maxHeartbeats 1000000 in
set_option maxRecDepth 20000 in
theorem ctX8_two {E : Ev} {a0 : Nat} {x1 : Int32} {x2 : Int32} {x3 : Int32} {w : Wd} {q : Int32 × Wd} (h : fX8_two a0 x1 x2 x3 w = some q) : CT E mX8_two (8, 0, false) [.ref a0, .int x1, .int x2, .int x3] w (QI q) := CT.of pl_RX8 (Nat.le_of_ble_eq_true rfl) (okX8_two h ⟨rfl, rfl⟩)
