def PX8_wardrobe_L39 (E : Ev) (Q : Option Value → Wd → Prop) (a0 : Nat) (x1 : Int32) (s : Int32 × Int32 × Wd) : Prop := Runs E mX8_wardrobe (13, 0, false) Q 0 39 [(0, .ref a0), (1, .int x1), (3, .int s.1), (4, .int s.2.1)] [] s.2.2
def fX8_wardrobe_b83 (a0 : Nat) (x1 : Int32) (x3 : Int32) (x4 : Int32) (w : Wd) : Option ((Int32 × Int32 × Wd) ⊕ (Int32 × Wd)) :=
  if x4 = 0 then (some (.inl (x3, x4, w))) else (chk (isO w a0 8) (ob (fX8_is a0 59 w) (fun q3 => some (.inl (x3, q3.1, q3.2)))))
set_option maxHeartbeats 1000000 in
set_option maxRecDepth 20000 in
theorem okX8_wardrobe_b83 {E : Ev} {Q : Option Value → Wd → Prop} {a0 : Nat} {x1 : Int32} {x3 : Int32} {x4 : Int32} {w : Wd} {q : (Int32 × Int32 × Wd) ⊕ (Int32 × Wd)} (h : fX8_wardrobe_b83 a0 x1 x3 x4 w = some q) (hk : (Sum.elim (PX8_wardrobe_L39 E Q a0 x1) (fun q : Int32 × Wd => Q (some (.int q.1)) q.2)) q) : Runs E mX8_wardrobe (13, 0, false) Q 0 83 [(0, .ref a0), (1, .int x1), (3, .int x3), (4, .int x4)] [] w := by
  unfold fX8_wardrobe_b83 at h
  refine r_iload dX8_wardrobe_83 3 rfl ?_
  refine r_if_eq (tgt := 39) dX8_wardrobe_85 (by decide) (fun c1 => ?_) (fun c1 => ?_)
  · rw [if_pos c1] at h
    rw [← Option.some.inj h] at hk
    refine r_sub [0, 1, 2, 3] [(0, .ref a0), (1, .int x1), (3, .int x3), (4, .int x4)] rfl ?_
    exact hk
  · rw [if_neg c1] at h
    refine r_aload_n dX8_wardrobe_88 0 rfl ?_
    refine r_bipush (v := 59) dX8_wardrobe_89 (by decide) ?_
    obtain ⟨h2, h⟩ := chk_some h
    obtain ⟨q3, g4, h⟩ := ob_some h
    refine r_callV (d' := (7, 0, false)) (As := [.int 59]) (st := []) mdv_X8_is tm_RX8_157 (by decide) rfl rfl (by decide) rfl (Nat.le_refl _) (Nat.le_of_ble_eq_true rfl) rfl dX8_wardrobe_91 h2 (ctX8_is g4) (k_I0 ?_)
    refine r_istore dX8_wardrobe_94 (Nat.le_of_ble_eq_true rfl) [(4, .int q3.1), (0, .ref a0), (1, .int x1), (3, .int x3)] rfl ?_
    refine r_goto (tgt := 39) dX8_wardrobe_96 (by decide) ?_
    rw [← Option.some.inj h] at hk
    refine r_sub [1, 2, 3, 0] [(0, .ref a0), (1, .int x1), (3, .int x3), (4, .int q3.1)] rfl ?_
    exact hk
def fX8_wardrobe_b58 (a0 : Nat) (x1 : Int32) (x3 : Int32) (x4 : Int32) (w : Wd) : Option ((Int32 × Int32 × Wd) ⊕ (Int32 × Wd)) :=
  if x4 = 0 then (fX8_wardrobe_b83 a0 x1 x3 x4 w) else (chk (isO w a0 8) (ob (wR w a0 1) (fun o3 => chk (isA w o3 0) (chk (inb x1 (wn w o3)) (if (wI w a0 25) = (wI w o3 (x1).toNatClampNeg) then (wr (bnd (sI w a0 14 (-1)) (fun w9 => some (x3, w9)))) else (fX8_wardrobe_b83 a0 x1 x3 x4 w))))))
set_option maxHeartbeats 1000000 in
set_option maxRecDepth 20000 in
theorem okX8_wardrobe_b58 {E : Ev} {Q : Option Value → Wd → Prop} {a0 : Nat} {x1 : Int32} {x3 : Int32} {x4 : Int32} {w : Wd} {q : (Int32 × Int32 × Wd) ⊕ (Int32 × Wd)} (h : fX8_wardrobe_b58 a0 x1 x3 x4 w = some q) (hk : (Sum.elim (PX8_wardrobe_L39 E Q a0 x1) (fun q : Int32 × Wd => Q (some (.int q.1)) q.2)) q) : Runs E mX8_wardrobe (13, 0, false) Q 0 58 [(0, .ref a0), (1, .int x1), (3, .int x3), (4, .int x4)] [] w := by
  unfold fX8_wardrobe_b58 at h
  refine r_iload dX8_wardrobe_58 3 rfl ?_
  refine r_if_eq (tgt := 83) dX8_wardrobe_60 (by decide) (fun c1 => ?_) (fun c1 => ?_)
  · rw [if_pos c1] at h
    refine r_sub [0, 1, 2, 3] [(0, .ref a0), (1, .int x1), (3, .int x3), (4, .int x4)] rfl ?_
    exact okX8_wardrobe_b83 h hk
  · rw [if_neg c1] at h
    refine r_aload_n dX8_wardrobe_63 0 rfl ?_
    obtain ⟨h2, h⟩ := chk_some h
    refine r_getI (fl_RX8_138 rfl) rfl dX8_wardrobe_64 h2 ?_
    refine r_aload_n dX8_wardrobe_67 0 rfl ?_
    obtain ⟨o3, g4, h⟩ := ob_some h
    refine r_getR (fl_RX8_13 rfl) rfl dX8_wardrobe_68 h2 g4 ?_
    refine r_iload_n dX8_wardrobe_71 1 rfl ?_
    obtain ⟨h5, h⟩ := chk_some h
    obtain ⟨h6, h⟩ := chk_some h
    refine r_iaload dX8_wardrobe_72 h5 h6 ?_
    refine r_icmp_ne (tgt := 83) dX8_wardrobe_73 (by decide) (fun c7 => ?_) (fun c7 => ?_)
    · rw [if_neg c7] at h
      refine r_sub [0, 1, 2, 3] [(0, .ref a0), (1, .int x1), (3, .int x3), (4, .int x4)] rfl ?_
      exact okX8_wardrobe_b83 h hk
    · rw [if_pos c7] at h
      obtain ⟨r8, hr, h⟩ := wr_some h
      rw [hr] at hk
      refine r_aload_n dX8_wardrobe_76 0 rfl ?_
      refine r_iconst (v := (-1)) dX8_wardrobe_77 (by decide) ?_
      obtain ⟨w9, e10, h⟩ := bnd_some h
      refine r_putI (fl_RX8_69 rfl) rfl rfl (ck_ty (by decide) 14 (by decide)) rfl rfl dX8_wardrobe_78 h2 ?_
      refine r_eqW e10 ?_
      refine r_iload_n dX8_wardrobe_81 2 rfl ?_
      rw [← Option.some.inj h] at hk
      exact r_ireturn dX8_wardrobe_82 rfl rfl hk
def fX8_wardrobe_L39_body (a0 : Nat) (x1 : Int32) (s : Int32 × Int32 × Wd) : Option ((Int32 × Int32 × Wd) ⊕ (Int32 × Wd)) :=
  if s.2.1 = 0 then (wr (chk (isO s.2.2 a0 8) (bnd (sI s.2.2 a0 14 (wI s.2.2 a0 25)) (fun w4 => chk (isO w4 a0 8) (ob (wR w4 a0 20) (fun o7 => ob (fX8_again a0 o7 w4) (fun q9 => chk (isO q9 a0 8) (ob (fX8_no a0 (-6) q9) (fun q12 => some (q12.1, q12.2)))))))))) else (chk (isO s.2.2 a0 8) (ob (fX8_item a0 s.2.2) (fun q15 => if q15.1 = 0 then (fX8_wardrobe_b58 a0 x1 s.1 q15.1 q15.2) else (fX8_wardrobe_b58 a0 x1 (s.1 + 1) q15.1 q15.2))))
set_option maxHeartbeats 1000000 in
set_option maxRecDepth 20000 in
theorem okX8_wardrobe_L39_body {E : Ev} {Q : Option Value → Wd → Prop} {a0 : Nat} {x1 : Int32} {s : Int32 × Int32 × Wd} {r : (Int32 × Int32 × Wd) ⊕ (Int32 × Wd)} (h : fX8_wardrobe_L39_body a0 x1 s = some r) (hk : (Sum.elim (PX8_wardrobe_L39 E Q a0 x1) (fun q : Int32 × Wd => Q (some (.int q.1)) q.2)) r) : PX8_wardrobe_L39 E Q a0 x1 s := by
  unfold fX8_wardrobe_L39_body at h
  unfold PX8_wardrobe_L39
  refine r_iload dX8_wardrobe_39 3 rfl ?_
  refine r_if_eq (tgt := 99) dX8_wardrobe_41 (by decide) (fun c1 => ?_) (fun c1 => ?_)
  · rw [if_pos c1] at h
    obtain ⟨r2, hr, h⟩ := wr_some h
    rw [hr] at hk
    refine r_aload_n dX8_wardrobe_99 0 rfl ?_
    refine r_aload_n dX8_wardrobe_100 0 rfl ?_
    obtain ⟨h3, h⟩ := chk_some h
    refine r_getI (fl_RX8_138 rfl) rfl dX8_wardrobe_101 h3 ?_
    obtain ⟨w4, e5, h⟩ := bnd_some h
    refine r_putI (fl_RX8_69 rfl) rfl rfl (ck_ty (by decide) 14 (by decide)) rfl rfl dX8_wardrobe_104 h3 ?_
    refine r_eqW e5 ?_
    refine r_aload_n dX8_wardrobe_107 0 rfl ?_
    refine r_aload_n dX8_wardrobe_108 0 rfl ?_
    obtain ⟨h6, h⟩ := chk_some h
    obtain ⟨o7, g8, h⟩ := ob_some h
    refine r_getR (fl_RX8_50 rfl) rfl dX8_wardrobe_109 h6 g8 ?_
    obtain ⟨q9, g10, h⟩ := ob_some h
    refine r_callV (d' := (6, 0, false)) (As := [.ref o7]) (st := []) mdv_X8_again tm_RX8_202 (by decide) rfl rfl (by decide) rfl (Nat.le_refl _) (Nat.le_of_ble_eq_true rfl) rfl dX8_wardrobe_112 h6 (ctX8_again g10) (k_V0 ?_)
    refine r_aload_n dX8_wardrobe_115 0 rfl ?_
    refine r_bipush (v := (-6)) dX8_wardrobe_116 (by decide) ?_
    obtain ⟨h11, h⟩ := chk_some h
    obtain ⟨q12, g13, h⟩ := ob_some h
    refine r_callV (d' := (6, 0, false)) (As := [.int (-6)]) (st := []) mdv_X8_no tm_RX8_72 (by decide) rfl rfl (by decide) rfl (Nat.le_refl _) (Nat.le_of_ble_eq_true rfl) rfl dX8_wardrobe_118 h11 (ctX8_no g13) (k_I0 ?_)
    rw [← Option.some.inj h] at hk
    exact r_ireturn dX8_wardrobe_121 rfl rfl hk
  · rw [if_neg c1] at h
    refine r_aload_n dX8_wardrobe_44 0 rfl ?_
    obtain ⟨h14, h⟩ := chk_some h
    obtain ⟨q15, g16, h⟩ := ob_some h
    refine r_callV (d' := (12, 0, false)) (As := []) (st := []) mdv_X8_item tm_RX8_198 (by decide) rfl rfl (by decide) rfl (Nat.le_refl _) (Nat.le_of_ble_eq_true rfl) rfl dX8_wardrobe_45 h14 (ctX8_item g16) (k_I0 ?_)
    refine r_istore dX8_wardrobe_48 (Nat.le_of_ble_eq_true rfl) [(4, .int q15.1), (0, .ref a0), (1, .int x1), (3, .int s.1)] rfl ?_
    refine r_iload dX8_wardrobe_50 0 rfl ?_
    refine r_if_eq (tgt := 58) dX8_wardrobe_52 (by decide) (fun c17 => ?_) (fun c17 => ?_)
    · rw [if_pos c17] at h
      refine r_sub [1, 2, 3, 0] [(0, .ref a0), (1, .int x1), (3, .int s.1), (4, .int q15.1)] rfl ?_
      exact okX8_wardrobe_b58 h hk
    · rw [if_neg c17] at h
      refine r_iinc (v := (s.1 + 1)) dX8_wardrobe_55 3 rfl rfl (Nat.le_of_ble_eq_true rfl) [(3, .int (s.1 + 1)), (4, .int q15.1), (0, .ref a0), (1, .int x1)] rfl ?_
      refine r_sub [2, 3, 0, 1] [(0, .ref a0), (1, .int x1), (3, .int (s.1 + 1)), (4, .int q15.1)] rfl ?_
      exact okX8_wardrobe_b58 h hk
def fX8_wardrobe_L39 (a0 : Nat) (x1 : Int32) (s : Int32 × Int32 × Wd) : Option (Int32 × Wd) := it (fX8_wardrobe_L39_body a0 x1) FU s
set_option maxHeartbeats 1000000 in
set_option maxRecDepth 20000 in
theorem okX8_wardrobe_L39 {E : Ev} {Q : Option Value → Wd → Prop} {a0 : Nat} {x1 : Int32} {s : Int32 × Int32 × Wd} {r : Int32 × Wd} (h : fX8_wardrobe_L39 a0 x1 s = some r) (hk : (fun q : Int32 × Wd => Q (some (.int q.1)) q.2) r) : PX8_wardrobe_L39 E Q a0 x1 s := it_runs (fun s r h hk => okX8_wardrobe_L39_body h hk) FU s r h hk
def fX8_wardrobe (a0 : Nat) (x1 : Int32) (w : Wd) : Option (Int32 × Wd) :=
  chk (isO w a0 8) (ob (fX8_noRow a0 x1 w) (fun q2 => if 0 ≤ q2.1 then (chk (isO q2.2 a0 8) (ob (wR q2.2 a0 20) (fun o6 => ob (fX8_keep a0 o6 q2.2) (fun q8 => chk (isO q8 a0 8) (bnd (sI q8 a0 24 x1) (fun w11 => chk (isO w11 a0 8) (bnd (sI w11 a0 25 0) (fun w14 => fX8_wardrobe_L39 a0 x1 (0, 1, w14))))))))) else (chk (isO q2.2 a0 8) (ob (fX8_no a0 q2.1 q2.2) (fun q17 => some (q17.1, q17.2))))))
set_option maxHeartbeats 1000000 in
set_option maxRecDepth 20000 in
theorem okX8_wardrobe {E : Ev} {Q : Option Value → Wd → Prop} {a0 : Nat} {x1 : Int32} {w : Wd} {q : Int32 × Wd} (h : fX8_wardrobe a0 x1 w = some q) (hk : (fun q : Int32 × Wd => Q (some (.int q.1)) q.2) q) : Runs E mX8_wardrobe (13, 0, false) Q 0 0 [(0, .ref a0), (1, .int x1)] [] w := by
  unfold fX8_wardrobe at h
  refine r_aload_n dX8_wardrobe_0 0 rfl ?_
  refine r_iload_n dX8_wardrobe_1 1 rfl ?_
  obtain ⟨h1, h⟩ := chk_some h
  obtain ⟨q2, g3, h⟩ := ob_some h
  refine r_callV (d' := (7, 0, false)) (As := [.int x1]) (st := []) mdv_X8_noRow tm_RX8_90 (by decide) rfl rfl (by decide) rfl (Nat.le_refl _) (Nat.le_of_ble_eq_true rfl) rfl dX8_wardrobe_2 h1 (ctX8_noRow g3) (k_I0 ?_)
  refine r_istore_n dX8_wardrobe_5 rfl (Nat.le_of_ble_eq_true rfl) [(2, .int q2.1), (0, .ref a0), (1, .int x1)] rfl ?_
  refine r_iload_n dX8_wardrobe_6 0 rfl ?_
  refine r_if_ge (tgt := 16) dX8_wardrobe_7 (by decide) (fun c4 => ?_) (fun c4 => ?_)
  · rw [if_pos c4] at h
    refine r_aload_n dX8_wardrobe_16 1 rfl ?_
    refine r_aload_n dX8_wardrobe_17 1 rfl ?_
    obtain ⟨h5, h⟩ := chk_some h
    obtain ⟨o6, g7, h⟩ := ob_some h
    refine r_getR (fl_RX8_50 rfl) rfl dX8_wardrobe_18 h5 g7 ?_
    obtain ⟨q8, g9, h⟩ := ob_some h
    refine r_callV (d' := (6, 0, false)) (As := [.ref o6]) (st := []) mdv_X8_keep tm_RX8_194 (by decide) rfl rfl (by decide) rfl (Nat.le_refl _) (Nat.le_of_ble_eq_true rfl) rfl dX8_wardrobe_21 h5 (ctX8_keep g9) (k_V0 ?_)
    refine r_aload_n dX8_wardrobe_24 1 rfl ?_
    refine r_iload_n dX8_wardrobe_25 2 rfl ?_
    obtain ⟨h10, h⟩ := chk_some h
    obtain ⟨w11, e12, h⟩ := bnd_some h
    refine r_putI (fl_RX8_141 rfl) rfl rfl (ck_ty (by decide) 24 (by decide)) rfl rfl dX8_wardrobe_26 h10 ?_
    refine r_eqW e12 ?_
    refine r_aload_n dX8_wardrobe_29 1 rfl ?_
    refine r_iconst (v := 0) dX8_wardrobe_30 (by decide) ?_
    obtain ⟨h13, h⟩ := chk_some h
    obtain ⟨w14, e15, h⟩ := bnd_some h
    refine r_putI (fl_RX8_138 rfl) rfl rfl (ck_ty (by decide) 25 (by decide)) rfl rfl dX8_wardrobe_31 h13 ?_
    refine r_eqW e15 ?_
    refine r_iconst (v := 0) dX8_wardrobe_34 (by decide) ?_
    refine r_istore_n dX8_wardrobe_35 rfl (Nat.le_of_ble_eq_true rfl) [(3, .int 0), (2, .int q2.1), (0, .ref a0), (1, .int x1)] rfl ?_
    refine r_iconst (v := 1) dX8_wardrobe_36 (by decide) ?_
    refine r_istore dX8_wardrobe_37 (Nat.le_of_ble_eq_true rfl) [(4, .int 1), (3, .int 0), (2, .int q2.1), (0, .ref a0), (1, .int x1)] rfl ?_
    refine r_sub [3, 4, 1, 0] [(0, .ref a0), (1, .int x1), (3, .int 0), (4, .int 1)] rfl ?_
    exact okX8_wardrobe_L39 h hk
  · rw [if_neg c4] at h
    refine r_aload_n dX8_wardrobe_10 1 rfl ?_
    refine r_iload_n dX8_wardrobe_11 0 rfl ?_
    obtain ⟨h16, h⟩ := chk_some h
    obtain ⟨q17, g18, h⟩ := ob_some h
    refine r_callV (d' := (6, 0, false)) (As := [.int q2.1]) (st := []) mdv_X8_no tm_RX8_72 (by decide) rfl rfl (by decide) rfl (Nat.le_refl _) (Nat.le_of_ble_eq_true rfl) rfl dX8_wardrobe_12 h16 (ctX8_no g18) (k_I0 ?_)
    rw [← Option.some.inj h] at hk
    exact r_ireturn dX8_wardrobe_15 rfl rfl hk
set_option maxHeartbeats 1000000 in
set_option maxRecDepth 20000 in
theorem ctX8_wardrobe {E : Ev} {a0 : Nat} {x1 : Int32} {w : Wd} {q : Int32 × Wd} (h : fX8_wardrobe a0 x1 w = some q) : CT E mX8_wardrobe (13, 0, false) [.ref a0, .int x1] w (QI q) := CT.of pl_RX8 (Nat.le_of_ble_eq_true rfl) (okX8_wardrobe h ⟨rfl, rfl⟩)
def fX8_wash (a0 : Nat) (x1 : Int32) (w : Wd) : Option (Int32 × Wd) :=
  chk (isO w a0 8) (ob (fX8_isGarment a0 x1 w) (fun q2 => if q2.1 = 0 then (chk (isO q2.2 a0 8) (ob (fX8_no a0 (-1) q2.2) (fun q12 => some (q12.1, q12.2)))) else (chk (isO q2.2 a0 8) (ob (fX8_washes a0 x1 q2.2) (fun q6 => chk (isO q6 a0 8) (ob (fX8_habits a0 x1 q6) (fun q9 => some (q9.1, q9.2))))))))
set_option maxHeartbeats 1000000 in
set_option maxRecDepth 20000 in
theorem okX8_wash {E : Ev} {Q : Option Value → Wd → Prop} {a0 : Nat} {x1 : Int32} {w : Wd} {q : Int32 × Wd} (h : fX8_wash a0 x1 w = some q) (hk : (fun q : Int32 × Wd => Q (some (.int q.1)) q.2) q) : Runs E mX8_wash (8, 0, false) Q 0 0 [(0, .ref a0), (1, .int x1)] [] w := by
  unfold fX8_wash at h
  refine r_aload_n dX8_wash_0 0 rfl ?_
  refine r_iload_n dX8_wash_1 1 rfl ?_
  obtain ⟨h1, h⟩ := chk_some h
  obtain ⟨q2, g3, h⟩ := ob_some h
  refine r_callV (d' := (7, 0, false)) (As := [.int x1]) (st := []) mdv_X8_isGarment tm_RX8_93 (by decide) rfl rfl (by decide) rfl (Nat.le_refl _) (Nat.le_of_ble_eq_true rfl) rfl dX8_wash_2 h1 (ctX8_isGarment g3) (k_I0 ?_)
  refine r_if_ne (tgt := 14) dX8_wash_5 (by decide) (fun c4 => ?_) (fun c4 => ?_)
  · rw [if_neg c4] at h
    refine r_aload_n dX8_wash_14 0 rfl ?_
    refine r_iload_n dX8_wash_15 1 rfl ?_
    obtain ⟨h5, h⟩ := chk_some h
    obtain ⟨q6, g7, h⟩ := ob_some h
    refine r_callV (d' := (7, 0, false)) (As := [.int x1]) (st := []) mdv_X8_washes tm_RX8_184 (by decide) rfl rfl (by decide) rfl (Nat.le_refl _) (Nat.le_of_ble_eq_true rfl) rfl dX8_wash_16 h5 (ctX8_washes g7) (k_V0 ?_)
    refine r_aload_n dX8_wash_19 0 rfl ?_
    refine r_iload_n dX8_wash_20 1 rfl ?_
    obtain ⟨h8, h⟩ := chk_some h
    obtain ⟨q9, g10, h⟩ := ob_some h
    refine r_callV (d' := (6, 0, false)) (As := [.int x1]) (st := []) mdv_X8_habits tm_RX8_103 (by decide) rfl rfl (by decide) rfl (Nat.le_refl _) (Nat.le_of_ble_eq_true rfl) rfl dX8_wash_21 h8 (ctX8_habits g10) (k_I0 ?_)
    rw [← Option.some.inj h] at hk
    exact r_ireturn dX8_wash_24 rfl rfl hk
  · rw [if_pos c4] at h
    refine r_aload_n dX8_wash_8 0 rfl ?_
    refine r_iconst (v := (-1)) dX8_wash_9 (by decide) ?_
    obtain ⟨h11, h⟩ := chk_some h
    obtain ⟨q12, g13, h⟩ := ob_some h
    refine r_callV (d' := (6, 0, false)) (As := [.int (-1)]) (st := []) mdv_X8_no tm_RX8_72 (by decide) rfl rfl (by decide) rfl (Nat.le_refl _) (Nat.le_of_ble_eq_true rfl) rfl dX8_wash_10 h11 (ctX8_no g13) (k_I0 ?_)
    rw [← Option.some.inj h] at hk
    exact r_ireturn dX8_wash_13 rfl rfl hk
set_option maxHeartbeats 1000000 in
set_option maxRecDepth 20000 in
theorem ctX8_wash {E : Ev} {a0 : Nat} {x1 : Int32} {w : Wd} {q : Int32 × Wd} (h : fX8_wash a0 x1 w = some q) : CT E mX8_wash (8, 0, false) [.ref a0, .int x1] w (QI q) := CT.of pl_RX8 (Nat.le_of_ble_eq_true rfl) (okX8_wash h ⟨rfl, rfl⟩)
def PX8_washed_L43 (E : Ev) (Q : Option Value → Wd → Prop) (a0 : Nat) (x1 : Int32) (s : Int32 × Int32 × Wd) : Prop := Runs E mX8_washed (8, 0, false) Q 0 43 [(0, .ref a0), (1, .int x1), (3, .int s.1), (4, .int s.2.1)] [] s.2.2
def fX8_washed_L43_body (a0 : Nat) (x1 : Int32) (s : Int32 × Int32 × Wd) : Option ((Int32 × Int32 × Wd) ⊕ (Int32 × Wd)) :=
  if (10 : Int32) ≤ s.2.1 then (wr (some ((-1), s.2.2))) else (if 0 < s.1 then (chk (isO s.2.2 a0 8) (ob (wR s.2.2 a0 7) (fun o5 => chk (isA s.2.2 o5 0) (chk (inb x1 (wn s.2.2 o5)) (ob (fX8_washedBy (wI s.2.2 o5 (x1).toNatClampNeg) s.2.2) (fun q9 => bnd (s.1 - q9.1) (fun u11 => some (.inl (u11, (s.2.1 + 1), q9.2))))))))) else (wr (some (s.2.1, s.2.2))))
set_option maxHeartbeats 1000000 in
set_option maxRecDepth 20000 in
theorem okX8_washed_L43_body {E : Ev} {Q : Option Value → Wd → Prop} {a0 : Nat} {x1 : Int32} {s : Int32 × Int32 × Wd} {r : (Int32 × Int32 × Wd) ⊕ (Int32 × Wd)} (h : fX8_washed_L43_body a0 x1 s = some r) (hk : (Sum.elim (PX8_washed_L43 E Q a0 x1) (fun q : Int32 × Wd => Q (some (.int q.1)) q.2)) r) : PX8_washed_L43 E Q a0 x1 s := by
  unfold fX8_washed_L43_body at h
  unfold PX8_washed_L43
  refine r_iload dX8_washed_43 3 rfl ?_
  refine r_bipush (v := 10) dX8_washed_45 (by decide) ?_
  refine r_icmp_ge (tgt := 75) dX8_washed_47 (by decide) (fun c1 => ?_) (fun c1 => ?_)
  · rw [if_pos c1] at h
    obtain ⟨r2, hr, h⟩ := wr_some h
    rw [hr] at hk
    refine r_iconst (v := (-1)) dX8_washed_75 (by decide) ?_
    rw [← Option.some.inj h] at hk
    exact r_ireturn dX8_washed_76 rfl rfl hk
  · rw [if_neg c1] at h
    refine r_iload_n dX8_washed_50 2 rfl ?_
    refine r_if_gt (tgt := 57) dX8_washed_51 (by decide) (fun c3 => ?_) (fun c3 => ?_)
    · rw [if_pos c3] at h
      refine r_iload_n dX8_washed_57 2 rfl ?_
      refine r_aload_n dX8_washed_58 0 rfl ?_
      obtain ⟨h4, h⟩ := chk_some h
      obtain ⟨o5, g6, h⟩ := ob_some h
      refine r_getR (fl_RX8_26 rfl) rfl dX8_washed_59 h4 g6 ?_
      refine r_iload_n dX8_washed_62 1 rfl ?_
      obtain ⟨h7, h⟩ := chk_some h
      obtain ⟨h8, h⟩ := chk_some h
      refine r_iaload dX8_washed_63 h7 h8 ?_
      obtain ⟨q9, g10, h⟩ := ob_some h
      refine r_callS (d' := (6, 0, false)) (As := [.int (wI s.2.2 o5 (x1).toNatClampNeg)]) (st := [.int s.1]) mds_X8_washedBy tm_RX8_227 rfl (by decide) rfl (Nat.le_refl _) (Nat.le_of_ble_eq_true rfl) rfl dX8_washed_64 (ctX8_washedBy g10) (k_I0 ?_)
      refine r_isub dX8_washed_67 ?_
      obtain ⟨u11, e12, h⟩ := bnd_some h
      refine r_eqI e12 ?_
      refine r_istore_n dX8_washed_68 rfl (Nat.le_of_ble_eq_true rfl) [(3, .int u11), (0, .ref a0), (1, .int x1), (4, .int s.2.1)] rfl ?_
      refine r_iinc (v := (s.2.1 + 1)) dX8_washed_69 3 rfl rfl (Nat.le_of_ble_eq_true rfl) [(4, .int (s.2.1 + 1)), (3, .int u11), (0, .ref a0), (1, .int x1)] rfl ?_
      refine r_goto (tgt := 43) dX8_washed_72 (by decide) ?_
      rw [← Option.some.inj h] at hk
      refine r_sub [2, 3, 1, 0] [(0, .ref a0), (1, .int x1), (3, .int u11), (4, .int (s.2.1 + 1))] rfl ?_
      exact hk
    · rw [if_neg c3] at h
      obtain ⟨r13, hr, h⟩ := wr_some h
      rw [hr] at hk
      refine r_iload dX8_washed_54 3 rfl ?_
      rw [← Option.some.inj h] at hk
      exact r_ireturn dX8_washed_56 rfl rfl hk
def fX8_washed_L43 (a0 : Nat) (x1 : Int32) (s : Int32 × Int32 × Wd) : Option (Int32 × Wd) := it (fX8_washed_L43_body a0 x1) FU s
set_option maxHeartbeats 1000000 in
set_option maxRecDepth 20000 in
theorem okX8_washed_L43 {E : Ev} {Q : Option Value → Wd → Prop} {a0 : Nat} {x1 : Int32} {s : Int32 × Int32 × Wd} {r : Int32 × Wd} (h : fX8_washed_L43 a0 x1 s = some r) (hk : (fun q : Int32 × Wd => Q (some (.int q.1)) q.2) r) : PX8_washed_L43 E Q a0 x1 s := it_runs (fun s r h hk => okX8_washed_L43_body h hk) FU s r h hk
def fX8_washed (a0 : Nat) (x1 : Int32) (x2 : Int32) (w : Wd) : Option (Int32 × Wd) :=
  chk (isO w a0 8) (ob (fX8_isGarment a0 x1 w) (fun q2 => if q2.1 = 0 then (chk (isO q2.2 a0 8) (ob (fX8_no10 a0 (-1) q2.2) (fun q19 => some (q19.1, q19.2)))) else (ob (fX8_isHour x2 q2.2) (fun q5 => if q5.1 = 0 then (chk (isO q5.2 a0 8) (ob (fX8_no10 a0 (-6) q5.2) (fun q16 => some (q16.1, q16.2)))) else (chk (isO q5.2 a0 8) (ob (wR q5.2 a0 11) (fun o9 => chk (isA q5.2 o9 0) (chk (inb ((12 * x1) + x2) (wn q5.2 o9)) (bnd (wI q5.2 o9 (((12 * x1) + x2)).toNatClampNeg) (fun u13 => fX8_washed_L43 a0 x1 (u13, 0, q5.2)))))))))))
set_option maxHeartbeats 1000000 in
set_option maxRecDepth 20000 in
theorem okX8_washed {E : Ev} {Q : Option Value → Wd → Prop} {a0 : Nat} {x1 : Int32} {x2 : Int32} {w : Wd} {q : Int32 × Wd} (h : fX8_washed a0 x1 x2 w = some q) (hk : (fun q : Int32 × Wd => Q (some (.int q.1)) q.2) q) : Runs E mX8_washed (8, 0, false) Q 0 0 [(0, .ref a0), (1, .int x1), (2, .int x2)] [] w := by
  unfold fX8_washed at h
  refine r_aload_n dX8_washed_0 0 rfl ?_
  refine r_iload_n dX8_washed_1 1 rfl ?_
  obtain ⟨h1, h⟩ := chk_some h
  obtain ⟨q2, g3, h⟩ := ob_some h
  refine r_callV (d' := (7, 0, false)) (As := [.int x1]) (st := []) mdv_X8_isGarment tm_RX8_93 (by decide) rfl rfl (by decide) rfl (Nat.le_refl _) (Nat.le_of_ble_eq_true rfl) rfl dX8_washed_2 h1 (ctX8_isGarment g3) (k_I0 ?_)
  refine r_if_ne (tgt := 14) dX8_washed_5 (by decide) (fun c4 => ?_) (fun c4 => ?_)
  · rw [if_neg c4] at h
    refine r_iload_n dX8_washed_14 2 rfl ?_
    obtain ⟨q5, g6, h⟩ := ob_some h
    refine r_callS (d' := (7, 0, false)) (As := [.int x2]) (st := []) mds_X8_isHour tm_RX8_125 rfl (by decide) rfl (Nat.le_refl _) (Nat.le_of_ble_eq_true rfl) rfl dX8_washed_15 (ctX8_isHour g6) (k_I0 ?_)
    refine r_if_ne (tgt := 28) dX8_washed_18 (by decide) (fun c7 => ?_) (fun c7 => ?_)
    · rw [if_neg c7] at h
      refine r_aload_n dX8_washed_28 0 rfl ?_
      obtain ⟨h8, h⟩ := chk_some h
      obtain ⟨o9, g10, h⟩ := ob_some h
      refine r_getR (fl_RX8_38 rfl) rfl dX8_washed_29 h8 g10 ?_
      refine r_bipush (v := 12) dX8_washed_32 (by decide) ?_
      refine r_iload_n dX8_washed_34 1 rfl ?_
      refine r_imul dX8_washed_35 ?_
      refine r_iload_n dX8_washed_36 2 rfl ?_
      refine r_iadd dX8_washed_37 ?_
      obtain ⟨h11, h⟩ := chk_some h
      obtain ⟨h12, h⟩ := chk_some h
      refine r_iaload dX8_washed_38 h11 h12 ?_
      obtain ⟨u13, e14, h⟩ := bnd_some h
      refine r_eqI e14 ?_
      refine r_istore_n dX8_washed_39 rfl (Nat.le_of_ble_eq_true rfl) [(3, .int u13), (0, .ref a0), (1, .int x1), (2, .int x2)] rfl ?_
      refine r_iconst (v := 0) dX8_washed_40 (by decide) ?_
      refine r_istore dX8_washed_41 (Nat.le_of_ble_eq_true rfl) [(4, .int 0), (3, .int u13), (0, .ref a0), (1, .int x1), (2, .int x2)] rfl ?_
      refine r_sub [2, 3, 1, 0] [(0, .ref a0), (1, .int x1), (3, .int u13), (4, .int 0)] rfl ?_
      exact okX8_washed_L43 h hk
    · rw [if_pos c7] at h
      refine r_aload_n dX8_washed_21 0 rfl ?_
      refine r_bipush (v := (-6)) dX8_washed_22 (by decide) ?_
      obtain ⟨h15, h⟩ := chk_some h
      obtain ⟨q16, g17, h⟩ := ob_some h
      refine r_callV (d' := (7, 0, false)) (As := [.int (-6)]) (st := []) mdv_X8_no10 tm_RX8_132 (by decide) rfl rfl (by decide) rfl (Nat.le_refl _) (Nat.le_of_ble_eq_true rfl) rfl dX8_washed_24 h15 (ctX8_no10 g17) (k_I0 ?_)
      rw [← Option.some.inj h] at hk
      exact r_ireturn dX8_washed_27 rfl rfl hk
  · rw [if_pos c4] at h
    refine r_aload_n dX8_washed_8 0 rfl ?_
    refine r_iconst (v := (-1)) dX8_washed_9 (by decide) ?_
    obtain ⟨h18, h⟩ := chk_some h
    obtain ⟨q19, g20, h⟩ := ob_some h
    refine r_callV (d' := (7, 0, false)) (As := [.int (-1)]) (st := []) mdv_X8_no10 tm_RX8_132 (by decide) rfl rfl (by decide) rfl (Nat.le_refl _) (Nat.le_of_ble_eq_true rfl) rfl dX8_washed_10 h18 (ctX8_no10 g20) (k_I0 ?_)
    rw [← Option.some.inj h] at hk
    exact r_ireturn dX8_washed_13 rfl rfl hk
set_option maxHeartbeats 1000000 in
set_option maxRecDepth 20000 in
theorem ctX8_washed {E : Ev} {a0 : Nat} {x1 : Int32} {x2 : Int32} {w : Wd} {q : Int32 × Wd} (h : fX8_washed a0 x1 x2 w = some q) : CT E mX8_washed (8, 0, false) [.ref a0, .int x1, .int x2] w (QI q) := CT.of pl_RX8 (Nat.le_of_ble_eq_true rfl) (okX8_washed h ⟨rfl, rfl⟩)
def PX8_watch_L20 (E : Ev) (Q : Option Value → Wd → Prop) (a0 : Nat) (s : Int32 × Int32 × Int32 × Wd) : Prop := Runs E mX8_watch (9, 0, false) Q 0 20 [(0, .ref a0), (1, .int s.1), (2, .int s.2.1), (3, .int s.2.2.1)] [] s.2.2.2
def PX8_watch_L32 (E : Ev) (Q : Option Value → Wd → Prop) (a0 : Nat) (x1 : Int32) (x2 : Int32) (x3 : Int32) (s : Int32 × Int32 × Wd) : Prop := Runs E mX8_watch (9, 0, false) Q 0 32 [(0, .ref a0), (1, .int x1), (2, .int x2), (3, .int x3), (4, .int s.1), (5, .int s.2.1)] [] s.2.2
def fX8_watch_b84 (a0 : Nat) (x1 : Int32) (x2 : Int32) (x3 : Int32) (w : Wd) : Option ((Int32 × Int32 × Int32 × Wd) ⊕ (Int32 × Wd)) :=
  some (.inl (x1, x2, (x3 + 1), w))
set_option maxHeartbeats 1000000 in
set_option maxRecDepth 20000 in
theorem okX8_watch_b84 {E : Ev} {Q : Option Value → Wd → Prop} {a0 : Nat} {x1 : Int32} {x2 : Int32} {x3 : Int32} {w : Wd} {q : (Int32 × Int32 × Int32 × Wd) ⊕ (Int32 × Wd)} (h : fX8_watch_b84 a0 x1 x2 x3 w = some q) (hk : (Sum.elim (PX8_watch_L20 E Q a0) (fun q : Int32 × Wd => Q (some (.int q.1)) q.2)) q) : Runs E mX8_watch (9, 0, false) Q 0 84 [(0, .ref a0), (1, .int x1), (2, .int x2), (3, .int x3)] [] w := by
  unfold fX8_watch_b84 at h
  refine r_iinc (v := (x3 + 1)) dX8_watch_84 3 rfl rfl (Nat.le_of_ble_eq_true rfl) [(3, .int (x3 + 1)), (0, .ref a0), (1, .int x1), (2, .int x2)] rfl ?_
  refine r_goto (tgt := 20) dX8_watch_87 (by decide) ?_
  rw [← Option.some.inj h] at hk
  refine r_sub [1, 2, 3, 0] [(0, .ref a0), (1, .int x1), (2, .int x2), (3, .int (x3 + 1))] rfl ?_
  exact hk
def fX8_watch_L32_body (a0 : Nat) (x1 : Int32) (x2 : Int32) (x3 : Int32) (s : Int32 × Int32 × Wd) : Option ((Int32 × Int32 × Wd) ⊕ ((Int32 × Int32 × Int32 × Wd) ⊕ (Int32 × Wd))) :=
  chk (isO s.2.2 a0 8) (if (wI s.2.2 a0 3) ≤ s.2.1 then (wr (ob (fJ6_bitCount_0f7a4 (s.1 >>> (1 &&& 31)) s.2.2) (fun q4 => if x2 < q4.1 then (fX8_watch_b84 a0 x3 q4.1 x3 q4.2) else (fX8_watch_b84 a0 x1 x2 x3 q4.2)))) else (ob (fX8_doesNow a0 s.2.1 x3 s.2.2) (fun q7 => bnd (s.1 ||| (1 <<< (q7.1 &&& 31))) (fun u9 => some (.inl (u9, (s.2.1 + 1), q7.2))))))
set_option maxHeartbeats 1000000 in
set_option maxRecDepth 20000 in
theorem okX8_watch_L32_body {E : Ev} {Q : Option Value → Wd → Prop} {a0 : Nat} {x1 : Int32} {x2 : Int32} {x3 : Int32} {s : Int32 × Int32 × Wd} {r : (Int32 × Int32 × Wd) ⊕ ((Int32 × Int32 × Int32 × Wd) ⊕ (Int32 × Wd))} (h : fX8_watch_L32_body a0 x1 x2 x3 s = some r) (hk : (Sum.elim (PX8_watch_L32 E Q a0 x1 x2 x3) (Sum.elim (PX8_watch_L20 E Q a0) (fun q : Int32 × Wd => Q (some (.int q.1)) q.2))) r) : PX8_watch_L32 E Q a0 x1 x2 x3 s := by
  unfold fX8_watch_L32_body at h
  unfold PX8_watch_L32
  refine r_iload dX8_watch_32 5 rfl ?_
  refine r_aload_n dX8_watch_34 0 rfl ?_
  obtain ⟨h1, h⟩ := chk_some h
  refine r_getI (fl_RX8_83 rfl) rfl dX8_watch_35 h1 ?_
  refine r_icmp_ge (tgt := 61) dX8_watch_38 (by decide) (fun c2 => ?_) (fun c2 => ?_)
  · rw [if_pos c2] at h
    obtain ⟨r3, hr, h⟩ := wr_some h
    rw [hr] at hk
    refine r_iload dX8_watch_61 4 rfl ?_
    refine r_iconst (v := 1) dX8_watch_63 (by decide) ?_
    refine r_ishr dX8_watch_64 ?_
    obtain ⟨q4, g5, h⟩ := ob_some h
    refine r_callS (d' := (6, 0, false)) (As := [.int (s.1 >>> (1 &&& 31))]) (st := []) mds_J6_bitCount_0f7a4 tm_RX8_251 rfl (by decide) rfl (Nat.le_refl _) (Nat.le_of_ble_eq_true rfl) rfl dX8_watch_65 (ctJ6_bitCount_0f7a4 g5) (k_I0 ?_)
    refine r_istore dX8_watch_68 (Nat.le_of_ble_eq_true rfl) [(5, .int q4.1), (0, .ref a0), (1, .int x1), (2, .int x2), (3, .int x3), (4, .int s.1)] rfl ?_
    refine r_iload dX8_watch_70 0 rfl ?_
    refine r_iload_n dX8_watch_72 3 rfl ?_
    refine r_icmp_gt (tgt := 79) dX8_watch_73 (by decide) (fun c6 => ?_) (fun c6 => ?_)
    · rw [if_pos c6] at h
      refine r_iload dX8_watch_79 0 rfl ?_
      refine r_istore_n dX8_watch_81 rfl (Nat.le_of_ble_eq_true rfl) [(2, .int q4.1), (5, .int q4.1), (0, .ref a0), (1, .int x1), (3, .int x3), (4, .int s.1)] rfl ?_
      refine r_iload_n dX8_watch_82 4 rfl ?_
      refine r_istore_n dX8_watch_83 rfl (Nat.le_of_ble_eq_true rfl) [(1, .int x3), (2, .int q4.1), (5, .int q4.1), (0, .ref a0), (3, .int x3), (4, .int s.1)] rfl ?_
      refine r_sub [3, 0, 1, 4] [(0, .ref a0), (1, .int x3), (2, .int q4.1), (3, .int x3)] rfl ?_
      exact okX8_watch_b84 h hk
    · rw [if_neg c6] at h
      refine r_goto (tgt := 84) dX8_watch_76 (by decide) ?_
      refine r_sub [1, 2, 3, 4] [(0, .ref a0), (1, .int x1), (2, .int x2), (3, .int x3)] rfl ?_
      exact okX8_watch_b84 h hk
  · rw [if_neg c2] at h
    refine r_iload dX8_watch_41 4 rfl ?_
    refine r_iconst (v := 1) dX8_watch_43 (by decide) ?_
    refine r_aload_n dX8_watch_44 0 rfl ?_
    refine r_iload dX8_watch_45 5 rfl ?_
    refine r_iload_n dX8_watch_47 3 rfl ?_
    obtain ⟨q7, g8, h⟩ := ob_some h
    refine r_callV (d' := (8, 0, false)) (As := [.int s.2.1, .int x3]) (st := [.int 1, .int s.1]) mdv_X8_doesNow tm_RX8_217 (by decide) rfl rfl (by decide) rfl (Nat.le_refl _) (Nat.le_of_ble_eq_true rfl) rfl dX8_watch_48 h1 (ctX8_doesNow g8) (k_I0 ?_)
    refine r_ishl dX8_watch_51 ?_
    refine r_ior dX8_watch_52 ?_
    obtain ⟨u9, e10, h⟩ := bnd_some h
    refine r_eqI e10 ?_
    refine r_istore dX8_watch_53 (Nat.le_of_ble_eq_true rfl) [(4, .int u9), (0, .ref a0), (1, .int x1), (2, .int x2), (3, .int x3), (5, .int s.2.1)] rfl ?_
    refine r_iinc (v := (s.2.1 + 1)) dX8_watch_55 5 rfl rfl (Nat.le_of_ble_eq_true rfl) [(5, .int (s.2.1 + 1)), (4, .int u9), (0, .ref a0), (1, .int x1), (2, .int x2), (3, .int x3)] rfl ?_
    refine r_goto (tgt := 32) dX8_watch_58 (by decide) ?_
    rw [← Option.some.inj h] at hk
    refine r_sub [2, 3, 4, 5, 1, 0] [(0, .ref a0), (1, .int x1), (2, .int x2), (3, .int x3), (4, .int u9), (5, .int (s.2.1 + 1))] rfl ?_
    exact hk
def fX8_watch_L32 (a0 : Nat) (x1 : Int32) (x2 : Int32) (x3 : Int32) (s : Int32 × Int32 × Wd) : Option ((Int32 × Int32 × Int32 × Wd) ⊕ (Int32 × Wd)) := it (fX8_watch_L32_body a0 x1 x2 x3) FU s
set_option maxHeartbeats 1000000 in
set_option maxRecDepth 20000 in
theorem okX8_watch_L32 {E : Ev} {Q : Option Value → Wd → Prop} {a0 : Nat} {x1 : Int32} {x2 : Int32} {x3 : Int32} {s : Int32 × Int32 × Wd} {r : (Int32 × Int32 × Int32 × Wd) ⊕ (Int32 × Wd)} (h : fX8_watch_L32 a0 x1 x2 x3 s = some r) (hk : (Sum.elim (PX8_watch_L20 E Q a0) (fun q : Int32 × Wd => Q (some (.int q.1)) q.2)) r) : PX8_watch_L32 E Q a0 x1 x2 x3 s := it_runs (fun s r h hk => okX8_watch_L32_body h hk) FU s r h hk
def fX8_watch_L20_body (a0 : Nat) (s : Int32 × Int32 × Int32 × Wd) : Option ((Int32 × Int32 × Int32 × Wd) ⊕ (Int32 × Wd)) :=
  if (12 : Int32) ≤ s.2.2.1 then (wr (some (s.1, s.2.2.2))) else (fX8_watch_L32 a0 s.1 s.2.1 s.2.2.1 (0, 0, s.2.2.2))
set_option maxHeartbeats 1000000 in
set_option maxRecDepth 20000 in
theorem okX8_watch_L20_body {E : Ev} {Q : Option Value → Wd → Prop} {a0 : Nat} {s : Int32 × Int32 × Int32 × Wd} {r : (Int32 × Int32 × Int32 × Wd) ⊕ (Int32 × Wd)} (h : fX8_watch_L20_body a0 s = some r) (hk : (Sum.elim (PX8_watch_L20 E Q a0) (fun q : Int32 × Wd => Q (some (.int q.1)) q.2)) r) : PX8_watch_L20 E Q a0 s := by
  unfold fX8_watch_L20_body at h
  unfold PX8_watch_L20
  refine r_iload_n dX8_watch_20 3 rfl ?_
  refine r_bipush (v := 12) dX8_watch_21 (by decide) ?_
  refine r_icmp_ge (tgt := 90) dX8_watch_23 (by decide) (fun c1 => ?_) (fun c1 => ?_)
  · rw [if_pos c1] at h
    obtain ⟨r2, hr, h⟩ := wr_some h
    rw [hr] at hk
    refine r_iload_n dX8_watch_90 1 rfl ?_
    rw [← Option.some.inj h] at hk
    exact r_ireturn dX8_watch_91 rfl rfl hk
  · rw [if_neg c1] at h
    refine r_iconst (v := 0) dX8_watch_26 (by decide) ?_
    refine r_istore dX8_watch_27 (Nat.le_of_ble_eq_true rfl) [(4, .int 0), (0, .ref a0), (1, .int s.1), (2, .int s.2.1), (3, .int s.2.2.1)] rfl ?_
    refine r_iconst (v := 0) dX8_watch_29 (by decide) ?_
    refine r_istore dX8_watch_30 (Nat.le_of_ble_eq_true rfl) [(5, .int 0), (4, .int 0), (0, .ref a0), (1, .int s.1), (2, .int s.2.1), (3, .int s.2.2.1)] rfl ?_
    refine r_sub [2, 3, 4, 5, 1, 0] [(0, .ref a0), (1, .int s.1), (2, .int s.2.1), (3, .int s.2.2.1), (4, .int 0), (5, .int 0)] rfl ?_
    exact okX8_watch_L32 h hk
def fX8_watch_L20 (a0 : Nat) (s : Int32 × Int32 × Int32 × Wd) : Option (Int32 × Wd) := it (fX8_watch_L20_body a0) FU s
set_option maxHeartbeats 1000000 in
set_option maxRecDepth 20000 in
theorem okX8_watch_L20 {E : Ev} {Q : Option Value → Wd → Prop} {a0 : Nat} {s : Int32 × Int32 × Int32 × Wd} {r : Int32 × Wd} (h : fX8_watch_L20 a0 s = some r) (hk : (fun q : Int32 × Wd => Q (some (.int q.1)) q.2) r) : PX8_watch_L20 E Q a0 s := it_runs (fun s r h hk => okX8_watch_L20_body h hk) FU s r h hk
def fX8_watch (a0 : Nat) (w : Wd) : Option (Int32 × Wd) :=
  chk (isO w a0 8) (if (wI w a0 3) = 0 then (ob (fX8_no a0 (-5) w) (fun q3 => some (q3.1, q3.2))) else (fX8_watch_L20 a0 (0, 0, 0, w)))
set_option maxHeartbeats 1000000 in
set_option maxRecDepth 20000 in
theorem okX8_watch {E : Ev} {Q : Option Value → Wd → Prop} {a0 : Nat} {w : Wd} {q : Int32 × Wd} (h : fX8_watch a0 w = some q) (hk : (fun q : Int32 × Wd => Q (some (.int q.1)) q.2) q) : Runs E mX8_watch (9, 0, false) Q 0 0 [(0, .ref a0)] [] w := by
  unfold fX8_watch at h
  refine r_aload_n dX8_watch_0 0 rfl ?_
  obtain ⟨h1, h⟩ := chk_some h
  refine r_getI (fl_RX8_83 rfl) rfl dX8_watch_1 h1 ?_
  refine r_if_ne (tgt := 14) dX8_watch_4 (by decide) (fun c2 => ?_) (fun c2 => ?_)
  · rw [if_neg c2] at h
    refine r_iconst (v := 0) dX8_watch_14 (by decide) ?_
    refine r_istore_n dX8_watch_15 rfl (Nat.le_of_ble_eq_true rfl) [(1, .int 0), (0, .ref a0)] rfl ?_
    refine r_iconst (v := 0) dX8_watch_16 (by decide) ?_
    refine r_istore_n dX8_watch_17 rfl (Nat.le_of_ble_eq_true rfl) [(2, .int 0), (1, .int 0), (0, .ref a0)] rfl ?_
    refine r_iconst (v := 0) dX8_watch_18 (by decide) ?_
    refine r_istore_n dX8_watch_19 rfl (Nat.le_of_ble_eq_true rfl) [(3, .int 0), (2, .int 0), (1, .int 0), (0, .ref a0)] rfl ?_
    refine r_sub [3, 2, 1, 0] [(0, .ref a0), (1, .int 0), (2, .int 0), (3, .int 0)] rfl ?_
    exact okX8_watch_L20 h hk
  · rw [if_pos c2] at h
    refine r_aload_n dX8_watch_7 0 rfl ?_
    refine r_bipush (v := (-5)) dX8_watch_8 (by decide) ?_
    obtain ⟨q3, g4, h⟩ := ob_some h
    refine r_callV (d' := (6, 0, false)) (As := [.int (-5)]) (st := []) mdv_X8_no tm_RX8_72 (by decide) rfl rfl (by decide) rfl (Nat.le_refl _) (Nat.le_of_ble_eq_true rfl) rfl dX8_watch_10 h1 (ctX8_no g4) (k_I0 ?_)
    rw [← Option.some.inj h] at hk
    exact r_ireturn dX8_watch_13 rfl rfl hk
set_option maxHeartbeats 1000000 in
set_option maxRecDepth 20000 in
theorem ctX8_watch {E : Ev} {a0 : Nat} {w : Wd} {q : Int32 × Wd} (h : fX8_watch a0 w = some q) : CT E mX8_watch (9, 0, false) [.ref a0] w (QI q) := CT.of pl_RX8 (Nat.le_of_ble_eq_true rfl) (okX8_watch h ⟨rfl, rfl⟩)
def fX8_wear_b21 (a0 : Nat) (w : Wd) : Option (Int32 × Wd) :=
  chk (isO w a0 8) (ob (fX8_no10 a0 (-1) w) (fun q2 => some (q2.1, q2.2)))
set_option maxHeartbeats 1000000 in
set_option maxRecDepth 20000 in
theorem okX8_wear_b21 {E : Ev} {Q : Option Value → Wd → Prop} {a0 : Nat} {w : Wd} {q : Int32 × Wd} (h : fX8_wear_b21 a0 w = some q) (hk : (fun q : Int32 × Wd => Q (some (.int q.1)) q.2) q) : Runs E mX8_wear (8, 0, false) Q 0 21 [(0, .ref a0)] [] w := by
  unfold fX8_wear_b21 at h
  refine r_aload_n dX8_wear_21 0 rfl ?_
  refine r_iconst (v := (-1)) dX8_wear_22 (by decide) ?_
  obtain ⟨h1, h⟩ := chk_some h
  obtain ⟨q2, g3, h⟩ := ob_some h
  refine r_callV (d' := (7, 0, false)) (As := [.int (-1)]) (st := []) mdv_X8_no10 tm_RX8_132 (by decide) rfl rfl (by decide) rfl (Nat.le_refl _) (Nat.le_of_ble_eq_true rfl) rfl dX8_wear_23 h1 (ctX8_no10 g3) (k_I0 ?_)
  rw [← Option.some.inj h] at hk
  exact r_ireturn dX8_wear_26 rfl rfl hk
def fX8_wear_b27 (a0 : Nat) (x1 : Int32) (x2 : Int32) (w : Wd) : Option (Int32 × Wd) :=
  chk (isO w a0 8) (ob (wR w a0 9) (fun o2 => chk (isA w o2 0) (chk (inb x1 (wn w o2)) (bnd (wI w o2 (x1).toNatClampNeg) (fun u6 => bnd (sI w o2 (x1).toNatClampNeg x2) (fun w8 => some (u6, w8)))))))
set_option maxHeartbeats 1000000 in
set_option maxRecDepth 20000 in
theorem okX8_wear_b27 {E : Ev} {Q : Option Value → Wd → Prop} {a0 : Nat} {x1 : Int32} {x2 : Int32} {w : Wd} {q : Int32 × Wd} (h : fX8_wear_b27 a0 x1 x2 w = some q) (hk : (fun q : Int32 × Wd => Q (some (.int q.1)) q.2) q) : Runs E mX8_wear (8, 0, false) Q 0 27 [(0, .ref a0), (1, .int x1), (2, .int x2)] [] w := by
  unfold fX8_wear_b27 at h
  refine r_aload_n dX8_wear_27 0 rfl ?_
  obtain ⟨h1, h⟩ := chk_some h
  obtain ⟨o2, g3, h⟩ := ob_some h
  refine r_getR (fl_RX8_32 rfl) rfl dX8_wear_28 h1 g3 ?_
  refine r_iload_n dX8_wear_31 1 rfl ?_
  obtain ⟨h4, h⟩ := chk_some h
  obtain ⟨h5, h⟩ := chk_some h
  refine r_iaload dX8_wear_32 h4 h5 ?_
  obtain ⟨u6, e7, h⟩ := bnd_some h
  refine r_eqI e7 ?_
  refine r_istore_n dX8_wear_33 rfl (Nat.le_of_ble_eq_true rfl) [(3, .int u6), (0, .ref a0), (1, .int x1), (2, .int x2)] rfl ?_
  refine r_aload_n dX8_wear_34 1 rfl ?_
  refine r_getR (fl_RX8_32 rfl) rfl dX8_wear_35 h1 g3 ?_
  refine r_iload_n dX8_wear_38 2 rfl ?_
  refine r_iload_n dX8_wear_39 3 rfl ?_
  obtain ⟨w8, e9, h⟩ := bnd_some h
  refine r_iastore dX8_wear_40 h4 h5 ?_
  refine r_eqW e9 ?_
  refine r_iload_n dX8_wear_41 0 rfl ?_
  rw [← Option.some.inj h] at hk
  exact r_ireturn dX8_wear_42 rfl rfl hk
def fX8_wear (a0 : Nat) (x1 : Int32) (x2 : Int32) (w : Wd) : Option (Int32 × Wd) :=
  chk (isO w a0 8) (ob (fX8_isGarment a0 x1 w) (fun q2 => if q2.1 = 0 then (fX8_wear_b21 a0 q2.2) else (if x2 = (-1) then (fX8_wear_b27 a0 x1 x2 q2.2) else (chk (isO q2.2 a0 8) (ob (fX8_isOne a0 x2 q2.2) (fun q7 => if q7.1 = 0 then (fX8_wear_b21 a0 q7.2) else (fX8_wear_b27 a0 x1 x2 q7.2)))))))
set_option maxHeartbeats 1000000 in
set_option maxRecDepth 20000 in
theorem okX8_wear {E : Ev} {Q : Option Value → Wd → Prop} {a0 : Nat} {x1 : Int32} {x2 : Int32} {w : Wd} {q : Int32 × Wd} (h : fX8_wear a0 x1 x2 w = some q) (hk : (fun q : Int32 × Wd => Q (some (.int q.1)) q.2) q) : Runs E mX8_wear (8, 0, false) Q 0 0 [(0, .ref a0), (1, .int x1), (2, .int x2)] [] w := by
  unfold fX8_wear at h
  refine r_aload_n dX8_wear_0 0 rfl ?_
  refine r_iload_n dX8_wear_1 1 rfl ?_
  obtain ⟨h1, h⟩ := chk_some h
  obtain ⟨q2, g3, h⟩ := ob_some h
  refine r_callV (d' := (7, 0, false)) (As := [.int x1]) (st := []) mdv_X8_isGarment tm_RX8_93 (by decide) rfl rfl (by decide) rfl (Nat.le_refl _) (Nat.le_of_ble_eq_true rfl) rfl dX8_wear_2 h1 (ctX8_isGarment g3) (k_I0 ?_)
  refine r_if_eq (tgt := 21) dX8_wear_5 (by decide) (fun c4 => ?_) (fun c4 => ?_)
  · rw [if_pos c4] at h
    refine r_sub [0] [(0, .ref a0)] rfl ?_
    exact okX8_wear_b21 h hk
  · rw [if_neg c4] at h
    refine r_iload_n dX8_wear_8 2 rfl ?_
    refine r_iconst (v := (-1)) dX8_wear_9 (by decide) ?_
    refine r_icmp_eq (tgt := 27) dX8_wear_10 (by decide) (fun c5 => ?_) (fun c5 => ?_)
    · rw [if_pos c5] at h
      refine r_sub [0, 1, 2] [(0, .ref a0), (1, .int x1), (2, .int x2)] rfl ?_
      exact okX8_wear_b27 h hk
    · rw [if_neg c5] at h
      refine r_aload_n dX8_wear_13 0 rfl ?_
      refine r_iload_n dX8_wear_14 2 rfl ?_
      obtain ⟨h6, h⟩ := chk_some h
      obtain ⟨q7, g8, h⟩ := ob_some h
      refine r_callV (d' := (7, 0, false)) (As := [.int x2]) (st := []) mdv_X8_isOne tm_RX8_122 (by decide) rfl rfl (by decide) rfl (Nat.le_refl _) (Nat.le_of_ble_eq_true rfl) rfl dX8_wear_15 h6 (ctX8_isOne g8) (k_I0 ?_)
      refine r_if_ne (tgt := 27) dX8_wear_18 (by decide) (fun c9 => ?_) (fun c9 => ?_)
      · rw [if_neg c9] at h
        refine r_sub [0, 1, 2] [(0, .ref a0), (1, .int x1), (2, .int x2)] rfl ?_
        exact okX8_wear_b27 h hk
      · rw [if_pos c9] at h
        refine r_sub [0] [(0, .ref a0)] rfl ?_
        exact okX8_wear_b21 h hk
set_option maxHeartbeats 1000000 in
set_option maxRecDepth 20000 in
theorem ctX8_wear {E : Ev} {a0 : Nat} {x1 : Int32} {x2 : Int32} {w : Wd} {q : Int32 × Wd} (h : fX8_wear a0 x1 x2 w = some q) : CT E mX8_wear (8, 0, false) [.ref a0, .int x1, .int x2] w (QI q) := CT.of pl_RX8 (Nat.le_of_ble_eq_true rfl) (okX8_wear h ⟨rfl, rfl⟩)
def fX8_whose_b21 (s0 : Int32) (w : Wd) : Option (Int32 × Wd) :=
  some (s0, w)
set_option maxHeartbeats 1000000 in
set_option maxRecDepth 20000 in
theorem okX8_whose_b21 {E : Ev} {Q : Option Value → Wd → Prop} {s0 : Int32} {w : Wd} {q : Int32 × Wd} (h : fX8_whose_b21 s0 w = some q) (hk : (fun q : Int32 × Wd => Q (some (.int q.1)) q.2) q) : Runs E mX8_whose (8, 0, false) Q 0 21 [] [.int s0] w := by
  unfold fX8_whose_b21 at h
  rw [← Option.some.inj h] at hk
  exact r_ireturn dX8_whose_21 rfl rfl hk
def fX8_whose (a0 : Nat) (x1 : Int32) (w : Wd) : Option (Int32 × Wd) :=
  chk (isO w a0 8) (ob (fX8_isGarment a0 x1 w) (fun q2 => if q2.1 = 0 then (chk (isO q2.2 a0 8) (ob (fX8_no10 a0 (-1) q2.2) (fun q6 => fX8_whose_b21 q6.1 q6.2))) else (chk (isO q2.2 a0 8) (ob (fX8_whoseOf a0 x1 q2.2) (fun q9 => fX8_whose_b21 q9.1 q9.2)))))
set_option maxHeartbeats 1000000 in
set_option maxRecDepth 20000 in
theorem okX8_whose {E : Ev} {Q : Option Value → Wd → Prop} {a0 : Nat} {x1 : Int32} {w : Wd} {q : Int32 × Wd} (h : fX8_whose a0 x1 w = some q) (hk : (fun q : Int32 × Wd => Q (some (.int q.1)) q.2) q) : Runs E mX8_whose (8, 0, false) Q 0 0 [(0, .ref a0), (1, .int x1)] [] w := by
  unfold fX8_whose at h
  refine r_aload_n dX8_whose_0 0 rfl ?_
  refine r_iload_n dX8_whose_1 1 rfl ?_
  obtain ⟨h1, h⟩ := chk_some h
  obtain ⟨q2, g3, h⟩ := ob_some h
  refine r_callV (d' := (7, 0, false)) (As := [.int x1]) (st := []) mdv_X8_isGarment tm_RX8_93 (by decide) rfl rfl (by decide) rfl (Nat.le_refl _) (Nat.le_of_ble_eq_true rfl) rfl dX8_whose_2 h1 (ctX8_isGarment g3) (k_I0 ?_)
  refine r_if_eq (tgt := 16) dX8_whose_5 (by decide) (fun c4 => ?_) (fun c4 => ?_)
  · rw [if_pos c4] at h
    refine r_aload_n dX8_whose_16 0 rfl ?_
    refine r_iconst (v := (-1)) dX8_whose_17 (by decide) ?_
    obtain ⟨h5, h⟩ := chk_some h
    obtain ⟨q6, g7, h⟩ := ob_some h
    refine r_callV (d' := (7, 0, false)) (As := [.int (-1)]) (st := []) mdv_X8_no10 tm_RX8_132 (by decide) rfl rfl (by decide) rfl (Nat.le_refl _) (Nat.le_of_ble_eq_true rfl) rfl dX8_whose_18 h5 (ctX8_no10 g7) (k_I0 ?_)
    refine r_sub [] [] rfl ?_
    exact okX8_whose_b21 h hk
  · rw [if_neg c4] at h
    refine r_aload_n dX8_whose_8 0 rfl ?_
    refine r_iload_n dX8_whose_9 1 rfl ?_
    obtain ⟨h8, h⟩ := chk_some h
    obtain ⟨q9, g10, h⟩ := ob_some h
    refine r_callV (d' := (7, 0, false)) (As := [.int x1]) (st := []) mdv_X8_whoseOf tm_RX8_242 (by decide) rfl rfl (by decide) rfl (Nat.le_refl _) (Nat.le_of_ble_eq_true rfl) rfl dX8_whose_10 h8 (ctX8_whoseOf g10) (k_I0 ?_)
    refine r_goto (tgt := 21) dX8_whose_13 (by decide) ?_
    refine r_sub [] [] rfl ?_
    exact okX8_whose_b21 h hk
set_option maxHeartbeats 1000000 in
set_option maxRecDepth 20000 in
theorem ctX8_whose {E : Ev} {a0 : Nat} {x1 : Int32} {w : Wd} {q : Int32 × Wd} (h : fX8_whose a0 x1 w = some q) : CT E mX8_whose (8, 0, false) [.ref a0, .int x1] w (QI q) := CT.of pl_RX8 (Nat.le_of_ble_eq_true rfl) (okX8_whose h ⟨rfl, rfl⟩)
def fX8_will (a0 : Nat) (x1 : Int32) (x2 : Int32) (w : Wd) : Option (Int32 × Wd) :=
  chk (isO w a0 8) (ob (fX8_isOne a0 x1 w) (fun q2 => if q2.1 = 0 then (chk (isO q2.2 a0 8) (ob (fX8_no a0 (-1) q2.2) (fun q21 => some (q21.1, q21.2)))) else (ob (fX8_isDigit x2 q2.2) (fun q5 => if q5.1 = 0 then (chk (isO q5.2 a0 8) (ob (fX8_no a0 (-6) q5.2) (fun q18 => some (q18.1, q18.2)))) else (chk (isO q5.2 a0 8) (ob (wR q5.2 a0 4) (fun o9 => chk (isA q5.2 o9 0) (chk (inb x1 (wn q5.2 o9)) (bnd (wI q5.2 o9 (x1).toNatClampNeg) (fun u13 => bnd (sI q5.2 o9 (x1).toNatClampNeg x2) (fun w15 => some (u13, w15))))))))))))
set_option maxHeartbeats 1000000 in
set_option maxRecDepth 20000 in
theorem okX8_will {E : Ev} {Q : Option Value → Wd → Prop} {a0 : Nat} {x1 : Int32} {x2 : Int32} {w : Wd} {q : Int32 × Wd} (h : fX8_will a0 x1 x2 w = some q) (hk : (fun q : Int32 × Wd => Q (some (.int q.1)) q.2) q) : Runs E mX8_will (8, 0, false) Q 0 0 [(0, .ref a0), (1, .int x1), (2, .int x2)] [] w := by
  unfold fX8_will at h
  refine r_aload_n dX8_will_0 0 rfl ?_
  refine r_iload_n dX8_will_1 1 rfl ?_
  obtain ⟨h1, h⟩ := chk_some h
  obtain ⟨q2, g3, h⟩ := ob_some h
  refine r_callV (d' := (7, 0, false)) (As := [.int x1]) (st := []) mdv_X8_isOne tm_RX8_122 (by decide) rfl rfl (by decide) rfl (Nat.le_refl _) (Nat.le_of_ble_eq_true rfl) rfl dX8_will_2 h1 (ctX8_isOne g3) (k_I0 ?_)
  refine r_if_ne (tgt := 14) dX8_will_5 (by decide) (fun c4 => ?_) (fun c4 => ?_)
  · rw [if_neg c4] at h
    refine r_iload_n dX8_will_14 2 rfl ?_
    obtain ⟨q5, g6, h⟩ := ob_some h
    refine r_callS (d' := (7, 0, false)) (As := [.int x2]) (st := []) mds_X8_isDigit tm_RX8_113 rfl (by decide) rfl (Nat.le_refl _) (Nat.le_of_ble_eq_true rfl) rfl dX8_will_15 (ctX8_isDigit g6) (k_I0 ?_)
    refine r_if_ne (tgt := 28) dX8_will_18 (by decide) (fun c7 => ?_) (fun c7 => ?_)
    · rw [if_neg c7] at h
      refine r_aload_n dX8_will_28 0 rfl ?_
      obtain ⟨h8, h⟩ := chk_some h
      obtain ⟨o9, g10, h⟩ := ob_some h
      refine r_getR (fl_RX8_20 rfl) rfl dX8_will_29 h8 g10 ?_
      refine r_iload_n dX8_will_32 1 rfl ?_
      obtain ⟨h11, h⟩ := chk_some h
      obtain ⟨h12, h⟩ := chk_some h
      refine r_iaload dX8_will_33 h11 h12 ?_
      obtain ⟨u13, e14, h⟩ := bnd_some h
      refine r_eqI e14 ?_
      refine r_istore_n dX8_will_34 rfl (Nat.le_of_ble_eq_true rfl) [(3, .int u13), (0, .ref a0), (1, .int x1), (2, .int x2)] rfl ?_
      refine r_aload_n dX8_will_35 1 rfl ?_
      refine r_getR (fl_RX8_20 rfl) rfl dX8_will_36 h8 g10 ?_
      refine r_iload_n dX8_will_39 2 rfl ?_
      refine r_iload_n dX8_will_40 3 rfl ?_
      obtain ⟨w15, e16, h⟩ := bnd_some h
      refine r_iastore dX8_will_41 h11 h12 ?_
      refine r_eqW e16 ?_
      refine r_iload_n dX8_will_42 0 rfl ?_
      rw [← Option.some.inj h] at hk
      exact r_ireturn dX8_will_43 rfl rfl hk
    · rw [if_pos c7] at h
      refine r_aload_n dX8_will_21 0 rfl ?_
      refine r_bipush (v := (-6)) dX8_will_22 (by decide) ?_
      obtain ⟨h17, h⟩ := chk_some h
      obtain ⟨q18, g19, h⟩ := ob_some h
      refine r_callV (d' := (6, 0, false)) (As := [.int (-6)]) (st := []) mdv_X8_no tm_RX8_72 (by decide) rfl rfl (by decide) rfl (Nat.le_refl _) (Nat.le_of_ble_eq_true rfl) rfl dX8_will_24 h17 (ctX8_no g19) (k_I0 ?_)
      rw [← Option.some.inj h] at hk
      exact r_ireturn dX8_will_27 rfl rfl hk
  · rw [if_pos c4] at h
    refine r_aload_n dX8_will_8 0 rfl ?_
    refine r_iconst (v := (-1)) dX8_will_9 (by decide) ?_
    obtain ⟨h20, h⟩ := chk_some h
    obtain ⟨q21, g22, h⟩ := ob_some h
    refine r_callV (d' := (6, 0, false)) (As := [.int (-1)]) (st := []) mdv_X8_no tm_RX8_72 (by decide) rfl rfl (by decide) rfl (Nat.le_refl _) (Nat.le_of_ble_eq_true rfl) rfl dX8_will_10 h20 (ctX8_no g22) (k_I0 ?_)
    rw [← Option.some.inj h] at hk
    exact r_ireturn dX8_will_13 rfl rfl hk
set_option maxHeartbeats 1000000 in
set_option maxRecDepth 20000 in
theorem ctX8_will {E : Ev} {a0 : Nat} {x1 : Int32} {x2 : Int32} {w : Wd} {q : Int32 × Wd} (h : fX8_will a0 x1 x2 w = some q) : CT E mX8_will (8, 0, false) [.ref a0, .int x1, .int x2] w (QI q) := CT.of pl_RX8 (Nat.le_of_ble_eq_true rfl) (okX8_will h ⟨rfl, rfl⟩)
def PX8_wins_L18 (E : Ev) (Q : Option Value → Wd → Prop) (a0 : Nat) (x1 : Int32) (s : Int32 × Int32 × Wd) : Prop := Runs E mX8_wins (9, 0, false) Q 0 18 [(0, .ref a0), (1, .int x1), (2, .int s.1), (3, .int s.2.1)] [] s.2.2
def fX8_wins_b47 (a0 : Nat) (x1 : Int32) (x2 : Int32) (x3 : Int32) (w : Wd) : Option ((Int32 × Int32 × Wd) ⊕ (Int32 × Wd)) :=
  some (.inl (x2, (x3 + 1), w))
set_option maxHeartbeats 1000000 in
set_option maxRecDepth 20000 in
theorem okX8_wins_b47 {E : Ev} {Q : Option Value → Wd → Prop} {a0 : Nat} {x1 : Int32} {x2 : Int32} {x3 : Int32} {w : Wd} {q : (Int32 × Int32 × Wd) ⊕ (Int32 × Wd)} (h : fX8_wins_b47 a0 x1 x2 x3 w = some q) (hk : (Sum.elim (PX8_wins_L18 E Q a0 x1) (fun q : Int32 × Wd => Q (some (.int q.1)) q.2)) q) : Runs E mX8_wins (9, 0, false) Q 0 47 [(0, .ref a0), (1, .int x1), (2, .int x2), (3, .int x3)] [] w := by
  unfold fX8_wins_b47 at h
  refine r_iinc (v := (x3 + 1)) dX8_wins_47 3 rfl rfl (Nat.le_of_ble_eq_true rfl) [(3, .int (x3 + 1)), (0, .ref a0), (1, .int x1), (2, .int x2)] rfl ?_
  refine r_goto (tgt := 18) dX8_wins_50 (by decide) ?_
  rw [← Option.some.inj h] at hk
  refine r_sub [1, 2, 3, 0] [(0, .ref a0), (1, .int x1), (2, .int x2), (3, .int (x3 + 1))] rfl ?_
  exact hk
def fX8_wins_L18_body (a0 : Nat) (x1 : Int32) (s : Int32 × Int32 × Wd) : Option ((Int32 × Int32 × Wd) ⊕ (Int32 × Wd)) :=
  if (12 : Int32) ≤ s.2.1 then (wr (some (s.1, s.2.2))) else (chk (isO s.2.2 a0 8) (ob (fX8_doesNow a0 x1 s.2.1 s.2.2) (fun q4 => chk (isO q4.2 a0 8) (ob (wR q4.2 a0 5) (fun o7 => chk (isA q4.2 o7 0) (chk (inb ((12 * x1) + s.2.1) (wn q4.2 o7)) (if q4.1 = (wI q4.2 o7 (((12 * x1) + s.2.1)).toNatClampNeg) then (fX8_wins_b47 a0 x1 s.1 s.2.1 q4.2) else (fX8_wins_b47 a0 x1 (s.1 + 1) s.2.1 q4.2))))))))
set_option maxHeartbeats 1000000 in
set_option maxRecDepth 20000 in
theorem okX8_wins_L18_body {E : Ev} {Q : Option Value → Wd → Prop} {a0 : Nat} {x1 : Int32} {s : Int32 × Int32 × Wd} {r : (Int32 × Int32 × Wd) ⊕ (Int32 × Wd)} (h : fX8_wins_L18_body a0 x1 s = some r) (hk : (Sum.elim (PX8_wins_L18 E Q a0 x1) (fun q : Int32 × Wd => Q (some (.int q.1)) q.2)) r) : PX8_wins_L18 E Q a0 x1 s := by
  unfold fX8_wins_L18_body at h
  unfold PX8_wins_L18
  refine r_iload_n dX8_wins_18 3 rfl ?_
  refine r_bipush (v := 12) dX8_wins_19 (by decide) ?_
  refine r_icmp_ge (tgt := 53) dX8_wins_21 (by decide) (fun c1 => ?_) (fun c1 => ?_)
  · rw [if_pos c1] at h
    obtain ⟨r2, hr, h⟩ := wr_some h
    rw [hr] at hk
    refine r_iload_n dX8_wins_53 2 rfl ?_
    rw [← Option.some.inj h] at hk
    exact r_ireturn dX8_wins_54 rfl rfl hk
  · rw [if_neg c1] at h
    refine r_aload_n dX8_wins_24 0 rfl ?_
    refine r_iload_n dX8_wins_25 1 rfl ?_
    refine r_iload_n dX8_wins_26 3 rfl ?_
    obtain ⟨h3, h⟩ := chk_some h
    obtain ⟨q4, g5, h⟩ := ob_some h
    refine r_callV (d' := (8, 0, false)) (As := [.int x1, .int s.2.1]) (st := []) mdv_X8_doesNow tm_RX8_217 (by decide) rfl rfl (by decide) rfl (Nat.le_refl _) (Nat.le_of_ble_eq_true rfl) rfl dX8_wins_27 h3 (ctX8_doesNow g5) (k_I0 ?_)
    refine r_aload_n dX8_wins_30 0 rfl ?_
    obtain ⟨h6, h⟩ := chk_some h
    obtain ⟨o7, g8, h⟩ := ob_some h
    refine r_getR (fl_RX8_23 rfl) rfl dX8_wins_31 h6 g8 ?_
    refine r_bipush (v := 12) dX8_wins_34 (by decide) ?_
    refine r_iload_n dX8_wins_36 1 rfl ?_
    refine r_imul dX8_wins_37 ?_
    refine r_iload_n dX8_wins_38 3 rfl ?_
    refine r_iadd dX8_wins_39 ?_
    obtain ⟨h9, h⟩ := chk_some h
    obtain ⟨h10, h⟩ := chk_some h
    refine r_iaload dX8_wins_40 h9 h10 ?_
    refine r_icmp_eq (tgt := 47) dX8_wins_41 (by decide) (fun c11 => ?_) (fun c11 => ?_)
    · rw [if_pos c11] at h
      refine r_sub [0, 1, 2, 3] [(0, .ref a0), (1, .int x1), (2, .int s.1), (3, .int s.2.1)] rfl ?_
      exact okX8_wins_b47 h hk
    · rw [if_neg c11] at h
      refine r_iinc (v := (s.1 + 1)) dX8_wins_44 2 rfl rfl (Nat.le_of_ble_eq_true rfl) [(2, .int (s.1 + 1)), (0, .ref a0), (1, .int x1), (3, .int s.2.1)] rfl ?_
      refine r_sub [1, 2, 0, 3] [(0, .ref a0), (1, .int x1), (2, .int (s.1 + 1)), (3, .int s.2.1)] rfl ?_
      exact okX8_wins_b47 h hk
def fX8_wins_L18 (a0 : Nat) (x1 : Int32) (s : Int32 × Int32 × Wd) : Option (Int32 × Wd) := it (fX8_wins_L18_body a0 x1) FU s
set_option maxHeartbeats 1000000 in
set_option maxRecDepth 20000 in
theorem okX8_wins_L18 {E : Ev} {Q : Option Value → Wd → Prop} {a0 : Nat} {x1 : Int32} {s : Int32 × Int32 × Wd} {r : Int32 × Wd} (h : fX8_wins_L18 a0 x1 s = some r) (hk : (fun q : Int32 × Wd => Q (some (.int q.1)) q.2) r) : PX8_wins_L18 E Q a0 x1 s := it_runs (fun s r h hk => okX8_wins_L18_body h hk) FU s r h hk
def fX8_wins (a0 : Nat) (x1 : Int32) (w : Wd) : Option (Int32 × Wd) :=
  chk (isO w a0 8) (ob (fX8_isOne a0 x1 w) (fun q2 => if q2.1 = 0 then (chk (isO q2.2 a0 8) (ob (fX8_no a0 (-1) q2.2) (fun q6 => some (q6.1, q6.2)))) else (fX8_wins_L18 a0 x1 (0, 0, q2.2))))
set_option maxHeartbeats 1000000 in
set_option maxRecDepth 20000 in
theorem okX8_wins {E : Ev} {Q : Option Value → Wd → Prop} {a0 : Nat} {x1 : Int32} {w : Wd} {q : Int32 × Wd} (h : fX8_wins a0 x1 w = some q) (hk : (fun q : Int32 × Wd => Q (some (.int q.1)) q.2) q) : Runs E mX8_wins (9, 0, false) Q 0 0 [(0, .ref a0), (1, .int x1)] [] w := by
  unfold fX8_wins at h
  refine r_aload_n dX8_wins_0 0 rfl ?_
  refine r_iload_n dX8_wins_1 1 rfl ?_
  obtain ⟨h1, h⟩ := chk_some h
  obtain ⟨q2, g3, h⟩ := ob_some h
  refine r_callV (d' := (7, 0, false)) (As := [.int x1]) (st := []) mdv_X8_isOne tm_RX8_122 (by decide) rfl rfl (by decide) rfl (Nat.le_refl _) (Nat.le_of_ble_eq_true rfl) rfl dX8_wins_2 h1 (ctX8_isOne g3) (k_I0 ?_)
  refine r_if_ne (tgt := 14) dX8_wins_5 (by decide) (fun c4 => ?_) (fun c4 => ?_)
  · rw [if_neg c4] at h
    refine r_iconst (v := 0) dX8_wins_14 (by decide) ?_
    refine r_istore_n dX8_wins_15 rfl (Nat.le_of_ble_eq_true rfl) [(2, .int 0), (0, .ref a0), (1, .int x1)] rfl ?_
    refine r_iconst (v := 0) dX8_wins_16 (by decide) ?_
    refine r_istore_n dX8_wins_17 rfl (Nat.le_of_ble_eq_true rfl) [(3, .int 0), (2, .int 0), (0, .ref a0), (1, .int x1)] rfl ?_
    refine r_sub [2, 3, 1, 0] [(0, .ref a0), (1, .int x1), (2, .int 0), (3, .int 0)] rfl ?_
    exact okX8_wins_L18 h hk
  · rw [if_pos c4] at h
    refine r_aload_n dX8_wins_8 0 rfl ?_
    refine r_iconst (v := (-1)) dX8_wins_9 (by decide) ?_
    obtain ⟨h5, h⟩ := chk_some h
    obtain ⟨q6, g7, h⟩ := ob_some h
    refine r_callV (d' := (6, 0, false)) (As := [.int (-1)]) (st := []) mdv_X8_no tm_RX8_72 (by decide) rfl rfl (by decide) rfl (Nat.le_refl _) (Nat.le_of_ble_eq_true rfl) rfl dX8_wins_10 h5 (ctX8_no g7) (k_I0 ?_)
    rw [← Option.some.inj h] at hk
    exact r_ireturn dX8_wins_13 rfl rfl hk
set_option maxHeartbeats 1000000 in
set_option maxRecDepth 20000 in
theorem ctX8_wins {E : Ev} {a0 : Nat} {x1 : Int32} {w : Wd} {q : Int32 × Wd} (h : fX8_wins a0 x1 w = some q) : CT E mX8_wins (9, 0, false) [.ref a0, .int x1] w (QI q) := CT.of pl_RX8 (Nat.le_of_ble_eq_true rfl) (okX8_wins h ⟨rfl, rfl⟩)
def PX8_years_L33 (E : Ev) (Q : Option Value → Wd → Prop) (a0 : Nat) (x1 : Int32) (s : Int32 × Wd) : Prop := Runs E mX8_years (10, 0, false) Q 0 33 [(0, .ref a0), (1, .int x1), (2, .int s.1)] [] s.2
def fX8_years_b98 (a0 : Nat) (x1 : Int32) (x2 : Int32) (w : Wd) : Option ((Int32 × Wd) ⊕ (Int32 × Wd)) :=
  chk (isO w a0 8) (ob (fX8_day a0 w) (fun q2 => some (.inl ((x2 + 1), q2.2))))
set_option maxHeartbeats 1000000 in
set_option maxRecDepth 20000 in
theorem okX8_years_b98 {E : Ev} {Q : Option Value → Wd → Prop} {a0 : Nat} {x1 : Int32} {x2 : Int32} {w : Wd} {q : (Int32 × Wd) ⊕ (Int32 × Wd)} (h : fX8_years_b98 a0 x1 x2 w = some q) (hk : (Sum.elim (PX8_years_L33 E Q a0 x1) (fun q : Int32 × Wd => Q (some (.int q.1)) q.2)) q) : Runs E mX8_years (10, 0, false) Q 0 98 [(0, .ref a0), (1, .int x1), (2, .int x2)] [] w := by
  unfold fX8_years_b98 at h
  refine r_aload_n dX8_years_98 0 rfl ?_
  obtain ⟨h1, h⟩ := chk_some h
  obtain ⟨q2, g3, h⟩ := ob_some h
  refine r_callV (d' := (9, 0, false)) (As := []) (st := []) mdv_X8_day tm_RX8_192 (by decide) rfl rfl (by decide) rfl (Nat.le_refl _) (Nat.le_of_ble_eq_true rfl) rfl dX8_years_99 h1 (ctX8_day g3) (k_I0 ?_)
  refine r_pop dX8_years_102 rfl ?_
  refine r_iinc (v := (x2 + 1)) dX8_years_103 2 rfl rfl (Nat.le_of_ble_eq_true rfl) [(2, .int (x2 + 1)), (0, .ref a0), (1, .int x1)] rfl ?_
  refine r_goto (tgt := 33) dX8_years_106 (by decide) ?_
  rw [← Option.some.inj h] at hk
  refine r_sub [1, 2, 0] [(0, .ref a0), (1, .int x1), (2, .int (x2 + 1))] rfl ?_
  exact hk
def fX8_years_b97 (a0 : Nat) (x1 : Int32) (x2 : Int32) (s0 : Int32) (s1 : Int32) (s2 : Nat) (w : Wd) : Option ((Int32 × Wd) ⊕ (Int32 × Wd)) :=
  chk (isA w s2 0) (chk (inb s1 (wn w s2)) (bnd (sI w s2 (s1).toNatClampNeg s0) (fun w3 => fX8_years_b98 a0 x1 x2 w3)))
set_option maxHeartbeats 1000000 in
set_option maxRecDepth 20000 in
theorem okX8_years_b97 {E : Ev} {Q : Option Value → Wd → Prop} {a0 : Nat} {x1 : Int32} {x2 : Int32} {s0 : Int32} {s1 : Int32} {s2 : Nat} {w : Wd} {q : (Int32 × Wd) ⊕ (Int32 × Wd)} (h : fX8_years_b97 a0 x1 x2 s0 s1 s2 w = some q) (hk : (Sum.elim (PX8_years_L33 E Q a0 x1) (fun q : Int32 × Wd => Q (some (.int q.1)) q.2)) q) : Runs E mX8_years (10, 0, false) Q 0 97 [(0, .ref a0), (1, .int x1), (2, .int x2)] [.int s0, .int s1, .ref s2] w := by
  unfold fX8_years_b97 at h
  obtain ⟨h1, h⟩ := chk_some h
  obtain ⟨h2, h⟩ := chk_some h
  obtain ⟨w3, e4, h⟩ := bnd_some h
  refine r_iastore dX8_years_97 h1 h2 ?_
  refine r_eqW e4 ?_
  refine r_sub [0, 1, 2] [(0, .ref a0), (1, .int x1), (2, .int x2)] rfl ?_
  exact okX8_years_b98 h hk
def fX8_years_b85 (a0 : Nat) (x1 : Int32) (x2 : Int32) (s0 : Int32) (s1 : Nat) (w : Wd) : Option ((Int32 × Wd) ⊕ (Int32 × Wd)) :=
  fX8_years_b97 a0 x1 x2 (-1) s0 s1 w
set_option maxHeartbeats 1000000 in
set_option maxRecDepth 20000 in
theorem okX8_years_b85 {E : Ev} {Q : Option Value → Wd → Prop} {a0 : Nat} {x1 : Int32} {x2 : Int32} {s0 : Int32} {s1 : Nat} {w : Wd} {q : (Int32 × Wd) ⊕ (Int32 × Wd)} (h : fX8_years_b85 a0 x1 x2 s0 s1 w = some q) (hk : (Sum.elim (PX8_years_L33 E Q a0 x1) (fun q : Int32 × Wd => Q (some (.int q.1)) q.2)) q) : Runs E mX8_years (10, 0, false) Q 0 85 [(0, .ref a0), (1, .int x1), (2, .int x2)] [.int s0, .ref s1] w := by
  unfold fX8_years_b85 at h
  refine r_iconst (v := (-1)) dX8_years_85 (by decide) ?_
  refine r_goto (tgt := 97) dX8_years_86 (by decide) ?_
  refine r_sub [0, 1, 2] [(0, .ref a0), (1, .int x1), (2, .int x2)] rfl ?_
  exact okX8_years_b97 h hk
def fX8_years_L33_body (a0 : Nat) (x1 : Int32) (s : Int32 × Wd) : Option ((Int32 × Wd) ⊕ (Int32 × Wd)) :=
  if x1 ≤ s.1 then (wr (chk (isO s.2 a0 8) (ob (fX8_allHabits a0 s.2) (fun q4 => some (q4.1, q4.2))))) else (chk (isO s.2 a0 8) (ob (fX8_draw a0 (wI s.2 a0 6) s.2) (fun q7 => chk (isO q7.2 a0 8) (ob (fX8_draw a0 4 q7.2) (fun q10 => if q10.1 = 0 then (chk (isO q10.2 a0 8) (ob (fX8_washes a0 q7.1 q10.2) (fun q21 => fX8_years_b98 a0 x1 s.1 q21))) else (chk (isO q10.2 a0 8) (ob (wR q10.2 a0 9) (fun o14 => if q10.1 = 1 then (fX8_years_b85 a0 x1 s.1 q7.1 o14 q10.2) else (if (wI q10.2 a0 3) = 0 then (fX8_years_b85 a0 x1 s.1 q7.1 o14 q10.2) else (ob (fX8_draw a0 (wI q10.2 a0 3) q10.2) (fun q18 => fX8_years_b97 a0 x1 s.1 q18.1 q7.1 o14 q18.2)))))))))))
set_option maxHeartbeats 1000000 in
set_option maxRecDepth 20000 in
theorem okX8_years_L33_body {E : Ev} {Q : Option Value → Wd → Prop} {a0 : Nat} {x1 : Int32} {s : Int32 × Wd} {r : (Int32 × Wd) ⊕ (Int32 × Wd)} (h : fX8_years_L33_body a0 x1 s = some r) (hk : (Sum.elim (PX8_years_L33 E Q a0 x1) (fun q : Int32 × Wd => Q (some (.int q.1)) q.2)) r) : PX8_years_L33 E Q a0 x1 s := by
  unfold fX8_years_L33_body at h
  unfold PX8_years_L33
  refine r_iload_n dX8_years_33 2 rfl ?_
  refine r_iload_n dX8_years_34 1 rfl ?_
  refine r_icmp_ge (tgt := 109) dX8_years_35 (by decide) (fun c1 => ?_) (fun c1 => ?_)
  · rw [if_pos c1] at h
    obtain ⟨r2, hr, h⟩ := wr_some h
    rw [hr] at hk
    refine r_aload_n dX8_years_109 0 rfl ?_
    obtain ⟨h3, h⟩ := chk_some h
    obtain ⟨q4, g5, h⟩ := ob_some h
    refine r_callV (d' := (7, 0, false)) (As := []) (st := []) mdv_X8_allHabits tm_RX8_266 (by decide) rfl rfl (by decide) rfl (Nat.le_refl _) (Nat.le_of_ble_eq_true rfl) rfl dX8_years_110 h3 (ctX8_allHabits g5) (k_I0 ?_)
    rw [← Option.some.inj h] at hk
    exact r_ireturn dX8_years_113 rfl rfl hk
  · rw [if_neg c1] at h
    refine r_aload_n dX8_years_38 0 rfl ?_
    refine r_aload_n dX8_years_39 0 rfl ?_
    obtain ⟨h6, h⟩ := chk_some h
    refine r_getI (fl_RX8_76 rfl) rfl dX8_years_40 h6 ?_
    obtain ⟨q7, g8, h⟩ := ob_some h
    refine r_callV (d' := (6, 0, false)) (As := [.int (wI s.2 a0 6)]) (st := []) mdv_X8_draw tm_RX8_263 (by decide) rfl rfl (by decide) rfl (Nat.le_refl _) (Nat.le_of_ble_eq_true rfl) rfl dX8_years_43 h6 (ctX8_draw g8) (k_I0 ?_)
    refine r_istore_n dX8_years_46 rfl (Nat.le_of_ble_eq_true rfl) [(3, .int q7.1), (0, .ref a0), (1, .int x1), (2, .int s.1)] rfl ?_
    refine r_aload_n dX8_years_47 1 rfl ?_
    refine r_iconst (v := 4) dX8_years_48 (by decide) ?_
    obtain ⟨h9, h⟩ := chk_some h
    obtain ⟨q10, g11, h⟩ := ob_some h
    refine r_callV (d' := (6, 0, false)) (As := [.int 4]) (st := []) mdv_X8_draw tm_RX8_263 (by decide) rfl rfl (by decide) rfl (Nat.le_refl _) (Nat.le_of_ble_eq_true rfl) rfl dX8_years_49 h9 (ctX8_draw g11) (k_I0 ?_)
    refine r_istore dX8_years_52 (Nat.le_of_ble_eq_true rfl) [(4, .int q10.1), (3, .int q7.1), (0, .ref a0), (1, .int x1), (2, .int s.1)] rfl ?_
    refine r_iload dX8_years_54 0 rfl ?_
    refine r_if_ne (tgt := 67) dX8_years_56 (by decide) (fun c12 => ?_) (fun c12 => ?_)
    · rw [if_neg c12] at h
      refine r_aload_n dX8_years_67 2 rfl ?_
      obtain ⟨h13, h⟩ := chk_some h
      obtain ⟨o14, g15, h⟩ := ob_some h
      refine r_getR (fl_RX8_32 rfl) rfl dX8_years_68 h13 g15 ?_
      refine r_iload_n dX8_years_71 1 rfl ?_
      refine r_iload dX8_years_72 0 rfl ?_
      refine r_iconst (v := 1) dX8_years_74 (by decide) ?_
      refine r_icmp_eq (tgt := 85) dX8_years_75 (by decide) (fun c16 => ?_) (fun c16 => ?_)
      · rw [if_pos c16] at h
        refine r_sub [2, 3, 4] [(0, .ref a0), (1, .int x1), (2, .int s.1)] rfl ?_
        exact okX8_years_b85 h hk
      · rw [if_neg c16] at h
        refine r_aload_n dX8_years_78 2 rfl ?_
        refine r_getI (fl_RX8_83 rfl) rfl dX8_years_79 h13 ?_
        refine r_if_ne (tgt := 89) dX8_years_82 (by decide) (fun c17 => ?_) (fun c17 => ?_)
        · rw [if_neg c17] at h
          refine r_aload_n dX8_years_89 2 rfl ?_
          refine r_aload_n dX8_years_90 2 rfl ?_
          refine r_getI (fl_RX8_83 rfl) rfl dX8_years_91 h13 ?_
          obtain ⟨q18, g19, h⟩ := ob_some h
          refine r_callV (d' := (6, 0, false)) (As := [.int (wI q10.2 a0 3)]) (st := [.int q7.1, .ref o14]) mdv_X8_draw tm_RX8_263 (by decide) rfl rfl (by decide) rfl (Nat.le_refl _) (Nat.le_of_ble_eq_true rfl) rfl dX8_years_94 h13 (ctX8_draw g19) (k_I0 ?_)
          refine r_sub [2, 3, 4] [(0, .ref a0), (1, .int x1), (2, .int s.1)] rfl ?_
          exact okX8_years_b97 h hk
        · rw [if_pos c17] at h
          refine r_sub [2, 3, 4] [(0, .ref a0), (1, .int x1), (2, .int s.1)] rfl ?_
          exact okX8_years_b85 h hk
    · rw [if_pos c12] at h
      refine r_aload_n dX8_years_59 2 rfl ?_
      refine r_iload_n dX8_years_60 1 rfl ?_
      obtain ⟨h20, h⟩ := chk_some h
      obtain ⟨q21, g22, h⟩ := ob_some h
      refine r_callV (d' := (7, 0, false)) (As := [.int q7.1]) (st := []) mdv_X8_washes tm_RX8_184 (by decide) rfl rfl (by decide) rfl (Nat.le_refl _) (Nat.le_of_ble_eq_true rfl) rfl dX8_years_61 h20 (ctX8_washes g22) (k_V0 ?_)
      refine r_goto (tgt := 98) dX8_years_64 (by decide) ?_
      refine r_sub [2, 3, 4] [(0, .ref a0), (1, .int x1), (2, .int s.1)] rfl ?_
      exact okX8_years_b98 h hk
def fX8_years_L33 (a0 : Nat) (x1 : Int32) (s : Int32 × Wd) : Option (Int32 × Wd) := it (fX8_years_L33_body a0 x1) FU s
set_option maxHeartbeats 1000000 in
set_option maxRecDepth 20000 in
theorem okX8_years_L33 {E : Ev} {Q : Option Value → Wd → Prop} {a0 : Nat} {x1 : Int32} {s : Int32 × Wd} {r : Int32 × Wd} (h : fX8_years_L33 a0 x1 s = some r) (hk : (fun q : Int32 × Wd => Q (some (.int q.1)) q.2) r) : PX8_years_L33 E Q a0 x1 s := it_runs (fun s r h hk => okX8_years_L33_body h hk) FU s r h hk
def fX8_years (a0 : Nat) (x1 : Int32) (w : Wd) : Option (Int32 × Wd) :=
  chk (isO w a0 8) (if (wI w a0 6) = 0 then (ob (fX8_no a0 (-5) w) (fun q9 => some (q9.1, q9.2))) else (ob (fX8_within x1 1 60 w) (fun q3 => if q3.1 = 0 then (chk (isO q3.2 a0 8) (ob (fX8_no a0 (-6) q3.2) (fun q7 => some (q7.1, q7.2)))) else (fX8_years_L33 a0 x1 (0, q3.2)))))
set_option maxHeartbeats 1000000 in
set_option maxRecDepth 20000 in
theorem okX8_years {E : Ev} {Q : Option Value → Wd → Prop} {a0 : Nat} {x1 : Int32} {w : Wd} {q : Int32 × Wd} (h : fX8_years a0 x1 w = some q) (hk : (fun q : Int32 × Wd => Q (some (.int q.1)) q.2) q) : Runs E mX8_years (10, 0, false) Q 0 0 [(0, .ref a0), (1, .int x1)] [] w := by
  unfold fX8_years at h
  refine r_aload_n dX8_years_0 0 rfl ?_
  obtain ⟨h1, h⟩ := chk_some h
  refine r_getI (fl_RX8_76 rfl) rfl dX8_years_1 h1 ?_
  refine r_if_ne (tgt := 14) dX8_years_4 (by decide) (fun c2 => ?_) (fun c2 => ?_)
  · rw [if_neg c2] at h
    refine r_iload_n dX8_years_14 1 rfl ?_
    refine r_iconst (v := 1) dX8_years_15 (by decide) ?_
    refine r_bipush (v := 60) dX8_years_16 (by decide) ?_
    obtain ⟨q3, g4, h⟩ := ob_some h
    refine r_callS (d' := (6, 0, false)) (As := [.int x1, .int 1, .int 60]) (st := []) mds_X8_within tm_RX8_79 rfl (by decide) rfl (Nat.le_refl _) (Nat.le_of_ble_eq_true rfl) rfl dX8_years_18 (ctX8_within g4) (k_I0 ?_)
    refine r_if_ne (tgt := 31) dX8_years_21 (by decide) (fun c5 => ?_) (fun c5 => ?_)
    · rw [if_neg c5] at h
      refine r_iconst (v := 0) dX8_years_31 (by decide) ?_
      refine r_istore_n dX8_years_32 rfl (Nat.le_of_ble_eq_true rfl) [(2, .int 0), (0, .ref a0), (1, .int x1)] rfl ?_
      refine r_sub [1, 2, 0] [(0, .ref a0), (1, .int x1), (2, .int 0)] rfl ?_
      exact okX8_years_L33 h hk
    · rw [if_pos c5] at h
      refine r_aload_n dX8_years_24 0 rfl ?_
      refine r_bipush (v := (-6)) dX8_years_25 (by decide) ?_
      obtain ⟨h6, h⟩ := chk_some h
      obtain ⟨q7, g8, h⟩ := ob_some h
      refine r_callV (d' := (6, 0, false)) (As := [.int (-6)]) (st := []) mdv_X8_no tm_RX8_72 (by decide) rfl rfl (by decide) rfl (Nat.le_refl _) (Nat.le_of_ble_eq_true rfl) rfl dX8_years_27 h6 (ctX8_no g8) (k_I0 ?_)
      rw [← Option.some.inj h] at hk
      exact r_ireturn dX8_years_30 rfl rfl hk
  · rw [if_pos c2] at h
    refine r_aload_n dX8_years_7 0 rfl ?_
    refine r_bipush (v := (-5)) dX8_years_8 (by decide) ?_
    obtain ⟨q9, g10, h⟩ := ob_some h
    refine r_callV (d' := (6, 0, false)) (As := [.int (-5)]) (st := []) mdv_X8_no tm_RX8_72 (by decide) rfl rfl (by decide) rfl (Nat.le_refl _) (Nat.le_of_ble_eq_true rfl) rfl dX8_years_10 h1 (ctX8_no g10) (k_I0 ?_)
    rw [← Option.some.inj h] at hk
    exact r_ireturn dX8_years_13 rfl rfl hk
set_option maxHeartbeats 1000000 in
set_option maxRecDepth 20000 in
theorem ctX8_years {E : Ev} {a0 : Nat} {x1 : Int32} {w : Wd} {q : Int32 × Wd} (h : fX8_years a0 x1 w = some q) : CT E mX8_years (10, 0, false) [.ref a0, .int x1] w (QI q) := CT.of pl_RX8 (Nat.le_of_ble_eq_true rfl) (okX8_years h ⟨rfl, rfl⟩)
