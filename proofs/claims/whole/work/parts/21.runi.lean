def fX2_init (a0 : Nat) (w : Wd) : Option (Wd) :=
  chk (wN w < 999) (bnd (wN w) (fun o2 => bnd (al w 0 (12 : Int32).toNatClampNeg) (fun w4 => chk (isO w4 a0 2) (bnd (sR w4 a0 0 (some o2)) (fun w7 => chk (wN w7 < 999) (bnd (wN w7) (fun o10 => bnd (al w7 0 (12 : Int32).toNatClampNeg) (fun w12 => chk (isO w12 a0 2) (bnd (sR w12 a0 1 (some o10)) (fun w15 => chk (isO w15 a0 2) (bnd (sI w15 a0 2 0) (fun w18 => chk (isO w18 a0 2) (bnd (sI w18 a0 3 0) (fun w21 => chk (isO w21 a0 2) (bnd (sI w21 a0 4 (-1)) (fun w24 => some w24))))))))))))))))
set_option maxHeartbeats 1000000 in
set_option maxRecDepth 20000 in
theorem okX2_init {E : Ev} {Q : Option Value → Wd → Prop} {a0 : Nat} {w : Wd} {q : Wd} (h : fX2_init a0 w = some q) (hk : (fun q : Wd => Q none q) q) : Runs E mX2_init (6, 2, true) Q 0 0 [(0, .ref a0)] [] w := by
  unfold fX2_init at h
  refine r_aload_n dX2_init_0 0 rfl ?_
  refine r_objInit (Nat.le_of_ble_eq_true rfl) (Nat.le_of_ble_eq_true rfl) tm_RX2_3 tin_obj tco_obj dX2_init_1 ?_
  refine r_aload_n dX2_init_4 0 rfl ?_
  refine r_bipush (v := 12) dX2_init_5 (by decide) ?_
  obtain ⟨h1, h⟩ := chk_some h
  obtain ⟨o2, e3, h⟩ := bnd_some h
  obtain ⟨w4, e5, h⟩ := bnd_some h
  refine r_newI rfl (by decide) tarr0 (by decide) (by decide) h1 dX2_init_7 ?_
  refine r_eqR e3 ?_
  refine r_eqW e5 ?_
  obtain ⟨h6, h⟩ := chk_some h
  obtain ⟨w7, e8, h⟩ := bnd_some h
  refine r_putF (fl_RX2_9 rfl) rfl rfl rfl rfl (ck_ty (by decide) 0 (by decide)) rfl rfl dX2_init_9 h6 ?_
  refine r_eqW e8 ?_
  refine r_aload_n dX2_init_12 0 rfl ?_
  refine r_bipush (v := 12) dX2_init_13 (by decide) ?_
  obtain ⟨h9, h⟩ := chk_some h
  obtain ⟨o10, e11, h⟩ := bnd_some h
  obtain ⟨w12, e13, h⟩ := bnd_some h
  refine r_newI rfl (by decide) tarr0 (by decide) (by decide) h9 dX2_init_15 ?_
  refine r_eqR e11 ?_
  refine r_eqW e13 ?_
  obtain ⟨h14, h⟩ := chk_some h
  obtain ⟨w15, e16, h⟩ := bnd_some h
  refine r_putF (fl_RX2_15 rfl) rfl rfl rfl rfl (ck_ty (by decide) 1 (by decide)) rfl rfl dX2_init_17 h14 ?_
  refine r_eqW e16 ?_
  refine r_aload_n dX2_init_20 0 rfl ?_
  refine r_iconst (v := 0) dX2_init_21 (by decide) ?_
  obtain ⟨h17, h⟩ := chk_some h
  obtain ⟨w18, e19, h⟩ := bnd_some h
  refine r_putI (fl_RX2_18 rfl) rfl rfl (ck_ty (by decide) 2 (by decide)) rfl rfl dX2_init_22 h17 ?_
  refine r_eqW e19 ?_
  refine r_aload_n dX2_init_25 0 rfl ?_
  refine r_iconst (v := 0) dX2_init_26 (by decide) ?_
  obtain ⟨h20, h⟩ := chk_some h
  obtain ⟨w21, e22, h⟩ := bnd_some h
  refine r_putI (fl_RX2_22 rfl) rfl rfl (ck_ty (by decide) 3 (by decide)) rfl rfl dX2_init_27 h20 ?_
  refine r_eqW e22 ?_
  refine r_aload_n dX2_init_30 0 rfl ?_
  refine r_iconst (v := (-1)) dX2_init_31 (by decide) ?_
  obtain ⟨h23, h⟩ := chk_some h
  obtain ⟨w24, e25, h⟩ := bnd_some h
  refine r_putI (fl_RX2_25 rfl) rfl rfl (ck_ty (by decide) 4 (by decide)) rfl rfl dX2_init_32 h23 ?_
  refine r_eqW e25 ?_
  rw [← Option.some.inj h] at hk
  exact r_return dX2_init_35 rfl hk
set_option maxHeartbeats 1000000 in
set_option maxRecDepth 20000 in
theorem ctX2_init {E : Ev} {a0 : Nat} {w : Wd} {q : Wd} (h : fX2_init a0 w = some q) : CT E mX2_init (6, 2, true) [.ref a0] w (QV q) := CT.of pl_RX2 (Nat.le_of_ble_eq_true rfl) (okX2_init h ⟨rfl, rfl⟩)
def fX4_init (a0 : Nat) (w : Wd) : Option (Wd) :=
  chk (wN w < 999) (bnd (wN w) (fun o2 => bnd (al w 0 (12 : Int32).toNatClampNeg) (fun w4 => chk (isO w4 a0 4) (bnd (sR w4 a0 0 (some o2)) (fun w7 => chk (isO w7 a0 4) (bnd (sI w7 a0 1 0) (fun w10 => some w10)))))))
set_option maxHeartbeats 1000000 in
set_option maxRecDepth 20000 in
theorem okX4_init {E : Ev} {Q : Option Value → Wd → Prop} {a0 : Nat} {w : Wd} {q : Wd} (h : fX4_init a0 w = some q) (hk : (fun q : Wd => Q none q) q) : Runs E mX4_init (6, 1, true) Q 0 0 [(0, .ref a0)] [] w := by
  unfold fX4_init at h
  refine r_aload_n dX4_init_0 0 rfl ?_
  refine r_objInit (Nat.le_of_ble_eq_true rfl) (Nat.le_of_ble_eq_true rfl) tm_RX4_3 tin_obj tco_obj dX4_init_1 ?_
  refine r_aload_n dX4_init_4 0 rfl ?_
  refine r_bipush (v := 12) dX4_init_5 (by decide) ?_
  obtain ⟨h1, h⟩ := chk_some h
  obtain ⟨o2, e3, h⟩ := bnd_some h
  obtain ⟨w4, e5, h⟩ := bnd_some h
  refine r_newI rfl (by decide) tarr0 (by decide) (by decide) h1 dX4_init_7 ?_
  refine r_eqR e3 ?_
  refine r_eqW e5 ?_
  obtain ⟨h6, h⟩ := chk_some h
  obtain ⟨w7, e8, h⟩ := bnd_some h
  refine r_putF (fl_RX4_9 rfl) rfl rfl rfl rfl (ck_ty (by decide) 0 (by decide)) rfl rfl dX4_init_9 h6 ?_
  refine r_eqW e8 ?_
  refine r_aload_n dX4_init_12 0 rfl ?_
  refine r_iconst (v := 0) dX4_init_13 (by decide) ?_
  obtain ⟨h9, h⟩ := chk_some h
  obtain ⟨w10, e11, h⟩ := bnd_some h
  refine r_putI (fl_RX4_15 rfl) rfl rfl (ck_ty (by decide) 1 (by decide)) rfl rfl dX4_init_14 h9 ?_
  refine r_eqW e11 ?_
  rw [← Option.some.inj h] at hk
  exact r_return dX4_init_17 rfl hk
set_option maxHeartbeats 1000000 in
set_option maxRecDepth 20000 in
theorem ctX4_init {E : Ev} {a0 : Nat} {w : Wd} {q : Wd} (h : fX4_init a0 w = some q) : CT E mX4_init (6, 1, true) [.ref a0] w (QV q) := CT.of pl_RX4 (Nat.le_of_ble_eq_true rfl) (okX4_init h ⟨rfl, rfl⟩)
def fX0_init (a0 : Nat) (w : Wd) : Option (Wd) :=
  chk (wN w < 999) (bnd (wN w) (fun o2 => bnd (al w 3 (6 : Int32).toNatClampNeg) (fun w4 => chk (isO w4 a0 0) (bnd (sR w4 a0 0 (some o2)) (fun w7 => chk (wN w7 < 999) (bnd (wN w7) (fun o10 => bnd (al w7 2 (8 : Int32).toNatClampNeg) (fun w12 => chk (isO w12 a0 0) (bnd (sR w12 a0 1 (some o10)) (fun w15 => chk (wN w15 < 999) (bnd (wN w15) (fun o18 => bnd (al w15 0 (6 : Int32).toNatClampNeg) (fun w20 => chk (isO w20 a0 0) (bnd (sR w20 a0 2 (some o18)) (fun w23 => chk (isO w23 a0 0) (bnd (sI w23 a0 3 0) (fun w26 => chk (isO w26 a0 0) (bnd (sI w26 a0 4 0) (fun w29 => chk (isO w29 a0 0) (bnd (sI w29 a0 5 1) (fun w32 => chk (isO w32 a0 0) (bnd (sI w32 a0 6 0) (fun w35 => chk (isO w35 a0 0) (ob (wR w35 a0 0) (fun o38 => chk (wN w35 < 999) (bnd (wN w35) (fun o41 => bnd (al w35 14 0) (fun w43 => ob (fX4_init o41 w43) (fun q45 => chk (isA q45 o38 3) (chk (inb 0 (wn q45 o38)) (chk (isO q45 o41 4) (bnd (sR q45 o38 (0 : Int32).toNatClampNeg (some o41)) (fun w50 => chk (isO w50 a0 0) (ob (wR w50 a0 0) (fun o53 => chk (wN w50 < 999) (bnd (wN w50) (fun o56 => bnd (al w50 14 0) (fun w58 => ob (fX4_init o56 w58) (fun q60 => chk (isA q60 o53 3) (chk (inb 1 (wn q60 o53)) (chk (isO q60 o56 4) (bnd (sR q60 o53 (1 : Int32).toNatClampNeg (some o56)) (fun w65 => chk (isO w65 a0 0) (ob (wR w65 a0 0) (fun o68 => chk (wN w65 < 999) (bnd (wN w65) (fun o71 => bnd (al w65 14 0) (fun w73 => ob (fX4_init o71 w73) (fun q75 => chk (isA q75 o68 3) (chk (inb 2 (wn q75 o68)) (chk (isO q75 o71 4) (bnd (sR q75 o68 (2 : Int32).toNatClampNeg (some o71)) (fun w80 => chk (isO w80 a0 0) (ob (wR w80 a0 0) (fun o83 => chk (wN w80 < 999) (bnd (wN w80) (fun o86 => bnd (al w80 14 0) (fun w88 => ob (fX4_init o86 w88) (fun q90 => chk (isA q90 o83 3) (chk (inb 3 (wn q90 o83)) (chk (isO q90 o86 4) (bnd (sR q90 o83 (3 : Int32).toNatClampNeg (some o86)) (fun w95 => chk (isO w95 a0 0) (ob (wR w95 a0 0) (fun o98 => chk (wN w95 < 999) (bnd (wN w95) (fun o101 => bnd (al w95 14 0) (fun w103 => ob (fX4_init o101 w103) (fun q105 => chk (isA q105 o98 3) (chk (inb 4 (wn q105 o98)) (chk (isO q105 o101 4) (bnd (sR q105 o98 (4 : Int32).toNatClampNeg (some o101)) (fun w110 => chk (isO w110 a0 0) (ob (wR w110 a0 0) (fun o113 => chk (wN w110 < 999) (bnd (wN w110) (fun o116 => bnd (al w110 14 0) (fun w118 => ob (fX4_init o116 w118) (fun q120 => chk (isA q120 o113 3) (chk (inb 5 (wn q120 o113)) (chk (isO q120 o116 4) (bnd (sR q120 o113 (5 : Int32).toNatClampNeg (some o116)) (fun w125 => chk (isO w125 a0 0) (ob (wR w125 a0 1) (fun o128 => chk (wN w125 < 999) (bnd (wN w125) (fun o131 => bnd (al w125 12 0) (fun w133 => ob (fX2_init o131 w133) (fun q135 => chk (isA q135 o128 2) (chk (inb 0 (wn q135 o128)) (chk (isO q135 o131 2) (bnd (sR q135 o128 (0 : Int32).toNatClampNeg (some o131)) (fun w140 => chk (isO w140 a0 0) (ob (wR w140 a0 1) (fun o143 => chk (wN w140 < 999) (bnd (wN w140) (fun o146 => bnd (al w140 12 0) (fun w148 => ob (fX2_init o146 w148) (fun q150 => chk (isA q150 o143 2) (chk (inb 1 (wn q150 o143)) (chk (isO q150 o146 2) (bnd (sR q150 o143 (1 : Int32).toNatClampNeg (some o146)) (fun w155 => chk (isO w155 a0 0) (ob (wR w155 a0 1) (fun o158 => chk (wN w155 < 999) (bnd (wN w155) (fun o161 => bnd (al w155 12 0) (fun w163 => ob (fX2_init o161 w163) (fun q165 => chk (isA q165 o158 2) (chk (inb 2 (wn q165 o158)) (chk (isO q165 o161 2) (bnd (sR q165 o158 (2 : Int32).toNatClampNeg (some o161)) (fun w170 => chk (isO w170 a0 0) (ob (wR w170 a0 1) (fun o173 => chk (wN w170 < 999) (bnd (wN w170) (fun o176 => bnd (al w170 12 0) (fun w178 => ob (fX2_init o176 w178) (fun q180 => chk (isA q180 o173 2) (chk (inb 3 (wn q180 o173)) (chk (isO q180 o176 2) (bnd (sR q180 o173 (3 : Int32).toNatClampNeg (some o176)) (fun w185 => chk (isO w185 a0 0) (ob (wR w185 a0 1) (fun o188 => chk (wN w185 < 999) (bnd (wN w185) (fun o191 => bnd (al w185 12 0) (fun w193 => ob (fX2_init o191 w193) (fun q195 => chk (isA q195 o188 2) (chk (inb 4 (wn q195 o188)) (chk (isO q195 o191 2) (bnd (sR q195 o188 (4 : Int32).toNatClampNeg (some o191)) (fun w200 => chk (isO w200 a0 0) (ob (wR w200 a0 1) (fun o203 => chk (wN w200 < 999) (bnd (wN w200) (fun o206 => bnd (al w200 12 0) (fun w208 => ob (fX2_init o206 w208) (fun q210 => chk (isA q210 o203 2) (chk (inb 5 (wn q210 o203)) (chk (isO q210 o206 2) (bnd (sR q210 o203 (5 : Int32).toNatClampNeg (some o206)) (fun w215 => chk (isO w215 a0 0) (ob (wR w215 a0 1) (fun o218 => chk (wN w215 < 999) (bnd (wN w215) (fun o221 => bnd (al w215 12 0) (fun w223 => ob (fX2_init o221 w223) (fun q225 => chk (isA q225 o218 2) (chk (inb 6 (wn q225 o218)) (chk (isO q225 o221 2) (bnd (sR q225 o218 (6 : Int32).toNatClampNeg (some o221)) (fun w230 => chk (isO w230 a0 0) (ob (wR w230 a0 1) (fun o233 => chk (wN w230 < 999) (bnd (wN w230) (fun o236 => bnd (al w230 12 0) (fun w238 => ob (fX2_init o236 w238) (fun q240 => chk (isA q240 o233 2) (chk (inb 7 (wn q240 o233)) (chk (isO q240 o236 2) (bnd (sR q240 o233 (7 : Int32).toNatClampNeg (some o236)) (fun w245 => some w245)))))))))))))))))))))))))))))))))))))))))))))))))))))))))))))))))))))))))))))))))))))))))))))))))))))))))))))))))))))))))))))))))))))))))))))))))))))))))))))))))))
set_option maxHeartbeats 1000000 in
set_option maxRecDepth 20000 in
theorem okX0_init {E : Ev} {Q : Option Value → Wd → Prop} {a0 : Nat} {w : Wd} {q : Wd} (h : fX0_init a0 w = some q) (hk : (fun q : Wd => Q none q) q) : Runs E mX0_init (7, 39, true) Q 0 0 [(0, .ref a0)] [] w := by
  unfold fX0_init at h
  refine r_aload_n dX0_init_0 0 rfl ?_
  refine r_objInit (Nat.le_of_ble_eq_true rfl) (Nat.le_of_ble_eq_true rfl) tm_RX0_3 tin_obj tco_obj dX0_init_1 ?_
  refine r_aload_n dX0_init_4 0 rfl ?_
  refine r_bipush (v := 6) dX0_init_5 (by decide) ?_
  obtain ⟨h1, h⟩ := chk_some h
  obtain ⟨o2, e3, h⟩ := bnd_some h
  obtain ⟨w4, e5, h⟩ := bnd_some h
  refine r_anew 3 (by decide) (by decide) rfl (by decide) tc_RX0_9 (by decide) (by decide) h1 dX0_init_7 ?_
  refine r_eqR e3 ?_
  refine r_eqW e5 ?_
  obtain ⟨h6, h⟩ := chk_some h
  obtain ⟨w7, e8, h⟩ := bnd_some h
  refine r_putF (fl_RX0_11 rfl) rfl rfl rfl rfl (ck_ty (by decide) 0 (by decide)) rfl rfl dX0_init_10 h6 ?_
  refine r_eqW e8 ?_
  refine r_aload_n dX0_init_13 0 rfl ?_
  refine r_bipush (v := 8) dX0_init_14 (by decide) ?_
  obtain ⟨h9, h⟩ := chk_some h
  obtain ⟨o10, e11, h⟩ := bnd_some h
  obtain ⟨w12, e13, h⟩ := bnd_some h
  refine r_anew 2 (by decide) (by decide) rfl (by decide) tc_RX0_17 (by decide) (by decide) h9 dX0_init_16 ?_
  refine r_eqR e11 ?_
  refine r_eqW e13 ?_
  obtain ⟨h14, h⟩ := chk_some h
  obtain ⟨w15, e16, h⟩ := bnd_some h
  refine r_putF (fl_RX0_19 rfl) rfl rfl rfl rfl (ck_ty (by decide) 1 (by decide)) rfl rfl dX0_init_19 h14 ?_
  refine r_eqW e16 ?_
  refine r_aload_n dX0_init_22 0 rfl ?_
  refine r_bipush (v := 6) dX0_init_23 (by decide) ?_
  obtain ⟨h17, h⟩ := chk_some h
  obtain ⟨o18, e19, h⟩ := bnd_some h
  obtain ⟨w20, e21, h⟩ := bnd_some h
  refine r_newI rfl (by decide) tarr0 (by decide) (by decide) h17 dX0_init_25 ?_
  refine r_eqR e19 ?_
  refine r_eqW e21 ?_
  obtain ⟨h22, h⟩ := chk_some h
  obtain ⟨w23, e24, h⟩ := bnd_some h
  refine r_putF (fl_RX0_23 rfl) rfl rfl rfl rfl (ck_ty (by decide) 2 (by decide)) rfl rfl dX0_init_27 h22 ?_
  refine r_eqW e24 ?_
  refine r_aload_n dX0_init_30 0 rfl ?_
  refine r_iconst (v := 0) dX0_init_31 (by decide) ?_
  obtain ⟨h25, h⟩ := chk_some h
  obtain ⟨w26, e27, h⟩ := bnd_some h
  refine r_putI (fl_RX0_27 rfl) rfl rfl (ck_ty (by decide) 3 (by decide)) rfl rfl dX0_init_32 h25 ?_
  refine r_eqW e27 ?_
  refine r_aload_n dX0_init_35 0 rfl ?_
  refine r_iconst (v := 0) dX0_init_36 (by decide) ?_
  obtain ⟨h28, h⟩ := chk_some h
  obtain ⟨w29, e30, h⟩ := bnd_some h
  refine r_putI (fl_RX0_31 rfl) rfl rfl (ck_ty (by decide) 4 (by decide)) rfl rfl dX0_init_37 h28 ?_
  refine r_eqW e30 ?_
  refine r_aload_n dX0_init_40 0 rfl ?_
  refine r_iconst (v := 1) dX0_init_41 (by decide) ?_
  obtain ⟨h31, h⟩ := chk_some h
  obtain ⟨w32, e33, h⟩ := bnd_some h
  refine r_putI (fl_RX0_34 rfl) rfl rfl (ck_ty (by decide) 5 (by decide)) rfl rfl dX0_init_42 h31 ?_
  refine r_eqW e33 ?_
  refine r_aload_n dX0_init_45 0 rfl ?_
  refine r_iconst (v := 0) dX0_init_46 (by decide) ?_
  obtain ⟨h34, h⟩ := chk_some h
  obtain ⟨w35, e36, h⟩ := bnd_some h
  refine r_putI (fl_RX0_37 rfl) rfl rfl (ck_ty (by decide) 6 (by decide)) rfl rfl dX0_init_47 h34 ?_
  refine r_eqW e36 ?_
  refine r_iconst (v := 0) dX0_init_50 (by decide) ?_
  refine r_istore_n dX0_init_51 rfl (Nat.le_of_ble_eq_true rfl) [(1, .int 0), (0, .ref a0)] rfl ?_
  refine r_iload_n dX0_init_52 0 rfl ?_
  refine r_bipush (v := 6) dX0_init_53 (by decide) ?_
  refine r_icmp_ge (tgt := 77) dX0_init_55 (by decide) (fun hc => absurd hc (by decide)) (fun _ => ?_)
  refine r_aload_n dX0_init_58 1 rfl ?_
  obtain ⟨h37, h⟩ := chk_some h
  obtain ⟨o38, g39, h⟩ := ob_some h
  refine r_getR (fl_RX0_11 rfl) rfl dX0_init_59 h37 g39 ?_
  refine r_iload_n dX0_init_62 0 rfl ?_
  obtain ⟨h40, h⟩ := chk_some h
  obtain ⟨o41, e42, h⟩ := bnd_some h
  obtain ⟨w43, e44, h⟩ := bnd_some h
  refine r_new rfl (by decide) (by decide) kw_4 tc_RX0_9 tinst_4 ti_RX4 h40 dX0_init_63 ?_
  refine r_eqR e42 ?_
  refine r_eqW e44 ?_
  refine r_dup dX0_init_66 rfl ?_
  obtain ⟨q45, g46, h⟩ := ob_some h
  refine r_callIN (d' := (6, 1, true)) (As := []) (st := [.ref o41, .int 0, .ref o38]) mdi_X4_init (by decide) rfl (by decide) rfl (by decide) (Nat.le_of_ble_eq_true rfl) rfl dX0_init_67 (ctX4_init g46) (k_V ?_)
  obtain ⟨h47, h⟩ := chk_some h
  obtain ⟨h48, h⟩ := chk_some h
  obtain ⟨h49, h⟩ := chk_some h
  obtain ⟨w50, e51, h⟩ := bnd_some h
  refine r_aastore (ci := 4) 3 (by decide) (by decide) ⟨_, _, ck_at (by decide)⟩ dX0_init_70 h47 h48 h49 ?_
  refine r_eqW e51 ?_
  refine r_iinc (v := 1) dX0_init_71 0 rfl (by decide) (Nat.le_of_ble_eq_true rfl) [(1, .int 1), (0, .ref a0)] rfl ?_
  refine r_goto (tgt := 52) dX0_init_74 (by decide) ?_
  refine r_iload_n dX0_init_52 0 rfl ?_
  refine r_bipush (v := 6) dX0_init_53 (by decide) ?_
  refine r_icmp_ge (tgt := 77) dX0_init_55 (by decide) (fun hc => absurd hc (by decide)) (fun _ => ?_)
  refine r_aload_n dX0_init_58 1 rfl ?_
  obtain ⟨h52, h⟩ := chk_some h
  obtain ⟨o53, g54, h⟩ := ob_some h
  refine r_getR (fl_RX0_11 rfl) rfl dX0_init_59 h52 g54 ?_
  refine r_iload_n dX0_init_62 0 rfl ?_
  obtain ⟨h55, h⟩ := chk_some h
  obtain ⟨o56, e57, h⟩ := bnd_some h
  obtain ⟨w58, e59, h⟩ := bnd_some h
  refine r_new rfl (by decide) (by decide) kw_4 tc_RX0_9 tinst_4 ti_RX4 h55 dX0_init_63 ?_
  refine r_eqR e57 ?_
  refine r_eqW e59 ?_
  refine r_dup dX0_init_66 rfl ?_
  obtain ⟨q60, g61, h⟩ := ob_some h
  refine r_callIN (d' := (6, 1, true)) (As := []) (st := [.ref o56, .int 1, .ref o53]) mdi_X4_init (by decide) rfl (by decide) rfl (by decide) (Nat.le_of_ble_eq_true rfl) rfl dX0_init_67 (ctX4_init g61) (k_V ?_)
  obtain ⟨h62, h⟩ := chk_some h
  obtain ⟨h63, h⟩ := chk_some h
  obtain ⟨h64, h⟩ := chk_some h
  obtain ⟨w65, e66, h⟩ := bnd_some h
  refine r_aastore (ci := 4) 3 (by decide) (by decide) ⟨_, _, ck_at (by decide)⟩ dX0_init_70 h62 h63 h64 ?_
  refine r_eqW e66 ?_
  refine r_iinc (v := 2) dX0_init_71 0 rfl (by decide) (Nat.le_of_ble_eq_true rfl) [(1, .int 2), (0, .ref a0)] rfl ?_
  refine r_goto (tgt := 52) dX0_init_74 (by decide) ?_
  refine r_iload_n dX0_init_52 0 rfl ?_
  refine r_bipush (v := 6) dX0_init_53 (by decide) ?_
  refine r_icmp_ge (tgt := 77) dX0_init_55 (by decide) (fun hc => absurd hc (by decide)) (fun _ => ?_)
  refine r_aload_n dX0_init_58 1 rfl ?_
  obtain ⟨h67, h⟩ := chk_some h
  obtain ⟨o68, g69, h⟩ := ob_some h
  refine r_getR (fl_RX0_11 rfl) rfl dX0_init_59 h67 g69 ?_
  refine r_iload_n dX0_init_62 0 rfl ?_
  obtain ⟨h70, h⟩ := chk_some h
  obtain ⟨o71, e72, h⟩ := bnd_some h
  obtain ⟨w73, e74, h⟩ := bnd_some h
  refine r_new rfl (by decide) (by decide) kw_4 tc_RX0_9 tinst_4 ti_RX4 h70 dX0_init_63 ?_
  refine r_eqR e72 ?_
  refine r_eqW e74 ?_
  refine r_dup dX0_init_66 rfl ?_
  obtain ⟨q75, g76, h⟩ := ob_some h
  refine r_callIN (d' := (6, 1, true)) (As := []) (st := [.ref o71, .int 2, .ref o68]) mdi_X4_init (by decide) rfl (by decide) rfl (by decide) (Nat.le_of_ble_eq_true rfl) rfl dX0_init_67 (ctX4_init g76) (k_V ?_)
  obtain ⟨h77, h⟩ := chk_some h
  obtain ⟨h78, h⟩ := chk_some h
  obtain ⟨h79, h⟩ := chk_some h
  obtain ⟨w80, e81, h⟩ := bnd_some h
  refine r_aastore (ci := 4) 3 (by decide) (by decide) ⟨_, _, ck_at (by decide)⟩ dX0_init_70 h77 h78 h79 ?_
  refine r_eqW e81 ?_
  refine r_iinc (v := 3) dX0_init_71 0 rfl (by decide) (Nat.le_of_ble_eq_true rfl) [(1, .int 3), (0, .ref a0)] rfl ?_
  refine r_goto (tgt := 52) dX0_init_74 (by decide) ?_
  refine r_iload_n dX0_init_52 0 rfl ?_
  refine r_bipush (v := 6) dX0_init_53 (by decide) ?_
  refine r_icmp_ge (tgt := 77) dX0_init_55 (by decide) (fun hc => absurd hc (by decide)) (fun _ => ?_)
  refine r_aload_n dX0_init_58 1 rfl ?_
  obtain ⟨h82, h⟩ := chk_some h
  obtain ⟨o83, g84, h⟩ := ob_some h
  refine r_getR (fl_RX0_11 rfl) rfl dX0_init_59 h82 g84 ?_
  refine r_iload_n dX0_init_62 0 rfl ?_
  obtain ⟨h85, h⟩ := chk_some h
  obtain ⟨o86, e87, h⟩ := bnd_some h
  obtain ⟨w88, e89, h⟩ := bnd_some h
  refine r_new rfl (by decide) (by decide) kw_4 tc_RX0_9 tinst_4 ti_RX4 h85 dX0_init_63 ?_
  refine r_eqR e87 ?_
  refine r_eqW e89 ?_
  refine r_dup dX0_init_66 rfl ?_
  obtain ⟨q90, g91, h⟩ := ob_some h
  refine r_callIN (d' := (6, 1, true)) (As := []) (st := [.ref o86, .int 3, .ref o83]) mdi_X4_init (by decide) rfl (by decide) rfl (by decide) (Nat.le_of_ble_eq_true rfl) rfl dX0_init_67 (ctX4_init g91) (k_V ?_)
  obtain ⟨h92, h⟩ := chk_some h
  obtain ⟨h93, h⟩ := chk_some h
  obtain ⟨h94, h⟩ := chk_some h
  obtain ⟨w95, e96, h⟩ := bnd_some h
  refine r_aastore (ci := 4) 3 (by decide) (by decide) ⟨_, _, ck_at (by decide)⟩ dX0_init_70 h92 h93 h94 ?_
  refine r_eqW e96 ?_
  refine r_iinc (v := 4) dX0_init_71 0 rfl (by decide) (Nat.le_of_ble_eq_true rfl) [(1, .int 4), (0, .ref a0)] rfl ?_
  refine r_goto (tgt := 52) dX0_init_74 (by decide) ?_
  refine r_iload_n dX0_init_52 0 rfl ?_
  refine r_bipush (v := 6) dX0_init_53 (by decide) ?_
  refine r_icmp_ge (tgt := 77) dX0_init_55 (by decide) (fun hc => absurd hc (by decide)) (fun _ => ?_)
  refine r_aload_n dX0_init_58 1 rfl ?_
  obtain ⟨h97, h⟩ := chk_some h
  obtain ⟨o98, g99, h⟩ := ob_some h
  refine r_getR (fl_RX0_11 rfl) rfl dX0_init_59 h97 g99 ?_
  refine r_iload_n dX0_init_62 0 rfl ?_
  obtain ⟨h100, h⟩ := chk_some h
  obtain ⟨o101, e102, h⟩ := bnd_some h
  obtain ⟨w103, e104, h⟩ := bnd_some h
  refine r_new rfl (by decide) (by decide) kw_4 tc_RX0_9 tinst_4 ti_RX4 h100 dX0_init_63 ?_
  refine r_eqR e102 ?_
  refine r_eqW e104 ?_
  refine r_dup dX0_init_66 rfl ?_
  obtain ⟨q105, g106, h⟩ := ob_some h
  refine r_callIN (d' := (6, 1, true)) (As := []) (st := [.ref o101, .int 4, .ref o98]) mdi_X4_init (by decide) rfl (by decide) rfl (by decide) (Nat.le_of_ble_eq_true rfl) rfl dX0_init_67 (ctX4_init g106) (k_V ?_)
  obtain ⟨h107, h⟩ := chk_some h
  obtain ⟨h108, h⟩ := chk_some h
  obtain ⟨h109, h⟩ := chk_some h
  obtain ⟨w110, e111, h⟩ := bnd_some h
  refine r_aastore (ci := 4) 3 (by decide) (by decide) ⟨_, _, ck_at (by decide)⟩ dX0_init_70 h107 h108 h109 ?_
  refine r_eqW e111 ?_
  refine r_iinc (v := 5) dX0_init_71 0 rfl (by decide) (Nat.le_of_ble_eq_true rfl) [(1, .int 5), (0, .ref a0)] rfl ?_
  refine r_goto (tgt := 52) dX0_init_74 (by decide) ?_
  refine r_iload_n dX0_init_52 0 rfl ?_
  refine r_bipush (v := 6) dX0_init_53 (by decide) ?_
  refine r_icmp_ge (tgt := 77) dX0_init_55 (by decide) (fun hc => absurd hc (by decide)) (fun _ => ?_)
  refine r_aload_n dX0_init_58 1 rfl ?_
  obtain ⟨h112, h⟩ := chk_some h
  obtain ⟨o113, g114, h⟩ := ob_some h
  refine r_getR (fl_RX0_11 rfl) rfl dX0_init_59 h112 g114 ?_
  refine r_iload_n dX0_init_62 0 rfl ?_
  obtain ⟨h115, h⟩ := chk_some h
  obtain ⟨o116, e117, h⟩ := bnd_some h
  obtain ⟨w118, e119, h⟩ := bnd_some h
  refine r_new rfl (by decide) (by decide) kw_4 tc_RX0_9 tinst_4 ti_RX4 h115 dX0_init_63 ?_
  refine r_eqR e117 ?_
  refine r_eqW e119 ?_
  refine r_dup dX0_init_66 rfl ?_
  obtain ⟨q120, g121, h⟩ := ob_some h
  refine r_callIN (d' := (6, 1, true)) (As := []) (st := [.ref o116, .int 5, .ref o113]) mdi_X4_init (by decide) rfl (by decide) rfl (by decide) (Nat.le_of_ble_eq_true rfl) rfl dX0_init_67 (ctX4_init g121) (k_V ?_)
  obtain ⟨h122, h⟩ := chk_some h
  obtain ⟨h123, h⟩ := chk_some h
  obtain ⟨h124, h⟩ := chk_some h
  obtain ⟨w125, e126, h⟩ := bnd_some h
  refine r_aastore (ci := 4) 3 (by decide) (by decide) ⟨_, _, ck_at (by decide)⟩ dX0_init_70 h122 h123 h124 ?_
  refine r_eqW e126 ?_
  refine r_iinc (v := 6) dX0_init_71 0 rfl (by decide) (Nat.le_of_ble_eq_true rfl) [(1, .int 6), (0, .ref a0)] rfl ?_
  refine r_goto (tgt := 52) dX0_init_74 (by decide) ?_
  refine r_iload_n dX0_init_52 0 rfl ?_
  refine r_bipush (v := 6) dX0_init_53 (by decide) ?_
  refine r_icmp_ge (tgt := 77) dX0_init_55 (by decide) (fun _ => ?_) (fun hc => absurd (by decide) hc)
  refine r_iconst (v := 0) dX0_init_77 (by decide) ?_
  refine r_istore_n dX0_init_78 rfl (Nat.le_of_ble_eq_true rfl) [(1, .int 0), (0, .ref a0)] rfl ?_
  refine r_iload_n dX0_init_79 0 rfl ?_
  refine r_bipush (v := 8) dX0_init_80 (by decide) ?_
  refine r_icmp_ge (tgt := 104) dX0_init_82 (by decide) (fun hc => absurd hc (by decide)) (fun _ => ?_)
  refine r_aload_n dX0_init_85 1 rfl ?_
  obtain ⟨h127, h⟩ := chk_some h
  obtain ⟨o128, g129, h⟩ := ob_some h
  refine r_getR (fl_RX0_19 rfl) rfl dX0_init_86 h127 g129 ?_
  refine r_iload_n dX0_init_89 0 rfl ?_
  obtain ⟨h130, h⟩ := chk_some h
  obtain ⟨o131, e132, h⟩ := bnd_some h
  obtain ⟨w133, e134, h⟩ := bnd_some h
  refine r_new rfl (by decide) (by decide) kw_2 tc_RX0_17 tinst_2 ti_RX2 h130 dX0_init_90 ?_
  refine r_eqR e132 ?_
  refine r_eqW e134 ?_
  refine r_dup dX0_init_93 rfl ?_
  obtain ⟨q135, g136, h⟩ := ob_some h
  refine r_callIN (d' := (6, 2, true)) (As := []) (st := [.ref o131, .int 0, .ref o128]) mdi_X2_init (by decide) rfl (by decide) rfl (by decide) (Nat.le_of_ble_eq_true rfl) rfl dX0_init_94 (ctX2_init g136) (k_V ?_)
  obtain ⟨h137, h⟩ := chk_some h
  obtain ⟨h138, h⟩ := chk_some h
  obtain ⟨h139, h⟩ := chk_some h
  obtain ⟨w140, e141, h⟩ := bnd_some h
  refine r_aastore (ci := 2) 2 (by decide) (by decide) ⟨_, _, ck_at (by decide)⟩ dX0_init_97 h137 h138 h139 ?_
  refine r_eqW e141 ?_
  refine r_iinc (v := 1) dX0_init_98 0 rfl (by decide) (Nat.le_of_ble_eq_true rfl) [(1, .int 1), (0, .ref a0)] rfl ?_
  refine r_goto (tgt := 79) dX0_init_101 (by decide) ?_
  refine r_iload_n dX0_init_79 0 rfl ?_
  refine r_bipush (v := 8) dX0_init_80 (by decide) ?_
  refine r_icmp_ge (tgt := 104) dX0_init_82 (by decide) (fun hc => absurd hc (by decide)) (fun _ => ?_)
  refine r_aload_n dX0_init_85 1 rfl ?_
  obtain ⟨h142, h⟩ := chk_some h
  obtain ⟨o143, g144, h⟩ := ob_some h
  refine r_getR (fl_RX0_19 rfl) rfl dX0_init_86 h142 g144 ?_
  refine r_iload_n dX0_init_89 0 rfl ?_
  obtain ⟨h145, h⟩ := chk_some h
  obtain ⟨o146, e147, h⟩ := bnd_some h
  obtain ⟨w148, e149, h⟩ := bnd_some h
  refine r_new rfl (by decide) (by decide) kw_2 tc_RX0_17 tinst_2 ti_RX2 h145 dX0_init_90 ?_
  refine r_eqR e147 ?_
  refine r_eqW e149 ?_
  refine r_dup dX0_init_93 rfl ?_
  obtain ⟨q150, g151, h⟩ := ob_some h
  refine r_callIN (d' := (6, 2, true)) (As := []) (st := [.ref o146, .int 1, .ref o143]) mdi_X2_init (by decide) rfl (by decide) rfl (by decide) (Nat.le_of_ble_eq_true rfl) rfl dX0_init_94 (ctX2_init g151) (k_V ?_)
  obtain ⟨h152, h⟩ := chk_some h
  obtain ⟨h153, h⟩ := chk_some h
  obtain ⟨h154, h⟩ := chk_some h
  obtain ⟨w155, e156, h⟩ := bnd_some h
  refine r_aastore (ci := 2) 2 (by decide) (by decide) ⟨_, _, ck_at (by decide)⟩ dX0_init_97 h152 h153 h154 ?_
  refine r_eqW e156 ?_
  refine r_iinc (v := 2) dX0_init_98 0 rfl (by decide) (Nat.le_of_ble_eq_true rfl) [(1, .int 2), (0, .ref a0)] rfl ?_
  refine r_goto (tgt := 79) dX0_init_101 (by decide) ?_
  refine r_iload_n dX0_init_79 0 rfl ?_
  refine r_bipush (v := 8) dX0_init_80 (by decide) ?_
  refine r_icmp_ge (tgt := 104) dX0_init_82 (by decide) (fun hc => absurd hc (by decide)) (fun _ => ?_)
  refine r_aload_n dX0_init_85 1 rfl ?_
  obtain ⟨h157, h⟩ := chk_some h
  obtain ⟨o158, g159, h⟩ := ob_some h
  refine r_getR (fl_RX0_19 rfl) rfl dX0_init_86 h157 g159 ?_
  refine r_iload_n dX0_init_89 0 rfl ?_
  obtain ⟨h160, h⟩ := chk_some h
  obtain ⟨o161, e162, h⟩ := bnd_some h
  obtain ⟨w163, e164, h⟩ := bnd_some h
  refine r_new rfl (by decide) (by decide) kw_2 tc_RX0_17 tinst_2 ti_RX2 h160 dX0_init_90 ?_
  refine r_eqR e162 ?_
  refine r_eqW e164 ?_
  refine r_dup dX0_init_93 rfl ?_
  obtain ⟨q165, g166, h⟩ := ob_some h
  refine r_callIN (d' := (6, 2, true)) (As := []) (st := [.ref o161, .int 2, .ref o158]) mdi_X2_init (by decide) rfl (by decide) rfl (by decide) (Nat.le_of_ble_eq_true rfl) rfl dX0_init_94 (ctX2_init g166) (k_V ?_)
  obtain ⟨h167, h⟩ := chk_some h
  obtain ⟨h168, h⟩ := chk_some h
  obtain ⟨h169, h⟩ := chk_some h
  obtain ⟨w170, e171, h⟩ := bnd_some h
  refine r_aastore (ci := 2) 2 (by decide) (by decide) ⟨_, _, ck_at (by decide)⟩ dX0_init_97 h167 h168 h169 ?_
  refine r_eqW e171 ?_
  refine r_iinc (v := 3) dX0_init_98 0 rfl (by decide) (Nat.le_of_ble_eq_true rfl) [(1, .int 3), (0, .ref a0)] rfl ?_
  refine r_goto (tgt := 79) dX0_init_101 (by decide) ?_
  refine r_iload_n dX0_init_79 0 rfl ?_
  refine r_bipush (v := 8) dX0_init_80 (by decide) ?_
  refine r_icmp_ge (tgt := 104) dX0_init_82 (by decide) (fun hc => absurd hc (by decide)) (fun _ => ?_)
  refine r_aload_n dX0_init_85 1 rfl ?_
  obtain ⟨h172, h⟩ := chk_some h
  obtain ⟨o173, g174, h⟩ := ob_some h
  refine r_getR (fl_RX0_19 rfl) rfl dX0_init_86 h172 g174 ?_
  refine r_iload_n dX0_init_89 0 rfl ?_
  obtain ⟨h175, h⟩ := chk_some h
  obtain ⟨o176, e177, h⟩ := bnd_some h
  obtain ⟨w178, e179, h⟩ := bnd_some h
  refine r_new rfl (by decide) (by decide) kw_2 tc_RX0_17 tinst_2 ti_RX2 h175 dX0_init_90 ?_
  refine r_eqR e177 ?_
  refine r_eqW e179 ?_
  refine r_dup dX0_init_93 rfl ?_
  obtain ⟨q180, g181, h⟩ := ob_some h
  refine r_callIN (d' := (6, 2, true)) (As := []) (st := [.ref o176, .int 3, .ref o173]) mdi_X2_init (by decide) rfl (by decide) rfl (by decide) (Nat.le_of_ble_eq_true rfl) rfl dX0_init_94 (ctX2_init g181) (k_V ?_)
  obtain ⟨h182, h⟩ := chk_some h
  obtain ⟨h183, h⟩ := chk_some h
  obtain ⟨h184, h⟩ := chk_some h
  obtain ⟨w185, e186, h⟩ := bnd_some h
  refine r_aastore (ci := 2) 2 (by decide) (by decide) ⟨_, _, ck_at (by decide)⟩ dX0_init_97 h182 h183 h184 ?_
  refine r_eqW e186 ?_
  refine r_iinc (v := 4) dX0_init_98 0 rfl (by decide) (Nat.le_of_ble_eq_true rfl) [(1, .int 4), (0, .ref a0)] rfl ?_
  refine r_goto (tgt := 79) dX0_init_101 (by decide) ?_
  refine r_iload_n dX0_init_79 0 rfl ?_
  refine r_bipush (v := 8) dX0_init_80 (by decide) ?_
  refine r_icmp_ge (tgt := 104) dX0_init_82 (by decide) (fun hc => absurd hc (by decide)) (fun _ => ?_)
  refine r_aload_n dX0_init_85 1 rfl ?_
  obtain ⟨h187, h⟩ := chk_some h
  obtain ⟨o188, g189, h⟩ := ob_some h
  refine r_getR (fl_RX0_19 rfl) rfl dX0_init_86 h187 g189 ?_
  refine r_iload_n dX0_init_89 0 rfl ?_
  obtain ⟨h190, h⟩ := chk_some h
  obtain ⟨o191, e192, h⟩ := bnd_some h
  obtain ⟨w193, e194, h⟩ := bnd_some h
  refine r_new rfl (by decide) (by decide) kw_2 tc_RX0_17 tinst_2 ti_RX2 h190 dX0_init_90 ?_
  refine r_eqR e192 ?_
  refine r_eqW e194 ?_
  refine r_dup dX0_init_93 rfl ?_
  obtain ⟨q195, g196, h⟩ := ob_some h
  refine r_callIN (d' := (6, 2, true)) (As := []) (st := [.ref o191, .int 4, .ref o188]) mdi_X2_init (by decide) rfl (by decide) rfl (by decide) (Nat.le_of_ble_eq_true rfl) rfl dX0_init_94 (ctX2_init g196) (k_V ?_)
  obtain ⟨h197, h⟩ := chk_some h
  obtain ⟨h198, h⟩ := chk_some h
  obtain ⟨h199, h⟩ := chk_some h
  obtain ⟨w200, e201, h⟩ := bnd_some h
  refine r_aastore (ci := 2) 2 (by decide) (by decide) ⟨_, _, ck_at (by decide)⟩ dX0_init_97 h197 h198 h199 ?_
  refine r_eqW e201 ?_
  refine r_iinc (v := 5) dX0_init_98 0 rfl (by decide) (Nat.le_of_ble_eq_true rfl) [(1, .int 5), (0, .ref a0)] rfl ?_
  refine r_goto (tgt := 79) dX0_init_101 (by decide) ?_
  refine r_iload_n dX0_init_79 0 rfl ?_
  refine r_bipush (v := 8) dX0_init_80 (by decide) ?_
  refine r_icmp_ge (tgt := 104) dX0_init_82 (by decide) (fun hc => absurd hc (by decide)) (fun _ => ?_)
  refine r_aload_n dX0_init_85 1 rfl ?_
  obtain ⟨h202, h⟩ := chk_some h
  obtain ⟨o203, g204, h⟩ := ob_some h
  refine r_getR (fl_RX0_19 rfl) rfl dX0_init_86 h202 g204 ?_
  refine r_iload_n dX0_init_89 0 rfl ?_
  obtain ⟨h205, h⟩ := chk_some h
  obtain ⟨o206, e207, h⟩ := bnd_some h
  obtain ⟨w208, e209, h⟩ := bnd_some h
  refine r_new rfl (by decide) (by decide) kw_2 tc_RX0_17 tinst_2 ti_RX2 h205 dX0_init_90 ?_
  refine r_eqR e207 ?_
  refine r_eqW e209 ?_
  refine r_dup dX0_init_93 rfl ?_
  obtain ⟨q210, g211, h⟩ := ob_some h
  refine r_callIN (d' := (6, 2, true)) (As := []) (st := [.ref o206, .int 5, .ref o203]) mdi_X2_init (by decide) rfl (by decide) rfl (by decide) (Nat.le_of_ble_eq_true rfl) rfl dX0_init_94 (ctX2_init g211) (k_V ?_)
  obtain ⟨h212, h⟩ := chk_some h
  obtain ⟨h213, h⟩ := chk_some h
  obtain ⟨h214, h⟩ := chk_some h
  obtain ⟨w215, e216, h⟩ := bnd_some h
  refine r_aastore (ci := 2) 2 (by decide) (by decide) ⟨_, _, ck_at (by decide)⟩ dX0_init_97 h212 h213 h214 ?_
  refine r_eqW e216 ?_
  refine r_iinc (v := 6) dX0_init_98 0 rfl (by decide) (Nat.le_of_ble_eq_true rfl) [(1, .int 6), (0, .ref a0)] rfl ?_
  refine r_goto (tgt := 79) dX0_init_101 (by decide) ?_
  refine r_iload_n dX0_init_79 0 rfl ?_
  refine r_bipush (v := 8) dX0_init_80 (by decide) ?_
  refine r_icmp_ge (tgt := 104) dX0_init_82 (by decide) (fun hc => absurd hc (by decide)) (fun _ => ?_)
  refine r_aload_n dX0_init_85 1 rfl ?_
  obtain ⟨h217, h⟩ := chk_some h
  obtain ⟨o218, g219, h⟩ := ob_some h
  refine r_getR (fl_RX0_19 rfl) rfl dX0_init_86 h217 g219 ?_
  refine r_iload_n dX0_init_89 0 rfl ?_
  obtain ⟨h220, h⟩ := chk_some h
  obtain ⟨o221, e222, h⟩ := bnd_some h
  obtain ⟨w223, e224, h⟩ := bnd_some h
  refine r_new rfl (by decide) (by decide) kw_2 tc_RX0_17 tinst_2 ti_RX2 h220 dX0_init_90 ?_
  refine r_eqR e222 ?_
  refine r_eqW e224 ?_
  refine r_dup dX0_init_93 rfl ?_
  obtain ⟨q225, g226, h⟩ := ob_some h
  refine r_callIN (d' := (6, 2, true)) (As := []) (st := [.ref o221, .int 6, .ref o218]) mdi_X2_init (by decide) rfl (by decide) rfl (by decide) (Nat.le_of_ble_eq_true rfl) rfl dX0_init_94 (ctX2_init g226) (k_V ?_)
  obtain ⟨h227, h⟩ := chk_some h
  obtain ⟨h228, h⟩ := chk_some h
  obtain ⟨h229, h⟩ := chk_some h
  obtain ⟨w230, e231, h⟩ := bnd_some h
  refine r_aastore (ci := 2) 2 (by decide) (by decide) ⟨_, _, ck_at (by decide)⟩ dX0_init_97 h227 h228 h229 ?_
  refine r_eqW e231 ?_
  refine r_iinc (v := 7) dX0_init_98 0 rfl (by decide) (Nat.le_of_ble_eq_true rfl) [(1, .int 7), (0, .ref a0)] rfl ?_
  refine r_goto (tgt := 79) dX0_init_101 (by decide) ?_
  refine r_iload_n dX0_init_79 0 rfl ?_
  refine r_bipush (v := 8) dX0_init_80 (by decide) ?_
  refine r_icmp_ge (tgt := 104) dX0_init_82 (by decide) (fun hc => absurd hc (by decide)) (fun _ => ?_)
  refine r_aload_n dX0_init_85 1 rfl ?_
  obtain ⟨h232, h⟩ := chk_some h
  obtain ⟨o233, g234, h⟩ := ob_some h
  refine r_getR (fl_RX0_19 rfl) rfl dX0_init_86 h232 g234 ?_
  refine r_iload_n dX0_init_89 0 rfl ?_
  obtain ⟨h235, h⟩ := chk_some h
  obtain ⟨o236, e237, h⟩ := bnd_some h
  obtain ⟨w238, e239, h⟩ := bnd_some h
  refine r_new rfl (by decide) (by decide) kw_2 tc_RX0_17 tinst_2 ti_RX2 h235 dX0_init_90 ?_
  refine r_eqR e237 ?_
  refine r_eqW e239 ?_
  refine r_dup dX0_init_93 rfl ?_
  obtain ⟨q240, g241, h⟩ := ob_some h
  refine r_callIN (d' := (6, 2, true)) (As := []) (st := [.ref o236, .int 7, .ref o233]) mdi_X2_init (by decide) rfl (by decide) rfl (by decide) (Nat.le_of_ble_eq_true rfl) rfl dX0_init_94 (ctX2_init g241) (k_V ?_)
  obtain ⟨h242, h⟩ := chk_some h
  obtain ⟨h243, h⟩ := chk_some h
  obtain ⟨h244, h⟩ := chk_some h
  obtain ⟨w245, e246, h⟩ := bnd_some h
  refine r_aastore (ci := 2) 2 (by decide) (by decide) ⟨_, _, ck_at (by decide)⟩ dX0_init_97 h242 h243 h244 ?_
  refine r_eqW e246 ?_
  refine r_iinc (v := 8) dX0_init_98 0 rfl (by decide) (Nat.le_of_ble_eq_true rfl) [(1, .int 8), (0, .ref a0)] rfl ?_
  refine r_goto (tgt := 79) dX0_init_101 (by decide) ?_
  refine r_iload_n dX0_init_79 0 rfl ?_
  refine r_bipush (v := 8) dX0_init_80 (by decide) ?_
  refine r_icmp_ge (tgt := 104) dX0_init_82 (by decide) (fun _ => ?_) (fun hc => absurd (by decide) hc)
  rw [← Option.some.inj h] at hk
  exact r_return dX0_init_104 rfl hk
set_option maxHeartbeats 1000000 in
set_option maxRecDepth 20000 in
theorem ctX0_init {E : Ev} {a0 : Nat} {w : Wd} {q : Wd} (h : fX0_init a0 w = some q) : CT E mX0_init (7, 39, true) [.ref a0] w (QV q) := CT.of pl_RX0 (Nat.le_of_ble_eq_true rfl) (okX0_init h ⟨rfl, rfl⟩)
def fX1_init (a0 : Nat) (w : Wd) : Option (Wd) :=
  chk (wN w < 999) (bnd (wN w) (fun o2 => bnd (al w 0 (4 : Int32).toNatClampNeg) (fun w4 => chk (isO w4 a0 1) (bnd (sR w4 a0 0 (some o2)) (fun w7 => chk (isO w7 a0 1) (bnd (sI w7 a0 1 (-1)) (fun w10 => chk (wN w10 < 999) (bnd (wN w10) (fun o13 => bnd (al w10 0 (4 : Int32).toNatClampNeg) (fun w15 => chk (isO w15 a0 1) (bnd (sR w15 a0 2 (some o13)) (fun w18 => chk (wN w18 < 999) (bnd (wN w18) (fun o21 => bnd (al w18 0 (6 : Int32).toNatClampNeg) (fun w23 => chk (isO w23 a0 1) (bnd (sR w23 a0 3 (some o21)) (fun w26 => chk (wN w26 < 999) (bnd (wN w26) (fun o29 => bnd (al w26 0 (96 : Int32).toNatClampNeg) (fun w31 => chk (isO w31 a0 1) (bnd (sR w31 a0 4 (some o29)) (fun w34 => some w34))))))))))))))))))))))
set_option maxHeartbeats 1000000 in
set_option maxRecDepth 20000 in
theorem okX1_init {E : Ev} {Q : Option Value → Wd → Prop} {a0 : Nat} {w : Wd} {q : Wd} (h : fX1_init a0 w = some q) (hk : (fun q : Wd => Q none q) q) : Runs E mX1_init (6, 4, true) Q 0 0 [(0, .ref a0)] [] w := by
  unfold fX1_init at h
  refine r_aload_n dX1_init_0 0 rfl ?_
  refine r_objInit (Nat.le_of_ble_eq_true rfl) (Nat.le_of_ble_eq_true rfl) tm_RX1_3 tin_obj tco_obj dX1_init_1 ?_
  refine r_aload_n dX1_init_4 0 rfl ?_
  refine r_iconst (v := 4) dX1_init_5 (by decide) ?_
  obtain ⟨h1, h⟩ := chk_some h
  obtain ⟨o2, e3, h⟩ := bnd_some h
  obtain ⟨w4, e5, h⟩ := bnd_some h
  refine r_newI rfl (by decide) tarr0 (by decide) (by decide) h1 dX1_init_6 ?_
  refine r_eqR e3 ?_
  refine r_eqW e5 ?_
  obtain ⟨h6, h⟩ := chk_some h
  obtain ⟨w7, e8, h⟩ := bnd_some h
  refine r_putF (fl_RX1_9 rfl) rfl rfl rfl rfl (ck_ty (by decide) 0 (by decide)) rfl rfl dX1_init_8 h6 ?_
  refine r_eqW e8 ?_
  refine r_aload_n dX1_init_11 0 rfl ?_
  refine r_iconst (v := (-1)) dX1_init_12 (by decide) ?_
  obtain ⟨h9, h⟩ := chk_some h
  obtain ⟨w10, e11, h⟩ := bnd_some h
  refine r_putI (fl_RX1_15 rfl) rfl rfl (ck_ty (by decide) 1 (by decide)) rfl rfl dX1_init_13 h9 ?_
  refine r_eqW e11 ?_
  refine r_aload_n dX1_init_16 0 rfl ?_
  refine r_iconst (v := 4) dX1_init_17 (by decide) ?_
  obtain ⟨h12, h⟩ := chk_some h
  obtain ⟨o13, e14, h⟩ := bnd_some h
  obtain ⟨w15, e16, h⟩ := bnd_some h
  refine r_newI rfl (by decide) tarr0 (by decide) (by decide) h12 dX1_init_18 ?_
  refine r_eqR e14 ?_
  refine r_eqW e16 ?_
  obtain ⟨h17, h⟩ := chk_some h
  obtain ⟨w18, e19, h⟩ := bnd_some h
  refine r_putF (fl_RX1_19 rfl) rfl rfl rfl rfl (ck_ty (by decide) 2 (by decide)) rfl rfl dX1_init_20 h17 ?_
  refine r_eqW e19 ?_
  refine r_aload_n dX1_init_23 0 rfl ?_
  refine r_bipush (v := 6) dX1_init_24 (by decide) ?_
  obtain ⟨h20, h⟩ := chk_some h
  obtain ⟨o21, e22, h⟩ := bnd_some h
  obtain ⟨w23, e24, h⟩ := bnd_some h
  refine r_newI rfl (by decide) tarr0 (by decide) (by decide) h20 dX1_init_26 ?_
  refine r_eqR e22 ?_
  refine r_eqW e24 ?_
  obtain ⟨h25, h⟩ := chk_some h
  obtain ⟨w26, e27, h⟩ := bnd_some h
  refine r_putF (fl_RX1_22 rfl) rfl rfl rfl rfl (ck_ty (by decide) 3 (by decide)) rfl rfl dX1_init_28 h25 ?_
  refine r_eqW e27 ?_
  refine r_aload_n dX1_init_31 0 rfl ?_
  refine r_bipush (v := 96) dX1_init_32 (by decide) ?_
  obtain ⟨h28, h⟩ := chk_some h
  obtain ⟨o29, e30, h⟩ := bnd_some h
  obtain ⟨w31, e32, h⟩ := bnd_some h
  refine r_newI rfl (by decide) tarr0 (by decide) (by decide) h28 dX1_init_34 ?_
  refine r_eqR e30 ?_
  refine r_eqW e32 ?_
  obtain ⟨h33, h⟩ := chk_some h
  obtain ⟨w34, e35, h⟩ := bnd_some h
  refine r_putF (fl_RX1_25 rfl) rfl rfl rfl rfl (ck_ty (by decide) 4 (by decide)) rfl rfl dX1_init_36 h33 ?_
  refine r_eqW e35 ?_
  rw [← Option.some.inj h] at hk
  exact r_return dX1_init_39 rfl hk
set_option maxHeartbeats 1000000 in
set_option maxRecDepth 20000 in
theorem ctX1_init {E : Ev} {a0 : Nat} {w : Wd} {q : Wd} (h : fX1_init a0 w = some q) : CT E mX1_init (6, 4, true) [.ref a0] w (QV q) := CT.of pl_RX1 (Nat.le_of_ble_eq_true rfl) (okX1_init h ⟨rfl, rfl⟩)
def fX3_init (a0 : Nat) (w : Wd) : Option (Wd) :=
  chk (isO w a0 3) (bnd (sI w a0 0 0) (fun w2 => chk (wN w2 < 999) (bnd (wN w2) (fun o5 => bnd (al w2 0 (20 : Int32).toNatClampNeg) (fun w7 => chk (isO w7 a0 3) (bnd (sR w7 a0 1 (some o5)) (fun w10 => chk (isO w10 a0 3) (bnd (sI w10 a0 2 0) (fun w13 => chk (isO w13 a0 3) (bnd (sI w13 a0 3 0) (fun w16 => chk (isO w16 a0 3) (bnd (sI w16 a0 4 0) (fun w19 => some w19)))))))))))))
set_option maxHeartbeats 1000000 in
set_option maxRecDepth 20000 in
theorem okX3_init {E : Ev} {Q : Option Value → Wd → Prop} {a0 : Nat} {w : Wd} {q : Wd} (h : fX3_init a0 w = some q) (hk : (fun q : Wd => Q none q) q) : Runs E mX3_init (6, 1, true) Q 0 0 [(0, .ref a0)] [] w := by
  unfold fX3_init at h
  refine r_aload_n dX3_init_0 0 rfl ?_
  refine r_objInit (Nat.le_of_ble_eq_true rfl) (Nat.le_of_ble_eq_true rfl) tm_RX3_3 tin_obj tco_obj dX3_init_1 ?_
  refine r_aload_n dX3_init_4 0 rfl ?_
  refine r_iconst (v := 0) dX3_init_5 (by decide) ?_
  obtain ⟨h1, h⟩ := chk_some h
  obtain ⟨w2, e3, h⟩ := bnd_some h
  refine r_putI (fl_RX3_9 rfl) rfl rfl (ck_ty (by decide) 0 (by decide)) rfl rfl dX3_init_6 h1 ?_
  refine r_eqW e3 ?_
  refine r_aload_n dX3_init_9 0 rfl ?_
  refine r_bipush (v := 20) dX3_init_10 (by decide) ?_
  obtain ⟨h4, h⟩ := chk_some h
  obtain ⟨o5, e6, h⟩ := bnd_some h
  obtain ⟨w7, e8, h⟩ := bnd_some h
  refine r_newI rfl (by decide) tarr0 (by decide) (by decide) h4 dX3_init_12 ?_
  refine r_eqR e6 ?_
  refine r_eqW e8 ?_
  obtain ⟨h9, h⟩ := chk_some h
  obtain ⟨w10, e11, h⟩ := bnd_some h
  refine r_putF (fl_RX3_15 rfl) rfl rfl rfl rfl (ck_ty (by decide) 1 (by decide)) rfl rfl dX3_init_14 h9 ?_
  refine r_eqW e11 ?_
  refine r_aload_n dX3_init_17 0 rfl ?_
  refine r_iconst (v := 0) dX3_init_18 (by decide) ?_
  obtain ⟨h12, h⟩ := chk_some h
  obtain ⟨w13, e14, h⟩ := bnd_some h
  refine r_putI (fl_RX3_19 rfl) rfl rfl (ck_ty (by decide) 2 (by decide)) rfl rfl dX3_init_19 h12 ?_
  refine r_eqW e14 ?_
  refine r_aload_n dX3_init_22 0 rfl ?_
  refine r_iconst (v := 0) dX3_init_23 (by decide) ?_
  obtain ⟨h15, h⟩ := chk_some h
  obtain ⟨w16, e17, h⟩ := bnd_some h
  refine r_putI (fl_RX3_22 rfl) rfl rfl (ck_ty (by decide) 3 (by decide)) rfl rfl dX3_init_24 h15 ?_
  refine r_eqW e17 ?_
  refine r_aload_n dX3_init_27 0 rfl ?_
  refine r_iconst (v := 0) dX3_init_28 (by decide) ?_
  obtain ⟨h18, h⟩ := chk_some h
  obtain ⟨w19, e20, h⟩ := bnd_some h
  refine r_putI (fl_RX3_25 rfl) rfl rfl (ck_ty (by decide) 4 (by decide)) rfl rfl dX3_init_29 h18 ?_
  refine r_eqW e20 ?_
  rw [← Option.some.inj h] at hk
  exact r_return dX3_init_32 rfl hk
set_option maxHeartbeats 1000000 in
set_option maxRecDepth 20000 in
theorem ctX3_init {E : Ev} {a0 : Nat} {w : Wd} {q : Wd} (h : fX3_init a0 w = some q) : CT E mX3_init (6, 1, true) [.ref a0] w (QV q) := CT.of pl_RX3 (Nat.le_of_ble_eq_true rfl) (okX3_init h ⟨rfl, rfl⟩)
def fX5_init (a0 : Nat) (w : Wd) : Option (Wd) :=
  chk (isO w a0 5) (bnd (sI w a0 0 (-1)) (fun w2 => chk (wN w2 < 999) (bnd (wN w2) (fun o5 => bnd (al w2 0 (4 : Int32).toNatClampNeg) (fun w7 => chk (isO w7 a0 5) (bnd (sR w7 a0 1 (some o5)) (fun w10 => chk (isO w10 a0 5) (bnd (sR w10 a0 2 none) (fun w13 => chk (isO w13 a0 5) (bnd (sR w13 a0 3 none) (fun w16 => chk (isO w16 a0 5) (bnd (sI w16 a0 4 0) (fun w19 => some w19)))))))))))))
set_option maxHeartbeats 1000000 in
set_option maxRecDepth 20000 in
theorem okX5_init {E : Ev} {Q : Option Value → Wd → Prop} {a0 : Nat} {w : Wd} {q : Wd} (h : fX5_init a0 w = some q) (hk : (fun q : Wd => Q none q) q) : Runs E mX5_init (6, 1, true) Q 0 0 [(0, .ref a0)] [] w := by
  unfold fX5_init at h
  refine r_aload_n dX5_init_0 0 rfl ?_
  refine r_objInit (Nat.le_of_ble_eq_true rfl) (Nat.le_of_ble_eq_true rfl) tm_RX5_3 tin_obj tco_obj dX5_init_1 ?_
  refine r_aload_n dX5_init_4 0 rfl ?_
  refine r_iconst (v := (-1)) dX5_init_5 (by decide) ?_
  obtain ⟨h1, h⟩ := chk_some h
  obtain ⟨w2, e3, h⟩ := bnd_some h
  refine r_putI (fl_RX5_9 rfl) rfl rfl (ck_ty (by decide) 0 (by decide)) rfl rfl dX5_init_6 h1 ?_
  refine r_eqW e3 ?_
  refine r_aload_n dX5_init_9 0 rfl ?_
  refine r_iconst (v := 4) dX5_init_10 (by decide) ?_
  obtain ⟨h4, h⟩ := chk_some h
  obtain ⟨o5, e6, h⟩ := bnd_some h
  obtain ⟨w7, e8, h⟩ := bnd_some h
  refine r_newI rfl (by decide) tarr0 (by decide) (by decide) h4 dX5_init_11 ?_
  refine r_eqR e6 ?_
  refine r_eqW e8 ?_
  obtain ⟨h9, h⟩ := chk_some h
  obtain ⟨w10, e11, h⟩ := bnd_some h
  refine r_putF (fl_RX5_15 rfl) rfl rfl rfl rfl (ck_ty (by decide) 1 (by decide)) rfl rfl dX5_init_13 h9 ?_
  refine r_eqW e11 ?_
  refine r_aload_n dX5_init_16 0 rfl ?_
  refine r_null dX5_init_17 ?_
  obtain ⟨h12, h⟩ := chk_some h
  obtain ⟨w13, e14, h⟩ := bnd_some h
  refine r_putN (fl_RX5_19 rfl) rfl rfl (ck_ty (by decide) 2 (by decide)) rfl rfl dX5_init_18 h12 ?_
  refine r_eqW e14 ?_
  refine r_aload_n dX5_init_21 0 rfl ?_
  refine r_null dX5_init_22 ?_
  obtain ⟨h15, h⟩ := chk_some h
  obtain ⟨w16, e17, h⟩ := bnd_some h
  refine r_putN (fl_RX5_23 rfl) rfl rfl (ck_ty (by decide) 3 (by decide)) rfl rfl dX5_init_23 h15 ?_
  refine r_eqW e17 ?_
  refine r_aload_n dX5_init_26 0 rfl ?_
  refine r_iconst (v := 0) dX5_init_27 (by decide) ?_
  obtain ⟨h18, h⟩ := chk_some h
  obtain ⟨w19, e20, h⟩ := bnd_some h
  refine r_putI (fl_RX5_27 rfl) rfl rfl (ck_ty (by decide) 4 (by decide)) rfl rfl dX5_init_28 h18 ?_
  refine r_eqW e20 ?_
  rw [← Option.some.inj h] at hk
  exact r_return dX5_init_31 rfl hk
set_option maxHeartbeats 1000000 in
set_option maxRecDepth 20000 in
theorem ctX5_init {E : Ev} {a0 : Nat} {w : Wd} {q : Wd} (h : fX5_init a0 w = some q) : CT E mX5_init (6, 1, true) [.ref a0] w (QV q) := CT.of pl_RX5 (Nat.le_of_ble_eq_true rfl) (okX5_init h ⟨rfl, rfl⟩)
def fX6_init (a0 : Nat) (w : Wd) : Option (Wd) :=
  chk (wN w < 999) (bnd (wN w) (fun o2 => bnd (al w 1 (160 : Int32).toNatClampNeg) (fun w4 => chk (isO w4 a0 6) (bnd (sR w4 a0 0 (some o2)) (fun w7 => chk (isO w7 a0 6) (bnd (sI w7 a0 1 0) (fun w10 => chk (isO w10 a0 6) (bnd (sI w10 a0 2 (-1)) (fun w13 => some w13)))))))))
set_option maxHeartbeats 1000000 in
set_option maxRecDepth 20000 in
theorem okX6_init {E : Ev} {Q : Option Value → Wd → Prop} {a0 : Nat} {w : Wd} {q : Wd} (h : fX6_init a0 w = some q) (hk : (fun q : Wd => Q none q) q) : Runs E mX6_init (6, 1, true) Q 0 0 [(0, .ref a0)] [] w := by
  unfold fX6_init at h
  refine r_aload_n dX6_init_0 0 rfl ?_
  refine r_objInit (Nat.le_of_ble_eq_true rfl) (Nat.le_of_ble_eq_true rfl) tm_RX6_3 tin_obj tco_obj dX6_init_1 ?_
  refine r_aload_n dX6_init_4 0 rfl ?_
  refine r_sipush (v := 160) dX6_init_5 (by decide) ?_
  obtain ⟨h1, h⟩ := chk_some h
  obtain ⟨o2, e3, h⟩ := bnd_some h
  obtain ⟨w4, e5, h⟩ := bnd_some h
  refine r_newL rfl (by decide) tarr1 (by decide) (by decide) h1 dX6_init_8 ?_
  refine r_eqR e3 ?_
  refine r_eqW e5 ?_
  obtain ⟨h6, h⟩ := chk_some h
  obtain ⟨w7, e8, h⟩ := bnd_some h
  refine r_putF (fl_RX6_9 rfl) rfl rfl rfl rfl (ck_ty (by decide) 0 (by decide)) rfl rfl dX6_init_10 h6 ?_
  refine r_eqW e8 ?_
  refine r_aload_n dX6_init_13 0 rfl ?_
  refine r_iconst (v := 0) dX6_init_14 (by decide) ?_
  obtain ⟨h9, h⟩ := chk_some h
  obtain ⟨w10, e11, h⟩ := bnd_some h
  refine r_putI (fl_RX6_15 rfl) rfl rfl (ck_ty (by decide) 1 (by decide)) rfl rfl dX6_init_15 h9 ?_
  refine r_eqW e11 ?_
  refine r_aload_n dX6_init_18 0 rfl ?_
  refine r_iconst (v := (-1)) dX6_init_19 (by decide) ?_
  obtain ⟨h12, h⟩ := chk_some h
  obtain ⟨w13, e14, h⟩ := bnd_some h
  refine r_putI (fl_RX6_19 rfl) rfl rfl (ck_ty (by decide) 2 (by decide)) rfl rfl dX6_init_20 h12 ?_
  refine r_eqW e14 ?_
  rw [← Option.some.inj h] at hk
  exact r_return dX6_init_23 rfl hk
set_option maxHeartbeats 1000000 in
set_option maxRecDepth 20000 in
theorem ctX6_init {E : Ev} {a0 : Nat} {w : Wd} {q : Wd} (h : fX6_init a0 w = some q) : CT E mX6_init (6, 1, true) [.ref a0] w (QV q) := CT.of pl_RX6 (Nat.le_of_ble_eq_true rfl) (okX6_init h ⟨rfl, rfl⟩)
def fX7_init (a0 : Nat) (w : Wd) : Option (Wd) :=
  chk (wN w < 999) (bnd (wN w) (fun o2 => bnd (al w 4 (8 : Int32).toNatClampNeg) (fun w4 => chk (isO w4 a0 7) (bnd (sR w4 a0 0 (some o2)) (fun w7 => chk (wN w7 < 999) (bnd (wN w7) (fun o10 => bnd (al w7 0 (8 : Int32).toNatClampNeg) (fun w12 => chk (isO w12 a0 7) (bnd (sR w12 a0 1 (some o10)) (fun w15 => chk (wN w15 < 999) (bnd (wN w15) (fun o18 => bnd (al w15 10 0) (fun w20 => ob (fX0_init o18 w20) (fun q22 => chk (isO q22 a0 7) (bnd (sR q22 a0 2 (some o18)) (fun w25 => chk (wN w25 < 999) (bnd (wN w25) (fun o28 => bnd (al w25 10 0) (fun w30 => ob (fX0_init o28 w30) (fun q32 => chk (isO q32 a0 7) (bnd (sR q32 a0 3 (some o28)) (fun w35 => chk (wN w35 < 999) (bnd (wN w35) (fun o38 => bnd (al w35 10 0) (fun w40 => ob (fX0_init o38 w40) (fun q42 => chk (isO q42 a0 7) (bnd (sR q42 a0 4 (some o38)) (fun w45 => chk (wN w45 < 999) (bnd (wN w45) (fun o48 => bnd (al w45 12 0) (fun w50 => ob (fX2_init o48 w50) (fun q52 => chk (isO q52 a0 7) (bnd (sR q52 a0 5 (some o48)) (fun w55 => chk (wN w55 < 999) (bnd (wN w55) (fun o58 => bnd (al w55 15 0) (fun w60 => ob (fX5_init o58 w60) (fun q62 => chk (isO q62 a0 7) (bnd (sR q62 a0 6 (some o58)) (fun w65 => chk (wN w65 < 999) (bnd (wN w65) (fun o68 => bnd (al w65 11 0) (fun w70 => ob (fX1_init o68 w70) (fun q72 => chk (isO q72 a0 7) (bnd (sR q72 a0 7 (some o68)) (fun w75 => chk (wN w75 < 999) (bnd (wN w75) (fun o78 => bnd (al w75 13 0) (fun w80 => ob (fX3_init o78 w80) (fun q82 => chk (isO q82 a0 7) (bnd (sR q82 a0 8 (some o78)) (fun w85 => chk (isO w85 a0 7) (bnd (sI w85 a0 9 0) (fun w88 => chk (isO w88 a0 7) (bnd (sI w88 a0 10 (-1)) (fun w91 => chk (isO w91 a0 7) (ob (wR w91 a0 0) (fun o94 => chk (wN w91 < 999) (bnd (wN w91) (fun o97 => bnd (al w91 16 0) (fun w99 => ob (fX6_init o97 w99) (fun q101 => chk (isA q101 o94 4) (chk (inb 0 (wn q101 o94)) (chk (isO q101 o97 6) (bnd (sR q101 o94 (0 : Int32).toNatClampNeg (some o97)) (fun w106 => chk (isO w106 a0 7) (ob (wR w106 a0 0) (fun o109 => chk (wN w106 < 999) (bnd (wN w106) (fun o112 => bnd (al w106 16 0) (fun w114 => ob (fX6_init o112 w114) (fun q116 => chk (isA q116 o109 4) (chk (inb 1 (wn q116 o109)) (chk (isO q116 o112 6) (bnd (sR q116 o109 (1 : Int32).toNatClampNeg (some o112)) (fun w121 => chk (isO w121 a0 7) (ob (wR w121 a0 0) (fun o124 => chk (wN w121 < 999) (bnd (wN w121) (fun o127 => bnd (al w121 16 0) (fun w129 => ob (fX6_init o127 w129) (fun q131 => chk (isA q131 o124 4) (chk (inb 2 (wn q131 o124)) (chk (isO q131 o127 6) (bnd (sR q131 o124 (2 : Int32).toNatClampNeg (some o127)) (fun w136 => chk (isO w136 a0 7) (ob (wR w136 a0 0) (fun o139 => chk (wN w136 < 999) (bnd (wN w136) (fun o142 => bnd (al w136 16 0) (fun w144 => ob (fX6_init o142 w144) (fun q146 => chk (isA q146 o139 4) (chk (inb 3 (wn q146 o139)) (chk (isO q146 o142 6) (bnd (sR q146 o139 (3 : Int32).toNatClampNeg (some o142)) (fun w151 => chk (isO w151 a0 7) (ob (wR w151 a0 0) (fun o154 => chk (wN w151 < 999) (bnd (wN w151) (fun o157 => bnd (al w151 16 0) (fun w159 => ob (fX6_init o157 w159) (fun q161 => chk (isA q161 o154 4) (chk (inb 4 (wn q161 o154)) (chk (isO q161 o157 6) (bnd (sR q161 o154 (4 : Int32).toNatClampNeg (some o157)) (fun w166 => chk (isO w166 a0 7) (ob (wR w166 a0 0) (fun o169 => chk (wN w166 < 999) (bnd (wN w166) (fun o172 => bnd (al w166 16 0) (fun w174 => ob (fX6_init o172 w174) (fun q176 => chk (isA q176 o169 4) (chk (inb 5 (wn q176 o169)) (chk (isO q176 o172 6) (bnd (sR q176 o169 (5 : Int32).toNatClampNeg (some o172)) (fun w181 => chk (isO w181 a0 7) (ob (wR w181 a0 0) (fun o184 => chk (wN w181 < 999) (bnd (wN w181) (fun o187 => bnd (al w181 16 0) (fun w189 => ob (fX6_init o187 w189) (fun q191 => chk (isA q191 o184 4) (chk (inb 6 (wn q191 o184)) (chk (isO q191 o187 6) (bnd (sR q191 o184 (6 : Int32).toNatClampNeg (some o187)) (fun w196 => chk (isO w196 a0 7) (ob (wR w196 a0 0) (fun o199 => chk (wN w196 < 999) (bnd (wN w196) (fun o202 => bnd (al w196 16 0) (fun w204 => ob (fX6_init o202 w204) (fun q206 => chk (isA q206 o199 4) (chk (inb 7 (wn q206 o199)) (chk (isO q206 o202 6) (bnd (sR q206 o199 (7 : Int32).toNatClampNeg (some o202)) (fun w211 => some w211))))))))))))))))))))))))))))))))))))))))))))))))))))))))))))))))))))))))))))))))))))))))))))))))))))))))))))))))))))))))))))))))))))))))
set_option maxHeartbeats 1000000 in
set_option maxRecDepth 20000 in
theorem okX7_init {E : Ev} {Q : Option Value → Wd → Prop} {a0 : Nat} {w : Wd} {q : Wd} (h : fX7_init a0 w = some q) (hk : (fun q : Wd => Q none q) q) : Runs E mX7_init (8, 150, true) Q 0 0 [(0, .ref a0)] [] w := by
  unfold fX7_init at h
  refine r_aload_n dX7_init_0 0 rfl ?_
  refine r_objInit (Nat.le_of_ble_eq_true rfl) (Nat.le_of_ble_eq_true rfl) tm_RX7_1 tin_obj tco_obj dX7_init_1 ?_
  refine r_aload_n dX7_init_4 0 rfl ?_
  refine r_bipush (v := 8) dX7_init_5 (by decide) ?_
  obtain ⟨h1, h⟩ := chk_some h
  obtain ⟨o2, e3, h⟩ := bnd_some h
  obtain ⟨w4, e5, h⟩ := bnd_some h
  refine r_anew 4 (by decide) (by decide) rfl (by decide) tc_RX7_9 (by decide) (by decide) h1 dX7_init_7 ?_
  refine r_eqR e3 ?_
  refine r_eqW e5 ?_
  obtain ⟨h6, h⟩ := chk_some h
  obtain ⟨w7, e8, h⟩ := bnd_some h
  refine r_putF (fl_RX7_11 rfl) rfl rfl rfl rfl (ck_ty (by decide) 0 (by decide)) rfl rfl dX7_init_10 h6 ?_
  refine r_eqW e8 ?_
  refine r_aload_n dX7_init_13 0 rfl ?_
  refine r_bipush (v := 8) dX7_init_14 (by decide) ?_
  obtain ⟨h9, h⟩ := chk_some h
  obtain ⟨o10, e11, h⟩ := bnd_some h
  obtain ⟨w12, e13, h⟩ := bnd_some h
  refine r_newI rfl (by decide) tarr0 (by decide) (by decide) h9 dX7_init_16 ?_
  refine r_eqR e11 ?_
  refine r_eqW e13 ?_
  obtain ⟨h14, h⟩ := chk_some h
  obtain ⟨w15, e16, h⟩ := bnd_some h
  refine r_putF (fl_RX7_15 rfl) rfl rfl rfl rfl (ck_ty (by decide) 1 (by decide)) rfl rfl dX7_init_18 h14 ?_
  refine r_eqW e16 ?_
  refine r_aload_n dX7_init_21 0 rfl ?_
  obtain ⟨h17, h⟩ := chk_some h
  obtain ⟨o18, e19, h⟩ := bnd_some h
  obtain ⟨w20, e21, h⟩ := bnd_some h
  refine r_new rfl (by decide) (by decide) kw_0 tc_RX7_19 tinst_0 ti_RX0 h17 dX7_init_22 ?_
  refine r_eqR e19 ?_
  refine r_eqW e21 ?_
  refine r_dup dX7_init_25 rfl ?_
  obtain ⟨q22, g23, h⟩ := ob_some h
  refine r_callI (d' := (7, 39, true)) (As := []) (st := [.ref o18, .ref a0]) mdi_X0_init tm_RX7_21 rfl (by decide) rfl (by decide) (Nat.le_of_ble_eq_true rfl) rfl dX7_init_26 (ctX0_init g23) (k_V ?_)
  obtain ⟨h24, h⟩ := chk_some h
  obtain ⟨w25, e26, h⟩ := bnd_some h
  refine r_putF (fl_RX7_22 rfl) rfl rfl rfl rfl (ck_ty (by decide) 2 (by decide)) rfl rfl dX7_init_29 h24 ?_
  refine r_eqW e26 ?_
  refine r_aload_n dX7_init_32 0 rfl ?_
  obtain ⟨h27, h⟩ := chk_some h
  obtain ⟨o28, e29, h⟩ := bnd_some h
  obtain ⟨w30, e31, h⟩ := bnd_some h
  refine r_new rfl (by decide) (by decide) kw_0 tc_RX7_19 tinst_0 ti_RX0 h27 dX7_init_33 ?_
  refine r_eqR e29 ?_
  refine r_eqW e31 ?_
  refine r_dup dX7_init_36 rfl ?_
  obtain ⟨q32, g33, h⟩ := ob_some h
  refine r_callI (d' := (7, 39, true)) (As := []) (st := [.ref o28, .ref a0]) mdi_X0_init tm_RX7_21 rfl (by decide) rfl (by decide) (Nat.le_of_ble_eq_true rfl) rfl dX7_init_37 (ctX0_init g33) (k_V ?_)
  obtain ⟨h34, h⟩ := chk_some h
  obtain ⟨w35, e36, h⟩ := bnd_some h
  refine r_putF (fl_RX7_26 rfl) rfl rfl rfl rfl (ck_ty (by decide) 3 (by decide)) rfl rfl dX7_init_40 h34 ?_
  refine r_eqW e36 ?_
  refine r_aload_n dX7_init_43 0 rfl ?_
  obtain ⟨h37, h⟩ := chk_some h
  obtain ⟨o38, e39, h⟩ := bnd_some h
  obtain ⟨w40, e41, h⟩ := bnd_some h
  refine r_new rfl (by decide) (by decide) kw_0 tc_RX7_19 tinst_0 ti_RX0 h37 dX7_init_44 ?_
  refine r_eqR e39 ?_
  refine r_eqW e41 ?_
  refine r_dup dX7_init_47 rfl ?_
  obtain ⟨q42, g43, h⟩ := ob_some h
  refine r_callI (d' := (7, 39, true)) (As := []) (st := [.ref o38, .ref a0]) mdi_X0_init tm_RX7_21 rfl (by decide) rfl (by decide) (Nat.le_of_ble_eq_true rfl) rfl dX7_init_48 (ctX0_init g43) (k_V ?_)
  obtain ⟨h44, h⟩ := chk_some h
  obtain ⟨w45, e46, h⟩ := bnd_some h
  refine r_putF (fl_RX7_29 rfl) rfl rfl rfl rfl (ck_ty (by decide) 4 (by decide)) rfl rfl dX7_init_51 h44 ?_
  refine r_eqW e46 ?_
  refine r_aload_n dX7_init_54 0 rfl ?_
  obtain ⟨h47, h⟩ := chk_some h
  obtain ⟨o48, e49, h⟩ := bnd_some h
  obtain ⟨w50, e51, h⟩ := bnd_some h
  refine r_new rfl (by decide) (by decide) kw_2 tc_RX7_32 tinst_2 ti_RX2 h47 dX7_init_55 ?_
  refine r_eqR e49 ?_
  refine r_eqW e51 ?_
  refine r_dup dX7_init_58 rfl ?_
  obtain ⟨q52, g53, h⟩ := ob_some h
  refine r_callIN (d' := (6, 2, true)) (As := []) (st := [.ref o48, .ref a0]) mdi_X2_init (by decide) rfl (by decide) rfl (by decide) (Nat.le_of_ble_eq_true rfl) rfl dX7_init_59 (ctX2_init g53) (k_V ?_)
  obtain ⟨h54, h⟩ := chk_some h
  obtain ⟨w55, e56, h⟩ := bnd_some h
  refine r_putF (fl_RX7_35 rfl) rfl rfl rfl rfl (ck_ty (by decide) 5 (by decide)) rfl rfl dX7_init_62 h54 ?_
  refine r_eqW e56 ?_
  refine r_aload_n dX7_init_65 0 rfl ?_
  obtain ⟨h57, h⟩ := chk_some h
  obtain ⟨o58, e59, h⟩ := bnd_some h
  obtain ⟨w60, e61, h⟩ := bnd_some h
  refine r_new rfl (by decide) (by decide) kw_5 tc_RX7_39 tinst_5 ti_RX5 h57 dX7_init_66 ?_
  refine r_eqR e59 ?_
  refine r_eqW e61 ?_
  refine r_dup dX7_init_69 rfl ?_
  obtain ⟨q62, g63, h⟩ := ob_some h
  refine r_callIN (d' := (6, 1, true)) (As := []) (st := [.ref o58, .ref a0]) mdi_X5_init (by decide) rfl (by decide) rfl (by decide) (Nat.le_of_ble_eq_true rfl) rfl dX7_init_70 (ctX5_init g63) (k_V ?_)
  obtain ⟨h64, h⟩ := chk_some h
  obtain ⟨w65, e66, h⟩ := bnd_some h
  refine r_putF (fl_RX7_42 rfl) rfl rfl rfl rfl (ck_ty (by decide) 6 (by decide)) rfl rfl dX7_init_73 h64 ?_
  refine r_eqW e66 ?_
  refine r_aload_n dX7_init_76 0 rfl ?_
  obtain ⟨h67, h⟩ := chk_some h
  obtain ⟨o68, e69, h⟩ := bnd_some h
  obtain ⟨w70, e71, h⟩ := bnd_some h
  refine r_new rfl (by decide) (by decide) kw_1 tc_RX7_46 tinst_1 ti_RX1 h67 dX7_init_77 ?_
  refine r_eqR e69 ?_
  refine r_eqW e71 ?_
  refine r_dup dX7_init_80 rfl ?_
  obtain ⟨q72, g73, h⟩ := ob_some h
  refine r_callIN (d' := (6, 4, true)) (As := []) (st := [.ref o68, .ref a0]) mdi_X1_init (by decide) rfl (by decide) rfl (by decide) (Nat.le_of_ble_eq_true rfl) rfl dX7_init_81 (ctX1_init g73) (k_V ?_)
  obtain ⟨h74, h⟩ := chk_some h
  obtain ⟨w75, e76, h⟩ := bnd_some h
  refine r_putF (fl_RX7_49 rfl) rfl rfl rfl rfl (ck_ty (by decide) 7 (by decide)) rfl rfl dX7_init_84 h74 ?_
  refine r_eqW e76 ?_
  refine r_aload_n dX7_init_87 0 rfl ?_
  obtain ⟨h77, h⟩ := chk_some h
  obtain ⟨o78, e79, h⟩ := bnd_some h
  obtain ⟨w80, e81, h⟩ := bnd_some h
  refine r_new rfl (by decide) (by decide) kw_3 tc_RX7_53 tinst_3 ti_RX3 h77 dX7_init_88 ?_
  refine r_eqR e79 ?_
  refine r_eqW e81 ?_
  refine r_dup dX7_init_91 rfl ?_
  obtain ⟨q82, g83, h⟩ := ob_some h
  refine r_callIN (d' := (6, 1, true)) (As := []) (st := [.ref o78, .ref a0]) mdi_X3_init (by decide) rfl (by decide) rfl (by decide) (Nat.le_of_ble_eq_true rfl) rfl dX7_init_92 (ctX3_init g83) (k_V ?_)
  obtain ⟨h84, h⟩ := chk_some h
  obtain ⟨w85, e86, h⟩ := bnd_some h
  refine r_putF (fl_RX7_56 rfl) rfl rfl rfl rfl (ck_ty (by decide) 8 (by decide)) rfl rfl dX7_init_95 h84 ?_
  refine r_eqW e86 ?_
  refine r_aload_n dX7_init_98 0 rfl ?_
  refine r_iconst (v := 0) dX7_init_99 (by decide) ?_
  obtain ⟨h87, h⟩ := chk_some h
  obtain ⟨w88, e89, h⟩ := bnd_some h
  refine r_putI (fl_RX7_60 rfl) rfl rfl (ck_ty (by decide) 9 (by decide)) rfl rfl dX7_init_100 h87 ?_
  refine r_eqW e89 ?_
  refine r_aload_n dX7_init_103 0 rfl ?_
  refine r_iconst (v := (-1)) dX7_init_104 (by decide) ?_
  obtain ⟨h90, h⟩ := chk_some h
  obtain ⟨w91, e92, h⟩ := bnd_some h
  refine r_putI (fl_RX7_64 rfl) rfl rfl (ck_ty (by decide) 10 (by decide)) rfl rfl dX7_init_105 h90 ?_
  refine r_eqW e92 ?_
  refine r_iconst (v := 0) dX7_init_108 (by decide) ?_
  refine r_istore_n dX7_init_109 rfl (Nat.le_of_ble_eq_true rfl) [(1, .int 0), (0, .ref a0)] rfl ?_
  refine r_iload_n dX7_init_110 0 rfl ?_
  refine r_bipush (v := 8) dX7_init_111 (by decide) ?_
  refine r_icmp_ge (tgt := 135) dX7_init_113 (by decide) (fun hc => absurd hc (by decide)) (fun _ => ?_)
  refine r_aload_n dX7_init_116 1 rfl ?_
  obtain ⟨h93, h⟩ := chk_some h
  obtain ⟨o94, g95, h⟩ := ob_some h
  refine r_getR (fl_RX7_11 rfl) rfl dX7_init_117 h93 g95 ?_
  refine r_iload_n dX7_init_120 0 rfl ?_
  obtain ⟨h96, h⟩ := chk_some h
  obtain ⟨o97, e98, h⟩ := bnd_some h
  obtain ⟨w99, e100, h⟩ := bnd_some h
  refine r_new rfl (by decide) (by decide) kw_6 tc_RX7_9 tinst_6 ti_RX6 h96 dX7_init_121 ?_
  refine r_eqR e98 ?_
  refine r_eqW e100 ?_
  refine r_dup dX7_init_124 rfl ?_
  obtain ⟨q101, g102, h⟩ := ob_some h
  refine r_callIN (d' := (6, 1, true)) (As := []) (st := [.ref o97, .int 0, .ref o94]) mdi_X6_init (by decide) rfl (by decide) rfl (by decide) (Nat.le_of_ble_eq_true rfl) rfl dX7_init_125 (ctX6_init g102) (k_V ?_)
  obtain ⟨h103, h⟩ := chk_some h
  obtain ⟨h104, h⟩ := chk_some h
  obtain ⟨h105, h⟩ := chk_some h
  obtain ⟨w106, e107, h⟩ := bnd_some h
  refine r_aastore (ci := 6) 4 (by decide) (by decide) ⟨_, _, ck_at (by decide)⟩ dX7_init_128 h103 h104 h105 ?_
  refine r_eqW e107 ?_
  refine r_iinc (v := 1) dX7_init_129 0 rfl (by decide) (Nat.le_of_ble_eq_true rfl) [(1, .int 1), (0, .ref a0)] rfl ?_
  refine r_goto (tgt := 110) dX7_init_132 (by decide) ?_
  refine r_iload_n dX7_init_110 0 rfl ?_
  refine r_bipush (v := 8) dX7_init_111 (by decide) ?_
  refine r_icmp_ge (tgt := 135) dX7_init_113 (by decide) (fun hc => absurd hc (by decide)) (fun _ => ?_)
  refine r_aload_n dX7_init_116 1 rfl ?_
  obtain ⟨h108, h⟩ := chk_some h
  obtain ⟨o109, g110, h⟩ := ob_some h
  refine r_getR (fl_RX7_11 rfl) rfl dX7_init_117 h108 g110 ?_
  refine r_iload_n dX7_init_120 0 rfl ?_
  obtain ⟨h111, h⟩ := chk_some h
  obtain ⟨o112, e113, h⟩ := bnd_some h
  obtain ⟨w114, e115, h⟩ := bnd_some h
  refine r_new rfl (by decide) (by decide) kw_6 tc_RX7_9 tinst_6 ti_RX6 h111 dX7_init_121 ?_
  refine r_eqR e113 ?_
  refine r_eqW e115 ?_
  refine r_dup dX7_init_124 rfl ?_
  obtain ⟨q116, g117, h⟩ := ob_some h
  refine r_callIN (d' := (6, 1, true)) (As := []) (st := [.ref o112, .int 1, .ref o109]) mdi_X6_init (by decide) rfl (by decide) rfl (by decide) (Nat.le_of_ble_eq_true rfl) rfl dX7_init_125 (ctX6_init g117) (k_V ?_)
  obtain ⟨h118, h⟩ := chk_some h
  obtain ⟨h119, h⟩ := chk_some h
  obtain ⟨h120, h⟩ := chk_some h
  obtain ⟨w121, e122, h⟩ := bnd_some h
  refine r_aastore (ci := 6) 4 (by decide) (by decide) ⟨_, _, ck_at (by decide)⟩ dX7_init_128 h118 h119 h120 ?_
  refine r_eqW e122 ?_
  refine r_iinc (v := 2) dX7_init_129 0 rfl (by decide) (Nat.le_of_ble_eq_true rfl) [(1, .int 2), (0, .ref a0)] rfl ?_
  refine r_goto (tgt := 110) dX7_init_132 (by decide) ?_
  refine r_iload_n dX7_init_110 0 rfl ?_
  refine r_bipush (v := 8) dX7_init_111 (by decide) ?_
  refine r_icmp_ge (tgt := 135) dX7_init_113 (by decide) (fun hc => absurd hc (by decide)) (fun _ => ?_)
  refine r_aload_n dX7_init_116 1 rfl ?_
  obtain ⟨h123, h⟩ := chk_some h
  obtain ⟨o124, g125, h⟩ := ob_some h
  refine r_getR (fl_RX7_11 rfl) rfl dX7_init_117 h123 g125 ?_
  refine r_iload_n dX7_init_120 0 rfl ?_
  obtain ⟨h126, h⟩ := chk_some h
  obtain ⟨o127, e128, h⟩ := bnd_some h
  obtain ⟨w129, e130, h⟩ := bnd_some h
  refine r_new rfl (by decide) (by decide) kw_6 tc_RX7_9 tinst_6 ti_RX6 h126 dX7_init_121 ?_
  refine r_eqR e128 ?_
  refine r_eqW e130 ?_
  refine r_dup dX7_init_124 rfl ?_
  obtain ⟨q131, g132, h⟩ := ob_some h
  refine r_callIN (d' := (6, 1, true)) (As := []) (st := [.ref o127, .int 2, .ref o124]) mdi_X6_init (by decide) rfl (by decide) rfl (by decide) (Nat.le_of_ble_eq_true rfl) rfl dX7_init_125 (ctX6_init g132) (k_V ?_)
  obtain ⟨h133, h⟩ := chk_some h
  obtain ⟨h134, h⟩ := chk_some h
  obtain ⟨h135, h⟩ := chk_some h
  obtain ⟨w136, e137, h⟩ := bnd_some h
  refine r_aastore (ci := 6) 4 (by decide) (by decide) ⟨_, _, ck_at (by decide)⟩ dX7_init_128 h133 h134 h135 ?_
  refine r_eqW e137 ?_
  refine r_iinc (v := 3) dX7_init_129 0 rfl (by decide) (Nat.le_of_ble_eq_true rfl) [(1, .int 3), (0, .ref a0)] rfl ?_
  refine r_goto (tgt := 110) dX7_init_132 (by decide) ?_
  refine r_iload_n dX7_init_110 0 rfl ?_
  refine r_bipush (v := 8) dX7_init_111 (by decide) ?_
  refine r_icmp_ge (tgt := 135) dX7_init_113 (by decide) (fun hc => absurd hc (by decide)) (fun _ => ?_)
  refine r_aload_n dX7_init_116 1 rfl ?_
  obtain ⟨h138, h⟩ := chk_some h
  obtain ⟨o139, g140, h⟩ := ob_some h
  refine r_getR (fl_RX7_11 rfl) rfl dX7_init_117 h138 g140 ?_
  refine r_iload_n dX7_init_120 0 rfl ?_
  obtain ⟨h141, h⟩ := chk_some h
  obtain ⟨o142, e143, h⟩ := bnd_some h
  obtain ⟨w144, e145, h⟩ := bnd_some h
  refine r_new rfl (by decide) (by decide) kw_6 tc_RX7_9 tinst_6 ti_RX6 h141 dX7_init_121 ?_
  refine r_eqR e143 ?_
  refine r_eqW e145 ?_
  refine r_dup dX7_init_124 rfl ?_
  obtain ⟨q146, g147, h⟩ := ob_some h
  refine r_callIN (d' := (6, 1, true)) (As := []) (st := [.ref o142, .int 3, .ref o139]) mdi_X6_init (by decide) rfl (by decide) rfl (by decide) (Nat.le_of_ble_eq_true rfl) rfl dX7_init_125 (ctX6_init g147) (k_V ?_)
  obtain ⟨h148, h⟩ := chk_some h
  obtain ⟨h149, h⟩ := chk_some h
  obtain ⟨h150, h⟩ := chk_some h
  obtain ⟨w151, e152, h⟩ := bnd_some h
  refine r_aastore (ci := 6) 4 (by decide) (by decide) ⟨_, _, ck_at (by decide)⟩ dX7_init_128 h148 h149 h150 ?_
  refine r_eqW e152 ?_
  refine r_iinc (v := 4) dX7_init_129 0 rfl (by decide) (Nat.le_of_ble_eq_true rfl) [(1, .int 4), (0, .ref a0)] rfl ?_
  refine r_goto (tgt := 110) dX7_init_132 (by decide) ?_
  refine r_iload_n dX7_init_110 0 rfl ?_
  refine r_bipush (v := 8) dX7_init_111 (by decide) ?_
  refine r_icmp_ge (tgt := 135) dX7_init_113 (by decide) (fun hc => absurd hc (by decide)) (fun _ => ?_)
  refine r_aload_n dX7_init_116 1 rfl ?_
  obtain ⟨h153, h⟩ := chk_some h
  obtain ⟨o154, g155, h⟩ := ob_some h
  refine r_getR (fl_RX7_11 rfl) rfl dX7_init_117 h153 g155 ?_
  refine r_iload_n dX7_init_120 0 rfl ?_
  obtain ⟨h156, h⟩ := chk_some h
  obtain ⟨o157, e158, h⟩ := bnd_some h
  obtain ⟨w159, e160, h⟩ := bnd_some h
  refine r_new rfl (by decide) (by decide) kw_6 tc_RX7_9 tinst_6 ti_RX6 h156 dX7_init_121 ?_
  refine r_eqR e158 ?_
  refine r_eqW e160 ?_
  refine r_dup dX7_init_124 rfl ?_
  obtain ⟨q161, g162, h⟩ := ob_some h
  refine r_callIN (d' := (6, 1, true)) (As := []) (st := [.ref o157, .int 4, .ref o154]) mdi_X6_init (by decide) rfl (by decide) rfl (by decide) (Nat.le_of_ble_eq_true rfl) rfl dX7_init_125 (ctX6_init g162) (k_V ?_)
  obtain ⟨h163, h⟩ := chk_some h
  obtain ⟨h164, h⟩ := chk_some h
  obtain ⟨h165, h⟩ := chk_some h
  obtain ⟨w166, e167, h⟩ := bnd_some h
  refine r_aastore (ci := 6) 4 (by decide) (by decide) ⟨_, _, ck_at (by decide)⟩ dX7_init_128 h163 h164 h165 ?_
  refine r_eqW e167 ?_
  refine r_iinc (v := 5) dX7_init_129 0 rfl (by decide) (Nat.le_of_ble_eq_true rfl) [(1, .int 5), (0, .ref a0)] rfl ?_
  refine r_goto (tgt := 110) dX7_init_132 (by decide) ?_
  refine r_iload_n dX7_init_110 0 rfl ?_
  refine r_bipush (v := 8) dX7_init_111 (by decide) ?_
  refine r_icmp_ge (tgt := 135) dX7_init_113 (by decide) (fun hc => absurd hc (by decide)) (fun _ => ?_)
  refine r_aload_n dX7_init_116 1 rfl ?_
  obtain ⟨h168, h⟩ := chk_some h
  obtain ⟨o169, g170, h⟩ := ob_some h
  refine r_getR (fl_RX7_11 rfl) rfl dX7_init_117 h168 g170 ?_
  refine r_iload_n dX7_init_120 0 rfl ?_
  obtain ⟨h171, h⟩ := chk_some h
  obtain ⟨o172, e173, h⟩ := bnd_some h
  obtain ⟨w174, e175, h⟩ := bnd_some h
  refine r_new rfl (by decide) (by decide) kw_6 tc_RX7_9 tinst_6 ti_RX6 h171 dX7_init_121 ?_
  refine r_eqR e173 ?_
  refine r_eqW e175 ?_
  refine r_dup dX7_init_124 rfl ?_
  obtain ⟨q176, g177, h⟩ := ob_some h
  refine r_callIN (d' := (6, 1, true)) (As := []) (st := [.ref o172, .int 5, .ref o169]) mdi_X6_init (by decide) rfl (by decide) rfl (by decide) (Nat.le_of_ble_eq_true rfl) rfl dX7_init_125 (ctX6_init g177) (k_V ?_)
  obtain ⟨h178, h⟩ := chk_some h
  obtain ⟨h179, h⟩ := chk_some h
  obtain ⟨h180, h⟩ := chk_some h
  obtain ⟨w181, e182, h⟩ := bnd_some h
  refine r_aastore (ci := 6) 4 (by decide) (by decide) ⟨_, _, ck_at (by decide)⟩ dX7_init_128 h178 h179 h180 ?_
  refine r_eqW e182 ?_
  refine r_iinc (v := 6) dX7_init_129 0 rfl (by decide) (Nat.le_of_ble_eq_true rfl) [(1, .int 6), (0, .ref a0)] rfl ?_
  refine r_goto (tgt := 110) dX7_init_132 (by decide) ?_
  refine r_iload_n dX7_init_110 0 rfl ?_
  refine r_bipush (v := 8) dX7_init_111 (by decide) ?_
  refine r_icmp_ge (tgt := 135) dX7_init_113 (by decide) (fun hc => absurd hc (by decide)) (fun _ => ?_)
  refine r_aload_n dX7_init_116 1 rfl ?_
  obtain ⟨h183, h⟩ := chk_some h
  obtain ⟨o184, g185, h⟩ := ob_some h
  refine r_getR (fl_RX7_11 rfl) rfl dX7_init_117 h183 g185 ?_
  refine r_iload_n dX7_init_120 0 rfl ?_
  obtain ⟨h186, h⟩ := chk_some h
  obtain ⟨o187, e188, h⟩ := bnd_some h
  obtain ⟨w189, e190, h⟩ := bnd_some h
  refine r_new rfl (by decide) (by decide) kw_6 tc_RX7_9 tinst_6 ti_RX6 h186 dX7_init_121 ?_
  refine r_eqR e188 ?_
  refine r_eqW e190 ?_
  refine r_dup dX7_init_124 rfl ?_
  obtain ⟨q191, g192, h⟩ := ob_some h
  refine r_callIN (d' := (6, 1, true)) (As := []) (st := [.ref o187, .int 6, .ref o184]) mdi_X6_init (by decide) rfl (by decide) rfl (by decide) (Nat.le_of_ble_eq_true rfl) rfl dX7_init_125 (ctX6_init g192) (k_V ?_)
  obtain ⟨h193, h⟩ := chk_some h
  obtain ⟨h194, h⟩ := chk_some h
  obtain ⟨h195, h⟩ := chk_some h
  obtain ⟨w196, e197, h⟩ := bnd_some h
  refine r_aastore (ci := 6) 4 (by decide) (by decide) ⟨_, _, ck_at (by decide)⟩ dX7_init_128 h193 h194 h195 ?_
  refine r_eqW e197 ?_
  refine r_iinc (v := 7) dX7_init_129 0 rfl (by decide) (Nat.le_of_ble_eq_true rfl) [(1, .int 7), (0, .ref a0)] rfl ?_
  refine r_goto (tgt := 110) dX7_init_132 (by decide) ?_
  refine r_iload_n dX7_init_110 0 rfl ?_
  refine r_bipush (v := 8) dX7_init_111 (by decide) ?_
  refine r_icmp_ge (tgt := 135) dX7_init_113 (by decide) (fun hc => absurd hc (by decide)) (fun _ => ?_)
  refine r_aload_n dX7_init_116 1 rfl ?_
  obtain ⟨h198, h⟩ := chk_some h
  obtain ⟨o199, g200, h⟩ := ob_some h
  refine r_getR (fl_RX7_11 rfl) rfl dX7_init_117 h198 g200 ?_
  refine r_iload_n dX7_init_120 0 rfl ?_
  obtain ⟨h201, h⟩ := chk_some h
  obtain ⟨o202, e203, h⟩ := bnd_some h
  obtain ⟨w204, e205, h⟩ := bnd_some h
  refine r_new rfl (by decide) (by decide) kw_6 tc_RX7_9 tinst_6 ti_RX6 h201 dX7_init_121 ?_
  refine r_eqR e203 ?_
  refine r_eqW e205 ?_
  refine r_dup dX7_init_124 rfl ?_
  obtain ⟨q206, g207, h⟩ := ob_some h
  refine r_callIN (d' := (6, 1, true)) (As := []) (st := [.ref o202, .int 7, .ref o199]) mdi_X6_init (by decide) rfl (by decide) rfl (by decide) (Nat.le_of_ble_eq_true rfl) rfl dX7_init_125 (ctX6_init g207) (k_V ?_)
  obtain ⟨h208, h⟩ := chk_some h
  obtain ⟨h209, h⟩ := chk_some h
  obtain ⟨h210, h⟩ := chk_some h
  obtain ⟨w211, e212, h⟩ := bnd_some h
  refine r_aastore (ci := 6) 4 (by decide) (by decide) ⟨_, _, ck_at (by decide)⟩ dX7_init_128 h208 h209 h210 ?_
  refine r_eqW e212 ?_
  refine r_iinc (v := 8) dX7_init_129 0 rfl (by decide) (Nat.le_of_ble_eq_true rfl) [(1, .int 8), (0, .ref a0)] rfl ?_
  refine r_goto (tgt := 110) dX7_init_132 (by decide) ?_
  refine r_iload_n dX7_init_110 0 rfl ?_
  refine r_bipush (v := 8) dX7_init_111 (by decide) ?_
  refine r_icmp_ge (tgt := 135) dX7_init_113 (by decide) (fun _ => ?_) (fun hc => absurd (by decide) hc)
  rw [← Option.some.inj h] at hk
  exact r_return dX7_init_135 rfl hk
set_option maxHeartbeats 1000000 in
set_option maxRecDepth 20000 in
theorem ctX7_init {E : Ev} {a0 : Nat} {w : Wd} {q : Wd} (h : fX7_init a0 w = some q) : CT E mX7_init (8, 150, true) [.ref a0] w (QV q) := CT.of pl_RX7 (Nat.le_of_ble_eq_true rfl) (okX7_init h ⟨rfl, rfl⟩)
def fX8_init (a0 : Nat) (w : Wd) : Option (Wd) :=
  chk (wN w < 999) (bnd (wN w) (fun o2 => bnd (al w 0 (8 : Int32).toNatClampNeg) (fun w4 => chk (isO w4 a0 8) (bnd (sR w4 a0 0 (some o2)) (fun w7 => chk (wN w7 < 999) (bnd (wN w7) (fun o10 => bnd (al w7 0 (8 : Int32).toNatClampNeg) (fun w12 => chk (isO w12 a0 8) (bnd (sR w12 a0 1 (some o10)) (fun w15 => chk (wN w15 < 999) (bnd (wN w15) (fun o18 => bnd (al w15 1 (1280 : Int32).toNatClampNeg) (fun w20 => chk (isO w20 a0 8) (bnd (sR w20 a0 2 (some o18)) (fun w23 => chk (wN w23 < 999) (bnd (wN w23) (fun o26 => bnd (al w23 0 (6 : Int32).toNatClampNeg) (fun w28 => chk (isO w28 a0 8) (bnd (sR w28 a0 4 (some o26)) (fun w31 => chk (wN w31 < 999) (bnd (wN w31) (fun o34 => bnd (al w31 0 (72 : Int32).toNatClampNeg) (fun w36 => chk (isO w36 a0 8) (bnd (sR w36 a0 5 (some o34)) (fun w39 => chk (wN w39 < 999) (bnd (wN w39) (fun o42 => bnd (al w39 0 (8 : Int32).toNatClampNeg) (fun w44 => chk (isO w44 a0 8) (bnd (sR w44 a0 7 (some o42)) (fun w47 => chk (wN w47 < 999) (bnd (wN w47) (fun o50 => bnd (al w47 0 (8 : Int32).toNatClampNeg) (fun w52 => chk (isO w52 a0 8) (bnd (sR w52 a0 8 (some o50)) (fun w55 => chk (wN w55 < 999) (bnd (wN w55) (fun o58 => bnd (al w55 0 (8 : Int32).toNatClampNeg) (fun w60 => chk (isO w60 a0 8) (bnd (sR w60 a0 9 (some o58)) (fun w63 => chk (wN w63 < 999) (bnd (wN w63) (fun o66 => bnd (al w63 0 (96 : Int32).toNatClampNeg) (fun w68 => chk (isO w68 a0 8) (bnd (sR w68 a0 10 (some o66)) (fun w71 => chk (wN w71 < 999) (bnd (wN w71) (fun o74 => bnd (al w71 0 (96 : Int32).toNatClampNeg) (fun w76 => chk (isO w76 a0 8) (bnd (sR w76 a0 11 (some o74)) (fun w79 => chk (wN w79 < 999) (bnd (wN w79) (fun o82 => bnd (al w79 0 (8 : Int32).toNatClampNeg) (fun w84 => chk (isO w84 a0 8) (bnd (sR w84 a0 15 (some o82)) (fun w87 => chk (wN w87 < 999) (bnd (wN w87) (fun o90 => bnd (al w87 0 (20 : Int32).toNatClampNeg) (fun w92 => chk (isO w92 a0 8) (bnd (sR w92 a0 17 (some o90)) (fun w95 => chk (wN w95 < 999) (bnd (wN w95) (fun o98 => bnd (al w95 0 (298 : Int32).toNatClampNeg) (fun w100 => chk (isO w100 a0 8) (bnd (sR w100 a0 19 (some o98)) (fun w103 => chk (wN w103 < 999) (bnd (wN w103) (fun o106 => bnd (al w103 0 (298 : Int32).toNatClampNeg) (fun w108 => chk (isO w108 a0 8) (bnd (sR w108 a0 20 (some o106)) (fun w111 => chk (wN w111 < 999) (bnd (wN w111) (fun o114 => bnd (al w111 0 (298 : Int32).toNatClampNeg) (fun w116 => chk (isO w116 a0 8) (bnd (sR w116 a0 21 (some o114)) (fun w119 => chk (wN w119 < 999) (bnd (wN w119) (fun o122 => bnd (al w119 0 (6 : Int32).toNatClampNeg) (fun w124 => chk (isO w124 a0 8) (bnd (sR w124 a0 22 (some o122)) (fun w127 => chk (wN w127 < 999) (bnd (wN w127) (fun o130 => bnd (al w127 0 (4 : Int32).toNatClampNeg) (fun w132 => chk (isO w132 a0 8) (bnd (sR w132 a0 23 (some o130)) (fun w135 => chk (wN w135 < 999) (bnd (wN w135) (fun o138 => bnd (al w135 0 (4 : Int32).toNatClampNeg) (fun w140 => chk (isO w140 a0 8) (bnd (sR w140 a0 26 (some o138)) (fun w143 => chk (isO w143 a0 8) (ob (wR w143 a0 0) (fun o146 => chk (isA w143 o146 0) (chk (inb 0 (wn w143 o146)) (bnd (sI w143 o146 (0 : Int32).toNatClampNeg (-1)) (fun w150 => chk (isO w150 a0 8) (ob (wR w150 a0 0) (fun o153 => chk (isA w150 o153 0) (chk (inb 1 (wn w150 o153)) (bnd (sI w150 o153 (1 : Int32).toNatClampNeg (-1)) (fun w157 => chk (isO w157 a0 8) (ob (wR w157 a0 0) (fun o160 => chk (isA w157 o160 0) (chk (inb 2 (wn w157 o160)) (bnd (sI w157 o160 (2 : Int32).toNatClampNeg (-1)) (fun w164 => chk (isO w164 a0 8) (ob (wR w164 a0 0) (fun o167 => chk (isA w164 o167 0) (chk (inb 3 (wn w164 o167)) (bnd (sI w164 o167 (3 : Int32).toNatClampNeg (-1)) (fun w171 => chk (isO w171 a0 8) (ob (wR w171 a0 0) (fun o174 => chk (isA w171 o174 0) (chk (inb 4 (wn w171 o174)) (bnd (sI w171 o174 (4 : Int32).toNatClampNeg (-1)) (fun w178 => chk (isO w178 a0 8) (ob (wR w178 a0 0) (fun o181 => chk (isA w178 o181 0) (chk (inb 5 (wn w178 o181)) (bnd (sI w178 o181 (5 : Int32).toNatClampNeg (-1)) (fun w185 => chk (isO w185 a0 8) (ob (wR w185 a0 0) (fun o188 => chk (isA w185 o188 0) (chk (inb 6 (wn w185 o188)) (bnd (sI w185 o188 (6 : Int32).toNatClampNeg (-1)) (fun w192 => chk (isO w192 a0 8) (ob (wR w192 a0 0) (fun o195 => chk (isA w192 o195 0) (chk (inb 7 (wn w192 o195)) (bnd (sI w192 o195 (7 : Int32).toNatClampNeg (-1)) (fun w199 => chk (isO w199 a0 8) (bnd (sI w199 a0 13 1) (fun w202 => chk (isO w202 a0 8) (bnd (sI w202 a0 14 (-1)) (fun w205 => some w205))))))))))))))))))))))))))))))))))))))))))))))))))))))))))))))))))))))))))))))))))))))))))))))))))))))))))))))))))))))))))))))))))))))
set_option maxHeartbeats 1000000 in
set_option maxRecDepth 20000 in
theorem okX8_init {E : Ev} {Q : Option Value → Wd → Prop} {a0 : Nat} {w : Wd} {q : Wd} (h : fX8_init a0 w = some q) (hk : (fun q : Wd => Q none q) q) : Runs E mX8_init (6, 18, true) Q 0 0 [(0, .ref a0)] [] w := by
  unfold fX8_init at h
  refine r_aload_n dX8_init_0 0 rfl ?_
  refine r_objInit (Nat.le_of_ble_eq_true rfl) (Nat.le_of_ble_eq_true rfl) tm_RX8_1 tin_obj tco_obj dX8_init_1 ?_
  refine r_aload_n dX8_init_4 0 rfl ?_
  refine r_bipush (v := 8) dX8_init_5 (by decide) ?_
  obtain ⟨h1, h⟩ := chk_some h
  obtain ⟨o2, e3, h⟩ := bnd_some h
  obtain ⟨w4, e5, h⟩ := bnd_some h
  refine r_newI rfl (by decide) tarr0 (by decide) (by decide) h1 dX8_init_7 ?_
  refine r_eqR e3 ?_
  refine r_eqW e5 ?_
  obtain ⟨h6, h⟩ := chk_some h
  obtain ⟨w7, e8, h⟩ := bnd_some h
  refine r_putF (fl_RX8_7 rfl) rfl rfl rfl rfl (ck_ty (by decide) 0 (by decide)) rfl rfl dX8_init_9 h6 ?_
  refine r_eqW e8 ?_
  refine r_aload_n dX8_init_12 0 rfl ?_
  refine r_bipush (v := 8) dX8_init_13 (by decide) ?_
  obtain ⟨h9, h⟩ := chk_some h
  obtain ⟨o10, e11, h⟩ := bnd_some h
  obtain ⟨w12, e13, h⟩ := bnd_some h
  refine r_newI rfl (by decide) tarr0 (by decide) (by decide) h9 dX8_init_15 ?_
  refine r_eqR e11 ?_
  refine r_eqW e13 ?_
  obtain ⟨h14, h⟩ := chk_some h
  obtain ⟨w15, e16, h⟩ := bnd_some h
  refine r_putF (fl_RX8_13 rfl) rfl rfl rfl rfl (ck_ty (by decide) 1 (by decide)) rfl rfl dX8_init_17 h14 ?_
  refine r_eqW e16 ?_
  refine r_aload_n dX8_init_20 0 rfl ?_
  refine r_sipush (v := 1280) dX8_init_21 (by decide) ?_
  obtain ⟨h17, h⟩ := chk_some h
  obtain ⟨o18, e19, h⟩ := bnd_some h
  obtain ⟨w20, e21, h⟩ := bnd_some h
  refine r_newL rfl (by decide) tarr1 (by decide) (by decide) h17 dX8_init_24 ?_
  refine r_eqR e19 ?_
  refine r_eqW e21 ?_
  obtain ⟨h22, h⟩ := chk_some h
  obtain ⟨w23, e24, h⟩ := bnd_some h
  refine r_putF (fl_RX8_16 rfl) rfl rfl rfl rfl (ck_ty (by decide) 2 (by decide)) rfl rfl dX8_init_26 h22 ?_
  refine r_eqW e24 ?_
  refine r_aload_n dX8_init_29 0 rfl ?_
  refine r_bipush (v := 6) dX8_init_30 (by decide) ?_
  obtain ⟨h25, h⟩ := chk_some h
  obtain ⟨o26, e27, h⟩ := bnd_some h
  obtain ⟨w28, e29, h⟩ := bnd_some h
  refine r_newI rfl (by decide) tarr0 (by decide) (by decide) h25 dX8_init_32 ?_
  refine r_eqR e27 ?_
  refine r_eqW e29 ?_
  obtain ⟨h30, h⟩ := chk_some h
  obtain ⟨w31, e32, h⟩ := bnd_some h
  refine r_putF (fl_RX8_20 rfl) rfl rfl rfl rfl (ck_ty (by decide) 4 (by decide)) rfl rfl dX8_init_34 h30 ?_
  refine r_eqW e32 ?_
  refine r_aload_n dX8_init_37 0 rfl ?_
  refine r_bipush (v := 72) dX8_init_38 (by decide) ?_
  obtain ⟨h33, h⟩ := chk_some h
  obtain ⟨o34, e35, h⟩ := bnd_some h
  obtain ⟨w36, e37, h⟩ := bnd_some h
  refine r_newI rfl (by decide) tarr0 (by decide) (by decide) h33 dX8_init_40 ?_
  refine r_eqR e35 ?_
  refine r_eqW e37 ?_
  obtain ⟨h38, h⟩ := chk_some h
  obtain ⟨w39, e40, h⟩ := bnd_some h
  refine r_putF (fl_RX8_23 rfl) rfl rfl rfl rfl (ck_ty (by decide) 5 (by decide)) rfl rfl dX8_init_42 h38 ?_
  refine r_eqW e40 ?_
  refine r_aload_n dX8_init_45 0 rfl ?_
  refine r_bipush (v := 8) dX8_init_46 (by decide) ?_
  obtain ⟨h41, h⟩ := chk_some h
  obtain ⟨o42, e43, h⟩ := bnd_some h
  obtain ⟨w44, e45, h⟩ := bnd_some h
  refine r_newI rfl (by decide) tarr0 (by decide) (by decide) h41 dX8_init_48 ?_
  refine r_eqR e43 ?_
  refine r_eqW e45 ?_
  obtain ⟨h46, h⟩ := chk_some h
  obtain ⟨w47, e48, h⟩ := bnd_some h
  refine r_putF (fl_RX8_26 rfl) rfl rfl rfl rfl (ck_ty (by decide) 7 (by decide)) rfl rfl dX8_init_50 h46 ?_
  refine r_eqW e48 ?_
  refine r_aload_n dX8_init_53 0 rfl ?_
  refine r_bipush (v := 8) dX8_init_54 (by decide) ?_
  obtain ⟨h49, h⟩ := chk_some h
  obtain ⟨o50, e51, h⟩ := bnd_some h
  obtain ⟨w52, e53, h⟩ := bnd_some h
  refine r_newI rfl (by decide) tarr0 (by decide) (by decide) h49 dX8_init_56 ?_
  refine r_eqR e51 ?_
  refine r_eqW e53 ?_
  obtain ⟨h54, h⟩ := chk_some h
  obtain ⟨w55, e56, h⟩ := bnd_some h
  refine r_putF (fl_RX8_29 rfl) rfl rfl rfl rfl (ck_ty (by decide) 8 (by decide)) rfl rfl dX8_init_58 h54 ?_
  refine r_eqW e56 ?_
  refine r_aload_n dX8_init_61 0 rfl ?_
  refine r_bipush (v := 8) dX8_init_62 (by decide) ?_
  obtain ⟨h57, h⟩ := chk_some h
  obtain ⟨o58, e59, h⟩ := bnd_some h
  obtain ⟨w60, e61, h⟩ := bnd_some h
  refine r_newI rfl (by decide) tarr0 (by decide) (by decide) h57 dX8_init_64 ?_
  refine r_eqR e59 ?_
  refine r_eqW e61 ?_
  obtain ⟨h62, h⟩ := chk_some h
  obtain ⟨w63, e64, h⟩ := bnd_some h
  refine r_putF (fl_RX8_32 rfl) rfl rfl rfl rfl (ck_ty (by decide) 9 (by decide)) rfl rfl dX8_init_66 h62 ?_
  refine r_eqW e64 ?_
  refine r_aload_n dX8_init_69 0 rfl ?_
  refine r_bipush (v := 96) dX8_init_70 (by decide) ?_
  obtain ⟨h65, h⟩ := chk_some h
  obtain ⟨o66, e67, h⟩ := bnd_some h
  obtain ⟨w68, e69, h⟩ := bnd_some h
  refine r_newI rfl (by decide) tarr0 (by decide) (by decide) h65 dX8_init_72 ?_
  refine r_eqR e67 ?_
  refine r_eqW e69 ?_
  obtain ⟨h70, h⟩ := chk_some h
  obtain ⟨w71, e72, h⟩ := bnd_some h
  refine r_putF (fl_RX8_35 rfl) rfl rfl rfl rfl (ck_ty (by decide) 10 (by decide)) rfl rfl dX8_init_74 h70 ?_
  refine r_eqW e72 ?_
  refine r_aload_n dX8_init_77 0 rfl ?_
  refine r_bipush (v := 96) dX8_init_78 (by decide) ?_
  obtain ⟨h73, h⟩ := chk_some h
  obtain ⟨o74, e75, h⟩ := bnd_some h
  obtain ⟨w76, e77, h⟩ := bnd_some h
  refine r_newI rfl (by decide) tarr0 (by decide) (by decide) h73 dX8_init_80 ?_
  refine r_eqR e75 ?_
  refine r_eqW e77 ?_
  obtain ⟨h78, h⟩ := chk_some h
  obtain ⟨w79, e80, h⟩ := bnd_some h
  refine r_putF (fl_RX8_38 rfl) rfl rfl rfl rfl (ck_ty (by decide) 11 (by decide)) rfl rfl dX8_init_82 h78 ?_
  refine r_eqW e80 ?_
  refine r_aload_n dX8_init_85 0 rfl ?_
  refine r_bipush (v := 8) dX8_init_86 (by decide) ?_
  obtain ⟨h81, h⟩ := chk_some h
  obtain ⟨o82, e83, h⟩ := bnd_some h
  obtain ⟨w84, e85, h⟩ := bnd_some h
  refine r_newI rfl (by decide) tarr0 (by decide) (by decide) h81 dX8_init_88 ?_
  refine r_eqR e83 ?_
  refine r_eqW e85 ?_
  obtain ⟨h86, h⟩ := chk_some h
  obtain ⟨w87, e88, h⟩ := bnd_some h
  refine r_putF (fl_RX8_41 rfl) rfl rfl rfl rfl (ck_ty (by decide) 15 (by decide)) rfl rfl dX8_init_90 h86 ?_
  refine r_eqW e88 ?_
  refine r_aload_n dX8_init_93 0 rfl ?_
  refine r_bipush (v := 20) dX8_init_94 (by decide) ?_
  obtain ⟨h89, h⟩ := chk_some h
  obtain ⟨o90, e91, h⟩ := bnd_some h
  obtain ⟨w92, e93, h⟩ := bnd_some h
  refine r_newI rfl (by decide) tarr0 (by decide) (by decide) h89 dX8_init_96 ?_
  refine r_eqR e91 ?_
  refine r_eqW e93 ?_
  obtain ⟨h94, h⟩ := chk_some h
  obtain ⟨w95, e96, h⟩ := bnd_some h
  refine r_putF (fl_RX8_44 rfl) rfl rfl rfl rfl (ck_ty (by decide) 17 (by decide)) rfl rfl dX8_init_98 h94 ?_
  refine r_eqW e96 ?_
  refine r_aload_n dX8_init_101 0 rfl ?_
  refine r_sipush (v := 298) dX8_init_102 (by decide) ?_
  obtain ⟨h97, h⟩ := chk_some h
  obtain ⟨o98, e99, h⟩ := bnd_some h
  obtain ⟨w100, e101, h⟩ := bnd_some h
  refine r_newI rfl (by decide) tarr0 (by decide) (by decide) h97 dX8_init_105 ?_
  refine r_eqR e99 ?_
  refine r_eqW e101 ?_
  obtain ⟨h102, h⟩ := chk_some h
  obtain ⟨w103, e104, h⟩ := bnd_some h
  refine r_putF (fl_RX8_47 rfl) rfl rfl rfl rfl (ck_ty (by decide) 19 (by decide)) rfl rfl dX8_init_107 h102 ?_
  refine r_eqW e104 ?_
  refine r_aload_n dX8_init_110 0 rfl ?_
  refine r_sipush (v := 298) dX8_init_111 (by decide) ?_
  obtain ⟨h105, h⟩ := chk_some h
  obtain ⟨o106, e107, h⟩ := bnd_some h
  obtain ⟨w108, e109, h⟩ := bnd_some h
  refine r_newI rfl (by decide) tarr0 (by decide) (by decide) h105 dX8_init_114 ?_
  refine r_eqR e107 ?_
  refine r_eqW e109 ?_
  obtain ⟨h110, h⟩ := chk_some h
  obtain ⟨w111, e112, h⟩ := bnd_some h
  refine r_putF (fl_RX8_50 rfl) rfl rfl rfl rfl (ck_ty (by decide) 20 (by decide)) rfl rfl dX8_init_116 h110 ?_
  refine r_eqW e112 ?_
  refine r_aload_n dX8_init_119 0 rfl ?_
  refine r_sipush (v := 298) dX8_init_120 (by decide) ?_
  obtain ⟨h113, h⟩ := chk_some h
  obtain ⟨o114, e115, h⟩ := bnd_some h
  obtain ⟨w116, e117, h⟩ := bnd_some h
  refine r_newI rfl (by decide) tarr0 (by decide) (by decide) h113 dX8_init_123 ?_
  refine r_eqR e115 ?_
  refine r_eqW e117 ?_
  obtain ⟨h118, h⟩ := chk_some h
  obtain ⟨w119, e120, h⟩ := bnd_some h
  refine r_putF (fl_RX8_53 rfl) rfl rfl rfl rfl (ck_ty (by decide) 21 (by decide)) rfl rfl dX8_init_125 h118 ?_
  refine r_eqW e120 ?_
  refine r_aload_n dX8_init_128 0 rfl ?_
  refine r_bipush (v := 6) dX8_init_129 (by decide) ?_
  obtain ⟨h121, h⟩ := chk_some h
  obtain ⟨o122, e123, h⟩ := bnd_some h
  obtain ⟨w124, e125, h⟩ := bnd_some h
  refine r_newI rfl (by decide) tarr0 (by decide) (by decide) h121 dX8_init_131 ?_
  refine r_eqR e123 ?_
  refine r_eqW e125 ?_
  obtain ⟨h126, h⟩ := chk_some h
  obtain ⟨w127, e128, h⟩ := bnd_some h
  refine r_putF (fl_RX8_56 rfl) rfl rfl rfl rfl (ck_ty (by decide) 22 (by decide)) rfl rfl dX8_init_133 h126 ?_
  refine r_eqW e128 ?_
  refine r_aload_n dX8_init_136 0 rfl ?_
  refine r_iconst (v := 4) dX8_init_137 (by decide) ?_
  obtain ⟨h129, h⟩ := chk_some h
  obtain ⟨o130, e131, h⟩ := bnd_some h
  obtain ⟨w132, e133, h⟩ := bnd_some h
  refine r_newI rfl (by decide) tarr0 (by decide) (by decide) h129 dX8_init_138 ?_
  refine r_eqR e131 ?_
  refine r_eqW e133 ?_
  obtain ⟨h134, h⟩ := chk_some h
  obtain ⟨w135, e136, h⟩ := bnd_some h
  refine r_putF (fl_RX8_59 rfl) rfl rfl rfl rfl (ck_ty (by decide) 23 (by decide)) rfl rfl dX8_init_140 h134 ?_
  refine r_eqW e136 ?_
  refine r_aload_n dX8_init_143 0 rfl ?_
  refine r_iconst (v := 4) dX8_init_144 (by decide) ?_
  obtain ⟨h137, h⟩ := chk_some h
  obtain ⟨o138, e139, h⟩ := bnd_some h
  obtain ⟨w140, e141, h⟩ := bnd_some h
  refine r_newI rfl (by decide) tarr0 (by decide) (by decide) h137 dX8_init_145 ?_
  refine r_eqR e139 ?_
  refine r_eqW e141 ?_
  obtain ⟨h142, h⟩ := chk_some h
  obtain ⟨w143, e144, h⟩ := bnd_some h
  refine r_putF (fl_RX8_62 rfl) rfl rfl rfl rfl (ck_ty (by decide) 26 (by decide)) rfl rfl dX8_init_147 h142 ?_
  refine r_eqW e144 ?_
  refine r_iconst (v := 0) dX8_init_150 (by decide) ?_
  refine r_istore_n dX8_init_151 rfl (Nat.le_of_ble_eq_true rfl) [(1, .int 0), (0, .ref a0)] rfl ?_
  refine r_iload_n dX8_init_152 0 rfl ?_
  refine r_bipush (v := 8) dX8_init_153 (by decide) ?_
  refine r_icmp_ge (tgt := 171) dX8_init_155 (by decide) (fun hc => absurd hc (by decide)) (fun _ => ?_)
  refine r_aload_n dX8_init_158 1 rfl ?_
  obtain ⟨h145, h⟩ := chk_some h
  obtain ⟨o146, g147, h⟩ := ob_some h
  refine r_getR (fl_RX8_7 rfl) rfl dX8_init_159 h145 g147 ?_
  refine r_iload_n dX8_init_162 0 rfl ?_
  refine r_iconst (v := (-1)) dX8_init_163 (by decide) ?_
  obtain ⟨h148, h⟩ := chk_some h
  obtain ⟨h149, h⟩ := chk_some h
  obtain ⟨w150, e151, h⟩ := bnd_some h
  refine r_iastore dX8_init_164 h148 h149 ?_
  refine r_eqW e151 ?_
  refine r_iinc (v := 1) dX8_init_165 0 rfl (by decide) (Nat.le_of_ble_eq_true rfl) [(1, .int 1), (0, .ref a0)] rfl ?_
  refine r_goto (tgt := 152) dX8_init_168 (by decide) ?_
  refine r_iload_n dX8_init_152 0 rfl ?_
  refine r_bipush (v := 8) dX8_init_153 (by decide) ?_
  refine r_icmp_ge (tgt := 171) dX8_init_155 (by decide) (fun hc => absurd hc (by decide)) (fun _ => ?_)
  refine r_aload_n dX8_init_158 1 rfl ?_
  obtain ⟨h152, h⟩ := chk_some h
  obtain ⟨o153, g154, h⟩ := ob_some h
  refine r_getR (fl_RX8_7 rfl) rfl dX8_init_159 h152 g154 ?_
  refine r_iload_n dX8_init_162 0 rfl ?_
  refine r_iconst (v := (-1)) dX8_init_163 (by decide) ?_
  obtain ⟨h155, h⟩ := chk_some h
  obtain ⟨h156, h⟩ := chk_some h
  obtain ⟨w157, e158, h⟩ := bnd_some h
  refine r_iastore dX8_init_164 h155 h156 ?_
  refine r_eqW e158 ?_
  refine r_iinc (v := 2) dX8_init_165 0 rfl (by decide) (Nat.le_of_ble_eq_true rfl) [(1, .int 2), (0, .ref a0)] rfl ?_
  refine r_goto (tgt := 152) dX8_init_168 (by decide) ?_
  refine r_iload_n dX8_init_152 0 rfl ?_
  refine r_bipush (v := 8) dX8_init_153 (by decide) ?_
  refine r_icmp_ge (tgt := 171) dX8_init_155 (by decide) (fun hc => absurd hc (by decide)) (fun _ => ?_)
  refine r_aload_n dX8_init_158 1 rfl ?_
  obtain ⟨h159, h⟩ := chk_some h
  obtain ⟨o160, g161, h⟩ := ob_some h
  refine r_getR (fl_RX8_7 rfl) rfl dX8_init_159 h159 g161 ?_
  refine r_iload_n dX8_init_162 0 rfl ?_
  refine r_iconst (v := (-1)) dX8_init_163 (by decide) ?_
  obtain ⟨h162, h⟩ := chk_some h
  obtain ⟨h163, h⟩ := chk_some h
  obtain ⟨w164, e165, h⟩ := bnd_some h
  refine r_iastore dX8_init_164 h162 h163 ?_
  refine r_eqW e165 ?_
  refine r_iinc (v := 3) dX8_init_165 0 rfl (by decide) (Nat.le_of_ble_eq_true rfl) [(1, .int 3), (0, .ref a0)] rfl ?_
  refine r_goto (tgt := 152) dX8_init_168 (by decide) ?_
  refine r_iload_n dX8_init_152 0 rfl ?_
  refine r_bipush (v := 8) dX8_init_153 (by decide) ?_
  refine r_icmp_ge (tgt := 171) dX8_init_155 (by decide) (fun hc => absurd hc (by decide)) (fun _ => ?_)
  refine r_aload_n dX8_init_158 1 rfl ?_
  obtain ⟨h166, h⟩ := chk_some h
  obtain ⟨o167, g168, h⟩ := ob_some h
  refine r_getR (fl_RX8_7 rfl) rfl dX8_init_159 h166 g168 ?_
  refine r_iload_n dX8_init_162 0 rfl ?_
  refine r_iconst (v := (-1)) dX8_init_163 (by decide) ?_
  obtain ⟨h169, h⟩ := chk_some h
  obtain ⟨h170, h⟩ := chk_some h
  obtain ⟨w171, e172, h⟩ := bnd_some h
  refine r_iastore dX8_init_164 h169 h170 ?_
  refine r_eqW e172 ?_
  refine r_iinc (v := 4) dX8_init_165 0 rfl (by decide) (Nat.le_of_ble_eq_true rfl) [(1, .int 4), (0, .ref a0)] rfl ?_
  refine r_goto (tgt := 152) dX8_init_168 (by decide) ?_
  refine r_iload_n dX8_init_152 0 rfl ?_
  refine r_bipush (v := 8) dX8_init_153 (by decide) ?_
  refine r_icmp_ge (tgt := 171) dX8_init_155 (by decide) (fun hc => absurd hc (by decide)) (fun _ => ?_)
  refine r_aload_n dX8_init_158 1 rfl ?_
  obtain ⟨h173, h⟩ := chk_some h
  obtain ⟨o174, g175, h⟩ := ob_some h
  refine r_getR (fl_RX8_7 rfl) rfl dX8_init_159 h173 g175 ?_
  refine r_iload_n dX8_init_162 0 rfl ?_
  refine r_iconst (v := (-1)) dX8_init_163 (by decide) ?_
  obtain ⟨h176, h⟩ := chk_some h
  obtain ⟨h177, h⟩ := chk_some h
  obtain ⟨w178, e179, h⟩ := bnd_some h
  refine r_iastore dX8_init_164 h176 h177 ?_
  refine r_eqW e179 ?_
  refine r_iinc (v := 5) dX8_init_165 0 rfl (by decide) (Nat.le_of_ble_eq_true rfl) [(1, .int 5), (0, .ref a0)] rfl ?_
  refine r_goto (tgt := 152) dX8_init_168 (by decide) ?_
  refine r_iload_n dX8_init_152 0 rfl ?_
  refine r_bipush (v := 8) dX8_init_153 (by decide) ?_
  refine r_icmp_ge (tgt := 171) dX8_init_155 (by decide) (fun hc => absurd hc (by decide)) (fun _ => ?_)
  refine r_aload_n dX8_init_158 1 rfl ?_
  obtain ⟨h180, h⟩ := chk_some h
  obtain ⟨o181, g182, h⟩ := ob_some h
  refine r_getR (fl_RX8_7 rfl) rfl dX8_init_159 h180 g182 ?_
  refine r_iload_n dX8_init_162 0 rfl ?_
  refine r_iconst (v := (-1)) dX8_init_163 (by decide) ?_
  obtain ⟨h183, h⟩ := chk_some h
  obtain ⟨h184, h⟩ := chk_some h
  obtain ⟨w185, e186, h⟩ := bnd_some h
  refine r_iastore dX8_init_164 h183 h184 ?_
  refine r_eqW e186 ?_
  refine r_iinc (v := 6) dX8_init_165 0 rfl (by decide) (Nat.le_of_ble_eq_true rfl) [(1, .int 6), (0, .ref a0)] rfl ?_
  refine r_goto (tgt := 152) dX8_init_168 (by decide) ?_
  refine r_iload_n dX8_init_152 0 rfl ?_
  refine r_bipush (v := 8) dX8_init_153 (by decide) ?_
  refine r_icmp_ge (tgt := 171) dX8_init_155 (by decide) (fun hc => absurd hc (by decide)) (fun _ => ?_)
  refine r_aload_n dX8_init_158 1 rfl ?_
  obtain ⟨h187, h⟩ := chk_some h
  obtain ⟨o188, g189, h⟩ := ob_some h
  refine r_getR (fl_RX8_7 rfl) rfl dX8_init_159 h187 g189 ?_
  refine r_iload_n dX8_init_162 0 rfl ?_
  refine r_iconst (v := (-1)) dX8_init_163 (by decide) ?_
  obtain ⟨h190, h⟩ := chk_some h
  obtain ⟨h191, h⟩ := chk_some h
  obtain ⟨w192, e193, h⟩ := bnd_some h
  refine r_iastore dX8_init_164 h190 h191 ?_
  refine r_eqW e193 ?_
  refine r_iinc (v := 7) dX8_init_165 0 rfl (by decide) (Nat.le_of_ble_eq_true rfl) [(1, .int 7), (0, .ref a0)] rfl ?_
  refine r_goto (tgt := 152) dX8_init_168 (by decide) ?_
  refine r_iload_n dX8_init_152 0 rfl ?_
  refine r_bipush (v := 8) dX8_init_153 (by decide) ?_
  refine r_icmp_ge (tgt := 171) dX8_init_155 (by decide) (fun hc => absurd hc (by decide)) (fun _ => ?_)
  refine r_aload_n dX8_init_158 1 rfl ?_
  obtain ⟨h194, h⟩ := chk_some h
  obtain ⟨o195, g196, h⟩ := ob_some h
  refine r_getR (fl_RX8_7 rfl) rfl dX8_init_159 h194 g196 ?_
  refine r_iload_n dX8_init_162 0 rfl ?_
  refine r_iconst (v := (-1)) dX8_init_163 (by decide) ?_
  obtain ⟨h197, h⟩ := chk_some h
  obtain ⟨h198, h⟩ := chk_some h
  obtain ⟨w199, e200, h⟩ := bnd_some h
  refine r_iastore dX8_init_164 h197 h198 ?_
  refine r_eqW e200 ?_
  refine r_iinc (v := 8) dX8_init_165 0 rfl (by decide) (Nat.le_of_ble_eq_true rfl) [(1, .int 8), (0, .ref a0)] rfl ?_
  refine r_goto (tgt := 152) dX8_init_168 (by decide) ?_
  refine r_iload_n dX8_init_152 0 rfl ?_
  refine r_bipush (v := 8) dX8_init_153 (by decide) ?_
  refine r_icmp_ge (tgt := 171) dX8_init_155 (by decide) (fun _ => ?_) (fun hc => absurd (by decide) hc)
  refine r_aload_n dX8_init_171 1 rfl ?_
  refine r_iconst (v := 1) dX8_init_172 (by decide) ?_
  obtain ⟨h201, h⟩ := chk_some h
  obtain ⟨w202, e203, h⟩ := bnd_some h
  refine r_putI (fl_RX8_65 rfl) rfl rfl (ck_ty (by decide) 13 (by decide)) rfl rfl dX8_init_173 h201 ?_
  refine r_eqW e203 ?_
  refine r_aload_n dX8_init_176 1 rfl ?_
  refine r_iconst (v := (-1)) dX8_init_177 (by decide) ?_
  obtain ⟨h204, h⟩ := chk_some h
  obtain ⟨w205, e206, h⟩ := bnd_some h
  refine r_putI (fl_RX8_69 rfl) rfl rfl (ck_ty (by decide) 14 (by decide)) rfl rfl dX8_init_178 h204 ?_
  refine r_eqW e206 ?_
  rw [← Option.some.inj h] at hk
  exact r_return dX8_init_181 rfl hk
set_option maxHeartbeats 1000000 in
set_option maxRecDepth 20000 in
theorem ctX8_init {E : Ev} {a0 : Nat} {w : Wd} {q : Wd} (h : fX8_init a0 w = some q) : CT E mX8_init (6, 18, true) [.ref a0] w (QV q) := CT.of pl_RX8 (Nat.le_of_ble_eq_true rfl) (okX8_init h ⟨rfl, rfl⟩)
