def fX8_doesNow (a0 : Nat) (x1 : Int32) (x2 : Int32) (w : Wd) : Option (Int32 × Wd) :=
  chk (isO w a0 8) (ob (fX8_doesWithout a0 x1 x2 0 w) (fun q2 => some (q2.1, q2.2)))
set_option maxHeartbeats 1000000 in
set_option maxRecDepth 20000 in
theorem okX8_doesNow {E : Ev} {Q : Option Value → Wd → Prop} {a0 : Nat} {x1 : Int32} {x2 : Int32} {w : Wd} {q : Int32 × Wd} (h : fX8_doesNow a0 x1 x2 w = some q) (hk : (fun q : Int32 × Wd => Q (some (.int q.1)) q.2) q) : Runs E mX8_doesNow (8, 0, false) Q 0 0 [(0, .ref a0), (1, .int x1), (2, .int x2)] [] w := by
  unfold fX8_doesNow at h
  refine r_aload_n dX8_doesNow_0 0 rfl ?_
  refine r_iload_n dX8_doesNow_1 1 rfl ?_
  refine r_iload_n dX8_doesNow_2 2 rfl ?_
  refine r_iconst (v := 0) dX8_doesNow_3 (by decide) ?_
  obtain ⟨h1, h⟩ := chk_some h
  obtain ⟨q2, g3, h⟩ := ob_some h
  refine r_callV (d' := (7, 0, false)) (As := [.int x1, .int x2, .int 0]) (st := []) mdv_X8_doesWithout tm_RX8_208 (by decide) rfl rfl (by decide) rfl (Nat.le_refl _) (Nat.le_of_ble_eq_true rfl) rfl dX8_doesNow_4 h1 (ctX8_doesWithout g3) (k_I0 ?_)
  rw [← Option.some.inj h] at hk
  exact r_ireturn dX8_doesNow_7 rfl rfl hk
set_option maxHeartbeats 1000000 in
set_option maxRecDepth 20000 in
theorem ctX8_doesNow {E : Ev} {a0 : Nat} {x1 : Int32} {x2 : Int32} {w : Wd} {q : Int32 × Wd} (h : fX8_doesNow a0 x1 x2 w = some q) : CT E mX8_doesNow (8, 0, false) [.ref a0, .int x1, .int x2] w (QI q) := CT.of pl_RX8 (Nat.le_of_ble_eq_true rfl) (okX8_doesNow h ⟨rfl, rfl⟩)
def fX8_step_b40 (w : Wd) : Option (Int32 × Wd) :=
  some (2, w)
set_option maxHeartbeats 1000000 in
set_option maxRecDepth 20000 in
theorem okX8_step_b40 {E : Ev} {Q : Option Value → Wd → Prop} {w : Wd} {q : Int32 × Wd} (h : fX8_step_b40 w = some q) (hk : (fun q : Int32 × Wd => Q (some (.int q.1)) q.2) q) : Runs E mX8_step (6, 0, false) Q 0 40 [] [] w := by
  unfold fX8_step_b40 at h
  refine r_iconst (v := 2) dX8_step_40 (by decide) ?_
  rw [← Option.some.inj h] at hk
  exact r_ireturn dX8_step_41 rfl rfl hk
def fX8_step_b52 (s0 : Int32) (w : Wd) : Option (Int32 × Wd) :=
  some (s0, w)
set_option maxHeartbeats 1000000 in
set_option maxRecDepth 20000 in
theorem okX8_step_b52 {E : Ev} {Q : Option Value → Wd → Prop} {s0 : Int32} {w : Wd} {q : Int32 × Wd} (h : fX8_step_b52 s0 w = some q) (hk : (fun q : Int32 × Wd => Q (some (.int q.1)) q.2) q) : Runs E mX8_step (6, 0, false) Q 0 52 [] [.int s0] w := by
  unfold fX8_step_b52 at h
  rw [← Option.some.inj h] at hk
  exact r_ireturn dX8_step_52 rfl rfl hk
def fX8_step_b42 (x2 : Int32) (w : Wd) : Option (Int32 × Wd) :=
  if x2 = 0 then (fX8_step_b52 9 w) else (fX8_step_b52 0 w)
set_option maxHeartbeats 1000000 in
set_option maxRecDepth 20000 in
theorem okX8_step_b42 {E : Ev} {Q : Option Value → Wd → Prop} {x2 : Int32} {w : Wd} {q : Int32 × Wd} (h : fX8_step_b42 x2 w = some q) (hk : (fun q : Int32 × Wd => Q (some (.int q.1)) q.2) q) : Runs E mX8_step (6, 0, false) Q 0 42 [(2, .int x2)] [] w := by
  unfold fX8_step_b42 at h
  refine r_iload_n dX8_step_42 0 rfl ?_
  refine r_if_ne (tgt := 51) dX8_step_43 (by decide) (fun c1 => ?_) (fun c1 => ?_)
  · rw [if_neg c1] at h
    refine r_iconst (v := 0) dX8_step_51 (by decide) ?_
    refine r_sub [] [] rfl ?_
    exact okX8_step_b52 h hk
  · rw [if_pos c1] at h
    refine r_bipush (v := 9) dX8_step_46 (by decide) ?_
    refine r_goto (tgt := 52) dX8_step_48 (by decide) ?_
    refine r_sub [] [] rfl ?_
    exact okX8_step_b52 h hk
def fX8_step (a0 : Nat) (x1 : Int32) (x2 : Int32) (w : Wd) : Option (Int32 × Wd) :=
  chk (isO w a0 8) (ob (wR w a0 7) (fun o2 => chk (isA w o2 0) (chk (inb x1 (wn w o2)) (if (wI w o2 (x1).toNatClampNeg) = 2 then (fX8_step_b40 w) else (if (wI w o2 (x1).toNatClampNeg) = 3 then (fX8_step_b40 w) else (if (wI w o2 (x1).toNatClampNeg) = 4 then (fX8_step_b42 x2 w) else (if (wI w o2 (x1).toNatClampNeg) = 5 then (some (3, w)) else (if (wI w o2 (x1).toNatClampNeg) = 6 then (fX8_step_b42 x2 w) else (some (1, w))))))))))
set_option maxHeartbeats 1000000 in
set_option maxRecDepth 20000 in
theorem okX8_step {E : Ev} {Q : Option Value → Wd → Prop} {a0 : Nat} {x1 : Int32} {x2 : Int32} {w : Wd} {q : Int32 × Wd} (h : fX8_step a0 x1 x2 w = some q) (hk : (fun q : Int32 × Wd => Q (some (.int q.1)) q.2) q) : Runs E mX8_step (6, 0, false) Q 0 0 [(0, .ref a0), (1, .int x1), (2, .int x2)] [] w := by
  unfold fX8_step at h
  refine r_aload_n dX8_step_0 0 rfl ?_
  obtain ⟨h1, h⟩ := chk_some h
  obtain ⟨o2, g3, h⟩ := ob_some h
  refine r_getR (fl_RX8_26 rfl) rfl dX8_step_1 h1 g3 ?_
  refine r_iload_n dX8_step_4 1 rfl ?_
  obtain ⟨h4, h⟩ := chk_some h
  obtain ⟨h5, h⟩ := chk_some h
  refine r_iaload dX8_step_5 h4 h5 ?_
  by_cases c6 : (wI w o2 (x1).toNatClampNeg) = 2
  · rw [if_pos c6] at h
    refine r_tabIn (tgt := 40) dX8_step_6 (by rw [c6] <;> decide) (by rw [c6] <;> decide) (by rw [c6] <;> rfl) (by decide) ?_
    refine r_sub [] [] rfl ?_
    exact okX8_step_b40 h hk
  rw [if_neg c6] at h
  by_cases c7 : (wI w o2 (x1).toNatClampNeg) = 3
  · rw [if_pos c7] at h
    refine r_tabIn (tgt := 40) dX8_step_6 (by rw [c7] <;> decide) (by rw [c7] <;> decide) (by rw [c7] <;> rfl) (by decide) ?_
    refine r_sub [] [] rfl ?_
    exact okX8_step_b40 h hk
  rw [if_neg c7] at h
  by_cases c8 : (wI w o2 (x1).toNatClampNeg) = 4
  · rw [if_pos c8] at h
    refine r_tabIn (tgt := 42) dX8_step_6 (by rw [c8] <;> decide) (by rw [c8] <;> decide) (by rw [c8] <;> rfl) (by decide) ?_
    refine r_sub [2] [(2, .int x2)] rfl ?_
    exact okX8_step_b42 h hk
  rw [if_neg c8] at h
  by_cases c9 : (wI w o2 (x1).toNatClampNeg) = 5
  · rw [if_pos c9] at h
    refine r_tabIn (tgt := 53) dX8_step_6 (by rw [c9] <;> decide) (by rw [c9] <;> decide) (by rw [c9] <;> rfl) (by decide) ?_
    refine r_iconst (v := 3) dX8_step_53 (by decide) ?_
    rw [← Option.some.inj h] at hk
    exact r_ireturn dX8_step_54 rfl rfl hk
  rw [if_neg c9] at h
  by_cases c10 : (wI w o2 (x1).toNatClampNeg) = 6
  · rw [if_pos c10] at h
    refine r_tabIn (tgt := 42) dX8_step_6 (by rw [c10] <;> decide) (by rw [c10] <;> decide) (by rw [c10] <;> rfl) (by decide) ?_
    refine r_sub [2] [(2, .int x2)] rfl ?_
    exact okX8_step_b42 h hk
  rw [if_neg c10] at h
  refine r_tabOut (tgt := 55) dX8_step_6 (by have := lv_neT (k := 2) (a := 2) c6 rfl; have := lv_neT (k := 3) (a := 3) c7 rfl; have := lv_neT (k := 4) (a := 4) c8 rfl; have := lv_neT (k := 5) (a := 5) c9 rfl; have := lv_neT (k := 6) (a := 6) c10 rfl; omega) (by decide) ?_
  refine r_iconst (v := 1) dX8_step_55 (by decide) ?_
  rw [← Option.some.inj h] at hk
  exact r_ireturn dX8_step_56 rfl rfl hk
set_option maxHeartbeats 1000000 in
set_option maxRecDepth 20000 in
theorem ctX8_step {E : Ev} {a0 : Nat} {x1 : Int32} {x2 : Int32} {w : Wd} {q : Int32 × Wd} (h : fX8_step a0 x1 x2 w = some q) : CT E mX8_step (6, 0, false) [.ref a0, .int x1, .int x2] w (QI q) := CT.of pl_RX8 (Nat.le_of_ble_eq_true rfl) (okX8_step h ⟨rfl, rfl⟩)
def fX8_learns_b31 (w : Wd) : Option (Wd) :=
  some w
set_option maxHeartbeats 1000000 in
set_option maxRecDepth 20000 in
theorem okX8_learns_b31 {E : Ev} {Q : Option Value → Wd → Prop} {w : Wd} {q : Wd} (h : fX8_learns_b31 w = some q) (hk : (fun q : Wd => Q none q) q) : Runs E mX8_learns (8, 0, false) Q 0 31 [] [] w := by
  unfold fX8_learns_b31 at h
  rw [← Option.some.inj h] at hk
  exact r_return dX8_learns_31 rfl hk
def fX8_learns_b114 (w : Wd) : Option (Wd) :=
  some w
set_option maxHeartbeats 1000000 in
set_option maxRecDepth 20000 in
theorem okX8_learns_b114 {E : Ev} {Q : Option Value → Wd → Prop} {w : Wd} {q : Wd} (h : fX8_learns_b114 w = some q) (hk : (fun q : Wd => Q none q) q) : Runs E mX8_learns (8, 0, false) Q 0 114 [] [] w := by
  unfold fX8_learns_b114 at h
  rw [← Option.some.inj h] at hk
  exact r_return dX8_learns_114 rfl hk
def fX8_learns_b111 (s0 : Int32) (s1 : Int32) (s2 : Int32) (s3 : Int32) (s4 : Nat) (w : Wd) : Option (Wd) :=
  chk (isO w s4 8) (ob (fX8_becomes s4 s3 s2 s1 s0 w) (fun q2 => fX8_learns_b114 q2))
set_option maxHeartbeats 1000000 in
set_option maxRecDepth 20000 in
theorem okX8_learns_b111 {E : Ev} {Q : Option Value → Wd → Prop} {s0 : Int32} {s1 : Int32} {s2 : Int32} {s3 : Int32} {s4 : Nat} {w : Wd} {q : Wd} (h : fX8_learns_b111 s0 s1 s2 s3 s4 w = some q) (hk : (fun q : Wd => Q none q) q) : Runs E mX8_learns (8, 0, false) Q 0 111 [] [.int s0, .int s1, .int s2, .int s3, .ref s4] w := by
  unfold fX8_learns_b111 at h
  obtain ⟨h1, h⟩ := chk_some h
  obtain ⟨q2, g3, h⟩ := ob_some h
  refine r_callV (d' := (6, 0, false)) (As := [.int s3, .int s2, .int s1, .int s0]) (st := []) mdv_X8_becomes tm_RX8_128 (by decide) rfl rfl (by decide) rfl (Nat.le_refl _) (Nat.le_of_ble_eq_true rfl) rfl dX8_learns_111 h1 (ctX8_becomes g3) (k_V0 ?_)
  refine r_sub [] [] rfl ?_
  exact okX8_learns_b114 h hk
def fX8_learns (a0 : Nat) (x1 : Int32) (x2 : Int32) (x3 : Int32) (w : Wd) : Option (Wd) :=
  bnd ((12 * x1) + x2) (fun u1 => chk (isO w a0 8) (ob (wR w a0 10) (fun o4 => chk (isA w o4 0) (chk (inb u1 (wn w o4)) (ob (fX8_step a0 x1 (wI w o4 (u1).toNatClampNeg) w) (fun q8 => if x3 = 0 then (fX8_learns_b31 q8.2) else (if q8.1 = 0 then (fX8_learns_b31 q8.2) else (chk (isO q8.2 a0 8) (ob (wR q8.2 a0 10) (fun o13 => chk (isA q8.2 o13 0) (chk (inb u1 (wn q8.2 o13)) (if (wI q8.2 o13 (u1).toNatClampNeg) = x3 then (ob (wR q8.2 a0 11) (fun o37 => chk (isA q8.2 o37 0) (chk (inb u1 (wn q8.2 o37)) (bnd (sI q8.2 o37 (u1).toNatClampNeg (if ((wI q8.2 o37 (u1).toNatClampNeg) + q8.1) < 9 then ((wI q8.2 o37 (u1).toNatClampNeg) + q8.1) else 9)) (fun w41 => some w41))))) else (ob (wR q8.2 a0 11) (fun o18 => chk (isA q8.2 o18 0) (chk (inb u1 (wn q8.2 o18)) (bnd (sI q8.2 o18 (u1).toNatClampNeg ((wI q8.2 o18 (u1).toNatClampNeg) - q8.1)) (fun w22 => chk (isO w22 a0 8) (ob (wR w22 a0 11) (fun o25 => chk (isA w22 o25 0) (chk (inb u1 (wn w22 o25)) (if 0 < (wI w22 o25 (u1).toNatClampNeg) then (fX8_learns_b114 w22) else (ob (wR w22 a0 7) (fun o30 => chk (isA w22 o30 0) (chk (inb x1 (wn w22 o30)) (ob (fX8_isUnder (wI w22 o30 (x1).toNatClampNeg) 4 w22) (fun q34 => if q34.1 = 0 then (fX8_learns_b111 1 x3 x2 x1 a0 q34.2) else (fX8_learns_b111 9 x3 x2 x1 a0 q34.2)))))))))))))))))))))))))))
set_option maxHeartbeats 1000000 in
set_option maxRecDepth 20000 in
theorem okX8_learns {E : Ev} {Q : Option Value → Wd → Prop} {a0 : Nat} {x1 : Int32} {x2 : Int32} {x3 : Int32} {w : Wd} {q : Wd} (h : fX8_learns a0 x1 x2 x3 w = some q) (hk : (fun q : Wd => Q none q) q) : Runs E mX8_learns (8, 0, false) Q 0 0 [(0, .ref a0), (1, .int x1), (2, .int x2), (3, .int x3)] [] w := by
  unfold fX8_learns at h
  refine r_bipush (v := 12) dX8_learns_0 (by decide) ?_
  refine r_iload_n dX8_learns_2 1 rfl ?_
  refine r_imul dX8_learns_3 ?_
  refine r_iload_n dX8_learns_4 2 rfl ?_
  refine r_iadd dX8_learns_5 ?_
  obtain ⟨u1, e2, h⟩ := bnd_some h
  refine r_eqI e2 ?_
  refine r_istore dX8_learns_6 (Nat.le_of_ble_eq_true rfl) [(4, .int u1), (0, .ref a0), (1, .int x1), (2, .int x2), (3, .int x3)] rfl ?_
  refine r_aload_n dX8_learns_8 1 rfl ?_
  refine r_iload_n dX8_learns_9 2 rfl ?_
  refine r_aload_n dX8_learns_10 1 rfl ?_
  obtain ⟨h3, h⟩ := chk_some h
  obtain ⟨o4, g5, h⟩ := ob_some h
  refine r_getR (fl_RX8_35 rfl) rfl dX8_learns_11 h3 g5 ?_
  refine r_iload dX8_learns_14 0 rfl ?_
  obtain ⟨h6, h⟩ := chk_some h
  obtain ⟨h7, h⟩ := chk_some h
  refine r_iaload dX8_learns_16 h6 h7 ?_
  obtain ⟨q8, g9, h⟩ := ob_some h
  refine r_callV (d' := (6, 0, false)) (As := [.int x1, .int (wI w o4 (u1).toNatClampNeg)]) (st := []) mdv_X8_step tm_RX8_106 (by decide) rfl rfl (by decide) rfl (Nat.le_refl _) (Nat.le_of_ble_eq_true rfl) rfl dX8_learns_17 h3 (ctX8_step g9) (k_I0 ?_)
  refine r_istore dX8_learns_20 (Nat.le_of_ble_eq_true rfl) [(5, .int q8.1), (4, .int u1), (0, .ref a0), (1, .int x1), (2, .int x2), (3, .int x3)] rfl ?_
  refine r_iload_n dX8_learns_22 5 rfl ?_
  refine r_if_eq (tgt := 31) dX8_learns_23 (by decide) (fun c10 => ?_) (fun c10 => ?_)
  · rw [if_pos c10] at h
    refine r_sub [] [] rfl ?_
    exact okX8_learns_b31 h hk
  · rw [if_neg c10] at h
    refine r_iload dX8_learns_26 0 rfl ?_
    refine r_if_ne (tgt := 32) dX8_learns_28 (by decide) (fun c11 => ?_) (fun c11 => ?_)
    · rw [if_neg c11] at h
      refine r_aload_n dX8_learns_32 2 rfl ?_
      obtain ⟨h12, h⟩ := chk_some h
      obtain ⟨o13, g14, h⟩ := ob_some h
      refine r_getR (fl_RX8_35 rfl) rfl dX8_learns_33 h12 g14 ?_
      refine r_iload dX8_learns_36 1 rfl ?_
      obtain ⟨h15, h⟩ := chk_some h
      obtain ⟨h16, h⟩ := chk_some h
      refine r_iaload dX8_learns_38 h15 h16 ?_
      refine r_iload_n dX8_learns_39 5 rfl ?_
      refine r_icmp_ne (tgt := 66) dX8_learns_40 (by decide) (fun c17 => ?_) (fun c17 => ?_)
      · rw [if_neg c17] at h
        refine r_aload_n dX8_learns_66 2 rfl ?_
        obtain ⟨o18, g19, h⟩ := ob_some h
        refine r_getR (fl_RX8_38 rfl) rfl dX8_learns_67 h12 g19 ?_
        refine r_iload dX8_learns_70 1 rfl ?_
        refine r_dup2 dX8_learns_72 rfl rfl ?_
        obtain ⟨h20, h⟩ := chk_some h
        obtain ⟨h21, h⟩ := chk_some h
        refine r_iaload dX8_learns_73 h20 h21 ?_
        refine r_iload dX8_learns_74 0 rfl ?_
        refine r_isub dX8_learns_76 ?_
        obtain ⟨w22, e23, h⟩ := bnd_some h
        refine r_iastore dX8_learns_77 h20 h21 ?_
        refine r_eqW e23 ?_
        refine r_aload_n dX8_learns_78 2 rfl ?_
        obtain ⟨h24, h⟩ := chk_some h
        obtain ⟨o25, g26, h⟩ := ob_some h
        refine r_getR (fl_RX8_38 rfl) rfl dX8_learns_79 h24 g26 ?_
        refine r_iload dX8_learns_82 1 rfl ?_
        obtain ⟨h27, h⟩ := chk_some h
        obtain ⟨h28, h⟩ := chk_some h
        refine r_iaload dX8_learns_84 h27 h28 ?_
        refine r_if_gt (tgt := 114) dX8_learns_85 (by decide) (fun c29 => ?_) (fun c29 => ?_)
        · rw [if_pos c29] at h
          refine r_sub [] [] rfl ?_
          exact okX8_learns_b114 h hk
        · rw [if_neg c29] at h
          refine r_aload_n dX8_learns_88 2 rfl ?_
          refine r_iload_n dX8_learns_89 3 rfl ?_
          refine r_iload_n dX8_learns_90 4 rfl ?_
          refine r_iload_n dX8_learns_91 5 rfl ?_
          refine r_aload_n dX8_learns_92 2 rfl ?_
          obtain ⟨o30, g31, h⟩ := ob_some h
          refine r_getR (fl_RX8_26 rfl) rfl dX8_learns_93 h24 g31 ?_
          refine r_iload_n dX8_learns_96 3 rfl ?_
          obtain ⟨h32, h⟩ := chk_some h
          obtain ⟨h33, h⟩ := chk_some h
          refine r_iaload dX8_learns_97 h32 h33 ?_
          refine r_iconst (v := 4) dX8_learns_98 (by decide) ?_
          obtain ⟨q34, g35, h⟩ := ob_some h
          refine r_callS (d' := (7, 0, false)) (As := [.int (wI w22 o30 (x1).toNatClampNeg), .int 4]) (st := [.int x3, .int x2, .int x1, .ref a0]) mds_X8_isUnder tm_RX8_99 rfl (by decide) rfl (Nat.le_refl _) (Nat.le_of_ble_eq_true rfl) rfl dX8_learns_99 (ctX8_isUnder g35) (k_I0 ?_)
          refine r_if_eq (tgt := 110) dX8_learns_102 (by decide) (fun c36 => ?_) (fun c36 => ?_)
          · rw [if_pos c36] at h
            refine r_iconst (v := 1) dX8_learns_110 (by decide) ?_
            refine r_sub [] [] rfl ?_
            exact okX8_learns_b111 h hk
          · rw [if_neg c36] at h
            refine r_bipush (v := 9) dX8_learns_105 (by decide) ?_
            refine r_goto (tgt := 111) dX8_learns_107 (by decide) ?_
            refine r_sub [] [] rfl ?_
            exact okX8_learns_b111 h hk
      · rw [if_pos c17] at h
        refine r_aload_n dX8_learns_43 2 rfl ?_
        obtain ⟨o37, g38, h⟩ := ob_some h
        refine r_getR (fl_RX8_38 rfl) rfl dX8_learns_44 h12 g38 ?_
        refine r_iload dX8_learns_47 1 rfl ?_
        refine r_bipush (v := 9) dX8_learns_49 (by decide) ?_
        refine r_aload_n dX8_learns_51 2 rfl ?_
        refine r_getR (fl_RX8_38 rfl) rfl dX8_learns_52 h12 g38 ?_
        refine r_iload dX8_learns_55 1 rfl ?_
        obtain ⟨h39, h⟩ := chk_some h
        obtain ⟨h40, h⟩ := chk_some h
        refine r_iaload dX8_learns_57 h39 h40 ?_
        refine r_iload dX8_learns_58 0 rfl ?_
        refine r_iadd dX8_learns_60 ?_
        refine r_mmin (Nat.le_of_ble_eq_true rfl) (Nat.le_of_ble_eq_true rfl) tmm_RX8_212 tst_mmin ti_RJ9 tcode_mmin (by decide) dX8_learns_61 ?_
        obtain ⟨w41, e42, h⟩ := bnd_some h
        refine r_iastore dX8_learns_64 h39 h40 ?_
        refine r_eqW e42 ?_
        rw [← Option.some.inj h] at hk
        exact r_return dX8_learns_65 rfl hk
    · rw [if_pos c11] at h
      refine r_sub [] [] rfl ?_
      exact okX8_learns_b31 h hk
set_option maxHeartbeats 1000000 in
set_option maxRecDepth 20000 in
theorem ctX8_learns {E : Ev} {a0 : Nat} {x1 : Int32} {x2 : Int32} {x3 : Int32} {w : Wd} {q : Wd} (h : fX8_learns a0 x1 x2 x3 w = some q) : CT E mX8_learns (8, 0, false) [.ref a0, .int x1, .int x2, .int x3] w (QV q) := CT.of pl_RX8 (Nat.le_of_ble_eq_true rfl) (okX8_learns h ⟨rfl, rfl⟩)
def PX8_day_L4 (E : Ev) (Q : Option Value → Wd → Prop) (a0 : Nat) (s : Int32 × Int32 × Wd) : Prop := Runs E mX8_day (9, 0, false) Q 0 4 [(0, .ref a0), (1, .int s.1), (2, .int s.2.1)] [] s.2.2
def PX8_day_L12 (E : Ev) (Q : Option Value → Wd → Prop) (a0 : Nat) (x2 : Int32) (s : Int32 × Int32 × Wd) : Prop := Runs E mX8_day (9, 0, false) Q 0 12 [(0, .ref a0), (1, .int s.1), (2, .int x2), (3, .int s.2.1)] [] s.2.2
def PX8_day_L52 (E : Ev) (Q : Option Value → Wd → Prop) (a0 : Nat) (x1 : Int32) (x2 : Int32) (s : Int32 × Wd) : Prop := Runs E mX8_day (9, 0, false) Q 0 52 [(0, .ref a0), (1, .int x1), (2, .int x2), (3, .int s.1)] [] s.2
def fX8_day_b87 (a0 : Nat) (x1 : Int32) (x2 : Int32) (x3 : Int32) (w : Wd) : Option ((Int32 × Wd) ⊕ ((Int32 × Int32 × Wd) ⊕ (Int32 × Wd))) :=
  some (.inl ((x3 + 1), w))
set_option maxHeartbeats 1000000 in
set_option maxRecDepth 20000 in
theorem okX8_day_b87 {E : Ev} {Q : Option Value → Wd → Prop} {a0 : Nat} {x1 : Int32} {x2 : Int32} {x3 : Int32} {w : Wd} {q : (Int32 × Wd) ⊕ ((Int32 × Int32 × Wd) ⊕ (Int32 × Wd))} (h : fX8_day_b87 a0 x1 x2 x3 w = some q) (hk : (Sum.elim (PX8_day_L52 E Q a0 x1 x2) (Sum.elim (PX8_day_L4 E Q a0) (fun q : Int32 × Wd => Q (some (.int q.1)) q.2))) q) : Runs E mX8_day (9, 0, false) Q 0 87 [(0, .ref a0), (1, .int x1), (2, .int x2), (3, .int x3)] [] w := by
  unfold fX8_day_b87 at h
  refine r_iinc (v := (x3 + 1)) dX8_day_87 3 rfl rfl (Nat.le_of_ble_eq_true rfl) [(3, .int (x3 + 1)), (0, .ref a0), (1, .int x1), (2, .int x2)] rfl ?_
  refine r_goto (tgt := 52) dX8_day_90 (by decide) ?_
  rw [← Option.some.inj h] at hk
  refine r_sub [1, 2, 3, 0] [(0, .ref a0), (1, .int x1), (2, .int x2), (3, .int (x3 + 1))] rfl ?_
  exact hk
def fX8_day_L52_body (a0 : Nat) (x1 : Int32) (x2 : Int32) (s : Int32 × Wd) : Option ((Int32 × Wd) ⊕ ((Int32 × Int32 × Wd) ⊕ (Int32 × Wd))) :=
  chk (isO s.2 a0 8) (if (wI s.2 a0 6) ≤ s.1 then (wr (some (.inl (x1, (x2 + 1), s.2)))) else (ob (wR s.2 a0 9) (fun o4 => chk (isA s.2 o4 0) (chk (inb s.1 (wn s.2 o4)) (if (wI s.2 o4 (s.1).toNatClampNeg) = (-1) then (fX8_day_b87 a0 x1 x2 s.1 s.2) else (ob (wR s.2 a0 22) (fun o9 => chk (isA s.2 o9 0) (chk (inb (wI s.2 o4 (s.1).toNatClampNeg) (wn s.2 o9)) (ob (fX8_learns a0 s.1 x2 (wI s.2 o9 ((wI s.2 o4 (s.1).toNatClampNeg)).toNatClampNeg) s.2) (fun q13 => fX8_day_b87 a0 x1 x2 s.1 q13))))))))))
set_option maxHeartbeats 1000000 in
set_option maxRecDepth 20000 in
theorem okX8_day_L52_body {E : Ev} {Q : Option Value → Wd → Prop} {a0 : Nat} {x1 : Int32} {x2 : Int32} {s : Int32 × Wd} {r : (Int32 × Wd) ⊕ ((Int32 × Int32 × Wd) ⊕ (Int32 × Wd))} (h : fX8_day_L52_body a0 x1 x2 s = some r) (hk : (Sum.elim (PX8_day_L52 E Q a0 x1 x2) (Sum.elim (PX8_day_L4 E Q a0) (fun q : Int32 × Wd => Q (some (.int q.1)) q.2))) r) : PX8_day_L52 E Q a0 x1 x2 s := by
  unfold fX8_day_L52_body at h
  unfold PX8_day_L52
  refine r_iload_n dX8_day_52 3 rfl ?_
  refine r_aload_n dX8_day_53 0 rfl ?_
  obtain ⟨h1, h⟩ := chk_some h
  refine r_getI (fl_RX8_76 rfl) rfl dX8_day_54 h1 ?_
  refine r_icmp_ge (tgt := 93) dX8_day_57 (by decide) (fun c2 => ?_) (fun c2 => ?_)
  · rw [if_pos c2] at h
    obtain ⟨r3, hr, h⟩ := wr_some h
    rw [hr] at hk
    refine r_iinc (v := (x2 + 1)) dX8_day_93 2 rfl rfl (Nat.le_of_ble_eq_true rfl) [(2, .int (x2 + 1)), (0, .ref a0), (1, .int x1), (3, .int s.1)] rfl ?_
    refine r_goto (tgt := 4) dX8_day_96 (by decide) ?_
    rw [← Option.some.inj h] at hk
    refine r_sub [1, 2, 0] [(0, .ref a0), (1, .int x1), (2, .int (x2 + 1))] rfl ?_
    exact hk
  · rw [if_neg c2] at h
    refine r_aload_n dX8_day_60 0 rfl ?_
    obtain ⟨o4, g5, h⟩ := ob_some h
    refine r_getR (fl_RX8_32 rfl) rfl dX8_day_61 h1 g5 ?_
    refine r_iload_n dX8_day_64 3 rfl ?_
    obtain ⟨h6, h⟩ := chk_some h
    obtain ⟨h7, h⟩ := chk_some h
    refine r_iaload dX8_day_65 h6 h7 ?_
    refine r_iconst (v := (-1)) dX8_day_66 (by decide) ?_
    refine r_icmp_eq (tgt := 87) dX8_day_67 (by decide) (fun c8 => ?_) (fun c8 => ?_)
    · rw [if_pos c8] at h
      refine r_sub [0, 1, 2, 3] [(0, .ref a0), (1, .int x1), (2, .int x2), (3, .int s.1)] rfl ?_
      exact okX8_day_b87 h hk
    · rw [if_neg c8] at h
      refine r_aload_n dX8_day_70 0 rfl ?_
      refine r_iload_n dX8_day_71 3 rfl ?_
      refine r_iload_n dX8_day_72 2 rfl ?_
      refine r_aload_n dX8_day_73 0 rfl ?_
      obtain ⟨o9, g10, h⟩ := ob_some h
      refine r_getR (fl_RX8_56 rfl) rfl dX8_day_74 h1 g10 ?_
      refine r_aload_n dX8_day_77 0 rfl ?_
      refine r_getR (fl_RX8_32 rfl) rfl dX8_day_78 h1 g5 ?_
      refine r_iload_n dX8_day_81 3 rfl ?_
      refine r_iaload dX8_day_82 h6 h7 ?_
      obtain ⟨h11, h⟩ := chk_some h
      obtain ⟨h12, h⟩ := chk_some h
      refine r_iaload dX8_day_83 h11 h12 ?_
      obtain ⟨q13, g14, h⟩ := ob_some h
      refine r_callV (d' := (8, 0, false)) (As := [.int s.1, .int x2, .int (wI s.2 o9 ((wI s.2 o4 (s.1).toNatClampNeg)).toNatClampNeg)]) (st := []) mdv_X8_learns tm_RX8_220 (by decide) rfl rfl (by decide) rfl (Nat.le_refl _) (Nat.le_of_ble_eq_true rfl) rfl dX8_day_84 h1 (ctX8_learns g14) (k_V0 ?_)
      refine r_sub [0, 1, 2, 3] [(0, .ref a0), (1, .int x1), (2, .int x2), (3, .int s.1)] rfl ?_
      exact okX8_day_b87 h hk
def fX8_day_L52 (a0 : Nat) (x1 : Int32) (x2 : Int32) (s : Int32 × Wd) : Option ((Int32 × Int32 × Wd) ⊕ (Int32 × Wd)) := it (fX8_day_L52_body a0 x1 x2) FU s
set_option maxHeartbeats 1000000 in
set_option maxRecDepth 20000 in
theorem okX8_day_L52 {E : Ev} {Q : Option Value → Wd → Prop} {a0 : Nat} {x1 : Int32} {x2 : Int32} {s : Int32 × Wd} {r : (Int32 × Int32 × Wd) ⊕ (Int32 × Wd)} (h : fX8_day_L52 a0 x1 x2 s = some r) (hk : (Sum.elim (PX8_day_L4 E Q a0) (fun q : Int32 × Wd => Q (some (.int q.1)) q.2)) r) : PX8_day_L52 E Q a0 x1 x2 s := it_runs (fun s r h hk => okX8_day_L52_body h hk) FU s r h hk
def fX8_day_b44 (a0 : Nat) (x1 : Int32) (x2 : Int32) (x3 : Int32) (w : Wd) : Option ((Int32 × Int32 × Wd) ⊕ ((Int32 × Int32 × Wd) ⊕ (Int32 × Wd))) :=
  some (.inl (x1, (x3 + 1), w))
set_option maxHeartbeats 1000000 in
set_option maxRecDepth 20000 in
theorem okX8_day_b44 {E : Ev} {Q : Option Value → Wd → Prop} {a0 : Nat} {x1 : Int32} {x2 : Int32} {x3 : Int32} {w : Wd} {q : (Int32 × Int32 × Wd) ⊕ ((Int32 × Int32 × Wd) ⊕ (Int32 × Wd))} (h : fX8_day_b44 a0 x1 x2 x3 w = some q) (hk : (Sum.elim (PX8_day_L12 E Q a0 x2) (Sum.elim (PX8_day_L4 E Q a0) (fun q : Int32 × Wd => Q (some (.int q.1)) q.2))) q) : Runs E mX8_day (9, 0, false) Q 0 44 [(0, .ref a0), (1, .int x1), (2, .int x2), (3, .int x3)] [] w := by
  unfold fX8_day_b44 at h
  refine r_iinc (v := (x3 + 1)) dX8_day_44 3 rfl rfl (Nat.le_of_ble_eq_true rfl) [(3, .int (x3 + 1)), (0, .ref a0), (1, .int x1), (2, .int x2)] rfl ?_
  refine r_goto (tgt := 12) dX8_day_47 (by decide) ?_
  rw [← Option.some.inj h] at hk
  refine r_sub [1, 2, 3, 0] [(0, .ref a0), (1, .int x1), (2, .int x2), (3, .int (x3 + 1))] rfl ?_
  exact hk
def fX8_day_L12_body (a0 : Nat) (x2 : Int32) (s : Int32 × Int32 × Wd) : Option ((Int32 × Int32 × Wd) ⊕ ((Int32 × Int32 × Wd) ⊕ (Int32 × Wd))) :=
  chk (isO s.2.2 a0 8) (if (wI s.2.2 a0 3) ≤ s.2.1 then (wr (fX8_day_L52 a0 s.1 x2 (0, s.2.2))) else (ob (wR s.2.2 a0 22) (fun o4 => ob (fX8_doesNow a0 s.2.1 x2 s.2.2) (fun q6 => chk (isA q6.2 o4 0) (chk (inb s.2.1 (wn q6.2 o4)) (bnd (sI q6.2 o4 (s.2.1).toNatClampNeg q6.1) (fun w10 => chk (isO w10 a0 8) (ob (wR w10 a0 22) (fun o13 => chk (isA w10 o13 0) (chk (inb s.2.1 (wn w10 o13)) (if (wI w10 o13 (s.2.1).toNatClampNeg) = 0 then (fX8_day_b44 a0 s.1 x2 s.2.1 w10) else (fX8_day_b44 a0 (s.1 + 1) x2 s.2.1 w10))))))))))))
set_option maxHeartbeats 1000000 in
set_option maxRecDepth 20000 in
theorem okX8_day_L12_body {E : Ev} {Q : Option Value → Wd → Prop} {a0 : Nat} {x2 : Int32} {s : Int32 × Int32 × Wd} {r : (Int32 × Int32 × Wd) ⊕ ((Int32 × Int32 × Wd) ⊕ (Int32 × Wd))} (h : fX8_day_L12_body a0 x2 s = some r) (hk : (Sum.elim (PX8_day_L12 E Q a0 x2) (Sum.elim (PX8_day_L4 E Q a0) (fun q : Int32 × Wd => Q (some (.int q.1)) q.2))) r) : PX8_day_L12 E Q a0 x2 s := by
  unfold fX8_day_L12_body at h
  unfold PX8_day_L12
  refine r_iload_n dX8_day_12 3 rfl ?_
  refine r_aload_n dX8_day_13 0 rfl ?_
  obtain ⟨h1, h⟩ := chk_some h
  refine r_getI (fl_RX8_83 rfl) rfl dX8_day_14 h1 ?_
  refine r_icmp_ge (tgt := 50) dX8_day_17 (by decide) (fun c2 => ?_) (fun c2 => ?_)
  · rw [if_pos c2] at h
    obtain ⟨r3, hr, h⟩ := wr_some h
    rw [hr] at hk
    refine r_iconst (v := 0) dX8_day_50 (by decide) ?_
    refine r_istore_n dX8_day_51 rfl (Nat.le_of_ble_eq_true rfl) [(3, .int 0), (0, .ref a0), (1, .int s.1), (2, .int x2)] rfl ?_
    refine r_sub [1, 2, 3, 0] [(0, .ref a0), (1, .int s.1), (2, .int x2), (3, .int 0)] rfl ?_
    exact okX8_day_L52 h hk
  · rw [if_neg c2] at h
    refine r_aload_n dX8_day_20 0 rfl ?_
    obtain ⟨o4, g5, h⟩ := ob_some h
    refine r_getR (fl_RX8_56 rfl) rfl dX8_day_21 h1 g5 ?_
    refine r_iload_n dX8_day_24 3 rfl ?_
    refine r_aload_n dX8_day_25 0 rfl ?_
    refine r_iload_n dX8_day_26 3 rfl ?_
    refine r_iload_n dX8_day_27 2 rfl ?_
    obtain ⟨q6, g7, h⟩ := ob_some h
    refine r_callV (d' := (8, 0, false)) (As := [.int s.2.1, .int x2]) (st := [.int s.2.1, .ref o4]) mdv_X8_doesNow tm_RX8_217 (by decide) rfl rfl (by decide) rfl (Nat.le_refl _) (Nat.le_of_ble_eq_true rfl) rfl dX8_day_28 h1 (ctX8_doesNow g7) (k_I0 ?_)
    obtain ⟨h8, h⟩ := chk_some h
    obtain ⟨h9, h⟩ := chk_some h
    obtain ⟨w10, e11, h⟩ := bnd_some h
    refine r_iastore dX8_day_31 h8 h9 ?_
    refine r_eqW e11 ?_
    refine r_aload_n dX8_day_32 0 rfl ?_
    obtain ⟨h12, h⟩ := chk_some h
    obtain ⟨o13, g14, h⟩ := ob_some h
    refine r_getR (fl_RX8_56 rfl) rfl dX8_day_33 h12 g14 ?_
    refine r_iload_n dX8_day_36 3 rfl ?_
    obtain ⟨h15, h⟩ := chk_some h
    obtain ⟨h16, h⟩ := chk_some h
    refine r_iaload dX8_day_37 h15 h16 ?_
    refine r_if_eq (tgt := 44) dX8_day_38 (by decide) (fun c17 => ?_) (fun c17 => ?_)
    · rw [if_pos c17] at h
      refine r_sub [0, 1, 2, 3] [(0, .ref a0), (1, .int s.1), (2, .int x2), (3, .int s.2.1)] rfl ?_
      exact okX8_day_b44 h hk
    · rw [if_neg c17] at h
      refine r_iinc (v := (s.1 + 1)) dX8_day_41 1 rfl rfl (Nat.le_of_ble_eq_true rfl) [(1, .int (s.1 + 1)), (0, .ref a0), (2, .int x2), (3, .int s.2.1)] rfl ?_
      refine r_sub [1, 0, 2, 3] [(0, .ref a0), (1, .int (s.1 + 1)), (2, .int x2), (3, .int s.2.1)] rfl ?_
      exact okX8_day_b44 h hk
def fX8_day_L12 (a0 : Nat) (x2 : Int32) (s : Int32 × Int32 × Wd) : Option ((Int32 × Int32 × Wd) ⊕ (Int32 × Wd)) := it (fX8_day_L12_body a0 x2) FU s
set_option maxHeartbeats 1000000 in
set_option maxRecDepth 20000 in
theorem okX8_day_L12 {E : Ev} {Q : Option Value → Wd → Prop} {a0 : Nat} {x2 : Int32} {s : Int32 × Int32 × Wd} {r : (Int32 × Int32 × Wd) ⊕ (Int32 × Wd)} (h : fX8_day_L12 a0 x2 s = some r) (hk : (Sum.elim (PX8_day_L4 E Q a0) (fun q : Int32 × Wd => Q (some (.int q.1)) q.2)) r) : PX8_day_L12 E Q a0 x2 s := it_runs (fun s r h hk => okX8_day_L12_body h hk) FU s r h hk
def fX8_day_L4_body (a0 : Nat) (s : Int32 × Int32 × Wd) : Option ((Int32 × Int32 × Wd) ⊕ (Int32 × Wd)) :=
  if (12 : Int32) ≤ s.2.1 then (wr (chk (isO s.2.2 a0 8) (bnd (sI s.2.2 a0 12 ((wI s.2.2 a0 12) + 1)) (fun w4 => some (s.1, w4))))) else (fX8_day_L12 a0 s.2.1 (s.1, 0, s.2.2))
set_option maxHeartbeats 1000000 in
set_option maxRecDepth 20000 in
theorem okX8_day_L4_body {E : Ev} {Q : Option Value → Wd → Prop} {a0 : Nat} {s : Int32 × Int32 × Wd} {r : (Int32 × Int32 × Wd) ⊕ (Int32 × Wd)} (h : fX8_day_L4_body a0 s = some r) (hk : (Sum.elim (PX8_day_L4 E Q a0) (fun q : Int32 × Wd => Q (some (.int q.1)) q.2)) r) : PX8_day_L4 E Q a0 s := by
  unfold fX8_day_L4_body at h
  unfold PX8_day_L4
  refine r_iload_n dX8_day_4 2 rfl ?_
  refine r_bipush (v := 12) dX8_day_5 (by decide) ?_
  refine r_icmp_ge (tgt := 99) dX8_day_7 (by decide) (fun c1 => ?_) (fun c1 => ?_)
  · rw [if_pos c1] at h
    obtain ⟨r2, hr, h⟩ := wr_some h
    rw [hr] at hk
    refine r_aload_n dX8_day_99 0 rfl ?_
    refine r_dup dX8_day_100 rfl ?_
    obtain ⟨h3, h⟩ := chk_some h
    refine r_getI (fl_RX8_224 rfl) rfl dX8_day_101 h3 ?_
    refine r_iconst (v := 1) dX8_day_104 (by decide) ?_
    refine r_iadd dX8_day_105 ?_
    obtain ⟨w4, e5, h⟩ := bnd_some h
    refine r_putI (fl_RX8_224 rfl) rfl rfl (ck_ty (by decide) 12 (by decide)) rfl rfl dX8_day_106 h3 ?_
    refine r_eqW e5 ?_
    refine r_iload_n dX8_day_109 1 rfl ?_
    rw [← Option.some.inj h] at hk
    exact r_ireturn dX8_day_110 rfl rfl hk
  · rw [if_neg c1] at h
    refine r_iconst (v := 0) dX8_day_10 (by decide) ?_
    refine r_istore_n dX8_day_11 rfl (Nat.le_of_ble_eq_true rfl) [(3, .int 0), (0, .ref a0), (1, .int s.1), (2, .int s.2.1)] rfl ?_
    refine r_sub [1, 2, 3, 0] [(0, .ref a0), (1, .int s.1), (2, .int s.2.1), (3, .int 0)] rfl ?_
    exact okX8_day_L12 h hk
def fX8_day_L4 (a0 : Nat) (s : Int32 × Int32 × Wd) : Option (Int32 × Wd) := it (fX8_day_L4_body a0) FU s
set_option maxHeartbeats 1000000 in
set_option maxRecDepth 20000 in
theorem okX8_day_L4 {E : Ev} {Q : Option Value → Wd → Prop} {a0 : Nat} {s : Int32 × Int32 × Wd} {r : Int32 × Wd} (h : fX8_day_L4 a0 s = some r) (hk : (fun q : Int32 × Wd => Q (some (.int q.1)) q.2) r) : PX8_day_L4 E Q a0 s := it_runs (fun s r h hk => okX8_day_L4_body h hk) FU s r h hk
def fX8_day (a0 : Nat) (w : Wd) : Option (Int32 × Wd) :=
  fX8_day_L4 a0 (0, 0, w)
set_option maxHeartbeats 1000000 in
set_option maxRecDepth 20000 in
theorem okX8_day {E : Ev} {Q : Option Value → Wd → Prop} {a0 : Nat} {w : Wd} {q : Int32 × Wd} (h : fX8_day a0 w = some q) (hk : (fun q : Int32 × Wd => Q (some (.int q.1)) q.2) q) : Runs E mX8_day (9, 0, false) Q 0 0 [(0, .ref a0)] [] w := by
  unfold fX8_day at h
  refine r_iconst (v := 0) dX8_day_0 (by decide) ?_
  refine r_istore_n dX8_day_1 rfl (Nat.le_of_ble_eq_true rfl) [(1, .int 0), (0, .ref a0)] rfl ?_
  refine r_iconst (v := 0) dX8_day_2 (by decide) ?_
  refine r_istore_n dX8_day_3 rfl (Nat.le_of_ble_eq_true rfl) [(2, .int 0), (1, .int 0), (0, .ref a0)] rfl ?_
  refine r_sub [2, 1, 0] [(0, .ref a0), (1, .int 0), (2, .int 0)] rfl ?_
  exact okX8_day_L4 h hk
set_option maxHeartbeats 1000000 in
set_option maxRecDepth 20000 in
theorem ctX8_day {E : Ev} {a0 : Nat} {w : Wd} {q : Int32 × Wd} (h : fX8_day a0 w = some q) : CT E mX8_day (9, 0, false) [.ref a0] w (QI q) := CT.of pl_RX8 (Nat.le_of_ble_eq_true rfl) (okX8_day h ⟨rfl, rfl⟩)
def PX8_waits_L2 (E : Ev) (Q : Option Value → Wd → Prop) (a0 : Nat) (x1 : Int32) (s : Int32 × Wd) : Prop := Runs E mX8_waits (10, 0, false) Q 0 2 [(0, .ref a0), (1, .int x1), (2, .int s.1)] [] s.2
def fX8_waits_L2_body (a0 : Nat) (x1 : Int32) (s : Int32 × Wd) : Option ((Int32 × Wd) ⊕ (Wd)) :=
  if x1 ≤ s.1 then (wr (some s.2)) else (chk (isO s.2 a0 8) (ob (fX8_day a0 s.2) (fun q4 => some (.inl ((s.1 + 1), q4.2)))))
set_option maxHeartbeats 1000000 in
set_option maxRecDepth 20000 in
theorem okX8_waits_L2_body {E : Ev} {Q : Option Value → Wd → Prop} {a0 : Nat} {x1 : Int32} {s : Int32 × Wd} {r : (Int32 × Wd) ⊕ (Wd)} (h : fX8_waits_L2_body a0 x1 s = some r) (hk : (Sum.elim (PX8_waits_L2 E Q a0 x1) (fun q : Wd => Q none q)) r) : PX8_waits_L2 E Q a0 x1 s := by
  unfold fX8_waits_L2_body at h
  unfold PX8_waits_L2
  refine r_iload_n dX8_waits_2 2 rfl ?_
  refine r_iload_n dX8_waits_3 1 rfl ?_
  refine r_icmp_ge (tgt := 18) dX8_waits_4 (by decide) (fun c1 => ?_) (fun c1 => ?_)
  · rw [if_pos c1] at h
    obtain ⟨r2, hr, h⟩ := wr_some h
    rw [hr] at hk
    rw [← Option.some.inj h] at hk
    exact r_return dX8_waits_18 rfl hk
  · rw [if_neg c1] at h
    refine r_aload_n dX8_waits_7 0 rfl ?_
    obtain ⟨h3, h⟩ := chk_some h
    obtain ⟨q4, g5, h⟩ := ob_some h
    refine r_callV (d' := (9, 0, false)) (As := []) (st := []) mdv_X8_day tm_RX8_192 (by decide) rfl rfl (by decide) rfl (Nat.le_refl _) (Nat.le_of_ble_eq_true rfl) rfl dX8_waits_8 h3 (ctX8_day g5) (k_I0 ?_)
    refine r_pop dX8_waits_11 rfl ?_
    refine r_iinc (v := (s.1 + 1)) dX8_waits_12 2 rfl rfl (Nat.le_of_ble_eq_true rfl) [(2, .int (s.1 + 1)), (0, .ref a0), (1, .int x1)] rfl ?_
    refine r_goto (tgt := 2) dX8_waits_15 (by decide) ?_
    rw [← Option.some.inj h] at hk
    refine r_sub [1, 2, 0] [(0, .ref a0), (1, .int x1), (2, .int (s.1 + 1))] rfl ?_
    exact hk
def fX8_waits_L2 (a0 : Nat) (x1 : Int32) (s : Int32 × Wd) : Option (Wd) := it (fX8_waits_L2_body a0 x1) FU s
set_option maxHeartbeats 1000000 in
set_option maxRecDepth 20000 in
theorem okX8_waits_L2 {E : Ev} {Q : Option Value → Wd → Prop} {a0 : Nat} {x1 : Int32} {s : Int32 × Wd} {r : Wd} (h : fX8_waits_L2 a0 x1 s = some r) (hk : (fun q : Wd => Q none q) r) : PX8_waits_L2 E Q a0 x1 s := it_runs (fun s r h hk => okX8_waits_L2_body h hk) FU s r h hk
def fX8_waits (a0 : Nat) (x1 : Int32) (w : Wd) : Option (Wd) :=
  fX8_waits_L2 a0 x1 (0, w)
set_option maxHeartbeats 1000000 in
set_option maxRecDepth 20000 in
theorem okX8_waits {E : Ev} {Q : Option Value → Wd → Prop} {a0 : Nat} {x1 : Int32} {w : Wd} {q : Wd} (h : fX8_waits a0 x1 w = some q) (hk : (fun q : Wd => Q none q) q) : Runs E mX8_waits (10, 0, false) Q 0 0 [(0, .ref a0), (1, .int x1)] [] w := by
  unfold fX8_waits at h
  refine r_iconst (v := 0) dX8_waits_0 (by decide) ?_
  refine r_istore_n dX8_waits_1 rfl (Nat.le_of_ble_eq_true rfl) [(2, .int 0), (0, .ref a0), (1, .int x1)] rfl ?_
  refine r_sub [1, 2, 0] [(0, .ref a0), (1, .int x1), (2, .int 0)] rfl ?_
  exact okX8_waits_L2 h hk
set_option maxHeartbeats 1000000 in
set_option maxRecDepth 20000 in
theorem ctX8_waits {E : Ev} {a0 : Nat} {x1 : Int32} {w : Wd} {q : Wd} (h : fX8_waits a0 x1 w = some q) : CT E mX8_waits (10, 0, false) [.ref a0, .int x1] w (QV q) := CT.of pl_RX8 (Nat.le_of_ble_eq_true rfl) (okX8_waits h ⟨rfl, rfl⟩)
def fX8_behind_b45 (a0 : Nat) (w : Wd) : Option (Int32 × Wd) :=
  chk (isO w a0 8) (ob (fX8_no a0 (-6) w) (fun q2 => some (q2.1, q2.2)))
set_option maxHeartbeats 1000000 in
set_option maxRecDepth 20000 in
theorem okX8_behind_b45 {E : Ev} {Q : Option Value → Wd → Prop} {a0 : Nat} {w : Wd} {q : Int32 × Wd} (h : fX8_behind_b45 a0 w = some q) (hk : (fun q : Int32 × Wd => Q (some (.int q.1)) q.2) q) : Runs E mX8_behind (11, 0, false) Q 0 45 [(0, .ref a0)] [] w := by
  unfold fX8_behind_b45 at h
  refine r_aload_n dX8_behind_45 0 rfl ?_
  refine r_bipush (v := (-6)) dX8_behind_46 (by decide) ?_
  obtain ⟨h1, h⟩ := chk_some h
  obtain ⟨q2, g3, h⟩ := ob_some h
  refine r_callV (d' := (6, 0, false)) (As := [.int (-6)]) (st := []) mdv_X8_no tm_RX8_72 (by decide) rfl rfl (by decide) rfl (Nat.le_refl _) (Nat.le_of_ble_eq_true rfl) rfl dX8_behind_48 h1 (ctX8_no g3) (k_I0 ?_)
  rw [← Option.some.inj h] at hk
  exact r_ireturn dX8_behind_51 rfl rfl hk
def fX8_behind_b95 (a0 : Nat) (s0 : Int32) (w : Wd) : Option (Int32 × Wd) :=
  chk (isO w a0 8) (ob (wR w a0 21) (fun o2 => ob (fX8_again a0 o2 w) (fun q4 => some (s0, q4))))
set_option maxHeartbeats 1000000 in
set_option maxRecDepth 20000 in
theorem okX8_behind_b95 {E : Ev} {Q : Option Value → Wd → Prop} {a0 : Nat} {s0 : Int32} {w : Wd} {q : Int32 × Wd} (h : fX8_behind_b95 a0 s0 w = some q) (hk : (fun q : Int32 × Wd => Q (some (.int q.1)) q.2) q) : Runs E mX8_behind (11, 0, false) Q 0 95 [(0, .ref a0)] [.int s0] w := by
  unfold fX8_behind_b95 at h
  refine r_istore dX8_behind_95 (Nat.le_of_ble_eq_true rfl) [(5, .int s0), (0, .ref a0)] rfl ?_
  refine r_aload_n dX8_behind_97 1 rfl ?_
  refine r_aload_n dX8_behind_98 1 rfl ?_
  obtain ⟨h1, h⟩ := chk_some h
  obtain ⟨o2, g3, h⟩ := ob_some h
  refine r_getR (fl_RX8_53 rfl) rfl dX8_behind_99 h1 g3 ?_
  obtain ⟨q4, g5, h⟩ := ob_some h
  refine r_callV (d' := (6, 0, false)) (As := [.ref o2]) (st := []) mdv_X8_again tm_RX8_202 (by decide) rfl rfl (by decide) rfl (Nat.le_refl _) (Nat.le_of_ble_eq_true rfl) rfl dX8_behind_102 h1 (ctX8_again g5) (k_V0 ?_)
  refine r_iload dX8_behind_105 0 rfl ?_
  rw [← Option.some.inj h] at hk
  exact r_ireturn dX8_behind_107 rfl rfl hk
def fX8_behind (a0 : Nat) (x1 : Int32) (x2 : Int32) (x3 : Int32) (x4 : Int32) (w : Wd) : Option (Int32 × Wd) :=
  chk (isO w a0 8) (ob (fX8_isGarment a0 x1 w) (fun q2 => if q2.1 = 0 then (chk (isO q2.2 a0 8) (ob (fX8_no a0 (-1) q2.2) (fun q37 => some (q37.1, q37.2)))) else (ob (fX8_within x4 0 1 q2.2) (fun q5 => if q5.1 = 0 then (chk (isO q5.2 a0 8) (ob (fX8_no a0 (-5) q5.2) (fun q34 => some (q34.1, q34.2)))) else (ob (fX8_isDays x2 q5.2) (fun q8 => if q8.1 = 0 then (fX8_behind_b45 a0 q8.2) else (ob (fX8_isHour x3 q8.2) (fun q11 => if q11.1 = 0 then (fX8_behind_b45 a0 q11.2) else (chk (isO q11.2 a0 8) (ob (wR q11.2 a0 21) (fun o15 => ob (fX8_keep a0 o15 q11.2) (fun q17 => chk (isO q17 a0 8) (ob (fX8_waits a0 x2 q17) (fun q20 => if x4 = 0 then (chk (isO q20 a0 8) (ob (wR q20 a0 10) (fun o29 => chk (isA q20 o29 0) (chk (inb ((12 * x1) + x3) (wn q20 o29)) (fX8_behind_b95 a0 (wI q20 o29 (((12 * x1) + x3)).toNatClampNeg) q20))))) else (chk (isO q20 a0 8) (ob (wR q20 a0 11) (fun o24 => chk (isA q20 o24 0) (chk (inb ((12 * x1) + x3) (wn q20 o24)) (fX8_behind_b95 a0 (wI q20 o24 (((12 * x1) + x3)).toNatClampNeg) q20)))))))))))))))))))
set_option maxHeartbeats 1000000 in
set_option maxRecDepth 20000 in
theorem okX8_behind {E : Ev} {Q : Option Value → Wd → Prop} {a0 : Nat} {x1 : Int32} {x2 : Int32} {x3 : Int32} {x4 : Int32} {w : Wd} {q : Int32 × Wd} (h : fX8_behind a0 x1 x2 x3 x4 w = some q) (hk : (fun q : Int32 × Wd => Q (some (.int q.1)) q.2) q) : Runs E mX8_behind (11, 0, false) Q 0 0 [(0, .ref a0), (1, .int x1), (2, .int x2), (3, .int x3), (4, .int x4)] [] w := by
  unfold fX8_behind at h
  refine r_aload_n dX8_behind_0 0 rfl ?_
  refine r_iload_n dX8_behind_1 1 rfl ?_
  obtain ⟨h1, h⟩ := chk_some h
  obtain ⟨q2, g3, h⟩ := ob_some h
  refine r_callV (d' := (7, 0, false)) (As := [.int x1]) (st := []) mdv_X8_isGarment tm_RX8_93 (by decide) rfl rfl (by decide) rfl (Nat.le_refl _) (Nat.le_of_ble_eq_true rfl) rfl dX8_behind_2 h1 (ctX8_isGarment g3) (k_I0 ?_)
  refine r_if_ne (tgt := 14) dX8_behind_5 (by decide) (fun c4 => ?_) (fun c4 => ?_)
  · rw [if_neg c4] at h
    refine r_iload dX8_behind_14 4 rfl ?_
    refine r_iconst (v := 0) dX8_behind_16 (by decide) ?_
    refine r_iconst (v := 1) dX8_behind_17 (by decide) ?_
    obtain ⟨q5, g6, h⟩ := ob_some h
    refine r_callS (d' := (6, 0, false)) (As := [.int x4, .int 0, .int 1]) (st := []) mds_X8_within tm_RX8_79 rfl (by decide) rfl (Nat.le_refl _) (Nat.le_of_ble_eq_true rfl) rfl dX8_behind_18 (ctX8_within g6) (k_I0 ?_)
    refine r_if_ne (tgt := 31) dX8_behind_21 (by decide) (fun c7 => ?_) (fun c7 => ?_)
    · rw [if_neg c7] at h
      refine r_iload_n dX8_behind_31 2 rfl ?_
      obtain ⟨q8, g9, h⟩ := ob_some h
      refine r_callS (d' := (7, 0, false)) (As := [.int x2]) (st := []) mds_X8_isDays tm_RX8_230 rfl (by decide) rfl (Nat.le_refl _) (Nat.le_of_ble_eq_true rfl) rfl dX8_behind_32 (ctX8_isDays g9) (k_I0 ?_)
      refine r_if_eq (tgt := 45) dX8_behind_35 (by decide) (fun c10 => ?_) (fun c10 => ?_)
      · rw [if_pos c10] at h
        refine r_sub [0] [(0, .ref a0)] rfl ?_
        exact okX8_behind_b45 h hk
      · rw [if_neg c10] at h
        refine r_iload_n dX8_behind_38 3 rfl ?_
        obtain ⟨q11, g12, h⟩ := ob_some h
        refine r_callS (d' := (7, 0, false)) (As := [.int x3]) (st := []) mds_X8_isHour tm_RX8_125 rfl (by decide) rfl (Nat.le_refl _) (Nat.le_of_ble_eq_true rfl) rfl dX8_behind_39 (ctX8_isHour g12) (k_I0 ?_)
        refine r_if_ne (tgt := 52) dX8_behind_42 (by decide) (fun c13 => ?_) (fun c13 => ?_)
        · rw [if_neg c13] at h
          refine r_aload_n dX8_behind_52 0 rfl ?_
          refine r_aload_n dX8_behind_53 0 rfl ?_
          obtain ⟨h14, h⟩ := chk_some h
          obtain ⟨o15, g16, h⟩ := ob_some h
          refine r_getR (fl_RX8_53 rfl) rfl dX8_behind_54 h14 g16 ?_
          obtain ⟨q17, g18, h⟩ := ob_some h
          refine r_callV (d' := (6, 0, false)) (As := [.ref o15]) (st := []) mdv_X8_keep tm_RX8_194 (by decide) rfl rfl (by decide) rfl (Nat.le_refl _) (Nat.le_of_ble_eq_true rfl) rfl dX8_behind_57 h14 (ctX8_keep g18) (k_V0 ?_)
          refine r_aload_n dX8_behind_60 0 rfl ?_
          refine r_iload_n dX8_behind_61 2 rfl ?_
          obtain ⟨h19, h⟩ := chk_some h
          obtain ⟨q20, g21, h⟩ := ob_some h
          refine r_callV (d' := (10, 0, false)) (As := [.int x2]) (st := []) mdv_X8_waits tm_RX8_233 (by decide) rfl rfl (by decide) rfl (Nat.le_refl _) (Nat.le_of_ble_eq_true rfl) rfl dX8_behind_62 h19 (ctX8_waits g21) (k_V0 ?_)
          refine r_iload dX8_behind_65 4 rfl ?_
          refine r_if_ne (tgt := 84) dX8_behind_67 (by decide) (fun c22 => ?_) (fun c22 => ?_)
          · rw [if_neg c22] at h
            refine r_aload_n dX8_behind_84 0 rfl ?_
            obtain ⟨h23, h⟩ := chk_some h
            obtain ⟨o24, g25, h⟩ := ob_some h
            refine r_getR (fl_RX8_38 rfl) rfl dX8_behind_85 h23 g25 ?_
            refine r_bipush (v := 12) dX8_behind_88 (by decide) ?_
            refine r_iload_n dX8_behind_90 1 rfl ?_
            refine r_imul dX8_behind_91 ?_
            refine r_iload_n dX8_behind_92 3 rfl ?_
            refine r_iadd dX8_behind_93 ?_
            obtain ⟨h26, h⟩ := chk_some h
            obtain ⟨h27, h⟩ := chk_some h
            refine r_iaload dX8_behind_94 h26 h27 ?_
            refine r_sub [0] [(0, .ref a0)] rfl ?_
            exact okX8_behind_b95 h hk
          · rw [if_pos c22] at h
            refine r_aload_n dX8_behind_70 0 rfl ?_
            obtain ⟨h28, h⟩ := chk_some h
            obtain ⟨o29, g30, h⟩ := ob_some h
            refine r_getR (fl_RX8_35 rfl) rfl dX8_behind_71 h28 g30 ?_
            refine r_bipush (v := 12) dX8_behind_74 (by decide) ?_
            refine r_iload_n dX8_behind_76 1 rfl ?_
            refine r_imul dX8_behind_77 ?_
            refine r_iload_n dX8_behind_78 3 rfl ?_
            refine r_iadd dX8_behind_79 ?_
            obtain ⟨h31, h⟩ := chk_some h
            obtain ⟨h32, h⟩ := chk_some h
            refine r_iaload dX8_behind_80 h31 h32 ?_
            refine r_goto (tgt := 95) dX8_behind_81 (by decide) ?_
            refine r_sub [0] [(0, .ref a0)] rfl ?_
            exact okX8_behind_b95 h hk
        · rw [if_pos c13] at h
          refine r_sub [0] [(0, .ref a0)] rfl ?_
          exact okX8_behind_b45 h hk
    · rw [if_pos c7] at h
      refine r_aload_n dX8_behind_24 0 rfl ?_
      refine r_bipush (v := (-5)) dX8_behind_25 (by decide) ?_
      obtain ⟨h33, h⟩ := chk_some h
      obtain ⟨q34, g35, h⟩ := ob_some h
      refine r_callV (d' := (6, 0, false)) (As := [.int (-5)]) (st := []) mdv_X8_no tm_RX8_72 (by decide) rfl rfl (by decide) rfl (Nat.le_refl _) (Nat.le_of_ble_eq_true rfl) rfl dX8_behind_27 h33 (ctX8_no g35) (k_I0 ?_)
      rw [← Option.some.inj h] at hk
      exact r_ireturn dX8_behind_30 rfl rfl hk
  · rw [if_pos c4] at h
    refine r_aload_n dX8_behind_8 0 rfl ?_
    refine r_iconst (v := (-1)) dX8_behind_9 (by decide) ?_
    obtain ⟨h36, h⟩ := chk_some h
    obtain ⟨q37, g38, h⟩ := ob_some h
    refine r_callV (d' := (6, 0, false)) (As := [.int (-1)]) (st := []) mdv_X8_no tm_RX8_72 (by decide) rfl rfl (by decide) rfl (Nat.le_refl _) (Nat.le_of_ble_eq_true rfl) rfl dX8_behind_10 h36 (ctX8_no g38) (k_I0 ?_)
    rw [← Option.some.inj h] at hk
    exact r_ireturn dX8_behind_13 rfl rfl hk
set_option maxHeartbeats 1000000 in
set_option maxRecDepth 20000 in
theorem ctX8_behind {E : Ev} {a0 : Nat} {x1 : Int32} {x2 : Int32} {x3 : Int32} {x4 : Int32} {w : Wd} {q : Int32 × Wd} (h : fX8_behind a0 x1 x2 x3 x4 w = some q) : CT E mX8_behind (11, 0, false) [.ref a0, .int x1, .int x2, .int x3, .int x4] w (QI q) := CT.of pl_RX8 (Nat.le_of_ble_eq_true rfl) (okX8_behind h ⟨rfl, rfl⟩)
def fX8_isRow_b16 (s0 : Int32) (w : Wd) : Option (Int32 × Wd) :=
  chk (s0 = 0 ∨ s0 = 1) (some (s0, w))
set_option maxHeartbeats 1000000 in
set_option maxRecDepth 20000 in
theorem okX8_isRow_b16 {E : Ev} {Q : Option Value → Wd → Prop} {s0 : Int32} {w : Wd} {q : Int32 × Wd} (h : fX8_isRow_b16 s0 w = some q) (hk : (fun q : Int32 × Wd => Q (some (.int q.1)) q.2) q) : Runs E mX8_isRow (6, 0, false) Q 0 16 [] [.int s0] w := by
  unfold fX8_isRow_b16 at h
  obtain ⟨h1, h⟩ := chk_some h
  rw [← Option.some.inj h] at hk
  exact r_ireturn dX8_isRow_16 rfl (nb h1) hk
def fX8_isRow (a0 : Nat) (x1 : Int32) (w : Wd) : Option (Int32 × Wd) :=
  chk (isO w a0 8) (ob (wR w a0 0) (fun o2 => chk (isA w o2 0) (chk (inb x1 (wn w o2)) (if (wI w o2 (x1).toNatClampNeg) < 100 then (fX8_isRow_b16 0 w) else (fX8_isRow_b16 1 w)))))
set_option maxHeartbeats 1000000 in
set_option maxRecDepth 20000 in
theorem okX8_isRow {E : Ev} {Q : Option Value → Wd → Prop} {a0 : Nat} {x1 : Int32} {w : Wd} {q : Int32 × Wd} (h : fX8_isRow a0 x1 w = some q) (hk : (fun q : Int32 × Wd => Q (some (.int q.1)) q.2) q) : Runs E mX8_isRow (6, 0, false) Q 0 0 [(0, .ref a0), (1, .int x1)] [] w := by
  unfold fX8_isRow at h
  refine r_aload_n dX8_isRow_0 0 rfl ?_
  obtain ⟨h1, h⟩ := chk_some h
  obtain ⟨o2, g3, h⟩ := ob_some h
  refine r_getR (fl_RX8_7 rfl) rfl dX8_isRow_1 h1 g3 ?_
  refine r_iload_n dX8_isRow_4 1 rfl ?_
  obtain ⟨h4, h⟩ := chk_some h
  obtain ⟨h5, h⟩ := chk_some h
  refine r_iaload dX8_isRow_5 h4 h5 ?_
  refine r_bipush (v := 100) dX8_isRow_6 (by decide) ?_
  refine r_icmp_lt (tgt := 15) dX8_isRow_8 (by decide) (fun c6 => ?_) (fun c6 => ?_)
  · rw [if_pos c6] at h
    refine r_iconst (v := 0) dX8_isRow_15 (by decide) ?_
    refine r_sub [] [] rfl ?_
    exact okX8_isRow_b16 h hk
  · rw [if_neg c6] at h
    refine r_iconst (v := 1) dX8_isRow_11 (by decide) ?_
    refine r_goto (tgt := 16) dX8_isRow_12 (by decide) ?_
    refine r_sub [] [] rfl ?_
    exact okX8_isRow_b16 h hk
set_option maxHeartbeats 1000000 in
set_option maxRecDepth 20000 in
theorem ctX8_isRow {E : Ev} {a0 : Nat} {x1 : Int32} {w : Wd} {q : Int32 × Wd} (h : fX8_isRow a0 x1 w = some q) : CT E mX8_isRow (6, 0, false) [.ref a0, .int x1] w (QI q) := CT.of pl_RX8 (Nat.le_of_ble_eq_true rfl) (okX8_isRow h ⟨rfl, rfl⟩)
def fX8_copy_b20 (a0 : Nat) (w : Wd) : Option (Int32 × Wd) :=
  chk (isO w a0 8) (ob (fX8_no a0 (-1) w) (fun q2 => some (q2.1, q2.2)))
set_option maxHeartbeats 1000000 in
set_option maxRecDepth 20000 in
theorem okX8_copy_b20 {E : Ev} {Q : Option Value → Wd → Prop} {a0 : Nat} {w : Wd} {q : Int32 × Wd} (h : fX8_copy_b20 a0 w = some q) (hk : (fun q : Int32 × Wd => Q (some (.int q.1)) q.2) q) : Runs E mX8_copy (7, 0, false) Q 0 20 [(0, .ref a0)] [] w := by
  unfold fX8_copy_b20 at h
  refine r_aload_n dX8_copy_20 0 rfl ?_
  refine r_iconst (v := (-1)) dX8_copy_21 (by decide) ?_
  obtain ⟨h1, h⟩ := chk_some h
  obtain ⟨q2, g3, h⟩ := ob_some h
  refine r_callV (d' := (6, 0, false)) (As := [.int (-1)]) (st := []) mdv_X8_no tm_RX8_72 (by decide) rfl rfl (by decide) rfl (Nat.le_refl _) (Nat.le_of_ble_eq_true rfl) rfl dX8_copy_22 h1 (ctX8_no g3) (k_I0 ?_)
  rw [← Option.some.inj h] at hk
  exact r_ireturn dX8_copy_25 rfl rfl hk
def fX8_copy_b116 (a0 : Nat) (w : Wd) : Option (Int32 × Wd) :=
  chk (isO w a0 8) (ob (fX8_no a0 (-3) w) (fun q2 => some (q2.1, q2.2)))
set_option maxHeartbeats 1000000 in
set_option maxRecDepth 20000 in
theorem okX8_copy_b116 {E : Ev} {Q : Option Value → Wd → Prop} {a0 : Nat} {w : Wd} {q : Int32 × Wd} (h : fX8_copy_b116 a0 w = some q) (hk : (fun q : Int32 × Wd => Q (some (.int q.1)) q.2) q) : Runs E mX8_copy (7, 0, false) Q 0 116 [(0, .ref a0)] [] w := by
  unfold fX8_copy_b116 at h
  refine r_aload_n dX8_copy_116 0 rfl ?_
  refine r_bipush (v := (-3)) dX8_copy_117 (by decide) ?_
  obtain ⟨h1, h⟩ := chk_some h
  obtain ⟨q2, g3, h⟩ := ob_some h
  refine r_callV (d' := (6, 0, false)) (As := [.int (-3)]) (st := []) mdv_X8_no tm_RX8_72 (by decide) rfl rfl (by decide) rfl (Nat.le_refl _) (Nat.le_of_ble_eq_true rfl) rfl dX8_copy_119 h1 (ctX8_no g3) (k_I0 ?_)
  rw [← Option.some.inj h] at hk
  exact r_ireturn dX8_copy_122 rfl rfl hk
def fX8_copy_b179 (a0 : Nat) (w : Wd) : Option (Int32 × Wd) :=
  chk (isO w a0 8) (ob (fX8_no a0 (-5) w) (fun q2 => some (q2.1, q2.2)))
set_option maxHeartbeats 1000000 in
set_option maxRecDepth 20000 in
theorem okX8_copy_b179 {E : Ev} {Q : Option Value → Wd → Prop} {a0 : Nat} {w : Wd} {q : Int32 × Wd} (h : fX8_copy_b179 a0 w = some q) (hk : (fun q : Int32 × Wd => Q (some (.int q.1)) q.2) q) : Runs E mX8_copy (7, 0, false) Q 0 179 [(0, .ref a0)] [] w := by
  unfold fX8_copy_b179 at h
  refine r_aload_n dX8_copy_179 0 rfl ?_
  refine r_bipush (v := (-5)) dX8_copy_180 (by decide) ?_
  obtain ⟨h1, h⟩ := chk_some h
  obtain ⟨q2, g3, h⟩ := ob_some h
  refine r_callV (d' := (6, 0, false)) (As := [.int (-5)]) (st := []) mdv_X8_no tm_RX8_72 (by decide) rfl rfl (by decide) rfl (Nat.le_refl _) (Nat.le_of_ble_eq_true rfl) rfl dX8_copy_182 h1 (ctX8_no g3) (k_I0 ?_)
  rw [← Option.some.inj h] at hk
  exact r_ireturn dX8_copy_185 rfl rfl hk
def PX8_copy_L251 (E : Ev) (Q : Option Value → Wd → Prop) (a0 : Nat) (x1 : Int32) (x2 : Int32) (x3 : Int32) (x4 : Int32) (x5 : Int32) (s : Int32 × Wd) : Prop := Runs E mX8_copy (7, 0, false) Q 0 251 [(0, .ref a0), (1, .int x1), (2, .int x2), (3, .int x3), (4, .int x4), (5, .int x5), (6, .int s.1)] [] s.2
def fX8_copy_b295 (w : Wd) : Option (Int32 × Wd) :=
  some (1, w)
set_option maxHeartbeats 1000000 in
set_option maxRecDepth 20000 in
theorem okX8_copy_b295 {E : Ev} {Q : Option Value → Wd → Prop} {w : Wd} {q : Int32 × Wd} (h : fX8_copy_b295 w = some q) (hk : (fun q : Int32 × Wd => Q (some (.int q.1)) q.2) q) : Runs E mX8_copy (7, 0, false) Q 0 295 [] [] w := by
  unfold fX8_copy_b295 at h
  refine r_iconst (v := 1) dX8_copy_295 (by decide) ?_
  rw [← Option.some.inj h] at hk
  exact r_ireturn dX8_copy_296 rfl rfl hk
def fX8_copy_L251_body (a0 : Nat) (x1 : Int32) (x2 : Int32) (x3 : Int32) (x4 : Int32) (x5 : Int32) (s : Int32 × Wd) : Option ((Int32 × Wd) ⊕ (Int32 × Wd)) :=
  if x5 ≤ s.1 then (wr (fX8_copy_b295 s.2)) else (chk (isO s.2 a0 8) (ob (wR s.2 a0 2) (fun o4 => chk (isA s.2 o4 1) (chk (inb (((160 * x1) + x3) + s.1) (wn s.2 o4)) (chk (inb (((160 * x2) + x4) + s.1) (wn s.2 o4)) (bnd (sL s.2 o4 ((((160 * x2) + x4) + s.1)).toNatClampNeg (wL s.2 o4 ((((160 * x1) + x3) + s.1)).toNatClampNeg)) (fun w9 => some (.inl ((s.1 + 1), w9)))))))))
set_option maxHeartbeats 1000000 in
set_option maxRecDepth 20000 in
theorem okX8_copy_L251_body {E : Ev} {Q : Option Value → Wd → Prop} {a0 : Nat} {x1 : Int32} {x2 : Int32} {x3 : Int32} {x4 : Int32} {x5 : Int32} {s : Int32 × Wd} {r : (Int32 × Wd) ⊕ (Int32 × Wd)} (h : fX8_copy_L251_body a0 x1 x2 x3 x4 x5 s = some r) (hk : (Sum.elim (PX8_copy_L251 E Q a0 x1 x2 x3 x4 x5) (fun q : Int32 × Wd => Q (some (.int q.1)) q.2)) r) : PX8_copy_L251 E Q a0 x1 x2 x3 x4 x5 s := by
  unfold fX8_copy_L251_body at h
  unfold PX8_copy_L251
  refine r_iload dX8_copy_251 6 rfl ?_
  refine r_iload dX8_copy_253 5 rfl ?_
  refine r_icmp_ge (tgt := 295) dX8_copy_255 (by decide) (fun c1 => ?_) (fun c1 => ?_)
  · rw [if_pos c1] at h
    obtain ⟨r2, hr, h⟩ := wr_some h
    rw [hr] at hk
    refine r_sub [] [] rfl ?_
    exact okX8_copy_b295 h hk
  · rw [if_neg c1] at h
    refine r_aload_n dX8_copy_258 0 rfl ?_
    obtain ⟨h3, h⟩ := chk_some h
    obtain ⟨o4, g5, h⟩ := ob_some h
    refine r_getR (fl_RX8_16 rfl) rfl dX8_copy_259 h3 g5 ?_
    refine r_sipush (v := 160) dX8_copy_262 (by decide) ?_
    refine r_iload_n dX8_copy_265 2 rfl ?_
    refine r_imul dX8_copy_266 ?_
    refine r_iload dX8_copy_267 4 rfl ?_
    refine r_iadd dX8_copy_269 ?_
    refine r_iload dX8_copy_270 6 rfl ?_
    refine r_iadd dX8_copy_272 ?_
    refine r_aload_n dX8_copy_273 0 rfl ?_
    refine r_getR (fl_RX8_16 rfl) rfl dX8_copy_274 h3 g5 ?_
    refine r_sipush (v := 160) dX8_copy_277 (by decide) ?_
    refine r_iload_n dX8_copy_280 1 rfl ?_
    refine r_imul dX8_copy_281 ?_
    refine r_iload_n dX8_copy_282 3 rfl ?_
    refine r_iadd dX8_copy_283 ?_
    refine r_iload dX8_copy_284 6 rfl ?_
    refine r_iadd dX8_copy_286 ?_
    obtain ⟨h6, h⟩ := chk_some h
    obtain ⟨h7, h⟩ := chk_some h
    refine r_laload dX8_copy_287 h6 h7 ?_
    obtain ⟨h8, h⟩ := chk_some h
    obtain ⟨w9, e10, h⟩ := bnd_some h
    refine r_lastore dX8_copy_288 h6 h8 ?_
    refine r_eqW e10 ?_
    refine r_iinc (v := (s.1 + 1)) dX8_copy_289 6 rfl rfl (Nat.le_of_ble_eq_true rfl) [(6, .int (s.1 + 1)), (0, .ref a0), (1, .int x1), (2, .int x2), (3, .int x3), (4, .int x4), (5, .int x5)] rfl ?_
    refine r_goto (tgt := 251) dX8_copy_292 (by decide) ?_
    rw [← Option.some.inj h] at hk
    refine r_sub [1, 2, 3, 4, 5, 6, 0] [(0, .ref a0), (1, .int x1), (2, .int x2), (3, .int x3), (4, .int x4), (5, .int x5), (6, .int (s.1 + 1))] rfl ?_
    exact hk
def fX8_copy_L251 (a0 : Nat) (x1 : Int32) (x2 : Int32) (x3 : Int32) (x4 : Int32) (x5 : Int32) (s : Int32 × Wd) : Option (Int32 × Wd) := it (fX8_copy_L251_body a0 x1 x2 x3 x4 x5) FU s
set_option maxHeartbeats 1000000 in
set_option maxRecDepth 20000 in
theorem okX8_copy_L251 {E : Ev} {Q : Option Value → Wd → Prop} {a0 : Nat} {x1 : Int32} {x2 : Int32} {x3 : Int32} {x4 : Int32} {x5 : Int32} {s : Int32 × Wd} {r : Int32 × Wd} (h : fX8_copy_L251 a0 x1 x2 x3 x4 x5 s = some r) (hk : (fun q : Int32 × Wd => Q (some (.int q.1)) q.2) r) : PX8_copy_L251 E Q a0 x1 x2 x3 x4 x5 s := it_runs (fun s r h hk => okX8_copy_L251_body h hk) FU s r h hk
def fX8_copy_b248 (a0 : Nat) (x1 : Int32) (x2 : Int32) (x3 : Int32) (x4 : Int32) (x5 : Int32) (w : Wd) : Option (Int32 × Wd) :=
  fX8_copy_L251 a0 x1 x2 x3 x4 x5 (0, w)
set_option maxHeartbeats 1000000 in
set_option maxRecDepth 20000 in
theorem okX8_copy_b248 {E : Ev} {Q : Option Value → Wd → Prop} {a0 : Nat} {x1 : Int32} {x2 : Int32} {x3 : Int32} {x4 : Int32} {x5 : Int32} {w : Wd} {q : Int32 × Wd} (h : fX8_copy_b248 a0 x1 x2 x3 x4 x5 w = some q) (hk : (fun q : Int32 × Wd => Q (some (.int q.1)) q.2) q) : Runs E mX8_copy (7, 0, false) Q 0 248 [(0, .ref a0), (1, .int x1), (2, .int x2), (3, .int x3), (4, .int x4), (5, .int x5)] [] w := by
  unfold fX8_copy_b248 at h
  refine r_iconst (v := 0) dX8_copy_248 (by decide) ?_
  refine r_istore dX8_copy_249 (Nat.le_of_ble_eq_true rfl) [(6, .int 0), (0, .ref a0), (1, .int x1), (2, .int x2), (3, .int x3), (4, .int x4), (5, .int x5)] rfl ?_
  refine r_sub [1, 2, 3, 4, 5, 6, 0] [(0, .ref a0), (1, .int x1), (2, .int x2), (3, .int x3), (4, .int x4), (5, .int x5), (6, .int 0)] rfl ?_
  exact okX8_copy_L251 h hk
def PX8_copy_L203 (E : Ev) (Q : Option Value → Wd → Prop) (a0 : Nat) (x1 : Int32) (x2 : Int32) (x3 : Int32) (x4 : Int32) (s : Int32 × Wd) : Prop := Runs E mX8_copy (7, 0, false) Q 0 203 [(0, .ref a0), (1, .int x1), (2, .int x2), (3, .int x3), (4, .int x4), (6, .int s.1)] [] s.2
def fX8_copy_L203_body (a0 : Nat) (x1 : Int32) (x2 : Int32) (x3 : Int32) (x4 : Int32) (s : Int32 × Wd) : Option ((Int32 × Wd) ⊕ (Int32 × Wd)) :=
  if s.1 < 0 then (wr (fX8_copy_b295 s.2)) else (chk (isO s.2 a0 8) (ob (wR s.2 a0 2) (fun o4 => chk (isA s.2 o4 1) (chk (inb (((160 * x1) + x3) + s.1) (wn s.2 o4)) (chk (inb (((160 * x2) + x4) + s.1) (wn s.2 o4)) (bnd (sL s.2 o4 ((((160 * x2) + x4) + s.1)).toNatClampNeg (wL s.2 o4 ((((160 * x1) + x3) + s.1)).toNatClampNeg)) (fun w9 => some (.inl ((s.1 + (-1)), w9)))))))))
set_option maxHeartbeats 1000000 in
set_option maxRecDepth 20000 in
theorem okX8_copy_L203_body {E : Ev} {Q : Option Value → Wd → Prop} {a0 : Nat} {x1 : Int32} {x2 : Int32} {x3 : Int32} {x4 : Int32} {s : Int32 × Wd} {r : (Int32 × Wd) ⊕ (Int32 × Wd)} (h : fX8_copy_L203_body a0 x1 x2 x3 x4 s = some r) (hk : (Sum.elim (PX8_copy_L203 E Q a0 x1 x2 x3 x4) (fun q : Int32 × Wd => Q (some (.int q.1)) q.2)) r) : PX8_copy_L203 E Q a0 x1 x2 x3 x4 s := by
  unfold fX8_copy_L203_body at h
  unfold PX8_copy_L203
  refine r_iload dX8_copy_203 5 rfl ?_
  refine r_if_lt (tgt := 245) dX8_copy_205 (by decide) (fun c1 => ?_) (fun c1 => ?_)
  · rw [if_pos c1] at h
    obtain ⟨r2, hr, h⟩ := wr_some h
    rw [hr] at hk
    refine r_goto (tgt := 295) dX8_copy_245 (by decide) ?_
    refine r_sub [] [] rfl ?_
    exact okX8_copy_b295 h hk
  · rw [if_neg c1] at h
    refine r_aload_n dX8_copy_208 0 rfl ?_
    obtain ⟨h3, h⟩ := chk_some h
    obtain ⟨o4, g5, h⟩ := ob_some h
    refine r_getR (fl_RX8_16 rfl) rfl dX8_copy_209 h3 g5 ?_
    refine r_sipush (v := 160) dX8_copy_212 (by decide) ?_
    refine r_iload_n dX8_copy_215 2 rfl ?_
    refine r_imul dX8_copy_216 ?_
    refine r_iload dX8_copy_217 4 rfl ?_
    refine r_iadd dX8_copy_219 ?_
    refine r_iload dX8_copy_220 5 rfl ?_
    refine r_iadd dX8_copy_222 ?_
    refine r_aload_n dX8_copy_223 0 rfl ?_
    refine r_getR (fl_RX8_16 rfl) rfl dX8_copy_224 h3 g5 ?_
    refine r_sipush (v := 160) dX8_copy_227 (by decide) ?_
    refine r_iload_n dX8_copy_230 1 rfl ?_
    refine r_imul dX8_copy_231 ?_
    refine r_iload_n dX8_copy_232 3 rfl ?_
    refine r_iadd dX8_copy_233 ?_
    refine r_iload dX8_copy_234 5 rfl ?_
    refine r_iadd dX8_copy_236 ?_
    obtain ⟨h6, h⟩ := chk_some h
    obtain ⟨h7, h⟩ := chk_some h
    refine r_laload dX8_copy_237 h6 h7 ?_
    obtain ⟨h8, h⟩ := chk_some h
    obtain ⟨w9, e10, h⟩ := bnd_some h
    refine r_lastore dX8_copy_238 h6 h8 ?_
    refine r_eqW e10 ?_
    refine r_iinc (v := (s.1 + (-1))) dX8_copy_239 5 rfl rfl (Nat.le_of_ble_eq_true rfl) [(6, .int (s.1 + (-1))), (0, .ref a0), (1, .int x1), (2, .int x2), (3, .int x3), (4, .int x4)] rfl ?_
    refine r_goto (tgt := 203) dX8_copy_242 (by decide) ?_
    rw [← Option.some.inj h] at hk
    refine r_sub [1, 2, 3, 4, 5, 0] [(0, .ref a0), (1, .int x1), (2, .int x2), (3, .int x3), (4, .int x4), (6, .int (s.1 + (-1)))] rfl ?_
    exact hk
def fX8_copy_L203 (a0 : Nat) (x1 : Int32) (x2 : Int32) (x3 : Int32) (x4 : Int32) (s : Int32 × Wd) : Option (Int32 × Wd) := it (fX8_copy_L203_body a0 x1 x2 x3 x4) FU s
set_option maxHeartbeats 1000000 in
set_option maxRecDepth 20000 in
theorem okX8_copy_L203 {E : Ev} {Q : Option Value → Wd → Prop} {a0 : Nat} {x1 : Int32} {x2 : Int32} {x3 : Int32} {x4 : Int32} {s : Int32 × Wd} {r : Int32 × Wd} (h : fX8_copy_L203 a0 x1 x2 x3 x4 s = some r) (hk : (fun q : Int32 × Wd => Q (some (.int q.1)) q.2) r) : PX8_copy_L203 E Q a0 x1 x2 x3 x4 s := it_runs (fun s r h hk => okX8_copy_L203_body h hk) FU s r h hk
def fX8_copy_b98 (a0 : Nat) (x1 : Int32) (x2 : Int32) (x3 : Int32) (x4 : Int32) (x5 : Int32) (w : Wd) : Option (Int32 × Wd) :=
  chk (isO w a0 8) (ob (wR w a0 0) (fun o2 => chk (isA w o2 0) (chk (inb x1 (wn w o2)) (if (wI w o2 (x1).toNatClampNeg) < 0 then (fX8_copy_b116 a0 w) else (chk (inb x2 (wn w o2)) (if 0 ≤ (wI w o2 (x2).toNatClampNeg) then (if 0 ≤ x5 then (if x3 < 0 then (fX8_copy_b179 a0 w) else (if x4 < 0 then (fX8_copy_b179 a0 w) else (ob (wR w a0 1) (fun o12 => chk (isA w o12 0) (chk (inb x1 (wn w o12)) (if 0 < (lg_cmp ((x3).toInt64 + (x5).toInt64) ((wI w o12 (x1).toNatClampNeg)).toInt64) then (fX8_copy_b179 a0 w) else (chk (inb x2 (wn w o12)) (if (lg_cmp ((x4).toInt64 + (x5).toInt64) ((wI w o12 (x2).toNatClampNeg)).toInt64) ≤ 0 then (if x1 = x2 then (if x4 ≤ x3 then (fX8_copy_b248 a0 x1 x2 x3 x4 x5 w) else (bnd (x5 - 1) (fun u21 => fX8_copy_L203 a0 x1 x2 x3 x4 (u21, w)))) else (fX8_copy_b248 a0 x1 x2 x3 x4 x5 w)) else (fX8_copy_b179 a0 w))))))))) else (ob (fX8_no a0 (-4) w) (fun q23 => some (q23.1, q23.2)))) else (fX8_copy_b116 a0 w)))))))
set_option maxHeartbeats 1000000 in
set_option maxRecDepth 20000 in
theorem okX8_copy_b98 {E : Ev} {Q : Option Value → Wd → Prop} {a0 : Nat} {x1 : Int32} {x2 : Int32} {x3 : Int32} {x4 : Int32} {x5 : Int32} {w : Wd} {q : Int32 × Wd} (h : fX8_copy_b98 a0 x1 x2 x3 x4 x5 w = some q) (hk : (fun q : Int32 × Wd => Q (some (.int q.1)) q.2) q) : Runs E mX8_copy (7, 0, false) Q 0 98 [(0, .ref a0), (1, .int x1), (2, .int x2), (3, .int x3), (4, .int x4), (5, .int x5)] [] w := by
  unfold fX8_copy_b98 at h
  refine r_aload_n dX8_copy_98 0 rfl ?_
  obtain ⟨h1, h⟩ := chk_some h
  obtain ⟨o2, g3, h⟩ := ob_some h
  refine r_getR (fl_RX8_7 rfl) rfl dX8_copy_99 h1 g3 ?_
  refine r_iload_n dX8_copy_102 1 rfl ?_
  obtain ⟨h4, h⟩ := chk_some h
  obtain ⟨h5, h⟩ := chk_some h
  refine r_iaload dX8_copy_103 h4 h5 ?_
  refine r_if_lt (tgt := 116) dX8_copy_104 (by decide) (fun c6 => ?_) (fun c6 => ?_)
  · rw [if_pos c6] at h
    refine r_sub [0] [(0, .ref a0)] rfl ?_
    exact okX8_copy_b116 h hk
  · rw [if_neg c6] at h
    refine r_aload_n dX8_copy_107 0 rfl ?_
    refine r_getR (fl_RX8_7 rfl) rfl dX8_copy_108 h1 g3 ?_
    refine r_iload_n dX8_copy_111 2 rfl ?_
    obtain ⟨h7, h⟩ := chk_some h
    refine r_iaload dX8_copy_112 h4 h7 ?_
    refine r_if_ge (tgt := 123) dX8_copy_113 (by decide) (fun c8 => ?_) (fun c8 => ?_)
    · rw [if_pos c8] at h
      refine r_iload dX8_copy_123 5 rfl ?_
      refine r_if_ge (tgt := 135) dX8_copy_125 (by decide) (fun c9 => ?_) (fun c9 => ?_)
      · rw [if_pos c9] at h
        refine r_iload_n dX8_copy_135 3 rfl ?_
        refine r_if_lt (tgt := 179) dX8_copy_136 (by decide) (fun c10 => ?_) (fun c10 => ?_)
        · rw [if_pos c10] at h
          refine r_sub [0] [(0, .ref a0)] rfl ?_
          exact okX8_copy_b179 h hk
        · rw [if_neg c10] at h
          refine r_iload dX8_copy_139 4 rfl ?_
          refine r_if_lt (tgt := 179) dX8_copy_141 (by decide) (fun c11 => ?_) (fun c11 => ?_)
          · rw [if_pos c11] at h
            refine r_sub [0] [(0, .ref a0)] rfl ?_
            exact okX8_copy_b179 h hk
          · rw [if_neg c11] at h
            refine r_iload_n dX8_copy_144 3 rfl ?_
            refine r_i2l dX8_copy_145 ?_
            refine r_iload dX8_copy_146 5 rfl ?_
            refine r_i2l dX8_copy_148 ?_
            refine r_ladd dX8_copy_149 ?_
            refine r_aload_n dX8_copy_150 0 rfl ?_
            obtain ⟨o12, g13, h⟩ := ob_some h
            refine r_getR (fl_RX8_13 rfl) rfl dX8_copy_151 h1 g13 ?_
            refine r_iload_n dX8_copy_154 1 rfl ?_
            obtain ⟨h14, h⟩ := chk_some h
            obtain ⟨h15, h⟩ := chk_some h
            refine r_iaload dX8_copy_155 h14 h15 ?_
            refine r_i2l dX8_copy_156 ?_
            refine r_lcmp dX8_copy_157 ?_
            refine r_if_gt (tgt := 179) dX8_copy_158 (by decide) (fun c16 => ?_) (fun c16 => ?_)
            · rw [if_pos c16] at h
              refine r_sub [0] [(0, .ref a0)] rfl ?_
              exact okX8_copy_b179 h hk
            · rw [if_neg c16] at h
              refine r_iload dX8_copy_161 4 rfl ?_
              refine r_i2l dX8_copy_163 ?_
              refine r_iload dX8_copy_164 5 rfl ?_
              refine r_i2l dX8_copy_166 ?_
              refine r_ladd dX8_copy_167 ?_
              refine r_aload_n dX8_copy_168 0 rfl ?_
              refine r_getR (fl_RX8_13 rfl) rfl dX8_copy_169 h1 g13 ?_
              refine r_iload_n dX8_copy_172 2 rfl ?_
              obtain ⟨h17, h⟩ := chk_some h
              refine r_iaload dX8_copy_173 h14 h17 ?_
              refine r_i2l dX8_copy_174 ?_
              refine r_lcmp dX8_copy_175 ?_
              refine r_if_le (tgt := 186) dX8_copy_176 (by decide) (fun c18 => ?_) (fun c18 => ?_)
              · rw [if_pos c18] at h
                refine r_iload_n dX8_copy_186 1 rfl ?_
                refine r_iload_n dX8_copy_187 2 rfl ?_
                refine r_icmp_ne (tgt := 248) dX8_copy_188 (by decide) (fun c19 => ?_) (fun c19 => ?_)
                · rw [if_neg c19] at h
                  refine r_sub [0, 1, 2, 3, 4, 5] [(0, .ref a0), (1, .int x1), (2, .int x2), (3, .int x3), (4, .int x4), (5, .int x5)] rfl ?_
                  exact okX8_copy_b248 h hk
                · rw [if_pos c19] at h
                  refine r_iload_n dX8_copy_191 3 rfl ?_
                  refine r_iload dX8_copy_192 4 rfl ?_
                  refine r_icmp_ge (tgt := 248) dX8_copy_194 (by decide) (fun c20 => ?_) (fun c20 => ?_)
                  · rw [if_pos c20] at h
                    refine r_sub [0, 1, 2, 3, 4, 5] [(0, .ref a0), (1, .int x1), (2, .int x2), (3, .int x3), (4, .int x4), (5, .int x5)] rfl ?_
                    exact okX8_copy_b248 h hk
                  · rw [if_neg c20] at h
                    refine r_iload dX8_copy_197 5 rfl ?_
                    refine r_iconst (v := 1) dX8_copy_199 (by decide) ?_
                    refine r_isub dX8_copy_200 ?_
                    obtain ⟨u21, e22, h⟩ := bnd_some h
                    refine r_eqI e22 ?_
                    refine r_istore dX8_copy_201 (Nat.le_of_ble_eq_true rfl) [(6, .int u21), (0, .ref a0), (1, .int x1), (2, .int x2), (3, .int x3), (4, .int x4), (5, .int x5)] rfl ?_
                    refine r_sub [1, 2, 3, 4, 5, 0] [(0, .ref a0), (1, .int x1), (2, .int x2), (3, .int x3), (4, .int x4), (6, .int u21)] rfl ?_
                    exact okX8_copy_L203 h hk
              · rw [if_neg c18] at h
                refine r_sub [0] [(0, .ref a0)] rfl ?_
                exact okX8_copy_b179 h hk
      · rw [if_neg c9] at h
        refine r_aload_n dX8_copy_128 0 rfl ?_
        refine r_bipush (v := (-4)) dX8_copy_129 (by decide) ?_
        obtain ⟨q23, g24, h⟩ := ob_some h
        refine r_callV (d' := (6, 0, false)) (As := [.int (-4)]) (st := []) mdv_X8_no tm_RX8_72 (by decide) rfl rfl (by decide) rfl (Nat.le_refl _) (Nat.le_of_ble_eq_true rfl) rfl dX8_copy_131 h1 (ctX8_no g24) (k_I0 ?_)
        rw [← Option.some.inj h] at hk
        exact r_ireturn dX8_copy_134 rfl rfl hk
    · rw [if_neg c8] at h
      refine r_sub [0] [(0, .ref a0)] rfl ?_
      exact okX8_copy_b116 h hk
def fX8_copy_b91 (a0 : Nat) (w : Wd) : Option (Int32 × Wd) :=
  chk (isO w a0 8) (ob (fX8_no a0 (-2) w) (fun q2 => some (q2.1, q2.2)))
set_option maxHeartbeats 1000000 in
set_option maxRecDepth 20000 in
theorem okX8_copy_b91 {E : Ev} {Q : Option Value → Wd → Prop} {a0 : Nat} {w : Wd} {q : Int32 × Wd} (h : fX8_copy_b91 a0 w = some q) (hk : (fun q : Int32 × Wd => Q (some (.int q.1)) q.2) q) : Runs E mX8_copy (7, 0, false) Q 0 91 [(0, .ref a0)] [] w := by
  unfold fX8_copy_b91 at h
  refine r_aload_n dX8_copy_91 0 rfl ?_
  refine r_bipush (v := (-2)) dX8_copy_92 (by decide) ?_
  obtain ⟨h1, h⟩ := chk_some h
  obtain ⟨q2, g3, h⟩ := ob_some h
  refine r_callV (d' := (6, 0, false)) (As := [.int (-2)]) (st := []) mdv_X8_no tm_RX8_72 (by decide) rfl rfl (by decide) rfl (Nat.le_refl _) (Nat.le_of_ble_eq_true rfl) rfl dX8_copy_94 h1 (ctX8_no g3) (k_I0 ?_)
  rw [← Option.some.inj h] at hk
  exact r_ireturn dX8_copy_97 rfl rfl hk
def fX8_copy_b60 (a0 : Nat) (x1 : Int32) (x2 : Int32) (x3 : Int32) (x4 : Int32) (x5 : Int32) (w : Wd) : Option (Int32 × Wd) :=
  chk (isO w a0 8) (ob (fX8_isRow a0 x1 w) (fun q2 => if q2.1 = 0 then (fX8_copy_b98 a0 x1 x2 x3 x4 x5 q2.2) else (chk (isO q2.2 a0 8) (ob (fX8_isRow a0 x2 q2.2) (fun q6 => if q6.1 = 0 then (fX8_copy_b98 a0 x1 x2 x3 x4 x5 q6.2) else (chk (isO q6.2 a0 8) (ob (wR q6.2 a0 0) (fun o10 => chk (isA q6.2 o10 0) (chk (inb x1 (wn q6.2 o10)) (chk (inb x2 (wn q6.2 o10)) (if (wI q6.2 o10 (x1).toNatClampNeg) = (wI q6.2 o10 (x2).toNatClampNeg) then (fX8_copy_b98 a0 x1 x2 x3 x4 x5 q6.2) else (fX8_copy_b91 a0 q6.2))))))))))))
set_option maxHeartbeats 1000000 in
set_option maxRecDepth 20000 in
theorem okX8_copy_b60 {E : Ev} {Q : Option Value → Wd → Prop} {a0 : Nat} {x1 : Int32} {x2 : Int32} {x3 : Int32} {x4 : Int32} {x5 : Int32} {w : Wd} {q : Int32 × Wd} (h : fX8_copy_b60 a0 x1 x2 x3 x4 x5 w = some q) (hk : (fun q : Int32 × Wd => Q (some (.int q.1)) q.2) q) : Runs E mX8_copy (7, 0, false) Q 0 60 [(0, .ref a0), (1, .int x1), (2, .int x2), (3, .int x3), (4, .int x4), (5, .int x5)] [] w := by
  unfold fX8_copy_b60 at h
  refine r_aload_n dX8_copy_60 0 rfl ?_
  refine r_iload_n dX8_copy_61 1 rfl ?_
  obtain ⟨h1, h⟩ := chk_some h
  obtain ⟨q2, g3, h⟩ := ob_some h
  refine r_callV (d' := (6, 0, false)) (As := [.int x1]) (st := []) mdv_X8_isRow tm_RX8_86 (by decide) rfl rfl (by decide) rfl (Nat.le_refl _) (Nat.le_of_ble_eq_true rfl) rfl dX8_copy_62 h1 (ctX8_isRow g3) (k_I0 ?_)
  refine r_if_eq (tgt := 98) dX8_copy_65 (by decide) (fun c4 => ?_) (fun c4 => ?_)
  · rw [if_pos c4] at h
    refine r_sub [0, 1, 2, 3, 4, 5] [(0, .ref a0), (1, .int x1), (2, .int x2), (3, .int x3), (4, .int x4), (5, .int x5)] rfl ?_
    exact okX8_copy_b98 h hk
  · rw [if_neg c4] at h
    refine r_aload_n dX8_copy_68 0 rfl ?_
    refine r_iload_n dX8_copy_69 2 rfl ?_
    obtain ⟨h5, h⟩ := chk_some h
    obtain ⟨q6, g7, h⟩ := ob_some h
    refine r_callV (d' := (6, 0, false)) (As := [.int x2]) (st := []) mdv_X8_isRow tm_RX8_86 (by decide) rfl rfl (by decide) rfl (Nat.le_refl _) (Nat.le_of_ble_eq_true rfl) rfl dX8_copy_70 h5 (ctX8_isRow g7) (k_I0 ?_)
    refine r_if_eq (tgt := 98) dX8_copy_73 (by decide) (fun c8 => ?_) (fun c8 => ?_)
    · rw [if_pos c8] at h
      refine r_sub [0, 1, 2, 3, 4, 5] [(0, .ref a0), (1, .int x1), (2, .int x2), (3, .int x3), (4, .int x4), (5, .int x5)] rfl ?_
      exact okX8_copy_b98 h hk
    · rw [if_neg c8] at h
      refine r_aload_n dX8_copy_76 0 rfl ?_
      obtain ⟨h9, h⟩ := chk_some h
      obtain ⟨o10, g11, h⟩ := ob_some h
      refine r_getR (fl_RX8_7 rfl) rfl dX8_copy_77 h9 g11 ?_
      refine r_iload_n dX8_copy_80 1 rfl ?_
      obtain ⟨h12, h⟩ := chk_some h
      obtain ⟨h13, h⟩ := chk_some h
      refine r_iaload dX8_copy_81 h12 h13 ?_
      refine r_aload_n dX8_copy_82 0 rfl ?_
      refine r_getR (fl_RX8_7 rfl) rfl dX8_copy_83 h9 g11 ?_
      refine r_iload_n dX8_copy_86 2 rfl ?_
      obtain ⟨h14, h⟩ := chk_some h
      refine r_iaload dX8_copy_87 h12 h14 ?_
      refine r_icmp_eq (tgt := 98) dX8_copy_88 (by decide) (fun c15 => ?_) (fun c15 => ?_)
      · rw [if_pos c15] at h
        refine r_sub [0, 1, 2, 3, 4, 5] [(0, .ref a0), (1, .int x1), (2, .int x2), (3, .int x3), (4, .int x4), (5, .int x5)] rfl ?_
        exact okX8_copy_b98 h hk
      · rw [if_neg c15] at h
        refine r_sub [0] [(0, .ref a0)] rfl ?_
        exact okX8_copy_b91 h hk
def fX8_copy_b43 (a0 : Nat) (x1 : Int32) (x2 : Int32) (x3 : Int32) (x4 : Int32) (x5 : Int32) (w : Wd) : Option (Int32 × Wd) :=
  chk (isO w a0 8) (ob (wR w a0 0) (fun o2 => chk (isA w o2 0) (chk (inb x2 (wn w o2)) (if (wI w o2 (x2).toNatClampNeg) < 0 then (fX8_copy_b60 a0 x1 x2 x3 x4 x5 w) else (ob (fX8_isRow a0 x2 w) (fun q7 => if q7.1 = 0 then (fX8_copy_b91 a0 q7.2) else (fX8_copy_b60 a0 x1 x2 x3 x4 x5 q7.2)))))))
set_option maxHeartbeats 1000000 in
set_option maxRecDepth 20000 in
theorem okX8_copy_b43 {E : Ev} {Q : Option Value → Wd → Prop} {a0 : Nat} {x1 : Int32} {x2 : Int32} {x3 : Int32} {x4 : Int32} {x5 : Int32} {w : Wd} {q : Int32 × Wd} (h : fX8_copy_b43 a0 x1 x2 x3 x4 x5 w = some q) (hk : (fun q : Int32 × Wd => Q (some (.int q.1)) q.2) q) : Runs E mX8_copy (7, 0, false) Q 0 43 [(0, .ref a0), (1, .int x1), (2, .int x2), (3, .int x3), (4, .int x4), (5, .int x5)] [] w := by
  unfold fX8_copy_b43 at h
  refine r_aload_n dX8_copy_43 0 rfl ?_
  obtain ⟨h1, h⟩ := chk_some h
  obtain ⟨o2, g3, h⟩ := ob_some h
  refine r_getR (fl_RX8_7 rfl) rfl dX8_copy_44 h1 g3 ?_
  refine r_iload_n dX8_copy_47 2 rfl ?_
  obtain ⟨h4, h⟩ := chk_some h
  obtain ⟨h5, h⟩ := chk_some h
  refine r_iaload dX8_copy_48 h4 h5 ?_
  refine r_if_lt (tgt := 60) dX8_copy_49 (by decide) (fun c6 => ?_) (fun c6 => ?_)
  · rw [if_pos c6] at h
    refine r_sub [0, 1, 2, 3, 4, 5] [(0, .ref a0), (1, .int x1), (2, .int x2), (3, .int x3), (4, .int x4), (5, .int x5)] rfl ?_
    exact okX8_copy_b60 h hk
  · rw [if_neg c6] at h
    refine r_aload_n dX8_copy_52 0 rfl ?_
    refine r_iload_n dX8_copy_53 2 rfl ?_
    obtain ⟨q7, g8, h⟩ := ob_some h
    refine r_callV (d' := (6, 0, false)) (As := [.int x2]) (st := []) mdv_X8_isRow tm_RX8_86 (by decide) rfl rfl (by decide) rfl (Nat.le_refl _) (Nat.le_of_ble_eq_true rfl) rfl dX8_copy_54 h1 (ctX8_isRow g8) (k_I0 ?_)
    refine r_if_eq (tgt := 91) dX8_copy_57 (by decide) (fun c9 => ?_) (fun c9 => ?_)
    · rw [if_pos c9] at h
      refine r_sub [0] [(0, .ref a0)] rfl ?_
      exact okX8_copy_b91 h hk
    · rw [if_neg c9] at h
      refine r_sub [0, 1, 2, 3, 4, 5] [(0, .ref a0), (1, .int x1), (2, .int x2), (3, .int x3), (4, .int x4), (5, .int x5)] rfl ?_
      exact okX8_copy_b60 h hk
def fX8_copy (a0 : Nat) (x1 : Int32) (x2 : Int32) (x3 : Int32) (x4 : Int32) (x5 : Int32) (w : Wd) : Option (Int32 × Wd) :=
  ob (fX8_within x1 0 7 w) (fun q1 => if q1.1 = 0 then (fX8_copy_b20 a0 q1.2) else (ob (fX8_within x2 0 7 q1.2) (fun q4 => if q4.1 = 0 then (fX8_copy_b20 a0 q4.2) else (chk (isO q4.2 a0 8) (ob (wR q4.2 a0 0) (fun o8 => chk (isA q4.2 o8 0) (chk (inb x1 (wn q4.2 o8)) (if (wI q4.2 o8 (x1).toNatClampNeg) < 0 then (fX8_copy_b43 a0 x1 x2 x3 x4 x5 q4.2) else (ob (fX8_isRow a0 x1 q4.2) (fun q13 => if q13.1 = 0 then (fX8_copy_b91 a0 q13.2) else (fX8_copy_b43 a0 x1 x2 x3 x4 x5 q13.2)))))))))))
set_option maxHeartbeats 1000000 in
set_option maxRecDepth 20000 in
theorem okX8_copy {E : Ev} {Q : Option Value → Wd → Prop} {a0 : Nat} {x1 : Int32} {x2 : Int32} {x3 : Int32} {x4 : Int32} {x5 : Int32} {w : Wd} {q : Int32 × Wd} (h : fX8_copy a0 x1 x2 x3 x4 x5 w = some q) (hk : (fun q : Int32 × Wd => Q (some (.int q.1)) q.2) q) : Runs E mX8_copy (7, 0, false) Q 0 0 [(0, .ref a0), (1, .int x1), (2, .int x2), (3, .int x3), (4, .int x4), (5, .int x5)] [] w := by
  unfold fX8_copy at h
  refine r_iload_n dX8_copy_0 1 rfl ?_
  refine r_iconst (v := 0) dX8_copy_1 (by decide) ?_
  refine r_bipush (v := 7) dX8_copy_2 (by decide) ?_
  obtain ⟨q1, g2, h⟩ := ob_some h
  refine r_callS (d' := (6, 0, false)) (As := [.int x1, .int 0, .int 7]) (st := []) mds_X8_within tm_RX8_79 rfl (by decide) rfl (Nat.le_refl _) (Nat.le_of_ble_eq_true rfl) rfl dX8_copy_4 (ctX8_within g2) (k_I0 ?_)
  refine r_if_eq (tgt := 20) dX8_copy_7 (by decide) (fun c3 => ?_) (fun c3 => ?_)
  · rw [if_pos c3] at h
    refine r_sub [0] [(0, .ref a0)] rfl ?_
    exact okX8_copy_b20 h hk
  · rw [if_neg c3] at h
    refine r_iload_n dX8_copy_10 2 rfl ?_
    refine r_iconst (v := 0) dX8_copy_11 (by decide) ?_
    refine r_bipush (v := 7) dX8_copy_12 (by decide) ?_
    obtain ⟨q4, g5, h⟩ := ob_some h
    refine r_callS (d' := (6, 0, false)) (As := [.int x2, .int 0, .int 7]) (st := []) mds_X8_within tm_RX8_79 rfl (by decide) rfl (Nat.le_refl _) (Nat.le_of_ble_eq_true rfl) rfl dX8_copy_14 (ctX8_within g5) (k_I0 ?_)
    refine r_if_ne (tgt := 26) dX8_copy_17 (by decide) (fun c6 => ?_) (fun c6 => ?_)
    · rw [if_neg c6] at h
      refine r_aload_n dX8_copy_26 0 rfl ?_
      obtain ⟨h7, h⟩ := chk_some h
      obtain ⟨o8, g9, h⟩ := ob_some h
      refine r_getR (fl_RX8_7 rfl) rfl dX8_copy_27 h7 g9 ?_
      refine r_iload_n dX8_copy_30 1 rfl ?_
      obtain ⟨h10, h⟩ := chk_some h
      obtain ⟨h11, h⟩ := chk_some h
      refine r_iaload dX8_copy_31 h10 h11 ?_
      refine r_if_lt (tgt := 43) dX8_copy_32 (by decide) (fun c12 => ?_) (fun c12 => ?_)
      · rw [if_pos c12] at h
        refine r_sub [0, 1, 2, 3, 4, 5] [(0, .ref a0), (1, .int x1), (2, .int x2), (3, .int x3), (4, .int x4), (5, .int x5)] rfl ?_
        exact okX8_copy_b43 h hk
      · rw [if_neg c12] at h
        refine r_aload_n dX8_copy_35 0 rfl ?_
        refine r_iload_n dX8_copy_36 1 rfl ?_
        obtain ⟨q13, g14, h⟩ := ob_some h
        refine r_callV (d' := (6, 0, false)) (As := [.int x1]) (st := []) mdv_X8_isRow tm_RX8_86 (by decide) rfl rfl (by decide) rfl (Nat.le_refl _) (Nat.le_of_ble_eq_true rfl) rfl dX8_copy_37 h7 (ctX8_isRow g14) (k_I0 ?_)
        refine r_if_eq (tgt := 91) dX8_copy_40 (by decide) (fun c15 => ?_) (fun c15 => ?_)
        · rw [if_pos c15] at h
          refine r_sub [0] [(0, .ref a0)] rfl ?_
          exact okX8_copy_b91 h hk
        · rw [if_neg c15] at h
          refine r_sub [0, 1, 2, 3, 4, 5] [(0, .ref a0), (1, .int x1), (2, .int x2), (3, .int x3), (4, .int x4), (5, .int x5)] rfl ?_
          exact okX8_copy_b43 h hk
    · rw [if_pos c6] at h
      refine r_sub [0] [(0, .ref a0)] rfl ?_
      exact okX8_copy_b20 h hk
set_option maxHeartbeats 1000000 in
set_option maxRecDepth 20000 in
theorem ctX8_copy {E : Ev} {a0 : Nat} {x1 : Int32} {x2 : Int32} {x3 : Int32} {x4 : Int32} {x5 : Int32} {w : Wd} {q : Int32 × Wd} (h : fX8_copy a0 x1 x2 x3 x4 x5 w = some q) : CT E mX8_copy (7, 0, false) [.ref a0, .int x1, .int x2, .int x3, .int x4, .int x5] w (QI q) := CT.of pl_RX8 (Nat.le_of_ble_eq_true rfl) (okX8_copy h ⟨rfl, rfl⟩)
def PX8_isHimself_L2 (E : Ev) (Q : Option Value → Wd → Prop) (a0 : Nat) (x1 : Int32) (x2 : Int32) (s : Int32 × Wd) : Prop := Runs E mX8_isHimself (8, 0, false) Q 0 2 [(0, .ref a0), (1, .int x1), (2, .int x2), (3, .int s.1)] [] s.2
def fX8_isHimself_L2_body (a0 : Nat) (x1 : Int32) (x2 : Int32) (s : Int32 × Wd) : Option ((Int32 × Wd) ⊕ (Int32 × Wd)) :=
  if (12 : Int32) ≤ s.1 then (wr (some (1, s.2))) else (chk (isO s.2 a0 8) (ob (fX8_doesWithout a0 x1 s.1 x2 s.2) (fun q4 => chk (isO q4.2 a0 8) (ob (wR q4.2 a0 5) (fun o7 => chk (isA q4.2 o7 0) (chk (inb ((12 * x1) + s.1) (wn q4.2 o7)) (if q4.1 = (wI q4.2 o7 (((12 * x1) + s.1)).toNatClampNeg) then (some (.inl ((s.1 + 1), q4.2))) else (wr (some (0, q4.2))))))))))
set_option maxHeartbeats 1000000 in
set_option maxRecDepth 20000 in
theorem okX8_isHimself_L2_body {E : Ev} {Q : Option Value → Wd → Prop} {a0 : Nat} {x1 : Int32} {x2 : Int32} {s : Int32 × Wd} {r : (Int32 × Wd) ⊕ (Int32 × Wd)} (h : fX8_isHimself_L2_body a0 x1 x2 s = some r) (hk : (Sum.elim (PX8_isHimself_L2 E Q a0 x1 x2) (fun q : Int32 × Wd => Q (some (.int q.1)) q.2)) r) : PX8_isHimself_L2 E Q a0 x1 x2 s := by
  unfold fX8_isHimself_L2_body at h
  unfold PX8_isHimself_L2
  refine r_iload_n dX8_isHimself_2 3 rfl ?_
  refine r_bipush (v := 12) dX8_isHimself_3 (by decide) ?_
  refine r_icmp_ge (tgt := 37) dX8_isHimself_5 (by decide) (fun c1 => ?_) (fun c1 => ?_)
  · rw [if_pos c1] at h
    obtain ⟨r2, hr, h⟩ := wr_some h
    rw [hr] at hk
    refine r_iconst (v := 1) dX8_isHimself_37 (by decide) ?_
    rw [← Option.some.inj h] at hk
    exact r_ireturn dX8_isHimself_38 rfl rfl hk
  · rw [if_neg c1] at h
    refine r_aload_n dX8_isHimself_8 0 rfl ?_
    refine r_iload_n dX8_isHimself_9 1 rfl ?_
    refine r_iload_n dX8_isHimself_10 3 rfl ?_
    refine r_iload_n dX8_isHimself_11 2 rfl ?_
    obtain ⟨h3, h⟩ := chk_some h
    obtain ⟨q4, g5, h⟩ := ob_some h
    refine r_callV (d' := (7, 0, false)) (As := [.int x1, .int s.1, .int x2]) (st := []) mdv_X8_doesWithout tm_RX8_208 (by decide) rfl rfl (by decide) rfl (Nat.le_refl _) (Nat.le_of_ble_eq_true rfl) rfl dX8_isHimself_12 h3 (ctX8_doesWithout g5) (k_I0 ?_)
    refine r_aload_n dX8_isHimself_15 0 rfl ?_
    obtain ⟨h6, h⟩ := chk_some h
    obtain ⟨o7, g8, h⟩ := ob_some h
    refine r_getR (fl_RX8_23 rfl) rfl dX8_isHimself_16 h6 g8 ?_
    refine r_bipush (v := 12) dX8_isHimself_19 (by decide) ?_
    refine r_iload_n dX8_isHimself_21 1 rfl ?_
    refine r_imul dX8_isHimself_22 ?_
    refine r_iload_n dX8_isHimself_23 3 rfl ?_
    refine r_iadd dX8_isHimself_24 ?_
    obtain ⟨h9, h⟩ := chk_some h
    obtain ⟨h10, h⟩ := chk_some h
    refine r_iaload dX8_isHimself_25 h9 h10 ?_
    refine r_icmp_eq (tgt := 31) dX8_isHimself_26 (by decide) (fun c11 => ?_) (fun c11 => ?_)
    · rw [if_pos c11] at h
      refine r_iinc (v := (s.1 + 1)) dX8_isHimself_31 3 rfl rfl (Nat.le_of_ble_eq_true rfl) [(3, .int (s.1 + 1)), (0, .ref a0), (1, .int x1), (2, .int x2)] rfl ?_
      refine r_goto (tgt := 2) dX8_isHimself_34 (by decide) ?_
      rw [← Option.some.inj h] at hk
      refine r_sub [1, 2, 3, 0] [(0, .ref a0), (1, .int x1), (2, .int x2), (3, .int (s.1 + 1))] rfl ?_
      exact hk
    · rw [if_neg c11] at h
      obtain ⟨r12, hr, h⟩ := wr_some h
      rw [hr] at hk
      refine r_iconst (v := 0) dX8_isHimself_29 (by decide) ?_
      rw [← Option.some.inj h] at hk
      exact r_ireturn dX8_isHimself_30 rfl rfl hk
def fX8_isHimself_L2 (a0 : Nat) (x1 : Int32) (x2 : Int32) (s : Int32 × Wd) : Option (Int32 × Wd) := it (fX8_isHimself_L2_body a0 x1 x2) FU s
set_option maxHeartbeats 1000000 in
set_option maxRecDepth 20000 in
theorem okX8_isHimself_L2 {E : Ev} {Q : Option Value → Wd → Prop} {a0 : Nat} {x1 : Int32} {x2 : Int32} {s : Int32 × Wd} {r : Int32 × Wd} (h : fX8_isHimself_L2 a0 x1 x2 s = some r) (hk : (fun q : Int32 × Wd => Q (some (.int q.1)) q.2) r) : PX8_isHimself_L2 E Q a0 x1 x2 s := it_runs (fun s r h hk => okX8_isHimself_L2_body h hk) FU s r h hk
def fX8_isHimself (a0 : Nat) (x1 : Int32) (x2 : Int32) (w : Wd) : Option (Int32 × Wd) :=
  fX8_isHimself_L2 a0 x1 x2 (0, w)
set_option maxHeartbeats 1000000 in
set_option maxRecDepth 20000 in
theorem okX8_isHimself {E : Ev} {Q : Option Value → Wd → Prop} {a0 : Nat} {x1 : Int32} {x2 : Int32} {w : Wd} {q : Int32 × Wd} (h : fX8_isHimself a0 x1 x2 w = some q) (hk : (fun q : Int32 × Wd => Q (some (.int q.1)) q.2) q) : Runs E mX8_isHimself (8, 0, false) Q 0 0 [(0, .ref a0), (1, .int x1), (2, .int x2)] [] w := by
  unfold fX8_isHimself at h
  refine r_iconst (v := 0) dX8_isHimself_0 (by decide) ?_
  refine r_istore_n dX8_isHimself_1 rfl (Nat.le_of_ble_eq_true rfl) [(3, .int 0), (0, .ref a0), (1, .int x1), (2, .int x2)] rfl ?_
  refine r_sub [1, 2, 3, 0] [(0, .ref a0), (1, .int x1), (2, .int x2), (3, .int 0)] rfl ?_
  exact okX8_isHimself_L2 h hk
set_option maxHeartbeats 1000000 in
set_option maxRecDepth 20000 in
theorem ctX8_isHimself {E : Ev} {a0 : Nat} {x1 : Int32} {x2 : Int32} {w : Wd} {q : Int32 × Wd} (h : fX8_isHimself a0 x1 x2 w = some q) : CT E mX8_isHimself (8, 0, false) [.ref a0, .int x1, .int x2] w (QI q) := CT.of pl_RX8 (Nat.le_of_ble_eq_true rfl) (okX8_isHimself h ⟨rfl, rfl⟩)
def fX8_isOne (a0 : Nat) (x1 : Int32) (w : Wd) : Option (Int32 × Wd) :=
  chk (isO w a0 8) (ob (fX8_within x1 0 ((wI w a0 3) - 1) w) (fun q2 => chk (q2.1 = 0 ∨ q2.1 = 1) (some (q2.1, q2.2))))
set_option maxHeartbeats 1000000 in
set_option maxRecDepth 20000 in
theorem okX8_isOne {E : Ev} {Q : Option Value → Wd → Prop} {a0 : Nat} {x1 : Int32} {w : Wd} {q : Int32 × Wd} (h : fX8_isOne a0 x1 w = some q) (hk : (fun q : Int32 × Wd => Q (some (.int q.1)) q.2) q) : Runs E mX8_isOne (7, 0, false) Q 0 0 [(0, .ref a0), (1, .int x1)] [] w := by
  unfold fX8_isOne at h
  refine r_iload_n dX8_isOne_0 1 rfl ?_
  refine r_iconst (v := 0) dX8_isOne_1 (by decide) ?_
  refine r_aload_n dX8_isOne_2 0 rfl ?_
  obtain ⟨h1, h⟩ := chk_some h
  refine r_getI (fl_RX8_83 rfl) rfl dX8_isOne_3 h1 ?_
  refine r_iconst (v := 1) dX8_isOne_6 (by decide) ?_
  refine r_isub dX8_isOne_7 ?_
  obtain ⟨q2, g3, h⟩ := ob_some h
  refine r_callS (d' := (6, 0, false)) (As := [.int x1, .int 0, .int ((wI w a0 3) - 1)]) (st := []) mds_X8_within tm_RX8_79 rfl (by decide) rfl (Nat.le_refl _) (Nat.le_of_ble_eq_true rfl) rfl dX8_isOne_8 (ctX8_within g3) (k_I0 ?_)
  obtain ⟨h4, h⟩ := chk_some h
  rw [← Option.some.inj h] at hk
  exact r_ireturn dX8_isOne_11 rfl (nb h4) hk
set_option maxHeartbeats 1000000 in
set_option maxRecDepth 20000 in
theorem ctX8_isOne {E : Ev} {a0 : Nat} {x1 : Int32} {w : Wd} {q : Int32 × Wd} (h : fX8_isOne a0 x1 w = some q) : CT E mX8_isOne (7, 0, false) [.ref a0, .int x1] w (QI q) := CT.of pl_RX8 (Nat.le_of_ble_eq_true rfl) (okX8_isOne h ⟨rfl, rfl⟩)
def fX8_no10 (a0 : Nat) (x1 : Int32) (w : Wd) : Option (Int32 × Wd) :=
  chk (isO w a0 8) (ob (fX8_no a0 x1 w) (fun q2 => some ((q2.1 - 10), q2.2)))
set_option maxHeartbeats 1000000 in
set_option maxRecDepth 20000 in
theorem okX8_no10 {E : Ev} {Q : Option Value → Wd → Prop} {a0 : Nat} {x1 : Int32} {w : Wd} {q : Int32 × Wd} (h : fX8_no10 a0 x1 w = some q) (hk : (fun q : Int32 × Wd => Q (some (.int q.1)) q.2) q) : Runs E mX8_no10 (7, 0, false) Q 0 0 [(0, .ref a0), (1, .int x1)] [] w := by
  unfold fX8_no10 at h
  refine r_aload_n dX8_no10_0 0 rfl ?_
  refine r_iload_n dX8_no10_1 1 rfl ?_
  obtain ⟨h1, h⟩ := chk_some h
  obtain ⟨q2, g3, h⟩ := ob_some h
  refine r_callV (d' := (6, 0, false)) (As := [.int x1]) (st := []) mdv_X8_no tm_RX8_72 (by decide) rfl rfl (by decide) rfl (Nat.le_refl _) (Nat.le_of_ble_eq_true rfl) rfl dX8_no10_2 h1 (ctX8_no g3) (k_I0 ?_)
  refine r_bipush (v := 10) dX8_no10_5 (by decide) ?_
  refine r_isub dX8_no10_7 ?_
  rw [← Option.some.inj h] at hk
  exact r_ireturn dX8_no10_8 rfl rfl hk
set_option maxHeartbeats 1000000 in
set_option maxRecDepth 20000 in
theorem ctX8_no10 {E : Ev} {a0 : Nat} {x1 : Int32} {w : Wd} {q : Int32 × Wd} (h : fX8_no10 a0 x1 w = some q) : CT E mX8_no10 (7, 0, false) [.ref a0, .int x1] w (QI q) := CT.of pl_RX8 (Nat.le_of_ble_eq_true rfl) (okX8_no10 h ⟨rfl, rfl⟩)
def PX8_cure_L95 (E : Ev) (Q : Option Value → Wd → Prop) (a0 : Nat) (x1 : Int32) (s : Int32 × Int32 × Wd) : Prop := Runs E mX8_cure (9, 0, false) Q 0 95 [(0, .ref a0), (1, .int x1), (3, .int s.1), (4, .int s.2.1)] [] s.2.2
def PX8_cure_L134 (E : Ev) (Q : Option Value → Wd → Prop) (a0 : Nat) (x1 : Int32) (x3 : Int32) (s : Int32 × Int32 × Wd) : Prop := Runs E mX8_cure (9, 0, false) Q 0 134 [(0, .ref a0), (1, .int x1), (3, .int x3), (4, .int s.1), (5, .int s.2.1)] [] s.2.2
def fX8_cure_b181 (a0 : Nat) (x1 : Int32) (x3 : Int32) (x4 : Int32) (x5 : Int32) (w : Wd) : Option ((Int32 × Int32 × Wd) ⊕ (Int32 × Wd)) :=
  some (.inl (x4, (x5 + 1), w))
set_option maxHeartbeats 1000000 in
set_option maxRecDepth 20000 in
theorem okX8_cure_b181 {E : Ev} {Q : Option Value → Wd → Prop} {a0 : Nat} {x1 : Int32} {x3 : Int32} {x4 : Int32} {x5 : Int32} {w : Wd} {q : (Int32 × Int32 × Wd) ⊕ (Int32 × Wd)} (h : fX8_cure_b181 a0 x1 x3 x4 x5 w = some q) (hk : (Sum.elim (PX8_cure_L134 E Q a0 x1 x3) (fun q : Int32 × Wd => Q (some (.int q.1)) q.2)) q) : Runs E mX8_cure (9, 0, false) Q 0 181 [(0, .ref a0), (1, .int x1), (3, .int x3), (4, .int x4), (5, .int x5)] [] w := by
  unfold fX8_cure_b181 at h
  refine r_iinc (v := (x5 + 1)) dX8_cure_181 4 rfl rfl (Nat.le_of_ble_eq_true rfl) [(5, .int (x5 + 1)), (0, .ref a0), (1, .int x1), (3, .int x3), (4, .int x4)] rfl ?_
  refine r_goto (tgt := 134) dX8_cure_184 (by decide) ?_
  rw [← Option.some.inj h] at hk
  refine r_sub [1, 2, 3, 4, 0] [(0, .ref a0), (1, .int x1), (3, .int x3), (4, .int x4), (5, .int (x5 + 1))] rfl ?_
  exact hk
def fX8_cure_L134_body (a0 : Nat) (x1 : Int32) (x3 : Int32) (s : Int32 × Int32 × Wd) : Option ((Int32 × Int32 × Wd) ⊕ (Int32 × Wd)) :=
  chk (isO s.2.2 a0 8) (if (1 <<< ((wI s.2.2 a0 6) &&& 31)) ≤ s.2.1 then (wr (some (s.1, s.2.2))) else (if (s.2.1 &&& (x3 ^^^ (-1))) = 0 then (ob (fJ6_bitCount_0f7a4 s.2.1 s.2.2) (fun q5 => ob (fJ6_bitCount_0f7a4 s.1 q5.2) (fun q7 => if q7.1 ≤ q5.1 then (fX8_cure_b181 a0 x1 x3 s.1 s.2.1 q7.2) else (chk (isO q7.2 a0 8) (ob (fX8_isHimself a0 x1 s.2.1 q7.2) (fun q11 => if q11.1 = 0 then (fX8_cure_b181 a0 x1 x3 s.1 s.2.1 q11.2) else (fX8_cure_b181 a0 x1 x3 s.2.1 s.2.1 q11.2))))))) else (fX8_cure_b181 a0 x1 x3 s.1 s.2.1 s.2.2)))
set_option maxHeartbeats 1000000 in
set_option maxRecDepth 20000 in
theorem okX8_cure_L134_body {E : Ev} {Q : Option Value → Wd → Prop} {a0 : Nat} {x1 : Int32} {x3 : Int32} {s : Int32 × Int32 × Wd} {r : (Int32 × Int32 × Wd) ⊕ (Int32 × Wd)} (h : fX8_cure_L134_body a0 x1 x3 s = some r) (hk : (Sum.elim (PX8_cure_L134 E Q a0 x1 x3) (fun q : Int32 × Wd => Q (some (.int q.1)) q.2)) r) : PX8_cure_L134 E Q a0 x1 x3 s := by
  unfold fX8_cure_L134_body at h
  unfold PX8_cure_L134
  refine r_iload dX8_cure_134 4 rfl ?_
  refine r_iconst (v := 1) dX8_cure_136 (by decide) ?_
  refine r_aload_n dX8_cure_137 0 rfl ?_
  obtain ⟨h1, h⟩ := chk_some h
  refine r_getI (fl_RX8_76 rfl) rfl dX8_cure_138 h1 ?_
  refine r_ishl dX8_cure_141 ?_
  refine r_icmp_ge (tgt := 187) dX8_cure_142 (by decide) (fun c2 => ?_) (fun c2 => ?_)
  · rw [if_pos c2] at h
    obtain ⟨r3, hr, h⟩ := wr_some h
    rw [hr] at hk
    refine r_iload dX8_cure_187 3 rfl ?_
    rw [← Option.some.inj h] at hk
    exact r_ireturn dX8_cure_189 rfl rfl hk
  · rw [if_neg c2] at h
    refine r_iload dX8_cure_145 4 rfl ?_
    refine r_iload_n dX8_cure_147 2 rfl ?_
    refine r_iconst (v := (-1)) dX8_cure_148 (by decide) ?_
    refine r_ixor dX8_cure_149 ?_
    refine r_iand dX8_cure_150 ?_
    refine r_if_ne (tgt := 181) dX8_cure_151 (by decide) (fun c4 => ?_) (fun c4 => ?_)
    · rw [if_neg c4] at h
      refine r_sub [0, 1, 2, 3, 4] [(0, .ref a0), (1, .int x1), (3, .int x3), (4, .int s.1), (5, .int s.2.1)] rfl ?_
      exact okX8_cure_b181 h hk
    · rw [if_pos c4] at h
      refine r_iload dX8_cure_154 4 rfl ?_
      obtain ⟨q5, g6, h⟩ := ob_some h
      refine r_callS (d' := (6, 0, false)) (As := [.int s.2.1]) (st := []) mds_J6_bitCount_0f7a4 tm_RX8_251 rfl (by decide) rfl (Nat.le_refl _) (Nat.le_of_ble_eq_true rfl) rfl dX8_cure_156 (ctJ6_bitCount_0f7a4 g6) (k_I0 ?_)
      refine r_iload dX8_cure_159 3 rfl ?_
      obtain ⟨q7, g8, h⟩ := ob_some h
      refine r_callS (d' := (6, 0, false)) (As := [.int s.1]) (st := [.int q5.1]) mds_J6_bitCount_0f7a4 tm_RX8_251 rfl (by decide) rfl (Nat.le_refl _) (Nat.le_of_ble_eq_true rfl) rfl dX8_cure_161 (ctJ6_bitCount_0f7a4 g8) (k_I0 ?_)
      refine r_icmp_ge (tgt := 181) dX8_cure_164 (by decide) (fun c9 => ?_) (fun c9 => ?_)
      · rw [if_pos c9] at h
        refine r_sub [0, 1, 2, 3, 4] [(0, .ref a0), (1, .int x1), (3, .int x3), (4, .int s.1), (5, .int s.2.1)] rfl ?_
        exact okX8_cure_b181 h hk
      · rw [if_neg c9] at h
        refine r_aload_n dX8_cure_167 0 rfl ?_
        refine r_iload_n dX8_cure_168 1 rfl ?_
        refine r_iload dX8_cure_169 4 rfl ?_
        obtain ⟨h10, h⟩ := chk_some h
        obtain ⟨q11, g12, h⟩ := ob_some h
        refine r_callV (d' := (8, 0, false)) (As := [.int x1, .int s.2.1]) (st := []) mdv_X8_isHimself tm_RX8_259 (by decide) rfl rfl (by decide) rfl (Nat.le_refl _) (Nat.le_of_ble_eq_true rfl) rfl dX8_cure_171 h10 (ctX8_isHimself g12) (k_I0 ?_)
        refine r_if_eq (tgt := 181) dX8_cure_174 (by decide) (fun c13 => ?_) (fun c13 => ?_)
        · rw [if_pos c13] at h
          refine r_sub [0, 1, 2, 3, 4] [(0, .ref a0), (1, .int x1), (3, .int x3), (4, .int s.1), (5, .int s.2.1)] rfl ?_
          exact okX8_cure_b181 h hk
        · rw [if_neg c13] at h
          refine r_iload dX8_cure_177 4 rfl ?_
          refine r_istore dX8_cure_179 (Nat.le_of_ble_eq_true rfl) [(4, .int s.2.1), (0, .ref a0), (1, .int x1), (3, .int x3), (5, .int s.2.1)] rfl ?_
          refine r_sub [1, 2, 3, 0, 4] [(0, .ref a0), (1, .int x1), (3, .int x3), (4, .int s.2.1), (5, .int s.2.1)] rfl ?_
          exact okX8_cure_b181 h hk
def fX8_cure_L134 (a0 : Nat) (x1 : Int32) (x3 : Int32) (s : Int32 × Int32 × Wd) : Option (Int32 × Wd) := it (fX8_cure_L134_body a0 x1 x3) FU s
set_option maxHeartbeats 1000000 in
set_option maxRecDepth 20000 in
theorem okX8_cure_L134 {E : Ev} {Q : Option Value → Wd → Prop} {a0 : Nat} {x1 : Int32} {x3 : Int32} {s : Int32 × Int32 × Wd} {r : Int32 × Wd} (h : fX8_cure_L134 a0 x1 x3 s = some r) (hk : (fun q : Int32 × Wd => Q (some (.int q.1)) q.2) r) : PX8_cure_L134 E Q a0 x1 x3 s := it_runs (fun s r h hk => okX8_cure_L134_body h hk) FU s r h hk
def fX8_cure_b122 (a0 : Nat) (x1 : Int32) (x3 : Int32) (x4 : Int32) (w : Wd) : Option ((Int32 × Int32 × Wd) ⊕ (Int32 × Wd)) :=
  some (.inl (x3, (x4 + 1), w))
set_option maxHeartbeats 1000000 in
set_option maxRecDepth 20000 in
theorem okX8_cure_b122 {E : Ev} {Q : Option Value → Wd → Prop} {a0 : Nat} {x1 : Int32} {x3 : Int32} {x4 : Int32} {w : Wd} {q : (Int32 × Int32 × Wd) ⊕ (Int32 × Wd)} (h : fX8_cure_b122 a0 x1 x3 x4 w = some q) (hk : (Sum.elim (PX8_cure_L95 E Q a0 x1) (fun q : Int32 × Wd => Q (some (.int q.1)) q.2)) q) : Runs E mX8_cure (9, 0, false) Q 0 122 [(0, .ref a0), (1, .int x1), (3, .int x3), (4, .int x4)] [] w := by
  unfold fX8_cure_b122 at h
  refine r_iinc (v := (x4 + 1)) dX8_cure_122 3 rfl rfl (Nat.le_of_ble_eq_true rfl) [(4, .int (x4 + 1)), (0, .ref a0), (1, .int x1), (3, .int x3)] rfl ?_
  refine r_goto (tgt := 95) dX8_cure_125 (by decide) ?_
  rw [← Option.some.inj h] at hk
  refine r_sub [1, 2, 3, 0] [(0, .ref a0), (1, .int x1), (3, .int x3), (4, .int (x4 + 1))] rfl ?_
  exact hk
def fX8_cure_L95_body (a0 : Nat) (x1 : Int32) (s : Int32 × Int32 × Wd) : Option ((Int32 × Int32 × Wd) ⊕ (Int32 × Wd)) :=
  chk (isO s.2.2 a0 8) (if (wI s.2.2 a0 6) ≤ s.2.1 then (wr (fX8_cure_L134 a0 x1 s.1 (s.1, 0, s.2.2))) else (ob (wR s.2.2 a0 9) (fun o4 => chk (isA s.2.2 o4 0) (chk (inb s.2.1 (wn s.2.2 o4)) (if (wI s.2.2 o4 (s.2.1).toNatClampNeg) = x1 then (bnd (s.1 ||| (1 <<< (s.2.1 &&& 31))) (fun u9 => fX8_cure_b122 a0 x1 u9 s.2.1 s.2.2)) else (fX8_cure_b122 a0 x1 s.1 s.2.1 s.2.2))))))
set_option maxHeartbeats 1000000 in
set_option maxRecDepth 20000 in
theorem okX8_cure_L95_body {E : Ev} {Q : Option Value → Wd → Prop} {a0 : Nat} {x1 : Int32} {s : Int32 × Int32 × Wd} {r : (Int32 × Int32 × Wd) ⊕ (Int32 × Wd)} (h : fX8_cure_L95_body a0 x1 s = some r) (hk : (Sum.elim (PX8_cure_L95 E Q a0 x1) (fun q : Int32 × Wd => Q (some (.int q.1)) q.2)) r) : PX8_cure_L95 E Q a0 x1 s := by
  unfold fX8_cure_L95_body at h
  unfold PX8_cure_L95
  refine r_iload dX8_cure_95 3 rfl ?_
  refine r_aload_n dX8_cure_97 0 rfl ?_
  obtain ⟨h1, h⟩ := chk_some h
  refine r_getI (fl_RX8_76 rfl) rfl dX8_cure_98 h1 ?_
  refine r_icmp_ge (tgt := 128) dX8_cure_101 (by decide) (fun c2 => ?_) (fun c2 => ?_)
  · rw [if_pos c2] at h
    obtain ⟨r3, hr, h⟩ := wr_some h
    rw [hr] at hk
    refine r_iload_n dX8_cure_128 2 rfl ?_
    refine r_istore dX8_cure_129 (Nat.le_of_ble_eq_true rfl) [(4, .int s.1), (0, .ref a0), (1, .int x1), (3, .int s.1)] rfl ?_
    refine r_iconst (v := 0) dX8_cure_131 (by decide) ?_
    refine r_istore dX8_cure_132 (Nat.le_of_ble_eq_true rfl) [(5, .int 0), (4, .int s.1), (0, .ref a0), (1, .int x1), (3, .int s.1)] rfl ?_
    refine r_sub [2, 3, 4, 1, 0] [(0, .ref a0), (1, .int x1), (3, .int s.1), (4, .int s.1), (5, .int 0)] rfl ?_
    exact okX8_cure_L134 h hk
  · rw [if_neg c2] at h
    refine r_aload_n dX8_cure_104 0 rfl ?_
    obtain ⟨o4, g5, h⟩ := ob_some h
    refine r_getR (fl_RX8_32 rfl) rfl dX8_cure_105 h1 g5 ?_
    refine r_iload dX8_cure_108 3 rfl ?_
    obtain ⟨h6, h⟩ := chk_some h
    obtain ⟨h7, h⟩ := chk_some h
    refine r_iaload dX8_cure_110 h6 h7 ?_
    refine r_iload_n dX8_cure_111 1 rfl ?_
    refine r_icmp_ne (tgt := 122) dX8_cure_112 (by decide) (fun c8 => ?_) (fun c8 => ?_)
    · rw [if_neg c8] at h
      refine r_sub [0, 1, 2, 3] [(0, .ref a0), (1, .int x1), (3, .int s.1), (4, .int s.2.1)] rfl ?_
      exact okX8_cure_b122 h hk
    · rw [if_pos c8] at h
      refine r_iload_n dX8_cure_115 2 rfl ?_
      refine r_iconst (v := 1) dX8_cure_116 (by decide) ?_
      refine r_iload dX8_cure_117 3 rfl ?_
      refine r_ishl dX8_cure_119 ?_
      refine r_ior dX8_cure_120 ?_
      obtain ⟨u9, e10, h⟩ := bnd_some h
      refine r_eqI e10 ?_
      refine r_istore_n dX8_cure_121 rfl (Nat.le_of_ble_eq_true rfl) [(3, .int u9), (0, .ref a0), (1, .int x1), (4, .int s.2.1)] rfl ?_
      refine r_sub [1, 2, 0, 3] [(0, .ref a0), (1, .int x1), (3, .int u9), (4, .int s.2.1)] rfl ?_
      exact okX8_cure_b122 h hk
def fX8_cure_L95 (a0 : Nat) (x1 : Int32) (s : Int32 × Int32 × Wd) : Option (Int32 × Wd) := it (fX8_cure_L95_body a0 x1) FU s
set_option maxHeartbeats 1000000 in
set_option maxRecDepth 20000 in
theorem okX8_cure_L95 {E : Ev} {Q : Option Value → Wd → Prop} {a0 : Nat} {x1 : Int32} {s : Int32 × Int32 × Wd} {r : Int32 × Wd} (h : fX8_cure_L95 a0 x1 s = some r) (hk : (fun q : Int32 × Wd => Q (some (.int q.1)) q.2) r) : PX8_cure_L95 E Q a0 x1 s := it_runs (fun s r h hk => okX8_cure_L95_body h hk) FU s r h hk
def PX8_cure_L48 (E : Ev) (Q : Option Value → Wd → Prop) (a0 : Nat) (x1 : Int32) (x3 : Int32) (s : Int32 × Int32 × Wd) : Prop := Runs E mX8_cure (9, 0, false) Q 0 48 [(0, .ref a0), (1, .int x1), (3, .int x3), (4, .int s.1), (5, .int s.2.1)] [] s.2.2
def fX8_cure_b74 (a0 : Nat) (x1 : Int32) (x3 : Int32) (x4 : Int32) (x5 : Int32) (w : Wd) : Option ((Int32 × Int32 × Wd) ⊕ (Int32 × Wd)) :=
  some (.inl (x4, (x5 + (-1)), w))
set_option maxHeartbeats 1000000 in
set_option maxRecDepth 20000 in
theorem okX8_cure_b74 {E : Ev} {Q : Option Value → Wd → Prop} {a0 : Nat} {x1 : Int32} {x3 : Int32} {x4 : Int32} {x5 : Int32} {w : Wd} {q : (Int32 × Int32 × Wd) ⊕ (Int32 × Wd)} (h : fX8_cure_b74 a0 x1 x3 x4 x5 w = some q) (hk : (Sum.elim (PX8_cure_L48 E Q a0 x1 x3) (fun q : Int32 × Wd => Q (some (.int q.1)) q.2)) q) : Runs E mX8_cure (9, 0, false) Q 0 74 [(0, .ref a0), (1, .int x1), (3, .int x3), (4, .int x4), (5, .int x5)] [] w := by
  unfold fX8_cure_b74 at h
  refine r_iinc (v := (x5 + (-1))) dX8_cure_74 4 rfl rfl (Nat.le_of_ble_eq_true rfl) [(5, .int (x5 + (-1))), (0, .ref a0), (1, .int x1), (3, .int x3), (4, .int x4)] rfl ?_
  refine r_goto (tgt := 48) dX8_cure_77 (by decide) ?_
  rw [← Option.some.inj h] at hk
  refine r_sub [1, 2, 3, 4, 0] [(0, .ref a0), (1, .int x1), (3, .int x3), (4, .int x4), (5, .int (x5 + (-1)))] rfl ?_
  exact hk
def fX8_cure_L48_body (a0 : Nat) (x1 : Int32) (x3 : Int32) (s : Int32 × Int32 × Wd) : Option ((Int32 × Int32 × Wd) ⊕ (Int32 × Wd)) :=
  if s.2.1 < 0 then (wr (chk (isO s.2.2 a0 8) (ob (wR s.2.2 a0 4) (fun o4 => chk (isA s.2.2 o4 0) (chk (inb x1 (wn s.2.2 o4)) (bnd (sI s.2.2 o4 (x1).toNatClampNeg x3) (fun w8 => some (s.1, w8)))))))) else (chk (isO s.2.2 a0 8) (ob (wR s.2.2 a0 4) (fun o11 => chk (isA s.2.2 o11 0) (chk (inb x1 (wn s.2.2 o11)) (bnd (sI s.2.2 o11 (x1).toNatClampNeg s.2.1) (fun w15 => chk (isO w15 a0 8) (ob (fX8_isHimself a0 x1 0 w15) (fun q18 => if q18.1 = 0 then (fX8_cure_b74 a0 x1 x3 s.1 s.2.1 q18.2) else (fX8_cure_b74 a0 x1 x3 s.2.1 s.2.1 q18.2)))))))))
set_option maxHeartbeats 1000000 in
set_option maxRecDepth 20000 in
theorem okX8_cure_L48_body {E : Ev} {Q : Option Value → Wd → Prop} {a0 : Nat} {x1 : Int32} {x3 : Int32} {s : Int32 × Int32 × Wd} {r : (Int32 × Int32 × Wd) ⊕ (Int32 × Wd)} (h : fX8_cure_L48_body a0 x1 x3 s = some r) (hk : (Sum.elim (PX8_cure_L48 E Q a0 x1 x3) (fun q : Int32 × Wd => Q (some (.int q.1)) q.2)) r) : PX8_cure_L48 E Q a0 x1 x3 s := by
  unfold fX8_cure_L48_body at h
  unfold PX8_cure_L48
  refine r_iload dX8_cure_48 4 rfl ?_
  refine r_if_lt (tgt := 80) dX8_cure_50 (by decide) (fun c1 => ?_) (fun c1 => ?_)
  · rw [if_pos c1] at h
    obtain ⟨r2, hr, h⟩ := wr_some h
    rw [hr] at hk
    refine r_aload_n dX8_cure_80 0 rfl ?_
    obtain ⟨h3, h⟩ := chk_some h
    obtain ⟨o4, g5, h⟩ := ob_some h
    refine r_getR (fl_RX8_20 rfl) rfl dX8_cure_81 h3 g5 ?_
    refine r_iload_n dX8_cure_84 1 rfl ?_
    refine r_iload_n dX8_cure_85 2 rfl ?_
    obtain ⟨h6, h⟩ := chk_some h
    obtain ⟨h7, h⟩ := chk_some h
    obtain ⟨w8, e9, h⟩ := bnd_some h
    refine r_iastore dX8_cure_86 h6 h7 ?_
    refine r_eqW e9 ?_
    refine r_iload dX8_cure_87 3 rfl ?_
    rw [← Option.some.inj h] at hk
    exact r_ireturn dX8_cure_89 rfl rfl hk
  · rw [if_neg c1] at h
    refine r_aload_n dX8_cure_53 0 rfl ?_
    obtain ⟨h10, h⟩ := chk_some h
    obtain ⟨o11, g12, h⟩ := ob_some h
    refine r_getR (fl_RX8_20 rfl) rfl dX8_cure_54 h10 g12 ?_
    refine r_iload_n dX8_cure_57 1 rfl ?_
    refine r_iload dX8_cure_58 4 rfl ?_
    obtain ⟨h13, h⟩ := chk_some h
    obtain ⟨h14, h⟩ := chk_some h
    obtain ⟨w15, e16, h⟩ := bnd_some h
    refine r_iastore dX8_cure_60 h13 h14 ?_
    refine r_eqW e16 ?_
    refine r_aload_n dX8_cure_61 0 rfl ?_
    refine r_iload_n dX8_cure_62 1 rfl ?_
    refine r_iconst (v := 0) dX8_cure_63 (by decide) ?_
    obtain ⟨h17, h⟩ := chk_some h
    obtain ⟨q18, g19, h⟩ := ob_some h
    refine r_callV (d' := (8, 0, false)) (As := [.int x1, .int 0]) (st := []) mdv_X8_isHimself tm_RX8_259 (by decide) rfl rfl (by decide) rfl (Nat.le_refl _) (Nat.le_of_ble_eq_true rfl) rfl dX8_cure_64 h17 (ctX8_isHimself g19) (k_I0 ?_)
    refine r_if_eq (tgt := 74) dX8_cure_67 (by decide) (fun c20 => ?_) (fun c20 => ?_)
    · rw [if_pos c20] at h
      refine r_sub [0, 1, 2, 3, 4] [(0, .ref a0), (1, .int x1), (3, .int x3), (4, .int s.1), (5, .int s.2.1)] rfl ?_
      exact okX8_cure_b74 h hk
    · rw [if_neg c20] at h
      refine r_iload dX8_cure_70 4 rfl ?_
      refine r_istore dX8_cure_72 (Nat.le_of_ble_eq_true rfl) [(4, .int s.2.1), (0, .ref a0), (1, .int x1), (3, .int x3), (5, .int s.2.1)] rfl ?_
      refine r_sub [1, 2, 3, 0, 4] [(0, .ref a0), (1, .int x1), (3, .int x3), (4, .int s.2.1), (5, .int s.2.1)] rfl ?_
      exact okX8_cure_b74 h hk
def fX8_cure_L48 (a0 : Nat) (x1 : Int32) (x3 : Int32) (s : Int32 × Int32 × Wd) : Option (Int32 × Wd) := it (fX8_cure_L48_body a0 x1 x3) FU s
set_option maxHeartbeats 1000000 in
set_option maxRecDepth 20000 in
theorem okX8_cure_L48 {E : Ev} {Q : Option Value → Wd → Prop} {a0 : Nat} {x1 : Int32} {x3 : Int32} {s : Int32 × Int32 × Wd} {r : Int32 × Wd} (h : fX8_cure_L48 a0 x1 x3 s = some r) (hk : (fun q : Int32 × Wd => Q (some (.int q.1)) q.2) r) : PX8_cure_L48 E Q a0 x1 x3 s := it_runs (fun s r h hk => okX8_cure_L48_body h hk) FU s r h hk
def fX8_cure (a0 : Nat) (x1 : Int32) (x2 : Int32) (w : Wd) : Option (Int32 × Wd) :=
  chk (isO w a0 8) (ob (fX8_isOne a0 x1 w) (fun q2 => if q2.1 = 0 then (chk (isO q2.2 a0 8) (ob (fX8_no10 a0 (-1) q2.2) (fun q20 => some (q20.1, q20.2)))) else (ob (fX8_within x2 0 1 q2.2) (fun q5 => if q5.1 = 0 then (chk (isO q5.2 a0 8) (ob (fX8_no10 a0 (-5) q5.2) (fun q17 => some (q17.1, q17.2)))) else (if x2 = 0 then (chk (isO q5.2 a0 8) (ob (wR q5.2 a0 4) (fun o10 => chk (isA q5.2 o10 0) (chk (inb x1 (wn q5.2 o10)) (bnd (wI q5.2 o10 (x1).toNatClampNeg) (fun u14 => fX8_cure_L48 a0 x1 u14 ((-1), 9, q5.2))))))) else (fX8_cure_L95 a0 x1 (0, 0, q5.2)))))))
set_option maxHeartbeats 1000000 in
set_option maxRecDepth 20000 in
theorem okX8_cure {E : Ev} {Q : Option Value → Wd → Prop} {a0 : Nat} {x1 : Int32} {x2 : Int32} {w : Wd} {q : Int32 × Wd} (h : fX8_cure a0 x1 x2 w = some q) (hk : (fun q : Int32 × Wd => Q (some (.int q.1)) q.2) q) : Runs E mX8_cure (9, 0, false) Q 0 0 [(0, .ref a0), (1, .int x1), (2, .int x2)] [] w := by
  unfold fX8_cure at h
  refine r_aload_n dX8_cure_0 0 rfl ?_
  refine r_iload_n dX8_cure_1 1 rfl ?_
  obtain ⟨h1, h⟩ := chk_some h
  obtain ⟨q2, g3, h⟩ := ob_some h
  refine r_callV (d' := (7, 0, false)) (As := [.int x1]) (st := []) mdv_X8_isOne tm_RX8_122 (by decide) rfl rfl (by decide) rfl (Nat.le_refl _) (Nat.le_of_ble_eq_true rfl) rfl dX8_cure_2 h1 (ctX8_isOne g3) (k_I0 ?_)
  refine r_if_ne (tgt := 14) dX8_cure_5 (by decide) (fun c4 => ?_) (fun c4 => ?_)
  · rw [if_neg c4] at h
    refine r_iload_n dX8_cure_14 2 rfl ?_
    refine r_iconst (v := 0) dX8_cure_15 (by decide) ?_
    refine r_iconst (v := 1) dX8_cure_16 (by decide) ?_
    obtain ⟨q5, g6, h⟩ := ob_some h
    refine r_callS (d' := (6, 0, false)) (As := [.int x2, .int 0, .int 1]) (st := []) mds_X8_within tm_RX8_79 rfl (by decide) rfl (Nat.le_refl _) (Nat.le_of_ble_eq_true rfl) rfl dX8_cure_17 (ctX8_within g6) (k_I0 ?_)
    refine r_if_ne (tgt := 30) dX8_cure_20 (by decide) (fun c7 => ?_) (fun c7 => ?_)
    · rw [if_neg c7] at h
      refine r_iload_n dX8_cure_30 2 rfl ?_
      refine r_if_ne (tgt := 90) dX8_cure_31 (by decide) (fun c8 => ?_) (fun c8 => ?_)
      · rw [if_neg c8] at h
        refine r_iconst (v := 0) dX8_cure_90 (by decide) ?_
        refine r_istore_n dX8_cure_91 rfl (Nat.le_of_ble_eq_true rfl) [(3, .int 0), (0, .ref a0), (1, .int x1), (2, .int x2)] rfl ?_
        refine r_iconst (v := 0) dX8_cure_92 (by decide) ?_
        refine r_istore dX8_cure_93 (Nat.le_of_ble_eq_true rfl) [(4, .int 0), (3, .int 0), (0, .ref a0), (1, .int x1), (2, .int x2)] rfl ?_
        refine r_sub [2, 3, 1, 0] [(0, .ref a0), (1, .int x1), (3, .int 0), (4, .int 0)] rfl ?_
        exact okX8_cure_L95 h hk
      · rw [if_pos c8] at h
        refine r_aload_n dX8_cure_34 0 rfl ?_
        obtain ⟨h9, h⟩ := chk_some h
        obtain ⟨o10, g11, h⟩ := ob_some h
        refine r_getR (fl_RX8_20 rfl) rfl dX8_cure_35 h9 g11 ?_
        refine r_iload_n dX8_cure_38 1 rfl ?_
        obtain ⟨h12, h⟩ := chk_some h
        obtain ⟨h13, h⟩ := chk_some h
        refine r_iaload dX8_cure_39 h12 h13 ?_
        obtain ⟨u14, e15, h⟩ := bnd_some h
        refine r_eqI e15 ?_
        refine r_istore_n dX8_cure_40 rfl (Nat.le_of_ble_eq_true rfl) [(3, .int u14), (0, .ref a0), (1, .int x1), (2, .int x2)] rfl ?_
        refine r_iconst (v := (-1)) dX8_cure_41 (by decide) ?_
        refine r_istore dX8_cure_42 (Nat.le_of_ble_eq_true rfl) [(4, .int (-1)), (3, .int u14), (0, .ref a0), (1, .int x1), (2, .int x2)] rfl ?_
        refine r_bipush (v := 9) dX8_cure_44 (by decide) ?_
        refine r_istore dX8_cure_46 (Nat.le_of_ble_eq_true rfl) [(5, .int 9), (4, .int (-1)), (3, .int u14), (0, .ref a0), (1, .int x1), (2, .int x2)] rfl ?_
        refine r_sub [3, 4, 2, 1, 0] [(0, .ref a0), (1, .int x1), (3, .int u14), (4, .int (-1)), (5, .int 9)] rfl ?_
        exact okX8_cure_L48 h hk
    · rw [if_pos c7] at h
      refine r_aload_n dX8_cure_23 0 rfl ?_
      refine r_bipush (v := (-5)) dX8_cure_24 (by decide) ?_
      obtain ⟨h16, h⟩ := chk_some h
      obtain ⟨q17, g18, h⟩ := ob_some h
      refine r_callV (d' := (7, 0, false)) (As := [.int (-5)]) (st := []) mdv_X8_no10 tm_RX8_132 (by decide) rfl rfl (by decide) rfl (Nat.le_refl _) (Nat.le_of_ble_eq_true rfl) rfl dX8_cure_26 h16 (ctX8_no10 g18) (k_I0 ?_)
      rw [← Option.some.inj h] at hk
      exact r_ireturn dX8_cure_29 rfl rfl hk
  · rw [if_pos c4] at h
    refine r_aload_n dX8_cure_8 0 rfl ?_
    refine r_iconst (v := (-1)) dX8_cure_9 (by decide) ?_
    obtain ⟨h19, h⟩ := chk_some h
    obtain ⟨q20, g21, h⟩ := ob_some h
    refine r_callV (d' := (7, 0, false)) (As := [.int (-1)]) (st := []) mdv_X8_no10 tm_RX8_132 (by decide) rfl rfl (by decide) rfl (Nat.le_refl _) (Nat.le_of_ble_eq_true rfl) rfl dX8_cure_10 h19 (ctX8_no10 g21) (k_I0 ?_)
    rw [← Option.some.inj h] at hk
    exact r_ireturn dX8_cure_13 rfl rfl hk
set_option maxHeartbeats 1000000 in
set_option maxRecDepth 20000 in
theorem ctX8_cure {E : Ev} {a0 : Nat} {x1 : Int32} {x2 : Int32} {w : Wd} {q : Int32 × Wd} (h : fX8_cure a0 x1 x2 w = some q) : CT E mX8_cure (9, 0, false) [.ref a0, .int x1, .int x2] w (QI q) := CT.of pl_RX8 (Nat.le_of_ble_eq_true rfl) (okX8_cure h ⟨rfl, rfl⟩)
def PX8_days_L21 (E : Ev) (Q : Option Value → Wd → Prop) (a0 : Nat) (x1 : Int32) (s : Int32 × Int32 × Wd) : Prop := Runs E mX8_days (10, 0, false) Q 0 21 [(0, .ref a0), (1, .int x1), (2, .int s.1), (3, .int s.2.1)] [] s.2.2
def fX8_days_L21_body (a0 : Nat) (x1 : Int32) (s : Int32 × Int32 × Wd) : Option ((Int32 × Int32 × Wd) ⊕ (Int32 × Wd)) :=
  if x1 ≤ s.2.1 then (wr (some (s.1, s.2.2))) else (chk (isO s.2.2 a0 8) (ob (fX8_day a0 s.2.2) (fun q4 => bnd (s.1 + q4.1) (fun u6 => some (.inl (u6, (s.2.1 + 1), q4.2))))))
set_option maxHeartbeats 1000000 in
set_option maxRecDepth 20000 in
theorem okX8_days_L21_body {E : Ev} {Q : Option Value → Wd → Prop} {a0 : Nat} {x1 : Int32} {s : Int32 × Int32 × Wd} {r : (Int32 × Int32 × Wd) ⊕ (Int32 × Wd)} (h : fX8_days_L21_body a0 x1 s = some r) (hk : (Sum.elim (PX8_days_L21 E Q a0 x1) (fun q : Int32 × Wd => Q (some (.int q.1)) q.2)) r) : PX8_days_L21 E Q a0 x1 s := by
  unfold fX8_days_L21_body at h
  unfold PX8_days_L21
  refine r_iload_n dX8_days_21 3 rfl ?_
  refine r_iload_n dX8_days_22 1 rfl ?_
  refine r_icmp_ge (tgt := 39) dX8_days_23 (by decide) (fun c1 => ?_) (fun c1 => ?_)
  · rw [if_pos c1] at h
    obtain ⟨r2, hr, h⟩ := wr_some h
    rw [hr] at hk
    refine r_iload_n dX8_days_39 2 rfl ?_
    rw [← Option.some.inj h] at hk
    exact r_ireturn dX8_days_40 rfl rfl hk
  · rw [if_neg c1] at h
    refine r_iload_n dX8_days_26 2 rfl ?_
    refine r_aload_n dX8_days_27 0 rfl ?_
    obtain ⟨h3, h⟩ := chk_some h
    obtain ⟨q4, g5, h⟩ := ob_some h
    refine r_callV (d' := (9, 0, false)) (As := []) (st := [.int s.1]) mdv_X8_day tm_RX8_192 (by decide) rfl rfl (by decide) rfl (Nat.le_refl _) (Nat.le_of_ble_eq_true rfl) rfl dX8_days_28 h3 (ctX8_day g5) (k_I0 ?_)
    refine r_iadd dX8_days_31 ?_
    obtain ⟨u6, e7, h⟩ := bnd_some h
    refine r_eqI e7 ?_
    refine r_istore_n dX8_days_32 rfl (Nat.le_of_ble_eq_true rfl) [(2, .int u6), (0, .ref a0), (1, .int x1), (3, .int s.2.1)] rfl ?_
    refine r_iinc (v := (s.2.1 + 1)) dX8_days_33 3 rfl rfl (Nat.le_of_ble_eq_true rfl) [(3, .int (s.2.1 + 1)), (2, .int u6), (0, .ref a0), (1, .int x1)] rfl ?_
    refine r_goto (tgt := 21) dX8_days_36 (by decide) ?_
    rw [← Option.some.inj h] at hk
    refine r_sub [2, 3, 1, 0] [(0, .ref a0), (1, .int x1), (2, .int u6), (3, .int (s.2.1 + 1))] rfl ?_
    exact hk
def fX8_days_L21 (a0 : Nat) (x1 : Int32) (s : Int32 × Int32 × Wd) : Option (Int32 × Wd) := it (fX8_days_L21_body a0 x1) FU s
set_option maxHeartbeats 1000000 in
set_option maxRecDepth 20000 in
theorem okX8_days_L21 {E : Ev} {Q : Option Value → Wd → Prop} {a0 : Nat} {x1 : Int32} {s : Int32 × Int32 × Wd} {r : Int32 × Wd} (h : fX8_days_L21 a0 x1 s = some r) (hk : (fun q : Int32 × Wd => Q (some (.int q.1)) q.2) r) : PX8_days_L21 E Q a0 x1 s := it_runs (fun s r h hk => okX8_days_L21_body h hk) FU s r h hk
def fX8_days (a0 : Nat) (x1 : Int32) (w : Wd) : Option (Int32 × Wd) :=
  ob (fX8_within x1 1 60 w) (fun q1 => if q1.1 = 0 then (chk (isO q1.2 a0 8) (ob (fX8_no a0 (-6) q1.2) (fun q5 => some (q5.1, q5.2)))) else (fX8_days_L21 a0 x1 (0, 0, q1.2)))
set_option maxHeartbeats 1000000 in
set_option maxRecDepth 20000 in
theorem okX8_days {E : Ev} {Q : Option Value → Wd → Prop} {a0 : Nat} {x1 : Int32} {w : Wd} {q : Int32 × Wd} (h : fX8_days a0 x1 w = some q) (hk : (fun q : Int32 × Wd => Q (some (.int q.1)) q.2) q) : Runs E mX8_days (10, 0, false) Q 0 0 [(0, .ref a0), (1, .int x1)] [] w := by
  unfold fX8_days at h
  refine r_iload_n dX8_days_0 1 rfl ?_
  refine r_iconst (v := 1) dX8_days_1 (by decide) ?_
  refine r_bipush (v := 60) dX8_days_2 (by decide) ?_
  obtain ⟨q1, g2, h⟩ := ob_some h
  refine r_callS (d' := (6, 0, false)) (As := [.int x1, .int 1, .int 60]) (st := []) mds_X8_within tm_RX8_79 rfl (by decide) rfl (Nat.le_refl _) (Nat.le_of_ble_eq_true rfl) rfl dX8_days_4 (ctX8_within g2) (k_I0 ?_)
  refine r_if_ne (tgt := 17) dX8_days_7 (by decide) (fun c3 => ?_) (fun c3 => ?_)
  · rw [if_neg c3] at h
    refine r_iconst (v := 0) dX8_days_17 (by decide) ?_
    refine r_istore_n dX8_days_18 rfl (Nat.le_of_ble_eq_true rfl) [(2, .int 0), (0, .ref a0), (1, .int x1)] rfl ?_
    refine r_iconst (v := 0) dX8_days_19 (by decide) ?_
    refine r_istore_n dX8_days_20 rfl (Nat.le_of_ble_eq_true rfl) [(3, .int 0), (2, .int 0), (0, .ref a0), (1, .int x1)] rfl ?_
    refine r_sub [2, 3, 1, 0] [(0, .ref a0), (1, .int x1), (2, .int 0), (3, .int 0)] rfl ?_
    exact okX8_days_L21 h hk
  · rw [if_pos c3] at h
    refine r_aload_n dX8_days_10 0 rfl ?_
    refine r_bipush (v := (-6)) dX8_days_11 (by decide) ?_
    obtain ⟨h4, h⟩ := chk_some h
    obtain ⟨q5, g6, h⟩ := ob_some h
    refine r_callV (d' := (6, 0, false)) (As := [.int (-6)]) (st := []) mdv_X8_no tm_RX8_72 (by decide) rfl rfl (by decide) rfl (Nat.le_refl _) (Nat.le_of_ble_eq_true rfl) rfl dX8_days_13 h4 (ctX8_no g6) (k_I0 ?_)
    rw [← Option.some.inj h] at hk
    exact r_ireturn dX8_days_16 rfl rfl hk
set_option maxHeartbeats 1000000 in
set_option maxRecDepth 20000 in
theorem ctX8_days {E : Ev} {a0 : Nat} {x1 : Int32} {w : Wd} {q : Int32 × Wd} (h : fX8_days a0 x1 w = some q) : CT E mX8_days (10, 0, false) [.ref a0, .int x1] w (QI q) := CT.of pl_RX8 (Nat.le_of_ble_eq_true rfl) (okX8_days h ⟨rfl, rfl⟩)
def fX8_does_b28 (a0 : Nat) (w : Wd) : Option (Int32 × Wd) :=
  chk (isO w a0 8) (ob (fX8_no a0 (-6) w) (fun q2 => some (q2.1, q2.2)))
set_option maxHeartbeats 1000000 in
set_option maxRecDepth 20000 in
theorem okX8_does_b28 {E : Ev} {Q : Option Value → Wd → Prop} {a0 : Nat} {w : Wd} {q : Int32 × Wd} (h : fX8_does_b28 a0 w = some q) (hk : (fun q : Int32 × Wd => Q (some (.int q.1)) q.2) q) : Runs E mX8_does (11, 0, false) Q 0 28 [(0, .ref a0)] [] w := by
  unfold fX8_does_b28 at h
  refine r_aload_n dX8_does_28 0 rfl ?_
  refine r_bipush (v := (-6)) dX8_does_29 (by decide) ?_
  obtain ⟨h1, h⟩ := chk_some h
  obtain ⟨q2, g3, h⟩ := ob_some h
  refine r_callV (d' := (6, 0, false)) (As := [.int (-6)]) (st := []) mdv_X8_no tm_RX8_72 (by decide) rfl rfl (by decide) rfl (Nat.le_refl _) (Nat.le_of_ble_eq_true rfl) rfl dX8_does_31 h1 (ctX8_no g3) (k_I0 ?_)
  rw [← Option.some.inj h] at hk
  exact r_ireturn dX8_does_34 rfl rfl hk
def fX8_does (a0 : Nat) (x1 : Int32) (x2 : Int32) (x3 : Int32) (w : Wd) : Option (Int32 × Wd) :=
  chk (isO w a0 8) (ob (fX8_isOne a0 x1 w) (fun q2 => if q2.1 = 0 then (chk (isO q2.2 a0 8) (ob (fX8_no a0 (-1) q2.2) (fun q28 => some (q28.1, q28.2)))) else (ob (fX8_isDays x2 q2.2) (fun q5 => if q5.1 = 0 then (fX8_does_b28 a0 q5.2) else (ob (fX8_isHour x3 q5.2) (fun q8 => if q8.1 = 0 then (fX8_does_b28 a0 q8.2) else (chk (isO q8.2 a0 8) (ob (wR q8.2 a0 21) (fun o12 => ob (fX8_keep a0 o12 q8.2) (fun q14 => chk (isO q14 a0 8) (ob (fX8_waits a0 x2 q14) (fun q17 => chk (isO q17 a0 8) (ob (fX8_doesNow a0 x1 x3 q17) (fun q20 => chk (isO q20.2 a0 8) (ob (wR q20.2 a0 21) (fun o23 => ob (fX8_again a0 o23 q20.2) (fun q25 => some (q20.1, q25))))))))))))))))))
set_option maxHeartbeats 1000000 in
set_option maxRecDepth 20000 in
theorem okX8_does {E : Ev} {Q : Option Value → Wd → Prop} {a0 : Nat} {x1 : Int32} {x2 : Int32} {x3 : Int32} {w : Wd} {q : Int32 × Wd} (h : fX8_does a0 x1 x2 x3 w = some q) (hk : (fun q : Int32 × Wd => Q (some (.int q.1)) q.2) q) : Runs E mX8_does (11, 0, false) Q 0 0 [(0, .ref a0), (1, .int x1), (2, .int x2), (3, .int x3)] [] w := by
  unfold fX8_does at h
  refine r_aload_n dX8_does_0 0 rfl ?_
  refine r_iload_n dX8_does_1 1 rfl ?_
  obtain ⟨h1, h⟩ := chk_some h
  obtain ⟨q2, g3, h⟩ := ob_some h
  refine r_callV (d' := (7, 0, false)) (As := [.int x1]) (st := []) mdv_X8_isOne tm_RX8_122 (by decide) rfl rfl (by decide) rfl (Nat.le_refl _) (Nat.le_of_ble_eq_true rfl) rfl dX8_does_2 h1 (ctX8_isOne g3) (k_I0 ?_)
  refine r_if_ne (tgt := 14) dX8_does_5 (by decide) (fun c4 => ?_) (fun c4 => ?_)
  · rw [if_neg c4] at h
    refine r_iload_n dX8_does_14 2 rfl ?_
    obtain ⟨q5, g6, h⟩ := ob_some h
    refine r_callS (d' := (7, 0, false)) (As := [.int x2]) (st := []) mds_X8_isDays tm_RX8_230 rfl (by decide) rfl (Nat.le_refl _) (Nat.le_of_ble_eq_true rfl) rfl dX8_does_15 (ctX8_isDays g6) (k_I0 ?_)
    refine r_if_eq (tgt := 28) dX8_does_18 (by decide) (fun c7 => ?_) (fun c7 => ?_)
    · rw [if_pos c7] at h
      refine r_sub [0] [(0, .ref a0)] rfl ?_
      exact okX8_does_b28 h hk
    · rw [if_neg c7] at h
      refine r_iload_n dX8_does_21 3 rfl ?_
      obtain ⟨q8, g9, h⟩ := ob_some h
      refine r_callS (d' := (7, 0, false)) (As := [.int x3]) (st := []) mds_X8_isHour tm_RX8_125 rfl (by decide) rfl (Nat.le_refl _) (Nat.le_of_ble_eq_true rfl) rfl dX8_does_22 (ctX8_isHour g9) (k_I0 ?_)
      refine r_if_ne (tgt := 35) dX8_does_25 (by decide) (fun c10 => ?_) (fun c10 => ?_)
      · rw [if_neg c10] at h
        refine r_aload_n dX8_does_35 0 rfl ?_
        refine r_aload_n dX8_does_36 0 rfl ?_
        obtain ⟨h11, h⟩ := chk_some h
        obtain ⟨o12, g13, h⟩ := ob_some h
        refine r_getR (fl_RX8_53 rfl) rfl dX8_does_37 h11 g13 ?_
        obtain ⟨q14, g15, h⟩ := ob_some h
        refine r_callV (d' := (6, 0, false)) (As := [.ref o12]) (st := []) mdv_X8_keep tm_RX8_194 (by decide) rfl rfl (by decide) rfl (Nat.le_refl _) (Nat.le_of_ble_eq_true rfl) rfl dX8_does_40 h11 (ctX8_keep g15) (k_V0 ?_)
        refine r_aload_n dX8_does_43 0 rfl ?_
        refine r_iload_n dX8_does_44 2 rfl ?_
        obtain ⟨h16, h⟩ := chk_some h
        obtain ⟨q17, g18, h⟩ := ob_some h
        refine r_callV (d' := (10, 0, false)) (As := [.int x2]) (st := []) mdv_X8_waits tm_RX8_233 (by decide) rfl rfl (by decide) rfl (Nat.le_refl _) (Nat.le_of_ble_eq_true rfl) rfl dX8_does_45 h16 (ctX8_waits g18) (k_V0 ?_)
        refine r_aload_n dX8_does_48 0 rfl ?_
        refine r_iload_n dX8_does_49 1 rfl ?_
        refine r_iload_n dX8_does_50 3 rfl ?_
        obtain ⟨h19, h⟩ := chk_some h
        obtain ⟨q20, g21, h⟩ := ob_some h
        refine r_callV (d' := (8, 0, false)) (As := [.int x1, .int x3]) (st := []) mdv_X8_doesNow tm_RX8_217 (by decide) rfl rfl (by decide) rfl (Nat.le_refl _) (Nat.le_of_ble_eq_true rfl) rfl dX8_does_51 h19 (ctX8_doesNow g21) (k_I0 ?_)
        refine r_istore dX8_does_54 (Nat.le_of_ble_eq_true rfl) [(4, .int q20.1), (0, .ref a0), (1, .int x1), (2, .int x2), (3, .int x3)] rfl ?_
        refine r_aload_n dX8_does_56 1 rfl ?_
        refine r_aload_n dX8_does_57 1 rfl ?_
        obtain ⟨h22, h⟩ := chk_some h
        obtain ⟨o23, g24, h⟩ := ob_some h
        refine r_getR (fl_RX8_53 rfl) rfl dX8_does_58 h22 g24 ?_
        obtain ⟨q25, g26, h⟩ := ob_some h
        refine r_callV (d' := (6, 0, false)) (As := [.ref o23]) (st := []) mdv_X8_again tm_RX8_202 (by decide) rfl rfl (by decide) rfl (Nat.le_refl _) (Nat.le_of_ble_eq_true rfl) rfl dX8_does_61 h22 (ctX8_again g26) (k_V0 ?_)
        refine r_iload dX8_does_64 0 rfl ?_
        rw [← Option.some.inj h] at hk
        exact r_ireturn dX8_does_66 rfl rfl hk
      · rw [if_pos c10] at h
        refine r_sub [0] [(0, .ref a0)] rfl ?_
        exact okX8_does_b28 h hk
  · rw [if_pos c4] at h
    refine r_aload_n dX8_does_8 0 rfl ?_
    refine r_iconst (v := (-1)) dX8_does_9 (by decide) ?_
    obtain ⟨h27, h⟩ := chk_some h
    obtain ⟨q28, g29, h⟩ := ob_some h
    refine r_callV (d' := (6, 0, false)) (As := [.int (-1)]) (st := []) mdv_X8_no tm_RX8_72 (by decide) rfl rfl (by decide) rfl (Nat.le_refl _) (Nat.le_of_ble_eq_true rfl) rfl dX8_does_10 h27 (ctX8_no g29) (k_I0 ?_)
    rw [← Option.some.inj h] at hk
    exact r_ireturn dX8_does_13 rfl rfl hk
set_option maxHeartbeats 1000000 in
set_option maxRecDepth 20000 in
theorem ctX8_does {E : Ev} {a0 : Nat} {x1 : Int32} {x2 : Int32} {x3 : Int32} {w : Wd} {q : Int32 × Wd} (h : fX8_does a0 x1 x2 x3 w = some q) : CT E mX8_does (11, 0, false) [.ref a0, .int x1, .int x2, .int x3] w (QI q) := CT.of pl_RX8 (Nat.le_of_ble_eq_true rfl) (okX8_does h ⟨rfl, rfl⟩)
def fX8_told (a0 : Nat) (x1 : Int32) (x2 : Int32) (w : Wd) : Option (Int32 × Wd) :=
  chk (isO w a0 8) (ob (wR w a0 2) (fun o2 => chk (isA w o2 1) (chk (inb ((160 * x1) + x2) (wn w o2)) (some (((wL w o2 (((160 * x1) + x2)).toNatClampNeg)).toInt32, w)))))
set_option maxHeartbeats 1000000 in
set_option maxRecDepth 20000 in
theorem okX8_told {E : Ev} {Q : Option Value → Wd → Prop} {a0 : Nat} {x1 : Int32} {x2 : Int32} {w : Wd} {q : Int32 × Wd} (h : fX8_told a0 x1 x2 w = some q) (hk : (fun q : Int32 × Wd => Q (some (.int q.1)) q.2) q) : Runs E mX8_told (6, 0, false) Q 0 0 [(0, .ref a0), (1, .int x1), (2, .int x2)] [] w := by
  unfold fX8_told at h
  refine r_aload_n dX8_told_0 0 rfl ?_
  obtain ⟨h1, h⟩ := chk_some h
  obtain ⟨o2, g3, h⟩ := ob_some h
  refine r_getR (fl_RX8_16 rfl) rfl dX8_told_1 h1 g3 ?_
  refine r_sipush (v := 160) dX8_told_4 (by decide) ?_
  refine r_iload_n dX8_told_7 1 rfl ?_
  refine r_imul dX8_told_8 ?_
  refine r_iload_n dX8_told_9 2 rfl ?_
  refine r_iadd dX8_told_10 ?_
  obtain ⟨h4, h⟩ := chk_some h
  obtain ⟨h5, h⟩ := chk_some h
  refine r_laload dX8_told_11 h4 h5 ?_
  refine r_l2i dX8_told_12 ?_
  rw [← Option.some.inj h] at hk
  exact r_ireturn dX8_told_13 rfl rfl hk
set_option maxHeartbeats 1000000 in
set_option maxRecDepth 20000 in
theorem ctX8_told {E : Ev} {a0 : Nat} {x1 : Int32} {x2 : Int32} {w : Wd} {q : Int32 × Wd} (h : fX8_told a0 x1 x2 w = some q) : CT E mX8_told (6, 0, false) [.ref a0, .int x1, .int x2] w (QI q) := CT.of pl_RX8 (Nat.le_of_ble_eq_true rfl) (okX8_told h ⟨rfl, rfl⟩)
def PX8_doneOf_L4 (E : Ev) (Q : Option Value → Wd → Prop) (a0 : Nat) (x1 : Int32) (s : Int32 × Int32 × Wd) : Prop := Runs E mX8_doneOf (9, 0, false) Q 0 4 [(0, .ref a0), (1, .int x1), (2, .int s.1), (3, .int s.2.1)] [] s.2.2
def PX8_doneOf_L15 (E : Ev) (Q : Option Value → Wd → Prop) (a0 : Nat) (x1 : Int32) (x3 : Int32) (s : Int32 × Int32 × Wd) : Prop := Runs E mX8_doneOf (9, 0, false) Q 0 15 [(0, .ref a0), (1, .int x1), (2, .int s.1), (3, .int x3), (4, .int s.2.1)] [] s.2.2
def fX8_doneOf_b63 (a0 : Nat) (x1 : Int32) (x2 : Int32) (x3 : Int32) (x4 : Int32) (w : Wd) : Option ((Int32 × Int32 × Wd) ⊕ ((Int32 × Int32 × Wd) ⊕ (Int32 × Wd))) :=
  some (.inl (x2, (x4 + 1), w))
set_option maxHeartbeats 1000000 in
set_option maxRecDepth 20000 in
theorem okX8_doneOf_b63 {E : Ev} {Q : Option Value → Wd → Prop} {a0 : Nat} {x1 : Int32} {x2 : Int32} {x3 : Int32} {x4 : Int32} {w : Wd} {q : (Int32 × Int32 × Wd) ⊕ ((Int32 × Int32 × Wd) ⊕ (Int32 × Wd))} (h : fX8_doneOf_b63 a0 x1 x2 x3 x4 w = some q) (hk : (Sum.elim (PX8_doneOf_L15 E Q a0 x1 x3) (Sum.elim (PX8_doneOf_L4 E Q a0 x1) (fun q : Int32 × Wd => Q (some (.int q.1)) q.2))) q) : Runs E mX8_doneOf (9, 0, false) Q 0 63 [(0, .ref a0), (1, .int x1), (2, .int x2), (3, .int x3), (4, .int x4)] [] w := by
  unfold fX8_doneOf_b63 at h
  refine r_iinc (v := (x4 + 1)) dX8_doneOf_63 4 rfl rfl (Nat.le_of_ble_eq_true rfl) [(4, .int (x4 + 1)), (0, .ref a0), (1, .int x1), (2, .int x2), (3, .int x3)] rfl ?_
  refine r_goto (tgt := 15) dX8_doneOf_66 (by decide) ?_
  rw [← Option.some.inj h] at hk
  refine r_sub [1, 2, 3, 4, 0] [(0, .ref a0), (1, .int x1), (2, .int x2), (3, .int x3), (4, .int (x4 + 1))] rfl ?_
  exact hk
def fX8_doneOf_L15_body (a0 : Nat) (x1 : Int32) (x3 : Int32) (s : Int32 × Int32 × Wd) : Option ((Int32 × Int32 × Wd) ⊕ ((Int32 × Int32 × Wd) ⊕ (Int32 × Wd))) :=
  if (12 : Int32) ≤ s.2.1 then (wr (some (.inl (s.1, (x3 + 1), s.2.2)))) else (chk (isO s.2.2 a0 8) (ob (fX8_told a0 x1 ((12 * x3) + s.2.1) s.2.2) (fun q4 => if q4.1 = (-1) then (fX8_doneOf_b63 a0 x1 s.1 x3 s.2.1 q4.2) else (chk (isO q4.2 a0 8) (ob (fX8_told a0 x1 ((12 * x3) + s.2.1) q4.2) (fun q8 => chk (isO q8.2 a0 8) (ob (fX8_doesNow a0 x3 s.2.1 q8.2) (fun q11 => if q8.1 = q11.1 then (fX8_doneOf_b63 a0 x1 (s.1 + 1) x3 s.2.1 q11.2) else (fX8_doneOf_b63 a0 x1 s.1 x3 s.2.1 q11.2)))))))))
set_option maxHeartbeats 1000000 in
set_option maxRecDepth 20000 in
theorem okX8_doneOf_L15_body {E : Ev} {Q : Option Value → Wd → Prop} {a0 : Nat} {x1 : Int32} {x3 : Int32} {s : Int32 × Int32 × Wd} {r : (Int32 × Int32 × Wd) ⊕ ((Int32 × Int32 × Wd) ⊕ (Int32 × Wd))} (h : fX8_doneOf_L15_body a0 x1 x3 s = some r) (hk : (Sum.elim (PX8_doneOf_L15 E Q a0 x1 x3) (Sum.elim (PX8_doneOf_L4 E Q a0 x1) (fun q : Int32 × Wd => Q (some (.int q.1)) q.2))) r) : PX8_doneOf_L15 E Q a0 x1 x3 s := by
  unfold fX8_doneOf_L15_body at h
  unfold PX8_doneOf_L15
  refine r_iload dX8_doneOf_15 4 rfl ?_
  refine r_bipush (v := 12) dX8_doneOf_17 (by decide) ?_
  refine r_icmp_ge (tgt := 69) dX8_doneOf_19 (by decide) (fun c1 => ?_) (fun c1 => ?_)
  · rw [if_pos c1] at h
    obtain ⟨r2, hr, h⟩ := wr_some h
    rw [hr] at hk
    refine r_iinc (v := (x3 + 1)) dX8_doneOf_69 3 rfl rfl (Nat.le_of_ble_eq_true rfl) [(3, .int (x3 + 1)), (0, .ref a0), (1, .int x1), (2, .int s.1), (4, .int s.2.1)] rfl ?_
    refine r_goto (tgt := 4) dX8_doneOf_72 (by decide) ?_
    rw [← Option.some.inj h] at hk
    refine r_sub [1, 2, 3, 0] [(0, .ref a0), (1, .int x1), (2, .int s.1), (3, .int (x3 + 1))] rfl ?_
    exact hk
  · rw [if_neg c1] at h
    refine r_aload_n dX8_doneOf_22 0 rfl ?_
    refine r_iload_n dX8_doneOf_23 1 rfl ?_
    refine r_bipush (v := 12) dX8_doneOf_24 (by decide) ?_
    refine r_iload_n dX8_doneOf_26 3 rfl ?_
    refine r_imul dX8_doneOf_27 ?_
    refine r_iload dX8_doneOf_28 4 rfl ?_
    refine r_iadd dX8_doneOf_30 ?_
    obtain ⟨h3, h⟩ := chk_some h
    obtain ⟨q4, g5, h⟩ := ob_some h
    refine r_callV (d' := (6, 0, false)) (As := [.int x1, .int ((12 * x3) + s.2.1)]) (st := []) mdv_X8_told tm_RX8_248 (by decide) rfl rfl (by decide) rfl (Nat.le_refl _) (Nat.le_of_ble_eq_true rfl) rfl dX8_doneOf_31 h3 (ctX8_told g5) (k_I0 ?_)
    refine r_iconst (v := (-1)) dX8_doneOf_34 (by decide) ?_
    refine r_icmp_eq (tgt := 63) dX8_doneOf_35 (by decide) (fun c6 => ?_) (fun c6 => ?_)
    · rw [if_pos c6] at h
      refine r_sub [0, 1, 2, 3, 4] [(0, .ref a0), (1, .int x1), (2, .int s.1), (3, .int x3), (4, .int s.2.1)] rfl ?_
      exact okX8_doneOf_b63 h hk
    · rw [if_neg c6] at h
      refine r_aload_n dX8_doneOf_38 0 rfl ?_
      refine r_iload_n dX8_doneOf_39 1 rfl ?_
      refine r_bipush (v := 12) dX8_doneOf_40 (by decide) ?_
      refine r_iload_n dX8_doneOf_42 3 rfl ?_
      refine r_imul dX8_doneOf_43 ?_
      refine r_iload dX8_doneOf_44 4 rfl ?_
      refine r_iadd dX8_doneOf_46 ?_
      obtain ⟨h7, h⟩ := chk_some h
      obtain ⟨q8, g9, h⟩ := ob_some h
      refine r_callV (d' := (6, 0, false)) (As := [.int x1, .int ((12 * x3) + s.2.1)]) (st := []) mdv_X8_told tm_RX8_248 (by decide) rfl rfl (by decide) rfl (Nat.le_refl _) (Nat.le_of_ble_eq_true rfl) rfl dX8_doneOf_47 h7 (ctX8_told g9) (k_I0 ?_)
      refine r_aload_n dX8_doneOf_50 0 rfl ?_
      refine r_iload_n dX8_doneOf_51 3 rfl ?_
      refine r_iload dX8_doneOf_52 4 rfl ?_
      obtain ⟨h10, h⟩ := chk_some h
      obtain ⟨q11, g12, h⟩ := ob_some h
      refine r_callV (d' := (8, 0, false)) (As := [.int x3, .int s.2.1]) (st := [.int q8.1]) mdv_X8_doesNow tm_RX8_217 (by decide) rfl rfl (by decide) rfl (Nat.le_refl _) (Nat.le_of_ble_eq_true rfl) rfl dX8_doneOf_54 h10 (ctX8_doesNow g12) (k_I0 ?_)
      refine r_icmp_ne (tgt := 63) dX8_doneOf_57 (by decide) (fun c13 => ?_) (fun c13 => ?_)
      · rw [if_neg c13] at h
        refine r_sub [0, 1, 2, 3, 4] [(0, .ref a0), (1, .int x1), (2, .int s.1), (3, .int x3), (4, .int s.2.1)] rfl ?_
        exact okX8_doneOf_b63 h hk
      · rw [if_pos c13] at h
        refine r_iinc (v := (s.1 + 1)) dX8_doneOf_60 2 rfl rfl (Nat.le_of_ble_eq_true rfl) [(2, .int (s.1 + 1)), (0, .ref a0), (1, .int x1), (3, .int x3), (4, .int s.2.1)] rfl ?_
        refine r_sub [1, 2, 0, 3, 4] [(0, .ref a0), (1, .int x1), (2, .int (s.1 + 1)), (3, .int x3), (4, .int s.2.1)] rfl ?_
        exact okX8_doneOf_b63 h hk
def fX8_doneOf_L15 (a0 : Nat) (x1 : Int32) (x3 : Int32) (s : Int32 × Int32 × Wd) : Option ((Int32 × Int32 × Wd) ⊕ (Int32 × Wd)) := it (fX8_doneOf_L15_body a0 x1 x3) FU s
set_option maxHeartbeats 1000000 in
set_option maxRecDepth 20000 in
theorem okX8_doneOf_L15 {E : Ev} {Q : Option Value → Wd → Prop} {a0 : Nat} {x1 : Int32} {x3 : Int32} {s : Int32 × Int32 × Wd} {r : (Int32 × Int32 × Wd) ⊕ (Int32 × Wd)} (h : fX8_doneOf_L15 a0 x1 x3 s = some r) (hk : (Sum.elim (PX8_doneOf_L4 E Q a0 x1) (fun q : Int32 × Wd => Q (some (.int q.1)) q.2)) r) : PX8_doneOf_L15 E Q a0 x1 x3 s := it_runs (fun s r h hk => okX8_doneOf_L15_body h hk) FU s r h hk
def fX8_doneOf_L4_body (a0 : Nat) (x1 : Int32) (s : Int32 × Int32 × Wd) : Option ((Int32 × Int32 × Wd) ⊕ (Int32 × Wd)) :=
  chk (isO s.2.2 a0 8) (if (wI s.2.2 a0 3) ≤ s.2.1 then (wr (some (s.1, s.2.2))) else (fX8_doneOf_L15 a0 x1 s.2.1 (s.1, 0, s.2.2)))
set_option maxHeartbeats 1000000 in
set_option maxRecDepth 20000 in
theorem okX8_doneOf_L4_body {E : Ev} {Q : Option Value → Wd → Prop} {a0 : Nat} {x1 : Int32} {s : Int32 × Int32 × Wd} {r : (Int32 × Int32 × Wd) ⊕ (Int32 × Wd)} (h : fX8_doneOf_L4_body a0 x1 s = some r) (hk : (Sum.elim (PX8_doneOf_L4 E Q a0 x1) (fun q : Int32 × Wd => Q (some (.int q.1)) q.2)) r) : PX8_doneOf_L4 E Q a0 x1 s := by
  unfold fX8_doneOf_L4_body at h
  unfold PX8_doneOf_L4
  refine r_iload_n dX8_doneOf_4 3 rfl ?_
  refine r_aload_n dX8_doneOf_5 0 rfl ?_
  obtain ⟨h1, h⟩ := chk_some h
  refine r_getI (fl_RX8_83 rfl) rfl dX8_doneOf_6 h1 ?_
  refine r_icmp_ge (tgt := 75) dX8_doneOf_9 (by decide) (fun c2 => ?_) (fun c2 => ?_)
  · rw [if_pos c2] at h
    obtain ⟨r3, hr, h⟩ := wr_some h
    rw [hr] at hk
    refine r_iload_n dX8_doneOf_75 2 rfl ?_
    rw [← Option.some.inj h] at hk
    exact r_ireturn dX8_doneOf_76 rfl rfl hk
  · rw [if_neg c2] at h
    refine r_iconst (v := 0) dX8_doneOf_12 (by decide) ?_
    refine r_istore dX8_doneOf_13 (Nat.le_of_ble_eq_true rfl) [(4, .int 0), (0, .ref a0), (1, .int x1), (2, .int s.1), (3, .int s.2.1)] rfl ?_
    refine r_sub [1, 2, 3, 4, 0] [(0, .ref a0), (1, .int x1), (2, .int s.1), (3, .int s.2.1), (4, .int 0)] rfl ?_
    exact okX8_doneOf_L15 h hk
def fX8_doneOf_L4 (a0 : Nat) (x1 : Int32) (s : Int32 × Int32 × Wd) : Option (Int32 × Wd) := it (fX8_doneOf_L4_body a0 x1) FU s
set_option maxHeartbeats 1000000 in
set_option maxRecDepth 20000 in
theorem okX8_doneOf_L4 {E : Ev} {Q : Option Value → Wd → Prop} {a0 : Nat} {x1 : Int32} {s : Int32 × Int32 × Wd} {r : Int32 × Wd} (h : fX8_doneOf_L4 a0 x1 s = some r) (hk : (fun q : Int32 × Wd => Q (some (.int q.1)) q.2) r) : PX8_doneOf_L4 E Q a0 x1 s := it_runs (fun s r h hk => okX8_doneOf_L4_body h hk) FU s r h hk
def fX8_doneOf (a0 : Nat) (x1 : Int32) (w : Wd) : Option (Int32 × Wd) :=
  fX8_doneOf_L4 a0 x1 (0, 0, w)
set_option maxHeartbeats 1000000 in
set_option maxRecDepth 20000 in
theorem okX8_doneOf {E : Ev} {Q : Option Value → Wd → Prop} {a0 : Nat} {x1 : Int32} {w : Wd} {q : Int32 × Wd} (h : fX8_doneOf a0 x1 w = some q) (hk : (fun q : Int32 × Wd => Q (some (.int q.1)) q.2) q) : Runs E mX8_doneOf (9, 0, false) Q 0 0 [(0, .ref a0), (1, .int x1)] [] w := by
  unfold fX8_doneOf at h
  refine r_iconst (v := 0) dX8_doneOf_0 (by decide) ?_
  refine r_istore_n dX8_doneOf_1 rfl (Nat.le_of_ble_eq_true rfl) [(2, .int 0), (0, .ref a0), (1, .int x1)] rfl ?_
  refine r_iconst (v := 0) dX8_doneOf_2 (by decide) ?_
  refine r_istore_n dX8_doneOf_3 rfl (Nat.le_of_ble_eq_true rfl) [(3, .int 0), (2, .int 0), (0, .ref a0), (1, .int x1)] rfl ?_
  refine r_sub [2, 3, 1, 0] [(0, .ref a0), (1, .int x1), (2, .int 0), (3, .int 0)] rfl ?_
  exact okX8_doneOf_L4 h hk
set_option maxHeartbeats 1000000 in
set_option maxRecDepth 20000 in
theorem ctX8_doneOf {E : Ev} {a0 : Nat} {x1 : Int32} {w : Wd} {q : Int32 × Wd} (h : fX8_doneOf a0 x1 w = some q) : CT E mX8_doneOf (9, 0, false) [.ref a0, .int x1] w (QI q) := CT.of pl_RX8 (Nat.le_of_ble_eq_true rfl) (okX8_doneOf h ⟨rfl, rfl⟩)
def fX8_draw (a0 : Nat) (x1 : Int32) (w : Wd) : Option (Int32 × Wd) :=
  chk (isO w a0 8) (bnd (sI w a0 13 (((wI w a0 13) * 1103515245) + 12345)) (fun w2 => chk (isO w2 a0 8) (chk (¬ x1 = 0) (some ((((((wI w2 a0 13)).toUInt32 >>> ((16 : Int32).toUInt32 &&& Int32.toUInt32 31)).toInt32) - (((((wI w2 a0 13)).toUInt32 >>> ((16 : Int32).toUInt32 &&& Int32.toUInt32 31)).toInt32) / x1) * x1), w2)))))
set_option maxHeartbeats 1000000 in
set_option maxRecDepth 20000 in
theorem okX8_draw {E : Ev} {Q : Option Value → Wd → Prop} {a0 : Nat} {x1 : Int32} {w : Wd} {q : Int32 × Wd} (h : fX8_draw a0 x1 w = some q) (hk : (fun q : Int32 × Wd => Q (some (.int q.1)) q.2) q) : Runs E mX8_draw (6, 0, false) Q 0 0 [(0, .ref a0), (1, .int x1)] [] w := by
  unfold fX8_draw at h
  refine r_aload_n dX8_draw_0 0 rfl ?_
  refine r_aload_n dX8_draw_1 0 rfl ?_
  obtain ⟨h1, h⟩ := chk_some h
  refine r_getI (fl_RX8_65 rfl) rfl dX8_draw_2 h1 ?_
  refine r_ldcw tk_RX8_262 dX8_draw_5 ?_
  refine r_imul dX8_draw_8 ?_
  refine r_sipush (v := 12345) dX8_draw_9 (by decide) ?_
  refine r_iadd dX8_draw_12 ?_
  obtain ⟨w2, e3, h⟩ := bnd_some h
  refine r_putI (fl_RX8_65 rfl) rfl rfl (ck_ty (by decide) 13 (by decide)) rfl rfl dX8_draw_13 h1 ?_
  refine r_eqW e3 ?_
  refine r_aload_n dX8_draw_16 0 rfl ?_
  obtain ⟨h4, h⟩ := chk_some h
  refine r_getI (fl_RX8_65 rfl) rfl dX8_draw_17 h4 ?_
  refine r_bipush (v := 16) dX8_draw_20 (by decide) ?_
  refine r_iushr dX8_draw_22 ?_
  refine r_iload_n dX8_draw_23 1 rfl ?_
  obtain ⟨h5, h⟩ := chk_some h
  refine r_irem dX8_draw_24 h5 ?_
  rw [← Option.some.inj h] at hk
  exact r_ireturn dX8_draw_25 rfl rfl hk
set_option maxHeartbeats 1000000 in
set_option maxRecDepth 20000 in
theorem ctX8_draw {E : Ev} {a0 : Nat} {x1 : Int32} {w : Wd} {q : Int32 × Wd} (h : fX8_draw a0 x1 w = some q) : CT E mX8_draw (6, 0, false) [.ref a0, .int x1] w (QI q) := CT.of pl_RX8 (Nat.le_of_ble_eq_true rfl) (okX8_draw h ⟨rfl, rfl⟩)
def fX8_noRow_b47 (s0 : Int32) (w : Wd) : Option (Int32 × Wd) :=
  some (s0, w)
set_option maxHeartbeats 1000000 in
set_option maxRecDepth 20000 in
theorem okX8_noRow_b47 {E : Ev} {Q : Option Value → Wd → Prop} {s0 : Int32} {w : Wd} {q : Int32 × Wd} (h : fX8_noRow_b47 s0 w = some q) (hk : (fun q : Int32 × Wd => Q (some (.int q.1)) q.2) q) : Runs E mX8_noRow (7, 0, false) Q 0 47 [] [.int s0] w := by
  unfold fX8_noRow_b47 at h
  rw [← Option.some.inj h] at hk
  exact r_ireturn dX8_noRow_47 rfl rfl hk
def fX8_noRow_b32 (a0 : Nat) (x1 : Int32) (w : Wd) : Option (Int32 × Wd) :=
  chk (isO w a0 8) (ob (wR w a0 0) (fun o2 => chk (isA w o2 0) (chk (inb x1 (wn w o2)) (if 0 ≤ (wI w o2 (x1).toNatClampNeg) then (fX8_noRow_b47 0 w) else (fX8_noRow_b47 (-3) w)))))
set_option maxHeartbeats 1000000 in
set_option maxRecDepth 20000 in
theorem okX8_noRow_b32 {E : Ev} {Q : Option Value → Wd → Prop} {a0 : Nat} {x1 : Int32} {w : Wd} {q : Int32 × Wd} (h : fX8_noRow_b32 a0 x1 w = some q) (hk : (fun q : Int32 × Wd => Q (some (.int q.1)) q.2) q) : Runs E mX8_noRow (7, 0, false) Q 0 32 [(0, .ref a0), (1, .int x1)] [] w := by
  unfold fX8_noRow_b32 at h
  refine r_aload_n dX8_noRow_32 0 rfl ?_
  obtain ⟨h1, h⟩ := chk_some h
  obtain ⟨o2, g3, h⟩ := ob_some h
  refine r_getR (fl_RX8_7 rfl) rfl dX8_noRow_33 h1 g3 ?_
  refine r_iload_n dX8_noRow_36 1 rfl ?_
  obtain ⟨h4, h⟩ := chk_some h
  obtain ⟨h5, h⟩ := chk_some h
  refine r_iaload dX8_noRow_37 h4 h5 ?_
  refine r_if_ge (tgt := 46) dX8_noRow_38 (by decide) (fun c6 => ?_) (fun c6 => ?_)
  · rw [if_pos c6] at h
    refine r_iconst (v := 0) dX8_noRow_46 (by decide) ?_
    refine r_sub [] [] rfl ?_
    exact okX8_noRow_b47 h hk
  · rw [if_neg c6] at h
    refine r_bipush (v := (-3)) dX8_noRow_41 (by decide) ?_
    refine r_goto (tgt := 47) dX8_noRow_43 (by decide) ?_
    refine r_sub [] [] rfl ?_
    exact okX8_noRow_b47 h hk
def fX8_noRow (a0 : Nat) (x1 : Int32) (w : Wd) : Option (Int32 × Wd) :=
  ob (fX8_within x1 0 7 w) (fun q1 => if q1.1 = 0 then (some ((-1), q1.2)) else (chk (isO q1.2 a0 8) (ob (wR q1.2 a0 0) (fun o5 => chk (isA q1.2 o5 0) (chk (inb x1 (wn q1.2 o5)) (if (wI q1.2 o5 (x1).toNatClampNeg) < 0 then (fX8_noRow_b32 a0 x1 q1.2) else (ob (fX8_isRow a0 x1 q1.2) (fun q10 => if q10.1 = 0 then (some ((-2), q10.2)) else (fX8_noRow_b32 a0 x1 q10.2)))))))))
set_option maxHeartbeats 1000000 in
set_option maxRecDepth 20000 in
theorem okX8_noRow {E : Ev} {Q : Option Value → Wd → Prop} {a0 : Nat} {x1 : Int32} {w : Wd} {q : Int32 × Wd} (h : fX8_noRow a0 x1 w = some q) (hk : (fun q : Int32 × Wd => Q (some (.int q.1)) q.2) q) : Runs E mX8_noRow (7, 0, false) Q 0 0 [(0, .ref a0), (1, .int x1)] [] w := by
  unfold fX8_noRow at h
  refine r_iload_n dX8_noRow_0 1 rfl ?_
  refine r_iconst (v := 0) dX8_noRow_1 (by decide) ?_
  refine r_bipush (v := 7) dX8_noRow_2 (by decide) ?_
  obtain ⟨q1, g2, h⟩ := ob_some h
  refine r_callS (d' := (6, 0, false)) (As := [.int x1, .int 0, .int 7]) (st := []) mds_X8_within tm_RX8_79 rfl (by decide) rfl (Nat.le_refl _) (Nat.le_of_ble_eq_true rfl) rfl dX8_noRow_4 (ctX8_within g2) (k_I0 ?_)
  refine r_if_ne (tgt := 12) dX8_noRow_7 (by decide) (fun c3 => ?_) (fun c3 => ?_)
  · rw [if_neg c3] at h
    refine r_aload_n dX8_noRow_12 0 rfl ?_
    obtain ⟨h4, h⟩ := chk_some h
    obtain ⟨o5, g6, h⟩ := ob_some h
    refine r_getR (fl_RX8_7 rfl) rfl dX8_noRow_13 h4 g6 ?_
    refine r_iload_n dX8_noRow_16 1 rfl ?_
    obtain ⟨h7, h⟩ := chk_some h
    obtain ⟨h8, h⟩ := chk_some h
    refine r_iaload dX8_noRow_17 h7 h8 ?_
    refine r_if_lt (tgt := 32) dX8_noRow_18 (by decide) (fun c9 => ?_) (fun c9 => ?_)
    · rw [if_pos c9] at h
      refine r_sub [0, 1] [(0, .ref a0), (1, .int x1)] rfl ?_
      exact okX8_noRow_b32 h hk
    · rw [if_neg c9] at h
      refine r_aload_n dX8_noRow_21 0 rfl ?_
      refine r_iload_n dX8_noRow_22 1 rfl ?_
      obtain ⟨q10, g11, h⟩ := ob_some h
      refine r_callV (d' := (6, 0, false)) (As := [.int x1]) (st := []) mdv_X8_isRow tm_RX8_86 (by decide) rfl rfl (by decide) rfl (Nat.le_refl _) (Nat.le_of_ble_eq_true rfl) rfl dX8_noRow_23 h4 (ctX8_isRow g11) (k_I0 ?_)
      refine r_if_ne (tgt := 32) dX8_noRow_26 (by decide) (fun c12 => ?_) (fun c12 => ?_)
      · rw [if_neg c12] at h
        refine r_sub [0, 1] [(0, .ref a0), (1, .int x1)] rfl ?_
        exact okX8_noRow_b32 h hk
      · rw [if_pos c12] at h
        refine r_bipush (v := (-2)) dX8_noRow_29 (by decide) ?_
        rw [← Option.some.inj h] at hk
        exact r_ireturn dX8_noRow_31 rfl rfl hk
  · rw [if_pos c3] at h
    refine r_iconst (v := (-1)) dX8_noRow_10 (by decide) ?_
    rw [← Option.some.inj h] at hk
    exact r_ireturn dX8_noRow_11 rfl rfl hk
set_option maxHeartbeats 1000000 in
set_option maxRecDepth 20000 in
theorem ctX8_noRow {E : Ev} {a0 : Nat} {x1 : Int32} {w : Wd} {q : Int32 × Wd} (h : fX8_noRow a0 x1 w = some q) : CT E mX8_noRow (7, 0, false) [.ref a0, .int x1] w (QI q) := CT.of pl_RX8 (Nat.le_of_ble_eq_true rfl) (okX8_noRow h ⟨rfl, rfl⟩)
def fX8_dressed_b59 (a0 : Nat) (w : Wd) : Option (Int32 × Wd) :=
  chk (isO w a0 8) (ob (fX8_no a0 (-6) w) (fun q2 => some (q2.1, q2.2)))
set_option maxHeartbeats 1000000 in
set_option maxRecDepth 20000 in
theorem okX8_dressed_b59 {E : Ev} {Q : Option Value → Wd → Prop} {a0 : Nat} {w : Wd} {q : Int32 × Wd} (h : fX8_dressed_b59 a0 w = some q) (hk : (fun q : Int32 × Wd => Q (some (.int q.1)) q.2) q) : Runs E mX8_dressed (10, 0, false) Q 0 59 [(0, .ref a0)] [] w := by
  unfold fX8_dressed_b59 at h
  refine r_aload_n dX8_dressed_59 0 rfl ?_
  refine r_bipush (v := (-6)) dX8_dressed_60 (by decide) ?_
  obtain ⟨h1, h⟩ := chk_some h
  obtain ⟨q2, g3, h⟩ := ob_some h
  refine r_callV (d' := (6, 0, false)) (As := [.int (-6)]) (st := []) mdv_X8_no tm_RX8_72 (by decide) rfl rfl (by decide) rfl (Nat.le_refl _) (Nat.le_of_ble_eq_true rfl) rfl dX8_dressed_62 h1 (ctX8_no g3) (k_I0 ?_)
  rw [← Option.some.inj h] at hk
  exact r_ireturn dX8_dressed_65 rfl rfl hk
def PX8_dressed_L90 (E : Ev) (Q : Option Value → Wd → Prop) (a0 : Nat) (x1 : Int32) (x2 : Int32) (x3 : Int32) (s : Int32 × Int32 × Wd) : Prop := Runs E mX8_dressed (10, 0, false) Q 0 90 [(0, .ref a0), (1, .int x1), (2, .int x2), (3, .int x3), (5, .int s.1), (6, .int s.2.1)] [] s.2.2
def PX8_dressed_L127 (E : Ev) (Q : Option Value → Wd → Prop) (a0 : Nat) (x1 : Int32) (x2 : Int32) (x3 : Int32) (x5 : Int32) (s : Int32 × Int32 × Wd) : Prop := Runs E mX8_dressed (10, 0, false) Q 0 127 [(0, .ref a0), (1, .int x1), (2, .int x2), (3, .int x3), (5, .int x5), (6, .int s.1), (7, .int s.2.1)] [] s.2.2
def fX8_dressed_b265 (s0 : Int32) (w : Wd) : Option (Int32 × Wd) :=
  some (s0, w)
set_option maxHeartbeats 1000000 in
set_option maxRecDepth 20000 in
theorem okX8_dressed_b265 {E : Ev} {Q : Option Value → Wd → Prop} {s0 : Int32} {w : Wd} {q : Int32 × Wd} (h : fX8_dressed_b265 s0 w = some q) (hk : (fun q : Int32 × Wd => Q (some (.int q.1)) q.2) q) : Runs E mX8_dressed (10, 0, false) Q 0 265 [] [.int s0] w := by
  unfold fX8_dressed_b265 at h
  rw [← Option.some.inj h] at hk
  exact r_ireturn dX8_dressed_265 rfl rfl hk
def PX8_dressed_L143 (E : Ev) (Q : Option Value → Wd → Prop) (a0 : Nat) (x1 : Int32) (x2 : Int32) (x3 : Int32) (x5 : Int32) (x6 : Int32) (x7 : Int32) (s : Int32 × Int32 × Wd) : Prop := Runs E mX8_dressed (10, 0, false) Q 0 143 [(0, .ref a0), (1, .int x1), (2, .int x2), (3, .int x3), (5, .int x5), (6, .int x6), (7, .int x7), (8, .int s.1), (9, .int s.2.1)] [] s.2.2
def PX8_dressed_L207 (E : Ev) (Q : Option Value → Wd → Prop) (a0 : Nat) (x1 : Int32) (x2 : Int32) (x3 : Int32) (x5 : Int32) (x6 : Int32) (x7 : Int32) (s : Int32 × Wd) : Prop := Runs E mX8_dressed (10, 0, false) Q 0 207 [(0, .ref a0), (1, .int x1), (2, .int x2), (3, .int x3), (5, .int x5), (6, .int x6), (7, .int x7), (10, .int s.1)] [] s.2
def fX8_dressed_b235 (a0 : Nat) (x1 : Int32) (x2 : Int32) (x3 : Int32) (x5 : Int32) (x6 : Int32) (x7 : Int32) (w : Wd) : Option ((Int32 × Int32 × Wd) ⊕ (Int32 × Wd)) :=
  some (.inl (x6, (x7 + 1), w))
set_option maxHeartbeats 1000000 in
set_option maxRecDepth 20000 in
theorem okX8_dressed_b235 {E : Ev} {Q : Option Value → Wd → Prop} {a0 : Nat} {x1 : Int32} {x2 : Int32} {x3 : Int32} {x5 : Int32} {x6 : Int32} {x7 : Int32} {w : Wd} {q : (Int32 × Int32 × Wd) ⊕ (Int32 × Wd)} (h : fX8_dressed_b235 a0 x1 x2 x3 x5 x6 x7 w = some q) (hk : (Sum.elim (PX8_dressed_L127 E Q a0 x1 x2 x3 x5) (fun q : Int32 × Wd => Q (some (.int q.1)) q.2)) q) : Runs E mX8_dressed (10, 0, false) Q 0 235 [(0, .ref a0), (1, .int x1), (2, .int x2), (3, .int x3), (5, .int x5), (6, .int x6), (7, .int x7)] [] w := by
  unfold fX8_dressed_b235 at h
  refine r_iinc (v := (x7 + 1)) dX8_dressed_235 6 rfl rfl (Nat.le_of_ble_eq_true rfl) [(7, .int (x7 + 1)), (0, .ref a0), (1, .int x1), (2, .int x2), (3, .int x3), (5, .int x5), (6, .int x6)] rfl ?_
  refine r_goto (tgt := 127) dX8_dressed_238 (by decide) ?_
  rw [← Option.some.inj h] at hk
  refine r_sub [1, 2, 3, 4, 5, 6, 0] [(0, .ref a0), (1, .int x1), (2, .int x2), (3, .int x3), (5, .int x5), (6, .int x6), (7, .int (x7 + 1))] rfl ?_
  exact hk
def fX8_dressed_L207_body (a0 : Nat) (x1 : Int32) (x2 : Int32) (x3 : Int32) (x5 : Int32) (x6 : Int32) (x7 : Int32) (s : Int32 × Wd) : Option ((Int32 × Wd) ⊕ ((Int32 × Int32 × Wd) ⊕ (Int32 × Wd))) :=
  if x2 ≤ s.1 then (wr (fX8_dressed_b235 a0 x1 x2 x3 x5 x6 x7 s.2)) else (chk (isO s.2 a0 8) (ob (wR s.2 a0 23) (fun o4 => ob (wR s.2 a0 9) (fun o6 => chk (isA s.2 o6 0) (chk (inb s.1 (wn s.2 o6)) (chk (isA s.2 o4 0) (chk (inb s.1 (wn s.2 o4)) (bnd (sI s.2 o4 (s.1).toNatClampNeg ((wI s.2 o6 (s.1).toNatClampNeg) + 1)) (fun w12 => some (.inl ((s.1 + 1), w12)))))))))))
set_option maxHeartbeats 1000000 in
set_option maxRecDepth 20000 in
theorem okX8_dressed_L207_body {E : Ev} {Q : Option Value → Wd → Prop} {a0 : Nat} {x1 : Int32} {x2 : Int32} {x3 : Int32} {x5 : Int32} {x6 : Int32} {x7 : Int32} {s : Int32 × Wd} {r : (Int32 × Wd) ⊕ ((Int32 × Int32 × Wd) ⊕ (Int32 × Wd))} (h : fX8_dressed_L207_body a0 x1 x2 x3 x5 x6 x7 s = some r) (hk : (Sum.elim (PX8_dressed_L207 E Q a0 x1 x2 x3 x5 x6 x7) (Sum.elim (PX8_dressed_L127 E Q a0 x1 x2 x3 x5) (fun q : Int32 × Wd => Q (some (.int q.1)) q.2))) r) : PX8_dressed_L207 E Q a0 x1 x2 x3 x5 x6 x7 s := by
  unfold fX8_dressed_L207_body at h
  unfold PX8_dressed_L207
  refine r_iload dX8_dressed_207 7 rfl ?_
  refine r_iload_n dX8_dressed_209 2 rfl ?_
  refine r_icmp_ge (tgt := 235) dX8_dressed_210 (by decide) (fun c1 => ?_) (fun c1 => ?_)
  · rw [if_pos c1] at h
    obtain ⟨r2, hr, h⟩ := wr_some h
    rw [hr] at hk
    refine r_sub [0, 1, 2, 3, 4, 5, 6] [(0, .ref a0), (1, .int x1), (2, .int x2), (3, .int x3), (5, .int x5), (6, .int x6), (7, .int x7)] rfl ?_
    exact okX8_dressed_b235 h hk
  · rw [if_neg c1] at h
    refine r_aload_n dX8_dressed_213 0 rfl ?_
    obtain ⟨h3, h⟩ := chk_some h
    obtain ⟨o4, g5, h⟩ := ob_some h
    refine r_getR (fl_RX8_59 rfl) rfl dX8_dressed_214 h3 g5 ?_
    refine r_iload dX8_dressed_217 7 rfl ?_
    refine r_aload_n dX8_dressed_219 0 rfl ?_
    obtain ⟨o6, g7, h⟩ := ob_some h
    refine r_getR (fl_RX8_32 rfl) rfl dX8_dressed_220 h3 g7 ?_
    refine r_iload dX8_dressed_223 7 rfl ?_
    obtain ⟨h8, h⟩ := chk_some h
    obtain ⟨h9, h⟩ := chk_some h
    refine r_iaload dX8_dressed_225 h8 h9 ?_
    refine r_iconst (v := 1) dX8_dressed_226 (by decide) ?_
    refine r_iadd dX8_dressed_227 ?_
    obtain ⟨h10, h⟩ := chk_some h
    obtain ⟨h11, h⟩ := chk_some h
    obtain ⟨w12, e13, h⟩ := bnd_some h
    refine r_iastore dX8_dressed_228 h10 h11 ?_
    refine r_eqW e13 ?_
    refine r_iinc (v := (s.1 + 1)) dX8_dressed_229 7 rfl rfl (Nat.le_of_ble_eq_true rfl) [(10, .int (s.1 + 1)), (0, .ref a0), (1, .int x1), (2, .int x2), (3, .int x3), (5, .int x5), (6, .int x6), (7, .int x7)] rfl ?_
    refine r_goto (tgt := 207) dX8_dressed_232 (by decide) ?_
    rw [← Option.some.inj h] at hk
    refine r_sub [1, 2, 3, 4, 5, 6, 7, 0] [(0, .ref a0), (1, .int x1), (2, .int x2), (3, .int x3), (5, .int x5), (6, .int x6), (7, .int x7), (10, .int (s.1 + 1))] rfl ?_
    exact hk
def fX8_dressed_L207 (a0 : Nat) (x1 : Int32) (x2 : Int32) (x3 : Int32) (x5 : Int32) (x6 : Int32) (x7 : Int32) (s : Int32 × Wd) : Option ((Int32 × Int32 × Wd) ⊕ (Int32 × Wd)) := it (fX8_dressed_L207_body a0 x1 x2 x3 x5 x6 x7) FU s
set_option maxHeartbeats 1000000 in
set_option maxRecDepth 20000 in
theorem okX8_dressed_L207 {E : Ev} {Q : Option Value → Wd → Prop} {a0 : Nat} {x1 : Int32} {x2 : Int32} {x3 : Int32} {x5 : Int32} {x6 : Int32} {x7 : Int32} {s : Int32 × Wd} {r : (Int32 × Int32 × Wd) ⊕ (Int32 × Wd)} (h : fX8_dressed_L207 a0 x1 x2 x3 x5 x6 x7 s = some r) (hk : (Sum.elim (PX8_dressed_L127 E Q a0 x1 x2 x3 x5) (fun q : Int32 × Wd => Q (some (.int q.1)) q.2)) r) : PX8_dressed_L207 E Q a0 x1 x2 x3 x5 x6 x7 s := it_runs (fun s r h hk => okX8_dressed_L207_body h hk) FU s r h hk
def fX8_dressed_L143_body (a0 : Nat) (x1 : Int32) (x2 : Int32) (x3 : Int32) (x5 : Int32) (x6 : Int32) (x7 : Int32) (s : Int32 × Int32 × Wd) : Option ((Int32 × Int32 × Wd) ⊕ ((Int32 × Int32 × Wd) ⊕ (Int32 × Wd))) :=
  if s.2.1 < 0 then (wr (chk (isO s.2.2 a0 8) (ob (fX8_doneOf a0 x1 s.2.2) (fun q4 => if x6 < q4.1 then (fX8_dressed_L207 a0 x1 x2 x3 x5 q4.1 x7 (0, q4.2)) else (fX8_dressed_b235 a0 x1 x2 x3 x5 x6 x7 q4.2))))) else (chk (isO s.2.2 a0 8) (ob (wR s.2.2 a0 9) (fun o8 => chk (¬ ((wI s.2.2 a0 3) + 1) = 0) (chk (isA s.2.2 o8 0) (chk (inb s.2.1 (wn s.2.2 o8)) (bnd (sI s.2.2 o8 (s.2.1).toNatClampNeg ((s.1 - (s.1 / ((wI s.2.2 a0 3) + 1)) * ((wI s.2.2 a0 3) + 1)) - 1)) (fun w13 => chk (isO w13 a0 8) (chk (¬ ((wI w13 a0 3) + 1) = 0) (bnd (s.1 / ((wI w13 a0 3) + 1)) (fun u17 => some (.inl (u17, (s.2.1 + (-1)), w13))))))))))))
set_option maxHeartbeats 1000000 in
set_option maxRecDepth 20000 in
theorem okX8_dressed_L143_body {E : Ev} {Q : Option Value → Wd → Prop} {a0 : Nat} {x1 : Int32} {x2 : Int32} {x3 : Int32} {x5 : Int32} {x6 : Int32} {x7 : Int32} {s : Int32 × Int32 × Wd} {r : (Int32 × Int32 × Wd) ⊕ ((Int32 × Int32 × Wd) ⊕ (Int32 × Wd))} (h : fX8_dressed_L143_body a0 x1 x2 x3 x5 x6 x7 s = some r) (hk : (Sum.elim (PX8_dressed_L143 E Q a0 x1 x2 x3 x5 x6 x7) (Sum.elim (PX8_dressed_L127 E Q a0 x1 x2 x3 x5) (fun q : Int32 × Wd => Q (some (.int q.1)) q.2))) r) : PX8_dressed_L143 E Q a0 x1 x2 x3 x5 x6 x7 s := by
  unfold fX8_dressed_L143_body at h
  unfold PX8_dressed_L143
  refine r_iload dX8_dressed_143 8 rfl ?_
  refine r_if_lt (tgt := 183) dX8_dressed_145 (by decide) (fun c1 => ?_) (fun c1 => ?_)
  · rw [if_pos c1] at h
    obtain ⟨r2, hr, h⟩ := wr_some h
    rw [hr] at hk
    refine r_aload_n dX8_dressed_183 0 rfl ?_
    refine r_iload_n dX8_dressed_184 1 rfl ?_
    obtain ⟨h3, h⟩ := chk_some h
    obtain ⟨q4, g5, h⟩ := ob_some h
    refine r_callV (d' := (9, 0, false)) (As := [.int x1]) (st := []) mdv_X8_doneOf tm_RX8_256 (by decide) rfl rfl (by decide) rfl (Nat.le_refl _) (Nat.le_of_ble_eq_true rfl) rfl dX8_dressed_185 h3 (ctX8_doneOf g5) (k_I0 ?_)
    refine r_istore dX8_dressed_188 (Nat.le_of_ble_eq_true rfl) [(9, .int q4.1), (0, .ref a0), (1, .int x1), (2, .int x2), (3, .int x3), (5, .int x5), (6, .int x6), (7, .int x7), (8, .int s.1)] rfl ?_
    refine r_iload dX8_dressed_190 0 rfl ?_
    refine r_iload dX8_dressed_192 6 rfl ?_
    refine r_icmp_gt (tgt := 200) dX8_dressed_194 (by decide) (fun c6 => ?_) (fun c6 => ?_)
    · rw [if_pos c6] at h
      refine r_iload dX8_dressed_200 0 rfl ?_
      refine r_istore dX8_dressed_202 (Nat.le_of_ble_eq_true rfl) [(6, .int q4.1), (9, .int q4.1), (0, .ref a0), (1, .int x1), (2, .int x2), (3, .int x3), (5, .int x5), (7, .int x7), (8, .int s.1)] rfl ?_
      refine r_iconst (v := 0) dX8_dressed_204 (by decide) ?_
      refine r_istore dX8_dressed_205 (Nat.le_of_ble_eq_true rfl) [(10, .int 0), (6, .int q4.1), (9, .int q4.1), (0, .ref a0), (1, .int x1), (2, .int x2), (3, .int x3), (5, .int x5), (7, .int x7), (8, .int s.1)] rfl ?_
      refine r_sub [3, 4, 5, 6, 7, 1, 8, 0] [(0, .ref a0), (1, .int x1), (2, .int x2), (3, .int x3), (5, .int x5), (6, .int q4.1), (7, .int x7), (10, .int 0)] rfl ?_
      exact okX8_dressed_L207 h hk
    · rw [if_neg c6] at h
      refine r_goto (tgt := 235) dX8_dressed_197 (by decide) ?_
      refine r_sub [1, 2, 3, 4, 5, 6, 7] [(0, .ref a0), (1, .int x1), (2, .int x2), (3, .int x3), (5, .int x5), (6, .int x6), (7, .int x7)] rfl ?_
      exact okX8_dressed_b235 h hk
  · rw [if_neg c1] at h
    refine r_aload_n dX8_dressed_148 0 rfl ?_
    obtain ⟨h7, h⟩ := chk_some h
    obtain ⟨o8, g9, h⟩ := ob_some h
    refine r_getR (fl_RX8_32 rfl) rfl dX8_dressed_149 h7 g9 ?_
    refine r_iload dX8_dressed_152 8 rfl ?_
    refine r_iload dX8_dressed_154 7 rfl ?_
    refine r_aload_n dX8_dressed_156 0 rfl ?_
    refine r_getI (fl_RX8_83 rfl) rfl dX8_dressed_157 h7 ?_
    refine r_iconst (v := 1) dX8_dressed_160 (by decide) ?_
    refine r_iadd dX8_dressed_161 ?_
    obtain ⟨h10, h⟩ := chk_some h
    refine r_irem dX8_dressed_162 h10 ?_
    refine r_iconst (v := 1) dX8_dressed_163 (by decide) ?_
    refine r_isub dX8_dressed_164 ?_
    obtain ⟨h11, h⟩ := chk_some h
    obtain ⟨h12, h⟩ := chk_some h
    obtain ⟨w13, e14, h⟩ := bnd_some h
    refine r_iastore dX8_dressed_165 h11 h12 ?_
    refine r_eqW e14 ?_
    refine r_iload dX8_dressed_166 7 rfl ?_
    refine r_aload_n dX8_dressed_168 0 rfl ?_
    obtain ⟨h15, h⟩ := chk_some h
    refine r_getI (fl_RX8_83 rfl) rfl dX8_dressed_169 h15 ?_
    refine r_iconst (v := 1) dX8_dressed_172 (by decide) ?_
    refine r_iadd dX8_dressed_173 ?_
    obtain ⟨h16, h⟩ := chk_some h
    refine r_idiv dX8_dressed_174 h16 ?_
    obtain ⟨u17, e18, h⟩ := bnd_some h
    refine r_eqI e18 ?_
    refine r_istore dX8_dressed_175 (Nat.le_of_ble_eq_true rfl) [(8, .int u17), (0, .ref a0), (1, .int x1), (2, .int x2), (3, .int x3), (5, .int x5), (6, .int x6), (7, .int x7), (9, .int s.2.1)] rfl ?_
    refine r_iinc (v := (s.2.1 + (-1))) dX8_dressed_177 8 rfl rfl (Nat.le_of_ble_eq_true rfl) [(9, .int (s.2.1 + (-1))), (8, .int u17), (0, .ref a0), (1, .int x1), (2, .int x2), (3, .int x3), (5, .int x5), (6, .int x6), (7, .int x7)] rfl ?_
    refine r_goto (tgt := 143) dX8_dressed_180 (by decide) ?_
    rw [← Option.some.inj h] at hk
    refine r_sub [2, 3, 4, 5, 6, 7, 8, 1, 0] [(0, .ref a0), (1, .int x1), (2, .int x2), (3, .int x3), (5, .int x5), (6, .int x6), (7, .int x7), (8, .int u17), (9, .int (s.2.1 + (-1)))] rfl ?_
    exact hk
def fX8_dressed_L143 (a0 : Nat) (x1 : Int32) (x2 : Int32) (x3 : Int32) (x5 : Int32) (x6 : Int32) (x7 : Int32) (s : Int32 × Int32 × Wd) : Option ((Int32 × Int32 × Wd) ⊕ (Int32 × Wd)) := it (fX8_dressed_L143_body a0 x1 x2 x3 x5 x6 x7) FU s
set_option maxHeartbeats 1000000 in
set_option maxRecDepth 20000 in
theorem okX8_dressed_L143 {E : Ev} {Q : Option Value → Wd → Prop} {a0 : Nat} {x1 : Int32} {x2 : Int32} {x3 : Int32} {x5 : Int32} {x6 : Int32} {x7 : Int32} {s : Int32 × Int32 × Wd} {r : (Int32 × Int32 × Wd) ⊕ (Int32 × Wd)} (h : fX8_dressed_L143 a0 x1 x2 x3 x5 x6 x7 s = some r) (hk : (Sum.elim (PX8_dressed_L127 E Q a0 x1 x2 x3 x5) (fun q : Int32 × Wd => Q (some (.int q.1)) q.2)) r) : PX8_dressed_L143 E Q a0 x1 x2 x3 x5 x6 x7 s := it_runs (fun s r h hk => okX8_dressed_L143_body h hk) FU s r h hk
def fX8_dressed_L127_body (a0 : Nat) (x1 : Int32) (x2 : Int32) (x3 : Int32) (x5 : Int32) (s : Int32 × Int32 × Wd) : Option ((Int32 × Int32 × Wd) ⊕ (Int32 × Wd)) :=
  if x5 ≤ s.2.1 then (wr (chk (isO s.2.2 a0 8) (ob (wR s.2.2 a0 21) (fun o4 => ob (fX8_again a0 o4 s.2.2) (fun q6 => if x3 = (-1) then (fX8_dressed_b265 s.1 q6) else (chk (isO q6 a0 8) (ob (wR q6 a0 23) (fun o10 => chk (isA q6 o10 0) (chk (inb x3 (wn q6 o10)) (fX8_dressed_b265 (wI q6 o10 (x3).toNatClampNeg) q6)))))))))) else (bnd (x2 - 1) (fun u14 => fX8_dressed_L143 a0 x1 x2 x3 x5 s.1 s.2.1 (s.2.1, u14, s.2.2)))
set_option maxHeartbeats 1000000 in
set_option maxRecDepth 20000 in
theorem okX8_dressed_L127_body {E : Ev} {Q : Option Value → Wd → Prop} {a0 : Nat} {x1 : Int32} {x2 : Int32} {x3 : Int32} {x5 : Int32} {s : Int32 × Int32 × Wd} {r : (Int32 × Int32 × Wd) ⊕ (Int32 × Wd)} (h : fX8_dressed_L127_body a0 x1 x2 x3 x5 s = some r) (hk : (Sum.elim (PX8_dressed_L127 E Q a0 x1 x2 x3 x5) (fun q : Int32 × Wd => Q (some (.int q.1)) q.2)) r) : PX8_dressed_L127 E Q a0 x1 x2 x3 x5 s := by
  unfold fX8_dressed_L127_body at h
  unfold PX8_dressed_L127
  refine r_iload dX8_dressed_127 6 rfl ?_
  refine r_iload dX8_dressed_129 4 rfl ?_
  refine r_icmp_ge (tgt := 241) dX8_dressed_131 (by decide) (fun c1 => ?_) (fun c1 => ?_)
  · rw [if_pos c1] at h
    obtain ⟨r2, hr, h⟩ := wr_some h
    rw [hr] at hk
    refine r_aload_n dX8_dressed_241 0 rfl ?_
    refine r_aload_n dX8_dressed_242 0 rfl ?_
    obtain ⟨h3, h⟩ := chk_some h
    obtain ⟨o4, g5, h⟩ := ob_some h
    refine r_getR (fl_RX8_53 rfl) rfl dX8_dressed_243 h3 g5 ?_
    obtain ⟨q6, g7, h⟩ := ob_some h
    refine r_callV (d' := (6, 0, false)) (As := [.ref o4]) (st := []) mdv_X8_again tm_RX8_202 (by decide) rfl rfl (by decide) rfl (Nat.le_refl _) (Nat.le_of_ble_eq_true rfl) rfl dX8_dressed_246 h3 (ctX8_again g7) (k_V0 ?_)
    refine r_iload_n dX8_dressed_249 3 rfl ?_
    refine r_iconst (v := (-1)) dX8_dressed_250 (by decide) ?_
    refine r_icmp_ne (tgt := 259) dX8_dressed_251 (by decide) (fun c8 => ?_) (fun c8 => ?_)
    · rw [if_neg c8] at h
      refine r_aload_n dX8_dressed_259 0 rfl ?_
      obtain ⟨h9, h⟩ := chk_some h
      obtain ⟨o10, g11, h⟩ := ob_some h
      refine r_getR (fl_RX8_59 rfl) rfl dX8_dressed_260 h9 g11 ?_
      refine r_iload_n dX8_dressed_263 3 rfl ?_
      obtain ⟨h12, h⟩ := chk_some h
      obtain ⟨h13, h⟩ := chk_some h
      refine r_iaload dX8_dressed_264 h12 h13 ?_
      refine r_sub [] [] rfl ?_
      exact okX8_dressed_b265 h hk
    · rw [if_pos c8] at h
      refine r_iload dX8_dressed_254 5 rfl ?_
      refine r_goto (tgt := 265) dX8_dressed_256 (by decide) ?_
      refine r_sub [] [] rfl ?_
      exact okX8_dressed_b265 h hk
  · rw [if_neg c1] at h
    refine r_iload dX8_dressed_134 6 rfl ?_
    refine r_istore dX8_dressed_136 (Nat.le_of_ble_eq_true rfl) [(8, .int s.2.1), (0, .ref a0), (1, .int x1), (2, .int x2), (3, .int x3), (5, .int x5), (6, .int s.1), (7, .int s.2.1)] rfl ?_
    refine r_iload_n dX8_dressed_138 3 rfl ?_
    refine r_iconst (v := 1) dX8_dressed_139 (by decide) ?_
    refine r_isub dX8_dressed_140 ?_
    obtain ⟨u14, e15, h⟩ := bnd_some h
    refine r_eqI e15 ?_
    refine r_istore dX8_dressed_141 (Nat.le_of_ble_eq_true rfl) [(9, .int u14), (8, .int s.2.1), (0, .ref a0), (1, .int x1), (2, .int x2), (3, .int x3), (5, .int x5), (6, .int s.1), (7, .int s.2.1)] rfl ?_
    refine r_sub [2, 3, 4, 5, 6, 7, 8, 1, 0] [(0, .ref a0), (1, .int x1), (2, .int x2), (3, .int x3), (5, .int x5), (6, .int s.1), (7, .int s.2.1), (8, .int s.2.1), (9, .int u14)] rfl ?_
    exact okX8_dressed_L143 h hk
def fX8_dressed_L127 (a0 : Nat) (x1 : Int32) (x2 : Int32) (x3 : Int32) (x5 : Int32) (s : Int32 × Int32 × Wd) : Option (Int32 × Wd) := it (fX8_dressed_L127_body a0 x1 x2 x3 x5) FU s
set_option maxHeartbeats 1000000 in
set_option maxRecDepth 20000 in
theorem okX8_dressed_L127 {E : Ev} {Q : Option Value → Wd → Prop} {a0 : Nat} {x1 : Int32} {x2 : Int32} {x3 : Int32} {x5 : Int32} {s : Int32 × Int32 × Wd} {r : Int32 × Wd} (h : fX8_dressed_L127 a0 x1 x2 x3 x5 s = some r) (hk : (fun q : Int32 × Wd => Q (some (.int q.1)) q.2) r) : PX8_dressed_L127 E Q a0 x1 x2 x3 x5 s := it_runs (fun s r h hk => okX8_dressed_L127_body h hk) FU s r h hk
def fX8_dressed_L90_body (a0 : Nat) (x1 : Int32) (x2 : Int32) (x3 : Int32) (s : Int32 × Int32 × Wd) : Option ((Int32 × Int32 × Wd) ⊕ (Int32 × Wd)) :=
  if x2 ≤ s.2.1 then (wr (chk (isO s.2.2 a0 8) (ob (wR s.2.2 a0 21) (fun o4 => ob (fX8_keep a0 o4 s.2.2) (fun q6 => fX8_dressed_L127 a0 x1 x2 x3 s.1 ((-1), 0, q6)))))) else (chk (isO s.2.2 a0 8) (bnd (s.1 * ((wI s.2.2 a0 3) + 1)) (fun u9 => some (.inl (u9, (s.2.1 + 1), s.2.2)))))
set_option maxHeartbeats 1000000 in
set_option maxRecDepth 20000 in
theorem okX8_dressed_L90_body {E : Ev} {Q : Option Value → Wd → Prop} {a0 : Nat} {x1 : Int32} {x2 : Int32} {x3 : Int32} {s : Int32 × Int32 × Wd} {r : (Int32 × Int32 × Wd) ⊕ (Int32 × Wd)} (h : fX8_dressed_L90_body a0 x1 x2 x3 s = some r) (hk : (Sum.elim (PX8_dressed_L90 E Q a0 x1 x2 x3) (fun q : Int32 × Wd => Q (some (.int q.1)) q.2)) r) : PX8_dressed_L90 E Q a0 x1 x2 x3 s := by
  unfold fX8_dressed_L90_body at h
  unfold PX8_dressed_L90
  refine r_iload dX8_dressed_90 5 rfl ?_
  refine r_iload_n dX8_dressed_92 2 rfl ?_
  refine r_icmp_ge (tgt := 113) dX8_dressed_93 (by decide) (fun c1 => ?_) (fun c1 => ?_)
  · rw [if_pos c1] at h
    obtain ⟨r2, hr, h⟩ := wr_some h
    rw [hr] at hk
    refine r_aload_n dX8_dressed_113 0 rfl ?_
    refine r_aload_n dX8_dressed_114 0 rfl ?_
    obtain ⟨h3, h⟩ := chk_some h
    obtain ⟨o4, g5, h⟩ := ob_some h
    refine r_getR (fl_RX8_53 rfl) rfl dX8_dressed_115 h3 g5 ?_
    obtain ⟨q6, g7, h⟩ := ob_some h
    refine r_callV (d' := (6, 0, false)) (As := [.ref o4]) (st := []) mdv_X8_keep tm_RX8_194 (by decide) rfl rfl (by decide) rfl (Nat.le_refl _) (Nat.le_of_ble_eq_true rfl) rfl dX8_dressed_118 h3 (ctX8_keep g7) (k_V0 ?_)
    refine r_iconst (v := (-1)) dX8_dressed_121 (by decide) ?_
    refine r_istore dX8_dressed_122 (Nat.le_of_ble_eq_true rfl) [(6, .int (-1)), (0, .ref a0), (1, .int x1), (2, .int x2), (3, .int x3), (5, .int s.1)] rfl ?_
    refine r_iconst (v := 0) dX8_dressed_124 (by decide) ?_
    refine r_istore dX8_dressed_125 (Nat.le_of_ble_eq_true rfl) [(7, .int 0), (6, .int (-1)), (0, .ref a0), (1, .int x1), (2, .int x2), (3, .int x3), (5, .int s.1)] rfl ?_
    refine r_sub [2, 3, 4, 5, 6, 1, 0] [(0, .ref a0), (1, .int x1), (2, .int x2), (3, .int x3), (5, .int s.1), (6, .int (-1)), (7, .int 0)] rfl ?_
    exact okX8_dressed_L127 h hk
  · rw [if_neg c1] at h
    refine r_iload dX8_dressed_96 4 rfl ?_
    refine r_aload_n dX8_dressed_98 0 rfl ?_
    obtain ⟨h8, h⟩ := chk_some h
    refine r_getI (fl_RX8_83 rfl) rfl dX8_dressed_99 h8 ?_
    refine r_iconst (v := 1) dX8_dressed_102 (by decide) ?_
    refine r_iadd dX8_dressed_103 ?_
    refine r_imul dX8_dressed_104 ?_
    obtain ⟨u9, e10, h⟩ := bnd_some h
    refine r_eqI e10 ?_
    refine r_istore dX8_dressed_105 (Nat.le_of_ble_eq_true rfl) [(5, .int u9), (0, .ref a0), (1, .int x1), (2, .int x2), (3, .int x3), (6, .int s.2.1)] rfl ?_
    refine r_iinc (v := (s.2.1 + 1)) dX8_dressed_107 5 rfl rfl (Nat.le_of_ble_eq_true rfl) [(6, .int (s.2.1 + 1)), (5, .int u9), (0, .ref a0), (1, .int x1), (2, .int x2), (3, .int x3)] rfl ?_
    refine r_goto (tgt := 90) dX8_dressed_110 (by decide) ?_
    rw [← Option.some.inj h] at hk
    refine r_sub [2, 3, 4, 5, 1, 0] [(0, .ref a0), (1, .int x1), (2, .int x2), (3, .int x3), (5, .int u9), (6, .int (s.2.1 + 1))] rfl ?_
    exact hk
def fX8_dressed_L90 (a0 : Nat) (x1 : Int32) (x2 : Int32) (x3 : Int32) (s : Int32 × Int32 × Wd) : Option (Int32 × Wd) := it (fX8_dressed_L90_body a0 x1 x2 x3) FU s
set_option maxHeartbeats 1000000 in
set_option maxRecDepth 20000 in
theorem okX8_dressed_L90 {E : Ev} {Q : Option Value → Wd → Prop} {a0 : Nat} {x1 : Int32} {x2 : Int32} {x3 : Int32} {s : Int32 × Int32 × Wd} {r : Int32 × Wd} (h : fX8_dressed_L90 a0 x1 x2 x3 s = some r) (hk : (fun q : Int32 × Wd => Q (some (.int q.1)) q.2) r) : PX8_dressed_L90 E Q a0 x1 x2 x3 s := it_runs (fun s r h hk => okX8_dressed_L90_body h hk) FU s r h hk
def fX8_dressed (a0 : Nat) (x1 : Int32) (x2 : Int32) (x3 : Int32) (w : Wd) : Option (Int32 × Wd) :=
  chk (isO w a0 8) (ob (fX8_noRow a0 x1 w) (fun q2 => if 0 ≤ q2.1 then (chk (isO q2.2 a0 8) (ob (wR q2.2 a0 1) (fun o6 => chk (isA q2.2 o6 0) (chk (inb x1 (wn q2.2 o6)) (if (12 * (wI q2.2 a0 3)) ≤ (wI q2.2 o6 (x1).toNatClampNeg) then (ob (fX8_within x2 1 4 q2.2) (fun q11 => if q11.1 = 0 then (fX8_dressed_b59 a0 q11.2) else (chk (isO q11.2 a0 8) (if x2 ≤ (wI q11.2 a0 6) then (ob (fX8_within x3 (-1) (x2 - 1) q11.2) (fun q16 => if q16.1 = 0 then (chk (isO q16.2 a0 8) (ob (fX8_no a0 (-5) q16.2) (fun q20 => some (q20.1, q20.2)))) else (fX8_dressed_L90 a0 x1 x2 x3 (1, 0, q16.2)))) else (fX8_dressed_b59 a0 q11.2))))) else (ob (fX8_no a0 (-5) q2.2) (fun q22 => some (q22.1, q22.2)))))))) else (chk (isO q2.2 a0 8) (ob (fX8_no a0 q2.1 q2.2) (fun q25 => some (q25.1, q25.2))))))
set_option maxHeartbeats 1000000 in
set_option maxRecDepth 20000 in
theorem okX8_dressed {E : Ev} {Q : Option Value → Wd → Prop} {a0 : Nat} {x1 : Int32} {x2 : Int32} {x3 : Int32} {w : Wd} {q : Int32 × Wd} (h : fX8_dressed a0 x1 x2 x3 w = some q) (hk : (fun q : Int32 × Wd => Q (some (.int q.1)) q.2) q) : Runs E mX8_dressed (10, 0, false) Q 0 0 [(0, .ref a0), (1, .int x1), (2, .int x2), (3, .int x3)] [] w := by
  unfold fX8_dressed at h
  refine r_aload_n dX8_dressed_0 0 rfl ?_
  refine r_iload_n dX8_dressed_1 1 rfl ?_
  obtain ⟨h1, h⟩ := chk_some h
  obtain ⟨q2, g3, h⟩ := ob_some h
  refine r_callV (d' := (7, 0, false)) (As := [.int x1]) (st := []) mdv_X8_noRow tm_RX8_90 (by decide) rfl rfl (by decide) rfl (Nat.le_refl _) (Nat.le_of_ble_eq_true rfl) rfl dX8_dressed_2 h1 (ctX8_noRow g3) (k_I0 ?_)
  refine r_istore dX8_dressed_5 (Nat.le_of_ble_eq_true rfl) [(4, .int q2.1), (0, .ref a0), (1, .int x1), (2, .int x2), (3, .int x3)] rfl ?_
  refine r_iload dX8_dressed_7 0 rfl ?_
  refine r_if_ge (tgt := 19) dX8_dressed_9 (by decide) (fun c4 => ?_) (fun c4 => ?_)
  · rw [if_pos c4] at h
    refine r_aload_n dX8_dressed_19 1 rfl ?_
    obtain ⟨h5, h⟩ := chk_some h
    obtain ⟨o6, g7, h⟩ := ob_some h
    refine r_getR (fl_RX8_13 rfl) rfl dX8_dressed_20 h5 g7 ?_
    refine r_iload_n dX8_dressed_23 2 rfl ?_
    obtain ⟨h8, h⟩ := chk_some h
    obtain ⟨h9, h⟩ := chk_some h
    refine r_iaload dX8_dressed_24 h8 h9 ?_
    refine r_bipush (v := 12) dX8_dressed_25 (by decide) ?_
    refine r_aload_n dX8_dressed_27 1 rfl ?_
    refine r_getI (fl_RX8_83 rfl) rfl dX8_dressed_28 h5 ?_
    refine r_imul dX8_dressed_31 ?_
    refine r_icmp_ge (tgt := 42) dX8_dressed_32 (by decide) (fun c10 => ?_) (fun c10 => ?_)
    · rw [if_pos c10] at h
      refine r_iload_n dX8_dressed_42 3 rfl ?_
      refine r_iconst (v := 1) dX8_dressed_43 (by decide) ?_
      refine r_iconst (v := 4) dX8_dressed_44 (by decide) ?_
      obtain ⟨q11, g12, h⟩ := ob_some h
      refine r_callS (d' := (6, 0, false)) (As := [.int x2, .int 1, .int 4]) (st := []) mds_X8_within tm_RX8_79 rfl (by decide) rfl (Nat.le_refl _) (Nat.le_of_ble_eq_true rfl) rfl dX8_dressed_45 (ctX8_within g12) (k_I0 ?_)
      refine r_if_eq (tgt := 59) dX8_dressed_48 (by decide) (fun c13 => ?_) (fun c13 => ?_)
      · rw [if_pos c13] at h
        refine r_sub [1] [(0, .ref a0)] rfl ?_
        exact okX8_dressed_b59 h hk
      · rw [if_neg c13] at h
        refine r_aload_n dX8_dressed_51 1 rfl ?_
        obtain ⟨h14, h⟩ := chk_some h
        refine r_getI (fl_RX8_76 rfl) rfl dX8_dressed_52 h14 ?_
        refine r_iload_n dX8_dressed_55 3 rfl ?_
        refine r_icmp_ge (tgt := 66) dX8_dressed_56 (by decide) (fun c15 => ?_) (fun c15 => ?_)
        · rw [if_pos c15] at h
          refine r_iload_n dX8_dressed_66 4 rfl ?_
          refine r_iconst (v := (-1)) dX8_dressed_67 (by decide) ?_
          refine r_iload_n dX8_dressed_68 3 rfl ?_
          refine r_iconst (v := 1) dX8_dressed_69 (by decide) ?_
          refine r_isub dX8_dressed_70 ?_
          obtain ⟨q16, g17, h⟩ := ob_some h
          refine r_callS (d' := (6, 0, false)) (As := [.int x3, .int (-1), .int (x2 - 1)]) (st := []) mds_X8_within tm_RX8_79 rfl (by decide) rfl (Nat.le_refl _) (Nat.le_of_ble_eq_true rfl) rfl dX8_dressed_71 (ctX8_within g17) (k_I0 ?_)
          refine r_if_ne (tgt := 84) dX8_dressed_74 (by decide) (fun c18 => ?_) (fun c18 => ?_)
          · rw [if_neg c18] at h
            refine r_iconst (v := 1) dX8_dressed_84 (by decide) ?_
            refine r_istore dX8_dressed_85 (Nat.le_of_ble_eq_true rfl) [(5, .int 1), (4, .int q2.1), (0, .ref a0), (1, .int x1), (2, .int x2), (3, .int x3)] rfl ?_
            refine r_iconst (v := 0) dX8_dressed_87 (by decide) ?_
            refine r_istore dX8_dressed_88 (Nat.le_of_ble_eq_true rfl) [(6, .int 0), (5, .int 1), (4, .int q2.1), (0, .ref a0), (1, .int x1), (2, .int x2), (3, .int x3)] rfl ?_
            refine r_sub [3, 4, 5, 6, 1, 0] [(0, .ref a0), (1, .int x1), (2, .int x2), (3, .int x3), (5, .int 1), (6, .int 0)] rfl ?_
            exact okX8_dressed_L90 h hk
          · rw [if_pos c18] at h
            refine r_aload_n dX8_dressed_77 1 rfl ?_
            refine r_bipush (v := (-5)) dX8_dressed_78 (by decide) ?_
            obtain ⟨h19, h⟩ := chk_some h
            obtain ⟨q20, g21, h⟩ := ob_some h
            refine r_callV (d' := (6, 0, false)) (As := [.int (-5)]) (st := []) mdv_X8_no tm_RX8_72 (by decide) rfl rfl (by decide) rfl (Nat.le_refl _) (Nat.le_of_ble_eq_true rfl) rfl dX8_dressed_80 h19 (ctX8_no g21) (k_I0 ?_)
            rw [← Option.some.inj h] at hk
            exact r_ireturn dX8_dressed_83 rfl rfl hk
        · rw [if_neg c15] at h
          refine r_sub [1] [(0, .ref a0)] rfl ?_
          exact okX8_dressed_b59 h hk
    · rw [if_neg c10] at h
      refine r_aload_n dX8_dressed_35 1 rfl ?_
      refine r_bipush (v := (-5)) dX8_dressed_36 (by decide) ?_
      obtain ⟨q22, g23, h⟩ := ob_some h
      refine r_callV (d' := (6, 0, false)) (As := [.int (-5)]) (st := []) mdv_X8_no tm_RX8_72 (by decide) rfl rfl (by decide) rfl (Nat.le_refl _) (Nat.le_of_ble_eq_true rfl) rfl dX8_dressed_38 h5 (ctX8_no g23) (k_I0 ?_)
      rw [← Option.some.inj h] at hk
      exact r_ireturn dX8_dressed_41 rfl rfl hk
  · rw [if_neg c4] at h
    refine r_aload_n dX8_dressed_12 1 rfl ?_
    refine r_iload dX8_dressed_13 0 rfl ?_
    obtain ⟨h24, h⟩ := chk_some h
    obtain ⟨q25, g26, h⟩ := ob_some h
    refine r_callV (d' := (6, 0, false)) (As := [.int q2.1]) (st := []) mdv_X8_no tm_RX8_72 (by decide) rfl rfl (by decide) rfl (Nat.le_refl _) (Nat.le_of_ble_eq_true rfl) rfl dX8_dressed_15 h24 (ctX8_no g26) (k_I0 ?_)
    rw [← Option.some.inj h] at hk
    exact r_ireturn dX8_dressed_18 rfl rfl hk
set_option maxHeartbeats 1000000 in
set_option maxRecDepth 20000 in
theorem ctX8_dressed {E : Ev} {a0 : Nat} {x1 : Int32} {x2 : Int32} {x3 : Int32} {w : Wd} {q : Int32 × Wd} (h : fX8_dressed a0 x1 x2 x3 w = some q) : CT E mX8_dressed (10, 0, false) [.ref a0, .int x1, .int x2, .int x3] w (QI q) := CT.of pl_RX8 (Nat.le_of_ble_eq_true rfl) (okX8_dressed h ⟨rfl, rfl⟩)
