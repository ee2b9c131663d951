def fX8_above_b29 (s0 : Int32) (w : Wd) : Option (Int32 × Wd) :=
  some (s0, w)
set_option maxHeartbeats 1000000 in
set_option maxRecDepth 20000 in
theorem okX8_above_b29 {E : Ev} {Q : Option Value → Wd → Prop} {s0 : Int32} {w : Wd} {q : Int32 × Wd} (h : fX8_above_b29 s0 w = some q) (hk : (fun q : Int32 × Wd => Q (some (.int q.1)) q.2) q) : Runs E mX8_above (6, 0, false) Q 0 29 [] [.int s0] w := by
  unfold fX8_above_b29 at h
  rw [← Option.some.inj h] at hk
  exact r_ireturn dX8_above_29 rfl rfl hk
def fX8_above (x0 : Int32) (w : Wd) : Option (Int32 × Wd) :=
  if x0 = 3 then (fX8_above_b29 1 w) else (if x0 = 5 then (fX8_above_b29 2 w) else (if x0 = 6 then (fX8_above_b29 4 w) else (fX8_above_b29 0 w)))
set_option maxHeartbeats 1000000 in
set_option maxRecDepth 20000 in
theorem okX8_above {E : Ev} {Q : Option Value → Wd → Prop} {x0 : Int32} {w : Wd} {q : Int32 × Wd} (h : fX8_above x0 w = some q) (hk : (fun q : Int32 × Wd => Q (some (.int q.1)) q.2) q) : Runs E mX8_above (6, 0, false) Q 0 0 [(0, .int x0)] [] w := by
  unfold fX8_above at h
  refine r_iload_n dX8_above_0 0 rfl ?_
  refine r_iconst (v := 3) dX8_above_1 (by decide) ?_
  refine r_icmp_ne (tgt := 9) dX8_above_2 (by decide) (fun c1 => ?_) (fun c1 => ?_)
  · rw [if_neg c1] at h
    refine r_iload_n dX8_above_9 0 rfl ?_
    refine r_iconst (v := 5) dX8_above_10 (by decide) ?_
    refine r_icmp_ne (tgt := 18) dX8_above_11 (by decide) (fun c2 => ?_) (fun c2 => ?_)
    · rw [if_neg c2] at h
      refine r_iload_n dX8_above_18 0 rfl ?_
      refine r_bipush (v := 6) dX8_above_19 (by decide) ?_
      refine r_icmp_ne (tgt := 28) dX8_above_21 (by decide) (fun c3 => ?_) (fun c3 => ?_)
      · rw [if_neg c3] at h
        refine r_iconst (v := 0) dX8_above_28 (by decide) ?_
        refine r_sub [] [] rfl ?_
        exact okX8_above_b29 h hk
      · rw [if_pos c3] at h
        refine r_iconst (v := 4) dX8_above_24 (by decide) ?_
        refine r_goto (tgt := 29) dX8_above_25 (by decide) ?_
        refine r_sub [] [] rfl ?_
        exact okX8_above_b29 h hk
    · rw [if_pos c2] at h
      refine r_iconst (v := 2) dX8_above_14 (by decide) ?_
      refine r_goto (tgt := 29) dX8_above_15 (by decide) ?_
      refine r_sub [] [] rfl ?_
      exact okX8_above_b29 h hk
  · rw [if_pos c1] at h
    refine r_iconst (v := 1) dX8_above_5 (by decide) ?_
    refine r_goto (tgt := 29) dX8_above_6 (by decide) ?_
    refine r_sub [] [] rfl ?_
    exact okX8_above_b29 h hk
set_option maxHeartbeats 1000000 in
set_option maxRecDepth 20000 in
theorem ctX8_above {E : Ev} {x0 : Int32} {w : Wd} {q : Int32 × Wd} (h : fX8_above x0 w = some q) : CT E mX8_above (6, 0, false) [.int x0] w (QI q) := CT.of pl_RX8 (Nat.le_of_ble_eq_true rfl) (okX8_above h ⟨rfl, rfl⟩)
def fX8_ran_b19 (a0 : Nat) (w : Wd) : Option (Wd) :=
  chk (isO w a0 8) (bnd (sI w a0 16 ((wI w a0 16) + 1)) (fun w2 => some w2))
set_option maxHeartbeats 1000000 in
set_option maxRecDepth 20000 in
theorem okX8_ran_b19 {E : Ev} {Q : Option Value → Wd → Prop} {a0 : Nat} {w : Wd} {q : Wd} (h : fX8_ran_b19 a0 w = some q) (hk : (fun q : Wd => Q none q) q) : Runs E mX8_ran (6, 0, false) Q 0 19 [(0, .ref a0)] [] w := by
  unfold fX8_ran_b19 at h
  refine r_aload_n dX8_ran_19 0 rfl ?_
  refine r_dup dX8_ran_20 rfl ?_
  obtain ⟨h1, h⟩ := chk_some h
  refine r_getI (fl_RX8_269 rfl) rfl dX8_ran_21 h1 ?_
  refine r_iconst (v := 1) dX8_ran_24 (by decide) ?_
  refine r_iadd dX8_ran_25 ?_
  obtain ⟨w2, e3, h⟩ := bnd_some h
  refine r_putI (fl_RX8_269 rfl) rfl rfl (ck_ty (by decide) 16 (by decide)) rfl rfl dX8_ran_26 h1 ?_
  refine r_eqW e3 ?_
  rw [← Option.some.inj h] at hk
  exact r_return dX8_ran_29 rfl hk
def fX8_ran (a0 : Nat) (x1 : Int32) (w : Wd) : Option (Wd) :=
  chk (isO w a0 8) (if (20 : Int32) ≤ (wI w a0 16) then (fX8_ran_b19 a0 w) else (ob (wR w a0 17) (fun o3 => chk (isA w o3 0) (chk (inb (wI w a0 16) (wn w o3)) (bnd (sI w o3 ((wI w a0 16)).toNatClampNeg x1) (fun w7 => fX8_ran_b19 a0 w7))))))
set_option maxHeartbeats 1000000 in
set_option maxRecDepth 20000 in
theorem okX8_ran {E : Ev} {Q : Option Value → Wd → Prop} {a0 : Nat} {x1 : Int32} {w : Wd} {q : Wd} (h : fX8_ran a0 x1 w = some q) (hk : (fun q : Wd => Q none q) q) : Runs E mX8_ran (6, 0, false) Q 0 0 [(0, .ref a0), (1, .int x1)] [] w := by
  unfold fX8_ran at h
  refine r_aload_n dX8_ran_0 0 rfl ?_
  obtain ⟨h1, h⟩ := chk_some h
  refine r_getI (fl_RX8_269 rfl) rfl dX8_ran_1 h1 ?_
  refine r_bipush (v := 20) dX8_ran_4 (by decide) ?_
  refine r_icmp_ge (tgt := 19) dX8_ran_6 (by decide) (fun c2 => ?_) (fun c2 => ?_)
  · rw [if_pos c2] at h
    refine r_sub [0] [(0, .ref a0)] rfl ?_
    exact okX8_ran_b19 h hk
  · rw [if_neg c2] at h
    refine r_aload_n dX8_ran_9 0 rfl ?_
    obtain ⟨o3, g4, h⟩ := ob_some h
    refine r_getR (fl_RX8_44 rfl) rfl dX8_ran_10 h1 g4 ?_
    refine r_aload_n dX8_ran_13 0 rfl ?_
    refine r_getI (fl_RX8_269 rfl) rfl dX8_ran_14 h1 ?_
    refine r_iload_n dX8_ran_17 1 rfl ?_
    obtain ⟨h5, h⟩ := chk_some h
    obtain ⟨h6, h⟩ := chk_some h
    obtain ⟨w7, e8, h⟩ := bnd_some h
    refine r_iastore dX8_ran_18 h5 h6 ?_
    refine r_eqW e8 ?_
    refine r_sub [0] [(0, .ref a0)] rfl ?_
    exact okX8_ran_b19 h hk
set_option maxHeartbeats 1000000 in
set_option maxRecDepth 20000 in
theorem ctX8_ran {E : Ev} {a0 : Nat} {x1 : Int32} {w : Wd} {q : Wd} (h : fX8_ran a0 x1 w = some q) : CT E mX8_ran (6, 0, false) [.ref a0, .int x1] w (QV q) := CT.of pl_RX8 (Nat.le_of_ble_eq_true rfl) (okX8_ran h ⟨rfl, rfl⟩)
def fX8_sitsBy_b73 (a0 : Nat) (x1 : Int32) (x4 : Int32) (w : Wd) : Option (Int32 × Wd) :=
  chk (isO w a0 8) (ob (wR w a0 8) (fun o2 => chk (isA w o2 0) (chk (inb x1 (wn w o2)) (some ((x4 + (wI w o2 (x1).toNatClampNeg)), w)))))
set_option maxHeartbeats 1000000 in
set_option maxRecDepth 20000 in
theorem okX8_sitsBy_b73 {E : Ev} {Q : Option Value → Wd → Prop} {a0 : Nat} {x1 : Int32} {x4 : Int32} {w : Wd} {q : Int32 × Wd} (h : fX8_sitsBy_b73 a0 x1 x4 w = some q) (hk : (fun q : Int32 × Wd => Q (some (.int q.1)) q.2) q) : Runs E mX8_sitsBy (7, 0, false) Q 0 73 [(0, .ref a0), (1, .int x1), (4, .int x4)] [] w := by
  unfold fX8_sitsBy_b73 at h
  refine r_iload dX8_sitsBy_73 2 rfl ?_
  refine r_aload_n dX8_sitsBy_75 0 rfl ?_
  obtain ⟨h1, h⟩ := chk_some h
  obtain ⟨o2, g3, h⟩ := ob_some h
  refine r_getR (fl_RX8_29 rfl) rfl dX8_sitsBy_76 h1 g3 ?_
  refine r_iload_n dX8_sitsBy_79 1 rfl ?_
  obtain ⟨h4, h⟩ := chk_some h
  obtain ⟨h5, h⟩ := chk_some h
  refine r_iaload dX8_sitsBy_80 h4 h5 ?_
  refine r_iadd dX8_sitsBy_81 ?_
  rw [← Option.some.inj h] at hk
  exact r_ireturn dX8_sitsBy_82 rfl rfl hk
def fX8_sitsBy_b112 (s0 : Int32) (w : Wd) : Option (Int32 × Wd) :=
  some (s0, w)
set_option maxHeartbeats 1000000 in
set_option maxRecDepth 20000 in
theorem okX8_sitsBy_b112 {E : Ev} {Q : Option Value → Wd → Prop} {s0 : Int32} {w : Wd} {q : Int32 × Wd} (h : fX8_sitsBy_b112 s0 w = some q) (hk : (fun q : Int32 × Wd => Q (some (.int q.1)) q.2) q) : Runs E mX8_sitsBy (7, 0, false) Q 0 112 [] [.int s0] w := by
  unfold fX8_sitsBy_b112 at h
  rw [← Option.some.inj h] at hk
  exact r_ireturn dX8_sitsBy_112 rfl rfl hk
def fX8_sitsBy_b52 (a0 : Nat) (x1 : Int32) (x2 : Int32) (x3 : Int32) (w : Wd) : Option (Int32 × Wd) :=
  chk (isO w a0 8) (ob (fX8_ran a0 10 w) (fun q2 => bnd (x2 + x1) (fun u4 => if x3 = 1 then (fX8_sitsBy_b73 a0 x1 u4 q2) else (if x3 = 3 then (fX8_sitsBy_b73 a0 x1 u4 q2) else (if x3 = 4 then (fX8_sitsBy_b112 (u4 - x1) q2) else (if x3 = 6 then (fX8_sitsBy_b112 ((u4 - x1) * 2) q2) else (fX8_sitsBy_b112 u4 q2)))))))
set_option maxHeartbeats 1000000 in
set_option maxRecDepth 20000 in
theorem okX8_sitsBy_b52 {E : Ev} {Q : Option Value → Wd → Prop} {a0 : Nat} {x1 : Int32} {x2 : Int32} {x3 : Int32} {w : Wd} {q : Int32 × Wd} (h : fX8_sitsBy_b52 a0 x1 x2 x3 w = some q) (hk : (fun q : Int32 × Wd => Q (some (.int q.1)) q.2) q) : Runs E mX8_sitsBy (7, 0, false) Q 0 52 [(0, .ref a0), (1, .int x1), (2, .int x2), (3, .int x3)] [] w := by
  unfold fX8_sitsBy_b52 at h
  refine r_aload_n dX8_sitsBy_52 0 rfl ?_
  refine r_bipush (v := 10) dX8_sitsBy_53 (by decide) ?_
  obtain ⟨h1, h⟩ := chk_some h
  obtain ⟨q2, g3, h⟩ := ob_some h
  refine r_callV (d' := (6, 0, false)) (As := [.int 10]) (st := []) mdv_X8_ran tm_RX8_272 (by decide) rfl rfl (by decide) rfl (Nat.le_refl _) (Nat.le_of_ble_eq_true rfl) rfl dX8_sitsBy_55 h1 (ctX8_ran g3) (k_V0 ?_)
  refine r_iload_n dX8_sitsBy_58 2 rfl ?_
  refine r_iload_n dX8_sitsBy_59 1 rfl ?_
  refine r_iadd dX8_sitsBy_60 ?_
  obtain ⟨u4, e5, h⟩ := bnd_some h
  refine r_eqI e5 ?_
  refine r_istore dX8_sitsBy_61 (Nat.le_of_ble_eq_true rfl) [(4, .int u4), (0, .ref a0), (1, .int x1), (2, .int x2), (3, .int x3)] rfl ?_
  refine r_iload_n dX8_sitsBy_63 4 rfl ?_
  refine r_iconst (v := 1) dX8_sitsBy_64 (by decide) ?_
  refine r_icmp_eq (tgt := 73) dX8_sitsBy_65 (by decide) (fun c6 => ?_) (fun c6 => ?_)
  · rw [if_pos c6] at h
    refine r_sub [1, 2, 0] [(0, .ref a0), (1, .int x1), (4, .int u4)] rfl ?_
    exact okX8_sitsBy_b73 h hk
  · rw [if_neg c6] at h
    refine r_iload_n dX8_sitsBy_68 4 rfl ?_
    refine r_iconst (v := 3) dX8_sitsBy_69 (by decide) ?_
    refine r_icmp_ne (tgt := 83) dX8_sitsBy_70 (by decide) (fun c7 => ?_) (fun c7 => ?_)
    · rw [if_neg c7] at h
      refine r_iload_n dX8_sitsBy_83 4 rfl ?_
      refine r_iconst (v := 4) dX8_sitsBy_84 (by decide) ?_
      refine r_icmp_ne (tgt := 95) dX8_sitsBy_85 (by decide) (fun c8 => ?_) (fun c8 => ?_)
      · rw [if_neg c8] at h
        refine r_iload_n dX8_sitsBy_95 4 rfl ?_
        refine r_bipush (v := 6) dX8_sitsBy_96 (by decide) ?_
        refine r_icmp_ne (tgt := 110) dX8_sitsBy_98 (by decide) (fun c9 => ?_) (fun c9 => ?_)
        · rw [if_neg c9] at h
          refine r_iload dX8_sitsBy_110 0 rfl ?_
          refine r_sub [] [] rfl ?_
          exact okX8_sitsBy_b112 h hk
        · rw [if_pos c9] at h
          refine r_iload dX8_sitsBy_101 0 rfl ?_
          refine r_iload_n dX8_sitsBy_103 2 rfl ?_
          refine r_isub dX8_sitsBy_104 ?_
          refine r_iconst (v := 2) dX8_sitsBy_105 (by decide) ?_
          refine r_imul dX8_sitsBy_106 ?_
          refine r_goto (tgt := 112) dX8_sitsBy_107 (by decide) ?_
          refine r_sub [] [] rfl ?_
          exact okX8_sitsBy_b112 h hk
      · rw [if_pos c8] at h
        refine r_iload dX8_sitsBy_88 0 rfl ?_
        refine r_iload_n dX8_sitsBy_90 2 rfl ?_
        refine r_isub dX8_sitsBy_91 ?_
        refine r_goto (tgt := 112) dX8_sitsBy_92 (by decide) ?_
        refine r_sub [] [] rfl ?_
        exact okX8_sitsBy_b112 h hk
    · rw [if_pos c7] at h
      refine r_sub [1, 2, 0] [(0, .ref a0), (1, .int x1), (4, .int u4)] rfl ?_
      exact okX8_sitsBy_b73 h hk
def fX8_sitsBy_b46 (a0 : Nat) (x1 : Int32) (x2 : Int32) (x3 : Int32) (w : Wd) : Option (Int32 × Wd) :=
  chk (isO w a0 8) (ob (fX8_ran a0 20 w) (fun q2 => fX8_sitsBy_b52 a0 x1 x2 x3 q2))
set_option maxHeartbeats 1000000 in
set_option maxRecDepth 20000 in
theorem okX8_sitsBy_b46 {E : Ev} {Q : Option Value → Wd → Prop} {a0 : Nat} {x1 : Int32} {x2 : Int32} {x3 : Int32} {w : Wd} {q : Int32 × Wd} (h : fX8_sitsBy_b46 a0 x1 x2 x3 w = some q) (hk : (fun q : Int32 × Wd => Q (some (.int q.1)) q.2) q) : Runs E mX8_sitsBy (7, 0, false) Q 0 46 [(0, .ref a0), (1, .int x1), (2, .int x2), (3, .int x3)] [] w := by
  unfold fX8_sitsBy_b46 at h
  refine r_aload_n dX8_sitsBy_46 0 rfl ?_
  refine r_bipush (v := 20) dX8_sitsBy_47 (by decide) ?_
  obtain ⟨h1, h⟩ := chk_some h
  obtain ⟨q2, g3, h⟩ := ob_some h
  refine r_callV (d' := (6, 0, false)) (As := [.int 20]) (st := []) mdv_X8_ran tm_RX8_272 (by decide) rfl rfl (by decide) rfl (Nat.le_refl _) (Nat.le_of_ble_eq_true rfl) rfl dX8_sitsBy_49 h1 (ctX8_ran g3) (k_V0 ?_)
  refine r_sub [0, 1, 2, 3] [(0, .ref a0), (1, .int x1), (2, .int x2), (3, .int x3)] rfl ?_
  exact okX8_sitsBy_b52 h hk
def fX8_sitsBy_b36 (a0 : Nat) (x1 : Int32) (x2 : Int32) (x3 : Int32) (w : Wd) : Option (Int32 × Wd) :=
  if x3 = 1 then (fX8_sitsBy_b46 a0 x1 x2 x3 w) else (if x3 = 3 then (fX8_sitsBy_b46 a0 x1 x2 x3 w) else (fX8_sitsBy_b52 a0 x1 x2 x3 w))
set_option maxHeartbeats 1000000 in
set_option maxRecDepth 20000 in
theorem okX8_sitsBy_b36 {E : Ev} {Q : Option Value → Wd → Prop} {a0 : Nat} {x1 : Int32} {x2 : Int32} {x3 : Int32} {w : Wd} {q : Int32 × Wd} (h : fX8_sitsBy_b36 a0 x1 x2 x3 w = some q) (hk : (fun q : Int32 × Wd => Q (some (.int q.1)) q.2) q) : Runs E mX8_sitsBy (7, 0, false) Q 0 36 [(0, .ref a0), (1, .int x1), (2, .int x2), (3, .int x3)] [] w := by
  unfold fX8_sitsBy_b36 at h
  refine r_iload_n dX8_sitsBy_36 3 rfl ?_
  refine r_iconst (v := 1) dX8_sitsBy_37 (by decide) ?_
  refine r_icmp_eq (tgt := 46) dX8_sitsBy_38 (by decide) (fun c1 => ?_) (fun c1 => ?_)
  · rw [if_pos c1] at h
    refine r_sub [0, 1, 2, 3] [(0, .ref a0), (1, .int x1), (2, .int x2), (3, .int x3)] rfl ?_
    exact okX8_sitsBy_b46 h hk
  · rw [if_neg c1] at h
    refine r_iload_n dX8_sitsBy_41 3 rfl ?_
    refine r_iconst (v := 3) dX8_sitsBy_42 (by decide) ?_
    refine r_icmp_ne (tgt := 52) dX8_sitsBy_43 (by decide) (fun c2 => ?_) (fun c2 => ?_)
    · rw [if_neg c2] at h
      refine r_sub [0, 1, 2, 3] [(0, .ref a0), (1, .int x1), (2, .int x2), (3, .int x3)] rfl ?_
      exact okX8_sitsBy_b52 h hk
    · rw [if_pos c2] at h
      refine r_sub [0, 1, 2, 3] [(0, .ref a0), (1, .int x1), (2, .int x2), (3, .int x3)] rfl ?_
      exact okX8_sitsBy_b46 h hk
def fX8_sitsBy_b30 (a0 : Nat) (x1 : Int32) (x2 : Int32) (x3 : Int32) (w : Wd) : Option (Int32 × Wd) :=
  chk (isO w a0 8) (ob (fX8_ran a0 51 w) (fun q2 => fX8_sitsBy_b36 a0 x1 x2 x3 q2))
set_option maxHeartbeats 1000000 in
set_option maxRecDepth 20000 in
theorem okX8_sitsBy_b30 {E : Ev} {Q : Option Value → Wd → Prop} {a0 : Nat} {x1 : Int32} {x2 : Int32} {x3 : Int32} {w : Wd} {q : Int32 × Wd} (h : fX8_sitsBy_b30 a0 x1 x2 x3 w = some q) (hk : (fun q : Int32 × Wd => Q (some (.int q.1)) q.2) q) : Runs E mX8_sitsBy (7, 0, false) Q 0 30 [(0, .ref a0), (1, .int x1), (2, .int x2), (3, .int x3)] [] w := by
  unfold fX8_sitsBy_b30 at h
  refine r_aload_n dX8_sitsBy_30 0 rfl ?_
  refine r_bipush (v := 51) dX8_sitsBy_31 (by decide) ?_
  obtain ⟨h1, h⟩ := chk_some h
  obtain ⟨q2, g3, h⟩ := ob_some h
  refine r_callV (d' := (6, 0, false)) (As := [.int 51]) (st := []) mdv_X8_ran tm_RX8_272 (by decide) rfl rfl (by decide) rfl (Nat.le_refl _) (Nat.le_of_ble_eq_true rfl) rfl dX8_sitsBy_33 h1 (ctX8_ran g3) (k_V0 ?_)
  refine r_sub [0, 1, 2, 3] [(0, .ref a0), (1, .int x1), (2, .int x2), (3, .int x3)] rfl ?_
  exact okX8_sitsBy_b36 h hk
def fX8_sitsBy_b19 (a0 : Nat) (x1 : Int32) (x2 : Int32) (x3 : Int32) (w : Wd) : Option (Int32 × Wd) :=
  if x3 = 4 then (fX8_sitsBy_b30 a0 x1 x2 x3 w) else (if x3 = 6 then (fX8_sitsBy_b30 a0 x1 x2 x3 w) else (fX8_sitsBy_b36 a0 x1 x2 x3 w))
set_option maxHeartbeats 1000000 in
set_option maxRecDepth 20000 in
theorem okX8_sitsBy_b19 {E : Ev} {Q : Option Value → Wd → Prop} {a0 : Nat} {x1 : Int32} {x2 : Int32} {x3 : Int32} {w : Wd} {q : Int32 × Wd} (h : fX8_sitsBy_b19 a0 x1 x2 x3 w = some q) (hk : (fun q : Int32 × Wd => Q (some (.int q.1)) q.2) q) : Runs E mX8_sitsBy (7, 0, false) Q 0 19 [(0, .ref a0), (1, .int x1), (2, .int x2), (3, .int x3)] [] w := by
  unfold fX8_sitsBy_b19 at h
  refine r_iload_n dX8_sitsBy_19 3 rfl ?_
  refine r_iconst (v := 4) dX8_sitsBy_20 (by decide) ?_
  refine r_icmp_eq (tgt := 30) dX8_sitsBy_21 (by decide) (fun c1 => ?_) (fun c1 => ?_)
  · rw [if_pos c1] at h
    refine r_sub [0, 1, 2, 3] [(0, .ref a0), (1, .int x1), (2, .int x2), (3, .int x3)] rfl ?_
    exact okX8_sitsBy_b30 h hk
  · rw [if_neg c1] at h
    refine r_iload_n dX8_sitsBy_24 3 rfl ?_
    refine r_bipush (v := 6) dX8_sitsBy_25 (by decide) ?_
    refine r_icmp_ne (tgt := 36) dX8_sitsBy_27 (by decide) (fun c2 => ?_) (fun c2 => ?_)
    · rw [if_neg c2] at h
      refine r_sub [0, 1, 2, 3] [(0, .ref a0), (1, .int x1), (2, .int x2), (3, .int x3)] rfl ?_
      exact okX8_sitsBy_b36 h hk
    · rw [if_pos c2] at h
      refine r_sub [0, 1, 2, 3] [(0, .ref a0), (1, .int x1), (2, .int x2), (3, .int x3)] rfl ?_
      exact okX8_sitsBy_b30 h hk
def fX8_sitsBy (a0 : Nat) (x1 : Int32) (x2 : Int32) (w : Wd) : Option (Int32 × Wd) :=
  chk (isO w a0 8) (ob (wR w a0 7) (fun o2 => chk (isA w o2 0) (chk (inb x1 (wn w o2)) (bnd (wI w o2 (x1).toNatClampNeg) (fun u6 => if u6 = 6 then (ob (fX8_ran a0 70 w) (fun q9 => fX8_sitsBy_b19 a0 x1 x2 u6 q9)) else (fX8_sitsBy_b19 a0 x1 x2 u6 w))))))
set_option maxHeartbeats 1000000 in
set_option maxRecDepth 20000 in
theorem okX8_sitsBy {E : Ev} {Q : Option Value → Wd → Prop} {a0 : Nat} {x1 : Int32} {x2 : Int32} {w : Wd} {q : Int32 × Wd} (h : fX8_sitsBy a0 x1 x2 w = some q) (hk : (fun q : Int32 × Wd => Q (some (.int q.1)) q.2) q) : Runs E mX8_sitsBy (7, 0, false) Q 0 0 [(0, .ref a0), (1, .int x1), (2, .int x2)] [] w := by
  unfold fX8_sitsBy at h
  refine r_aload_n dX8_sitsBy_0 0 rfl ?_
  obtain ⟨h1, h⟩ := chk_some h
  obtain ⟨o2, g3, h⟩ := ob_some h
  refine r_getR (fl_RX8_26 rfl) rfl dX8_sitsBy_1 h1 g3 ?_
  refine r_iload_n dX8_sitsBy_4 1 rfl ?_
  obtain ⟨h4, h⟩ := chk_some h
  obtain ⟨h5, h⟩ := chk_some h
  refine r_iaload dX8_sitsBy_5 h4 h5 ?_
  obtain ⟨u6, e7, h⟩ := bnd_some h
  refine r_eqI e7 ?_
  refine r_istore_n dX8_sitsBy_6 rfl (Nat.le_of_ble_eq_true rfl) [(3, .int u6), (0, .ref a0), (1, .int x1), (2, .int x2)] rfl ?_
  refine r_iload_n dX8_sitsBy_7 0 rfl ?_
  refine r_bipush (v := 6) dX8_sitsBy_8 (by decide) ?_
  refine r_icmp_ne (tgt := 19) dX8_sitsBy_10 (by decide) (fun c8 => ?_) (fun c8 => ?_)
  · rw [if_neg c8] at h
    refine r_sub [1, 2, 3, 0] [(0, .ref a0), (1, .int x1), (2, .int x2), (3, .int u6)] rfl ?_
    exact okX8_sitsBy_b19 h hk
  · rw [if_pos c8] at h
    refine r_aload_n dX8_sitsBy_13 1 rfl ?_
    refine r_bipush (v := 70) dX8_sitsBy_14 (by decide) ?_
    obtain ⟨q9, g10, h⟩ := ob_some h
    refine r_callV (d' := (6, 0, false)) (As := [.int 70]) (st := []) mdv_X8_ran tm_RX8_272 (by decide) rfl rfl (by decide) rfl (Nat.le_refl _) (Nat.le_of_ble_eq_true rfl) rfl dX8_sitsBy_16 h1 (ctX8_ran g10) (k_V0 ?_)
    refine r_sub [1, 2, 3, 0] [(0, .ref a0), (1, .int x1), (2, .int x2), (3, .int u6)] rfl ?_
    exact okX8_sitsBy_b19 h hk
set_option maxHeartbeats 1000000 in
set_option maxRecDepth 20000 in
theorem ctX8_sitsBy {E : Ev} {a0 : Nat} {x1 : Int32} {x2 : Int32} {w : Wd} {q : Int32 × Wd} (h : fX8_sitsBy a0 x1 x2 w = some q) : CT E mX8_sitsBy (7, 0, false) [.ref a0, .int x1, .int x2] w (QI q) := CT.of pl_RX8 (Nat.le_of_ble_eq_true rfl) (okX8_sitsBy h ⟨rfl, rfl⟩)
def fX8_pullsBy_b100 (s0 : Int32) (w : Wd) : Option (Int32 × Wd) :=
  some (s0, w)
set_option maxHeartbeats 1000000 in
set_option maxRecDepth 20000 in
theorem okX8_pullsBy_b100 {E : Ev} {Q : Option Value → Wd → Prop} {s0 : Int32} {w : Wd} {q : Int32 × Wd} (h : fX8_pullsBy_b100 s0 w = some q) (hk : (fun q : Int32 × Wd => Q (some (.int q.1)) q.2) q) : Runs E mX8_pullsBy (8, 0, false) Q 0 100 [] [.int s0] w := by
  unfold fX8_pullsBy_b100 at h
  rw [← Option.some.inj h] at hk
  exact r_ireturn dX8_pullsBy_100 rfl rfl hk
def fX8_pullsBy_b91 (x5 : Int32) (w : Wd) : Option (Int32 × Wd) :=
  fX8_pullsBy_b100 (x5 * 3) w
set_option maxHeartbeats 1000000 in
set_option maxRecDepth 20000 in
theorem okX8_pullsBy_b91 {E : Ev} {Q : Option Value → Wd → Prop} {x5 : Int32} {w : Wd} {q : Int32 × Wd} (h : fX8_pullsBy_b91 x5 w = some q) (hk : (fun q : Int32 × Wd => Q (some (.int q.1)) q.2) q) : Runs E mX8_pullsBy (8, 0, false) Q 0 91 [(5, .int x5)] [] w := by
  unfold fX8_pullsBy_b91 at h
  refine r_iload dX8_pullsBy_91 0 rfl ?_
  refine r_iconst (v := 3) dX8_pullsBy_93 (by decide) ?_
  refine r_imul dX8_pullsBy_94 ?_
  refine r_goto (tgt := 100) dX8_pullsBy_95 (by decide) ?_
  refine r_sub [] [] rfl ?_
  exact okX8_pullsBy_b100 h hk
def fX8_pullsBy_b64 (a0 : Nat) (x1 : Int32) (x3 : Int32) (x4 : Int32) (w : Wd) : Option (Int32 × Wd) :=
  chk (isO w a0 8) (ob (fX8_ran a0 11 w) (fun q2 => chk (isO q2 a0 8) (ob (fX8_sitsBy a0 x1 x4 q2) (fun q5 => bnd (q5.1 * 2) (fun u7 => if x3 = 2 then (fX8_pullsBy_b91 u7 q5.2) else (if x3 = 5 then (fX8_pullsBy_b91 u7 q5.2) else (fX8_pullsBy_b100 u7 q5.2)))))))
set_option maxHeartbeats 1000000 in
set_option maxRecDepth 20000 in
theorem okX8_pullsBy_b64 {E : Ev} {Q : Option Value → Wd → Prop} {a0 : Nat} {x1 : Int32} {x3 : Int32} {x4 : Int32} {w : Wd} {q : Int32 × Wd} (h : fX8_pullsBy_b64 a0 x1 x3 x4 w = some q) (hk : (fun q : Int32 × Wd => Q (some (.int q.1)) q.2) q) : Runs E mX8_pullsBy (8, 0, false) Q 0 64 [(0, .ref a0), (1, .int x1), (3, .int x3), (4, .int x4)] [] w := by
  unfold fX8_pullsBy_b64 at h
  refine r_aload_n dX8_pullsBy_64 0 rfl ?_
  refine r_bipush (v := 11) dX8_pullsBy_65 (by decide) ?_
  obtain ⟨h1, h⟩ := chk_some h
  obtain ⟨q2, g3, h⟩ := ob_some h
  refine r_callV (d' := (6, 0, false)) (As := [.int 11]) (st := []) mdv_X8_ran tm_RX8_272 (by decide) rfl rfl (by decide) rfl (Nat.le_refl _) (Nat.le_of_ble_eq_true rfl) rfl dX8_pullsBy_67 h1 (ctX8_ran g3) (k_V0 ?_)
  refine r_aload_n dX8_pullsBy_70 0 rfl ?_
  refine r_iload_n dX8_pullsBy_71 1 rfl ?_
  refine r_iload dX8_pullsBy_72 3 rfl ?_
  obtain ⟨h4, h⟩ := chk_some h
  obtain ⟨q5, g6, h⟩ := ob_some h
  refine r_callV (d' := (7, 0, false)) (As := [.int x1, .int x4]) (st := []) mdv_X8_sitsBy tm_RX8_275 (by decide) rfl rfl (by decide) rfl (Nat.le_refl _) (Nat.le_of_ble_eq_true rfl) rfl dX8_pullsBy_74 h4 (ctX8_sitsBy g6) (k_I0 ?_)
  refine r_iconst (v := 2) dX8_pullsBy_77 (by decide) ?_
  refine r_imul dX8_pullsBy_78 ?_
  obtain ⟨u7, e8, h⟩ := bnd_some h
  refine r_eqI e8 ?_
  refine r_istore dX8_pullsBy_79 (Nat.le_of_ble_eq_true rfl) [(5, .int u7), (0, .ref a0), (1, .int x1), (3, .int x3), (4, .int x4)] rfl ?_
  refine r_iload_n dX8_pullsBy_81 3 rfl ?_
  refine r_iconst (v := 2) dX8_pullsBy_82 (by decide) ?_
  refine r_icmp_eq (tgt := 91) dX8_pullsBy_83 (by decide) (fun c9 => ?_) (fun c9 => ?_)
  · rw [if_pos c9] at h
    refine r_sub [0] [(5, .int u7)] rfl ?_
    exact okX8_pullsBy_b91 h hk
  · rw [if_neg c9] at h
    refine r_iload_n dX8_pullsBy_86 3 rfl ?_
    refine r_iconst (v := 5) dX8_pullsBy_87 (by decide) ?_
    refine r_icmp_ne (tgt := 98) dX8_pullsBy_88 (by decide) (fun c10 => ?_) (fun c10 => ?_)
    · rw [if_neg c10] at h
      refine r_iload dX8_pullsBy_98 0 rfl ?_
      refine r_sub [] [] rfl ?_
      exact okX8_pullsBy_b100 h hk
    · rw [if_pos c10] at h
      refine r_sub [0] [(5, .int u7)] rfl ?_
      exact okX8_pullsBy_b91 h hk
def fX8_pullsBy_b58 (a0 : Nat) (x1 : Int32) (x3 : Int32) (x4 : Int32) (w : Wd) : Option (Int32 × Wd) :=
  chk (isO w a0 8) (ob (fX8_ran a0 30 w) (fun q2 => fX8_pullsBy_b64 a0 x1 x3 x4 q2))
set_option maxHeartbeats 1000000 in
set_option maxRecDepth 20000 in
theorem okX8_pullsBy_b58 {E : Ev} {Q : Option Value → Wd → Prop} {a0 : Nat} {x1 : Int32} {x3 : Int32} {x4 : Int32} {w : Wd} {q : Int32 × Wd} (h : fX8_pullsBy_b58 a0 x1 x3 x4 w = some q) (hk : (fun q : Int32 × Wd => Q (some (.int q.1)) q.2) q) : Runs E mX8_pullsBy (8, 0, false) Q 0 58 [(0, .ref a0), (1, .int x1), (3, .int x3), (4, .int x4)] [] w := by
  unfold fX8_pullsBy_b58 at h
  refine r_aload_n dX8_pullsBy_58 0 rfl ?_
  refine r_bipush (v := 30) dX8_pullsBy_59 (by decide) ?_
  obtain ⟨h1, h⟩ := chk_some h
  obtain ⟨q2, g3, h⟩ := ob_some h
  refine r_callV (d' := (6, 0, false)) (As := [.int 30]) (st := []) mdv_X8_ran tm_RX8_272 (by decide) rfl rfl (by decide) rfl (Nat.le_refl _) (Nat.le_of_ble_eq_true rfl) rfl dX8_pullsBy_61 h1 (ctX8_ran g3) (k_V0 ?_)
  refine r_sub [0, 1, 2, 3] [(0, .ref a0), (1, .int x1), (3, .int x3), (4, .int x4)] rfl ?_
  exact okX8_pullsBy_b64 h hk
def fX8_pullsBy_b48 (a0 : Nat) (x1 : Int32) (x3 : Int32) (x4 : Int32) (w : Wd) : Option (Int32 × Wd) :=
  if x3 = 2 then (fX8_pullsBy_b58 a0 x1 x3 x4 w) else (if x3 = 5 then (fX8_pullsBy_b58 a0 x1 x3 x4 w) else (fX8_pullsBy_b64 a0 x1 x3 x4 w))
set_option maxHeartbeats 1000000 in
set_option maxRecDepth 20000 in
theorem okX8_pullsBy_b48 {E : Ev} {Q : Option Value → Wd → Prop} {a0 : Nat} {x1 : Int32} {x3 : Int32} {x4 : Int32} {w : Wd} {q : Int32 × Wd} (h : fX8_pullsBy_b48 a0 x1 x3 x4 w = some q) (hk : (fun q : Int32 × Wd => Q (some (.int q.1)) q.2) q) : Runs E mX8_pullsBy (8, 0, false) Q 0 48 [(0, .ref a0), (1, .int x1), (3, .int x3), (4, .int x4)] [] w := by
  unfold fX8_pullsBy_b48 at h
  refine r_iload_n dX8_pullsBy_48 2 rfl ?_
  refine r_iconst (v := 2) dX8_pullsBy_49 (by decide) ?_
  refine r_icmp_eq (tgt := 58) dX8_pullsBy_50 (by decide) (fun c1 => ?_) (fun c1 => ?_)
  · rw [if_pos c1] at h
    refine r_sub [0, 1, 2, 3] [(0, .ref a0), (1, .int x1), (3, .int x3), (4, .int x4)] rfl ?_
    exact okX8_pullsBy_b58 h hk
  · rw [if_neg c1] at h
    refine r_iload_n dX8_pullsBy_53 2 rfl ?_
    refine r_iconst (v := 5) dX8_pullsBy_54 (by decide) ?_
    refine r_icmp_ne (tgt := 64) dX8_pullsBy_55 (by decide) (fun c2 => ?_) (fun c2 => ?_)
    · rw [if_neg c2] at h
      refine r_sub [0, 1, 2, 3] [(0, .ref a0), (1, .int x1), (3, .int x3), (4, .int x4)] rfl ?_
      exact okX8_pullsBy_b64 h hk
    · rw [if_pos c2] at h
      refine r_sub [0, 1, 2, 3] [(0, .ref a0), (1, .int x1), (3, .int x3), (4, .int x4)] rfl ?_
      exact okX8_pullsBy_b58 h hk
def fX8_pullsBy_b32 (a0 : Nat) (x1 : Int32) (x2 : Int32) (x3 : Int32) (x4 : Int32) (w : Wd) : Option (Int32 × Wd) :=
  if x3 = 3 then (chk (isO w a0 8) (ob (fX8_ran a0 40 w) (fun q3 => bnd (x2 + 1) (fun u5 => fX8_pullsBy_b48 a0 x1 x3 u5 q3)))) else (fX8_pullsBy_b48 a0 x1 x3 x4 w)
set_option maxHeartbeats 1000000 in
set_option maxRecDepth 20000 in
theorem okX8_pullsBy_b32 {E : Ev} {Q : Option Value → Wd → Prop} {a0 : Nat} {x1 : Int32} {x2 : Int32} {x3 : Int32} {x4 : Int32} {w : Wd} {q : Int32 × Wd} (h : fX8_pullsBy_b32 a0 x1 x2 x3 x4 w = some q) (hk : (fun q : Int32 × Wd => Q (some (.int q.1)) q.2) q) : Runs E mX8_pullsBy (8, 0, false) Q 0 32 [(0, .ref a0), (1, .int x1), (2, .int x2), (3, .int x3), (4, .int x4)] [] w := by
  unfold fX8_pullsBy_b32 at h
  refine r_iload_n dX8_pullsBy_32 3 rfl ?_
  refine r_iconst (v := 3) dX8_pullsBy_33 (by decide) ?_
  refine r_icmp_ne (tgt := 48) dX8_pullsBy_34 (by decide) (fun c1 => ?_) (fun c1 => ?_)
  · rw [if_neg c1] at h
    refine r_sub [0, 1, 3, 4] [(0, .ref a0), (1, .int x1), (3, .int x3), (4, .int x4)] rfl ?_
    exact okX8_pullsBy_b48 h hk
  · rw [if_pos c1] at h
    refine r_aload_n dX8_pullsBy_37 0 rfl ?_
    refine r_bipush (v := 40) dX8_pullsBy_38 (by decide) ?_
    obtain ⟨h2, h⟩ := chk_some h
    obtain ⟨q3, g4, h⟩ := ob_some h
    refine r_callV (d' := (6, 0, false)) (As := [.int 40]) (st := []) mdv_X8_ran tm_RX8_272 (by decide) rfl rfl (by decide) rfl (Nat.le_refl _) (Nat.le_of_ble_eq_true rfl) rfl dX8_pullsBy_40 h2 (ctX8_ran g4) (k_V0 ?_)
    refine r_iload_n dX8_pullsBy_43 2 rfl ?_
    refine r_iconst (v := 1) dX8_pullsBy_44 (by decide) ?_
    refine r_iadd dX8_pullsBy_45 ?_
    obtain ⟨u5, e6, h⟩ := bnd_some h
    refine r_eqI e6 ?_
    refine r_istore dX8_pullsBy_46 (Nat.le_of_ble_eq_true rfl) [(4, .int u5), (0, .ref a0), (1, .int x1), (2, .int x2), (3, .int x3)] rfl ?_
    refine r_sub [1, 2, 4, 0] [(0, .ref a0), (1, .int x1), (3, .int x3), (4, .int u5)] rfl ?_
    exact okX8_pullsBy_b48 h hk
def fX8_pullsBy (a0 : Nat) (x1 : Int32) (x2 : Int32) (w : Wd) : Option (Int32 × Wd) :=
  chk (isO w a0 8) (ob (wR w a0 7) (fun o2 => chk (isA w o2 0) (chk (inb x1 (wn w o2)) (bnd (wI w o2 (x1).toNatClampNeg) (fun u6 => if u6 = 6 then (ob (fX8_ran a0 71 w) (fun q9 => chk (isO q9 a0 8) (ob (wR q9 a0 8) (fun o12 => chk (isA q9 o12 0) (chk (inb x1 (wn q9 o12)) (bnd (x2 - (wI q9 o12 (x1).toNatClampNeg)) (fun u16 => fX8_pullsBy_b32 a0 x1 x2 u6 u16 q9))))))) else (fX8_pullsBy_b32 a0 x1 x2 u6 x2 w))))))
set_option maxHeartbeats 1000000 in
set_option maxRecDepth 20000 in
theorem okX8_pullsBy {E : Ev} {Q : Option Value → Wd → Prop} {a0 : Nat} {x1 : Int32} {x2 : Int32} {w : Wd} {q : Int32 × Wd} (h : fX8_pullsBy a0 x1 x2 w = some q) (hk : (fun q : Int32 × Wd => Q (some (.int q.1)) q.2) q) : Runs E mX8_pullsBy (8, 0, false) Q 0 0 [(0, .ref a0), (1, .int x1), (2, .int x2)] [] w := by
  unfold fX8_pullsBy at h
  refine r_aload_n dX8_pullsBy_0 0 rfl ?_
  obtain ⟨h1, h⟩ := chk_some h
  obtain ⟨o2, g3, h⟩ := ob_some h
  refine r_getR (fl_RX8_26 rfl) rfl dX8_pullsBy_1 h1 g3 ?_
  refine r_iload_n dX8_pullsBy_4 1 rfl ?_
  obtain ⟨h4, h⟩ := chk_some h
  obtain ⟨h5, h⟩ := chk_some h
  refine r_iaload dX8_pullsBy_5 h4 h5 ?_
  obtain ⟨u6, e7, h⟩ := bnd_some h
  refine r_eqI e7 ?_
  refine r_istore_n dX8_pullsBy_6 rfl (Nat.le_of_ble_eq_true rfl) [(3, .int u6), (0, .ref a0), (1, .int x1), (2, .int x2)] rfl ?_
  refine r_iload_n dX8_pullsBy_7 3 rfl ?_
  refine r_istore dX8_pullsBy_8 (Nat.le_of_ble_eq_true rfl) [(4, .int x2), (3, .int u6), (0, .ref a0), (1, .int x1), (2, .int x2)] rfl ?_
  refine r_iload_n dX8_pullsBy_10 1 rfl ?_
  refine r_bipush (v := 6) dX8_pullsBy_11 (by decide) ?_
  refine r_icmp_ne (tgt := 32) dX8_pullsBy_13 (by decide) (fun c8 => ?_) (fun c8 => ?_)
  · rw [if_neg c8] at h
    refine r_sub [2, 3, 4, 1, 0] [(0, .ref a0), (1, .int x1), (2, .int x2), (3, .int u6), (4, .int x2)] rfl ?_
    exact okX8_pullsBy_b32 h hk
  · rw [if_pos c8] at h
    refine r_aload_n dX8_pullsBy_16 2 rfl ?_
    refine r_bipush (v := 71) dX8_pullsBy_17 (by decide) ?_
    obtain ⟨q9, g10, h⟩ := ob_some h
    refine r_callV (d' := (6, 0, false)) (As := [.int 71]) (st := []) mdv_X8_ran tm_RX8_272 (by decide) rfl rfl (by decide) rfl (Nat.le_refl _) (Nat.le_of_ble_eq_true rfl) rfl dX8_pullsBy_19 h1 (ctX8_ran g10) (k_V0 ?_)
    refine r_iload_n dX8_pullsBy_22 4 rfl ?_
    refine r_aload_n dX8_pullsBy_23 2 rfl ?_
    obtain ⟨h11, h⟩ := chk_some h
    obtain ⟨o12, g13, h⟩ := ob_some h
    refine r_getR (fl_RX8_29 rfl) rfl dX8_pullsBy_24 h11 g13 ?_
    refine r_iload_n dX8_pullsBy_27 3 rfl ?_
    obtain ⟨h14, h⟩ := chk_some h
    obtain ⟨h15, h⟩ := chk_some h
    refine r_iaload dX8_pullsBy_28 h14 h15 ?_
    refine r_isub dX8_pullsBy_29 ?_
    obtain ⟨u16, e17, h⟩ := bnd_some h
    refine r_eqI e17 ?_
    refine r_istore dX8_pullsBy_30 (Nat.le_of_ble_eq_true rfl) [(4, .int u16), (3, .int u6), (0, .ref a0), (1, .int x1), (2, .int x2)] rfl ?_
    refine r_sub [2, 3, 4, 1, 0] [(0, .ref a0), (1, .int x1), (2, .int x2), (3, .int u6), (4, .int u16)] rfl ?_
    exact okX8_pullsBy_b32 h hk
set_option maxHeartbeats 1000000 in
set_option maxRecDepth 20000 in
theorem ctX8_pullsBy {E : Ev} {a0 : Nat} {x1 : Int32} {x2 : Int32} {w : Wd} {q : Int32 × Wd} (h : fX8_pullsBy a0 x1 x2 w = some q) : CT E mX8_pullsBy (8, 0, false) [.ref a0, .int x1, .int x2] w (QI q) := CT.of pl_RX8 (Nat.le_of_ble_eq_true rfl) (okX8_pullsBy h ⟨rfl, rfl⟩)
def fX8_fadesBy_b98 (s0 : Int32) (w : Wd) : Option (Int32 × Wd) :=
  some (s0, w)
set_option maxHeartbeats 1000000 in
set_option maxRecDepth 20000 in
theorem okX8_fadesBy_b98 {E : Ev} {Q : Option Value → Wd → Prop} {s0 : Int32} {w : Wd} {q : Int32 × Wd} (h : fX8_fadesBy_b98 s0 w = some q) (hk : (fun q : Int32 × Wd => Q (some (.int q.1)) q.2) q) : Runs E mX8_fadesBy (9, 0, false) Q 0 98 [] [.int s0] w := by
  unfold fX8_fadesBy_b98 at h
  rw [← Option.some.inj h] at hk
  exact r_ireturn dX8_fadesBy_98 rfl rfl hk
def fX8_fadesBy_b78 (x5 : Int32) (w : Wd) : Option (Int32 × Wd) :=
  fX8_fadesBy_b98 (-x5) w
set_option maxHeartbeats 1000000 in
set_option maxRecDepth 20000 in
theorem okX8_fadesBy_b78 {E : Ev} {Q : Option Value → Wd → Prop} {x5 : Int32} {w : Wd} {q : Int32 × Wd} (h : fX8_fadesBy_b78 x5 w = some q) (hk : (fun q : Int32 × Wd => Q (some (.int q.1)) q.2) q) : Runs E mX8_fadesBy (9, 0, false) Q 0 78 [(5, .int x5)] [] w := by
  unfold fX8_fadesBy_b78 at h
  refine r_iload dX8_fadesBy_78 0 rfl ?_
  refine r_ineg dX8_fadesBy_80 ?_
  refine r_goto (tgt := 98) dX8_fadesBy_81 (by decide) ?_
  refine r_sub [] [] rfl ?_
  exact okX8_fadesBy_b98 h hk
def fX8_fadesBy_b35 (a0 : Nat) (x1 : Int32) (x2 : Int32) (x3 : Int32) (w : Wd) : Option (Int32 × Wd) :=
  chk (isO w a0 8) (ob (fX8_ran a0 12 w) (fun q2 => chk (isO q2 a0 8) (ob (fX8_pullsBy a0 x1 x2 q2) (fun q5 => chk (isO q5.2 a0 8) (ob (wR q5.2 a0 8) (fun o8 => chk (isA q5.2 o8 0) (chk (inb x1 (wn q5.2 o8)) (ob (fX8_sitsBy a0 x1 (x2 - (wI q5.2 o8 (x1).toNatClampNeg)) q5.2) (fun q12 => bnd (q5.1 ^^^ q12.1) (fun u14 => if x3 = 4 then (fX8_fadesBy_b78 u14 q12.2) else (if x3 = 6 then (fX8_fadesBy_b78 u14 q12.2) else (if x3 = 5 then (fX8_fadesBy_b98 (u14 ^^^ 5) q12.2) else (fX8_fadesBy_b98 u14 q12.2)))))))))))))
set_option maxHeartbeats 1000000 in
set_option maxRecDepth 20000 in
theorem okX8_fadesBy_b35 {E : Ev} {Q : Option Value → Wd → Prop} {a0 : Nat} {x1 : Int32} {x2 : Int32} {x3 : Int32} {w : Wd} {q : Int32 × Wd} (h : fX8_fadesBy_b35 a0 x1 x2 x3 w = some q) (hk : (fun q : Int32 × Wd => Q (some (.int q.1)) q.2) q) : Runs E mX8_fadesBy (9, 0, false) Q 0 35 [(0, .ref a0), (1, .int x1), (2, .int x2), (3, .int x3)] [] w := by
  unfold fX8_fadesBy_b35 at h
  refine r_aload_n dX8_fadesBy_35 0 rfl ?_
  refine r_bipush (v := 12) dX8_fadesBy_36 (by decide) ?_
  obtain ⟨h1, h⟩ := chk_some h
  obtain ⟨q2, g3, h⟩ := ob_some h
  refine r_callV (d' := (6, 0, false)) (As := [.int 12]) (st := []) mdv_X8_ran tm_RX8_272 (by decide) rfl rfl (by decide) rfl (Nat.le_refl _) (Nat.le_of_ble_eq_true rfl) rfl dX8_fadesBy_38 h1 (ctX8_ran g3) (k_V0 ?_)
  refine r_aload_n dX8_fadesBy_41 0 rfl ?_
  refine r_iload_n dX8_fadesBy_42 1 rfl ?_
  refine r_iload_n dX8_fadesBy_43 2 rfl ?_
  obtain ⟨h4, h⟩ := chk_some h
  obtain ⟨q5, g6, h⟩ := ob_some h
  refine r_callV (d' := (8, 0, false)) (As := [.int x1, .int x2]) (st := []) mdv_X8_pullsBy tm_RX8_278 (by decide) rfl rfl (by decide) rfl (Nat.le_refl _) (Nat.le_of_ble_eq_true rfl) rfl dX8_fadesBy_44 h4 (ctX8_pullsBy g6) (k_I0 ?_)
  refine r_istore dX8_fadesBy_47 (Nat.le_of_ble_eq_true rfl) [(4, .int q5.1), (0, .ref a0), (1, .int x1), (2, .int x2), (3, .int x3)] rfl ?_
  refine r_iload dX8_fadesBy_49 0 rfl ?_
  refine r_aload_n dX8_fadesBy_51 1 rfl ?_
  refine r_iload_n dX8_fadesBy_52 2 rfl ?_
  refine r_iload_n dX8_fadesBy_53 3 rfl ?_
  refine r_aload_n dX8_fadesBy_54 1 rfl ?_
  obtain ⟨h7, h⟩ := chk_some h
  obtain ⟨o8, g9, h⟩ := ob_some h
  refine r_getR (fl_RX8_29 rfl) rfl dX8_fadesBy_55 h7 g9 ?_
  refine r_iload_n dX8_fadesBy_58 2 rfl ?_
  obtain ⟨h10, h⟩ := chk_some h
  obtain ⟨h11, h⟩ := chk_some h
  refine r_iaload dX8_fadesBy_59 h10 h11 ?_
  refine r_isub dX8_fadesBy_60 ?_
  obtain ⟨q12, g13, h⟩ := ob_some h
  refine r_callV (d' := (7, 0, false)) (As := [.int x1, .int (x2 - (wI q5.2 o8 (x1).toNatClampNeg))]) (st := [.int q5.1]) mdv_X8_sitsBy tm_RX8_275 (by decide) rfl rfl (by decide) rfl (Nat.le_refl _) (Nat.le_of_ble_eq_true rfl) rfl dX8_fadesBy_61 h7 (ctX8_sitsBy g13) (k_I0 ?_)
  refine r_ixor dX8_fadesBy_64 ?_
  obtain ⟨u14, e15, h⟩ := bnd_some h
  refine r_eqI e15 ?_
  refine r_istore dX8_fadesBy_65 (Nat.le_of_ble_eq_true rfl) [(5, .int u14), (4, .int q5.1), (0, .ref a0), (1, .int x1), (2, .int x2), (3, .int x3)] rfl ?_
  refine r_iload_n dX8_fadesBy_67 5 rfl ?_
  refine r_iconst (v := 4) dX8_fadesBy_68 (by decide) ?_
  refine r_icmp_eq (tgt := 78) dX8_fadesBy_69 (by decide) (fun c16 => ?_) (fun c16 => ?_)
  · rw [if_pos c16] at h
    refine r_sub [0] [(5, .int u14)] rfl ?_
    exact okX8_fadesBy_b78 h hk
  · rw [if_neg c16] at h
    refine r_iload_n dX8_fadesBy_72 5 rfl ?_
    refine r_bipush (v := 6) dX8_fadesBy_73 (by decide) ?_
    refine r_icmp_ne (tgt := 84) dX8_fadesBy_75 (by decide) (fun c17 => ?_) (fun c17 => ?_)
    · rw [if_neg c17] at h
      refine r_iload_n dX8_fadesBy_84 5 rfl ?_
      refine r_iconst (v := 5) dX8_fadesBy_85 (by decide) ?_
      refine r_icmp_ne (tgt := 96) dX8_fadesBy_86 (by decide) (fun c18 => ?_) (fun c18 => ?_)
      · rw [if_neg c18] at h
        refine r_iload dX8_fadesBy_96 0 rfl ?_
        refine r_sub [] [] rfl ?_
        exact okX8_fadesBy_b98 h hk
      · rw [if_pos c18] at h
        refine r_iload dX8_fadesBy_89 0 rfl ?_
        refine r_iconst (v := 5) dX8_fadesBy_91 (by decide) ?_
        refine r_ixor dX8_fadesBy_92 ?_
        refine r_goto (tgt := 98) dX8_fadesBy_93 (by decide) ?_
        refine r_sub [] [] rfl ?_
        exact okX8_fadesBy_b98 h hk
    · rw [if_pos c17] at h
      refine r_sub [0] [(5, .int u14)] rfl ?_
      exact okX8_fadesBy_b78 h hk
def fX8_fadesBy_b24 (a0 : Nat) (x1 : Int32) (x2 : Int32) (x3 : Int32) (w : Wd) : Option (Int32 × Wd) :=
  if x3 = 5 then (chk (isO w a0 8) (ob (fX8_ran a0 60 w) (fun q3 => fX8_fadesBy_b35 a0 x1 x2 x3 q3))) else (fX8_fadesBy_b35 a0 x1 x2 x3 w)
set_option maxHeartbeats 1000000 in
set_option maxRecDepth 20000 in
theorem okX8_fadesBy_b24 {E : Ev} {Q : Option Value → Wd → Prop} {a0 : Nat} {x1 : Int32} {x2 : Int32} {x3 : Int32} {w : Wd} {q : Int32 × Wd} (h : fX8_fadesBy_b24 a0 x1 x2 x3 w = some q) (hk : (fun q : Int32 × Wd => Q (some (.int q.1)) q.2) q) : Runs E mX8_fadesBy (9, 0, false) Q 0 24 [(0, .ref a0), (1, .int x1), (2, .int x2), (3, .int x3)] [] w := by
  unfold fX8_fadesBy_b24 at h
  refine r_iload_n dX8_fadesBy_24 3 rfl ?_
  refine r_iconst (v := 5) dX8_fadesBy_25 (by decide) ?_
  refine r_icmp_ne (tgt := 35) dX8_fadesBy_26 (by decide) (fun c1 => ?_) (fun c1 => ?_)
  · rw [if_neg c1] at h
    refine r_sub [0, 1, 2, 3] [(0, .ref a0), (1, .int x1), (2, .int x2), (3, .int x3)] rfl ?_
    exact okX8_fadesBy_b35 h hk
  · rw [if_pos c1] at h
    refine r_aload_n dX8_fadesBy_29 0 rfl ?_
    refine r_bipush (v := 60) dX8_fadesBy_30 (by decide) ?_
    obtain ⟨h2, h⟩ := chk_some h
    obtain ⟨q3, g4, h⟩ := ob_some h
    refine r_callV (d' := (6, 0, false)) (As := [.int 60]) (st := []) mdv_X8_ran tm_RX8_272 (by decide) rfl rfl (by decide) rfl (Nat.le_refl _) (Nat.le_of_ble_eq_true rfl) rfl dX8_fadesBy_32 h2 (ctX8_ran g4) (k_V0 ?_)
    refine r_sub [0, 1, 2, 3] [(0, .ref a0), (1, .int x1), (2, .int x2), (3, .int x3)] rfl ?_
    exact okX8_fadesBy_b35 h hk
def fX8_fadesBy_b18 (a0 : Nat) (x1 : Int32) (x2 : Int32) (x3 : Int32) (w : Wd) : Option (Int32 × Wd) :=
  chk (isO w a0 8) (ob (fX8_ran a0 50 w) (fun q2 => fX8_fadesBy_b24 a0 x1 x2 x3 q2))
set_option maxHeartbeats 1000000 in
set_option maxRecDepth 20000 in
theorem okX8_fadesBy_b18 {E : Ev} {Q : Option Value → Wd → Prop} {a0 : Nat} {x1 : Int32} {x2 : Int32} {x3 : Int32} {w : Wd} {q : Int32 × Wd} (h : fX8_fadesBy_b18 a0 x1 x2 x3 w = some q) (hk : (fun q : Int32 × Wd => Q (some (.int q.1)) q.2) q) : Runs E mX8_fadesBy (9, 0, false) Q 0 18 [(0, .ref a0), (1, .int x1), (2, .int x2), (3, .int x3)] [] w := by
  unfold fX8_fadesBy_b18 at h
  refine r_aload_n dX8_fadesBy_18 0 rfl ?_
  refine r_bipush (v := 50) dX8_fadesBy_19 (by decide) ?_
  obtain ⟨h1, h⟩ := chk_some h
  obtain ⟨q2, g3, h⟩ := ob_some h
  refine r_callV (d' := (6, 0, false)) (As := [.int 50]) (st := []) mdv_X8_ran tm_RX8_272 (by decide) rfl rfl (by decide) rfl (Nat.le_refl _) (Nat.le_of_ble_eq_true rfl) rfl dX8_fadesBy_21 h1 (ctX8_ran g3) (k_V0 ?_)
  refine r_sub [0, 1, 2, 3] [(0, .ref a0), (1, .int x1), (2, .int x2), (3, .int x3)] rfl ?_
  exact okX8_fadesBy_b24 h hk
def fX8_fadesBy (a0 : Nat) (x1 : Int32) (x2 : Int32) (w : Wd) : Option (Int32 × Wd) :=
  chk (isO w a0 8) (ob (wR w a0 7) (fun o2 => chk (isA w o2 0) (chk (inb x1 (wn w o2)) (bnd (wI w o2 (x1).toNatClampNeg) (fun u6 => if u6 = 4 then (fX8_fadesBy_b18 a0 x1 x2 u6 w) else (if u6 = 6 then (fX8_fadesBy_b18 a0 x1 x2 u6 w) else (fX8_fadesBy_b24 a0 x1 x2 u6 w)))))))
set_option maxHeartbeats 1000000 in
set_option maxRecDepth 20000 in
theorem okX8_fadesBy {E : Ev} {Q : Option Value → Wd → Prop} {a0 : Nat} {x1 : Int32} {x2 : Int32} {w : Wd} {q : Int32 × Wd} (h : fX8_fadesBy a0 x1 x2 w = some q) (hk : (fun q : Int32 × Wd => Q (some (.int q.1)) q.2) q) : Runs E mX8_fadesBy (9, 0, false) Q 0 0 [(0, .ref a0), (1, .int x1), (2, .int x2)] [] w := by
  unfold fX8_fadesBy at h
  refine r_aload_n dX8_fadesBy_0 0 rfl ?_
  obtain ⟨h1, h⟩ := chk_some h
  obtain ⟨o2, g3, h⟩ := ob_some h
  refine r_getR (fl_RX8_26 rfl) rfl dX8_fadesBy_1 h1 g3 ?_
  refine r_iload_n dX8_fadesBy_4 1 rfl ?_
  obtain ⟨h4, h⟩ := chk_some h
  obtain ⟨h5, h⟩ := chk_some h
  refine r_iaload dX8_fadesBy_5 h4 h5 ?_
  obtain ⟨u6, e7, h⟩ := bnd_some h
  refine r_eqI e7 ?_
  refine r_istore_n dX8_fadesBy_6 rfl (Nat.le_of_ble_eq_true rfl) [(3, .int u6), (0, .ref a0), (1, .int x1), (2, .int x2)] rfl ?_
  refine r_iload_n dX8_fadesBy_7 0 rfl ?_
  refine r_iconst (v := 4) dX8_fadesBy_8 (by decide) ?_
  refine r_icmp_eq (tgt := 18) dX8_fadesBy_9 (by decide) (fun c8 => ?_) (fun c8 => ?_)
  · rw [if_pos c8] at h
    refine r_sub [1, 2, 3, 0] [(0, .ref a0), (1, .int x1), (2, .int x2), (3, .int u6)] rfl ?_
    exact okX8_fadesBy_b18 h hk
  · rw [if_neg c8] at h
    refine r_iload_n dX8_fadesBy_12 0 rfl ?_
    refine r_bipush (v := 6) dX8_fadesBy_13 (by decide) ?_
    refine r_icmp_ne (tgt := 24) dX8_fadesBy_15 (by decide) (fun c9 => ?_) (fun c9 => ?_)
    · rw [if_neg c9] at h
      refine r_sub [1, 2, 3, 0] [(0, .ref a0), (1, .int x1), (2, .int x2), (3, .int u6)] rfl ?_
      exact okX8_fadesBy_b24 h hk
    · rw [if_pos c9] at h
      refine r_sub [1, 2, 3, 0] [(0, .ref a0), (1, .int x1), (2, .int x2), (3, .int u6)] rfl ?_
      exact okX8_fadesBy_b18 h hk
set_option maxHeartbeats 1000000 in
set_option maxRecDepth 20000 in
theorem ctX8_fadesBy {E : Ev} {a0 : Nat} {x1 : Int32} {x2 : Int32} {w : Wd} {q : Int32 × Wd} (h : fX8_fadesBy a0 x1 x2 w = some q) : CT E mX8_fadesBy (9, 0, false) [.ref a0, .int x1, .int x2] w (QI q) := CT.of pl_RX8 (Nat.le_of_ble_eq_true rfl) (okX8_fadesBy h ⟨rfl, rfl⟩)
def fX8_within_b15 (s0 : Int32) (w : Wd) : Option (Int32 × Wd) :=
  chk (s0 = 0 ∨ s0 = 1) (some (s0, w))
set_option maxHeartbeats 1000000 in
set_option maxRecDepth 20000 in
theorem okX8_within_b15 {E : Ev} {Q : Option Value → Wd → Prop} {s0 : Int32} {w : Wd} {q : Int32 × Wd} (h : fX8_within_b15 s0 w = some q) (hk : (fun q : Int32 × Wd => Q (some (.int q.1)) q.2) q) : Runs E mX8_within (6, 0, false) Q 0 15 [] [.int s0] w := by
  unfold fX8_within_b15 at h
  obtain ⟨h1, h⟩ := chk_some h
  rw [← Option.some.inj h] at hk
  exact r_ireturn dX8_within_15 rfl (nb h1) hk
def fX8_within_b14 (w : Wd) : Option (Int32 × Wd) :=
  fX8_within_b15 0 w
set_option maxHeartbeats 1000000 in
set_option maxRecDepth 20000 in
theorem okX8_within_b14 {E : Ev} {Q : Option Value → Wd → Prop} {w : Wd} {q : Int32 × Wd} (h : fX8_within_b14 w = some q) (hk : (fun q : Int32 × Wd => Q (some (.int q.1)) q.2) q) : Runs E mX8_within (6, 0, false) Q 0 14 [] [] w := by
  unfold fX8_within_b14 at h
  refine r_iconst (v := 0) dX8_within_14 (by decide) ?_
  refine r_sub [] [] rfl ?_
  exact okX8_within_b15 h hk
def fX8_within (x0 : Int32) (x1 : Int32) (x2 : Int32) (w : Wd) : Option (Int32 × Wd) :=
  if x0 < x1 then (fX8_within_b14 w) else (if x2 < x0 then (fX8_within_b14 w) else (fX8_within_b15 1 w))
set_option maxHeartbeats 1000000 in
set_option maxRecDepth 20000 in
theorem okX8_within {E : Ev} {Q : Option Value → Wd → Prop} {x0 : Int32} {x1 : Int32} {x2 : Int32} {w : Wd} {q : Int32 × Wd} (h : fX8_within x0 x1 x2 w = some q) (hk : (fun q : Int32 × Wd => Q (some (.int q.1)) q.2) q) : Runs E mX8_within (6, 0, false) Q 0 0 [(0, .int x0), (1, .int x1), (2, .int x2)] [] w := by
  unfold fX8_within at h
  refine r_iload_n dX8_within_0 0 rfl ?_
  refine r_iload_n dX8_within_1 1 rfl ?_
  refine r_icmp_lt (tgt := 14) dX8_within_2 (by decide) (fun c1 => ?_) (fun c1 => ?_)
  · rw [if_pos c1] at h
    refine r_sub [] [] rfl ?_
    exact okX8_within_b14 h hk
  · rw [if_neg c1] at h
    refine r_iload_n dX8_within_5 0 rfl ?_
    refine r_iload_n dX8_within_6 2 rfl ?_
    refine r_icmp_gt (tgt := 14) dX8_within_7 (by decide) (fun c2 => ?_) (fun c2 => ?_)
    · rw [if_pos c2] at h
      refine r_sub [] [] rfl ?_
      exact okX8_within_b14 h hk
    · rw [if_neg c2] at h
      refine r_iconst (v := 1) dX8_within_10 (by decide) ?_
      refine r_goto (tgt := 15) dX8_within_11 (by decide) ?_
      refine r_sub [] [] rfl ?_
      exact okX8_within_b15 h hk
set_option maxHeartbeats 1000000 in
set_option maxRecDepth 20000 in
theorem ctX8_within {E : Ev} {x0 : Int32} {x1 : Int32} {x2 : Int32} {w : Wd} {q : Int32 × Wd} (h : fX8_within x0 x1 x2 w = some q) : CT E mX8_within (6, 0, false) [.int x0, .int x1, .int x2] w (QI q) := CT.of pl_RX8 (Nat.le_of_ble_eq_true rfl) (okX8_within h ⟨rfl, rfl⟩)
def fX8_isGarment (a0 : Nat) (x1 : Int32) (w : Wd) : Option (Int32 × Wd) :=
  chk (isO w a0 8) (ob (fX8_within x1 0 ((wI w a0 6) - 1) w) (fun q2 => chk (q2.1 = 0 ∨ q2.1 = 1) (some (q2.1, q2.2))))
set_option maxHeartbeats 1000000 in
set_option maxRecDepth 20000 in
theorem okX8_isGarment {E : Ev} {Q : Option Value → Wd → Prop} {a0 : Nat} {x1 : Int32} {w : Wd} {q : Int32 × Wd} (h : fX8_isGarment a0 x1 w = some q) (hk : (fun q : Int32 × Wd => Q (some (.int q.1)) q.2) q) : Runs E mX8_isGarment (7, 0, false) Q 0 0 [(0, .ref a0), (1, .int x1)] [] w := by
  unfold fX8_isGarment at h
  refine r_iload_n dX8_isGarment_0 1 rfl ?_
  refine r_iconst (v := 0) dX8_isGarment_1 (by decide) ?_
  refine r_aload_n dX8_isGarment_2 0 rfl ?_
  obtain ⟨h1, h⟩ := chk_some h
  refine r_getI (fl_RX8_76 rfl) rfl dX8_isGarment_3 h1 ?_
  refine r_iconst (v := 1) dX8_isGarment_6 (by decide) ?_
  refine r_isub dX8_isGarment_7 ?_
  obtain ⟨q2, g3, h⟩ := ob_some h
  refine r_callS (d' := (6, 0, false)) (As := [.int x1, .int 0, .int ((wI w a0 6) - 1)]) (st := []) mds_X8_within tm_RX8_79 rfl (by decide) rfl (Nat.le_refl _) (Nat.le_of_ble_eq_true rfl) rfl dX8_isGarment_8 (ctX8_within g3) (k_I0 ?_)
  obtain ⟨h4, h⟩ := chk_some h
  rw [← Option.some.inj h] at hk
  exact r_ireturn dX8_isGarment_11 rfl (nb h4) hk
set_option maxHeartbeats 1000000 in
set_option maxRecDepth 20000 in
theorem ctX8_isGarment {E : Ev} {a0 : Nat} {x1 : Int32} {w : Wd} {q : Int32 × Wd} (h : fX8_isGarment a0 x1 w = some q) : CT E mX8_isGarment (7, 0, false) [.ref a0, .int x1] w (QI q) := CT.of pl_RX8 (Nat.le_of_ble_eq_true rfl) (okX8_isGarment h ⟨rfl, rfl⟩)
def fX8_act_b22 (w : Wd) : Option (Int32 × Wd) :=
  some (0, w)
set_option maxHeartbeats 1000000 in
set_option maxRecDepth 20000 in
theorem okX8_act_b22 {E : Ev} {Q : Option Value → Wd → Prop} {w : Wd} {q : Int32 × Wd} (h : fX8_act_b22 w = some q) (hk : (fun q : Int32 × Wd => Q (some (.int q.1)) q.2) q) : Runs E mX8_act (10, 0, false) Q 0 22 [] [] w := by
  unfold fX8_act_b22 at h
  refine r_iconst (v := 0) dX8_act_22 (by decide) ?_
  rw [← Option.some.inj h] at hk
  exact r_ireturn dX8_act_23 rfl rfl hk
def fX8_act_b57 (s0 : Int32) (w : Wd) : Option (Int32 × Wd) :=
  some (s0, w)
set_option maxHeartbeats 1000000 in
set_option maxRecDepth 20000 in
theorem okX8_act_b57 {E : Ev} {Q : Option Value → Wd → Prop} {s0 : Int32} {w : Wd} {q : Int32 × Wd} (h : fX8_act_b57 s0 w = some q) (hk : (fun q : Int32 × Wd => Q (some (.int q.1)) q.2) q) : Runs E mX8_act (10, 0, false) Q 0 57 [] [.int s0] w := by
  unfold fX8_act_b57 at h
  rw [← Option.some.inj h] at hk
  exact r_ireturn dX8_act_57 rfl rfl hk
def fX8_act (a0 : Nat) (x1 : Int32) (x2 : Int32) (x3 : Int32) (w : Wd) : Option (Int32 × Wd) :=
  chk (isO w a0 8) (bnd (sI w a0 16 0) (fun w2 => chk (isO w2 a0 8) (ob (fX8_isGarment a0 x1 w2) (fun q5 => if q5.1 = 0 then (fX8_act_b22 q5.2) else (ob (fX8_within x2 0 2 q5.2) (fun q8 => if q8.1 = 0 then (fX8_act_b22 q8.2) else (if x2 = 0 then (chk (isO q8.2 a0 8) (ob (fX8_sitsBy a0 x1 x3 q8.2) (fun q20 => fX8_act_b57 q20.1 q20.2))) else (if x2 = 1 then (chk (isO q8.2 a0 8) (ob (fX8_pullsBy a0 x1 x3 q8.2) (fun q17 => fX8_act_b57 q17.1 q17.2))) else (chk (isO q8.2 a0 8) (ob (fX8_fadesBy a0 x1 x3 q8.2) (fun q14 => fX8_act_b57 q14.1 q14.2)))))))))))
set_option maxHeartbeats 1000000 in
set_option maxRecDepth 20000 in
theorem okX8_act {E : Ev} {Q : Option Value → Wd → Prop} {a0 : Nat} {x1 : Int32} {x2 : Int32} {x3 : Int32} {w : Wd} {q : Int32 × Wd} (h : fX8_act a0 x1 x2 x3 w = some q) (hk : (fun q : Int32 × Wd => Q (some (.int q.1)) q.2) q) : Runs E mX8_act (10, 0, false) Q 0 0 [(0, .ref a0), (1, .int x1), (2, .int x2), (3, .int x3)] [] w := by
  unfold fX8_act at h
  refine r_aload_n dX8_act_0 0 rfl ?_
  refine r_iconst (v := 0) dX8_act_1 (by decide) ?_
  obtain ⟨h1, h⟩ := chk_some h
  obtain ⟨w2, e3, h⟩ := bnd_some h
  refine r_putI (fl_RX8_269 rfl) rfl rfl (ck_ty (by decide) 16 (by decide)) rfl rfl dX8_act_2 h1 ?_
  refine r_eqW e3 ?_
  refine r_aload_n dX8_act_5 0 rfl ?_
  refine r_iload_n dX8_act_6 1 rfl ?_
  obtain ⟨h4, h⟩ := chk_some h
  obtain ⟨q5, g6, h⟩ := ob_some h
  refine r_callV (d' := (7, 0, false)) (As := [.int x1]) (st := []) mdv_X8_isGarment tm_RX8_93 (by decide) rfl rfl (by decide) rfl (Nat.le_refl _) (Nat.le_of_ble_eq_true rfl) rfl dX8_act_7 h4 (ctX8_isGarment g6) (k_I0 ?_)
  refine r_if_eq (tgt := 22) dX8_act_10 (by decide) (fun c7 => ?_) (fun c7 => ?_)
  · rw [if_pos c7] at h
    refine r_sub [] [] rfl ?_
    exact okX8_act_b22 h hk
  · rw [if_neg c7] at h
    refine r_iload_n dX8_act_13 2 rfl ?_
    refine r_iconst (v := 0) dX8_act_14 (by decide) ?_
    refine r_iconst (v := 2) dX8_act_15 (by decide) ?_
    obtain ⟨q8, g9, h⟩ := ob_some h
    refine r_callS (d' := (6, 0, false)) (As := [.int x2, .int 0, .int 2]) (st := []) mds_X8_within tm_RX8_79 rfl (by decide) rfl (Nat.le_refl _) (Nat.le_of_ble_eq_true rfl) rfl dX8_act_16 (ctX8_within g9) (k_I0 ?_)
    refine r_if_ne (tgt := 24) dX8_act_19 (by decide) (fun c10 => ?_) (fun c10 => ?_)
    · rw [if_neg c10] at h
      refine r_iload_n dX8_act_24 2 rfl ?_
      refine r_if_ne (tgt := 37) dX8_act_25 (by decide) (fun c11 => ?_) (fun c11 => ?_)
      · rw [if_neg c11] at h
        refine r_iload_n dX8_act_37 2 rfl ?_
        refine r_iconst (v := 1) dX8_act_38 (by decide) ?_
        refine r_icmp_ne (tgt := 51) dX8_act_39 (by decide) (fun c12 => ?_) (fun c12 => ?_)
        · rw [if_neg c12] at h
          refine r_aload_n dX8_act_51 0 rfl ?_
          refine r_iload_n dX8_act_52 1 rfl ?_
          refine r_iload_n dX8_act_53 3 rfl ?_
          obtain ⟨h13, h⟩ := chk_some h
          obtain ⟨q14, g15, h⟩ := ob_some h
          refine r_callV (d' := (9, 0, false)) (As := [.int x1, .int x3]) (st := []) mdv_X8_fadesBy tm_RX8_281 (by decide) rfl rfl (by decide) rfl (Nat.le_refl _) (Nat.le_of_ble_eq_true rfl) rfl dX8_act_54 h13 (ctX8_fadesBy g15) (k_I0 ?_)
          refine r_sub [] [] rfl ?_
          exact okX8_act_b57 h hk
        · rw [if_pos c12] at h
          refine r_aload_n dX8_act_42 0 rfl ?_
          refine r_iload_n dX8_act_43 1 rfl ?_
          refine r_iload_n dX8_act_44 3 rfl ?_
          obtain ⟨h16, h⟩ := chk_some h
          obtain ⟨q17, g18, h⟩ := ob_some h
          refine r_callV (d' := (8, 0, false)) (As := [.int x1, .int x3]) (st := []) mdv_X8_pullsBy tm_RX8_278 (by decide) rfl rfl (by decide) rfl (Nat.le_refl _) (Nat.le_of_ble_eq_true rfl) rfl dX8_act_45 h16 (ctX8_pullsBy g18) (k_I0 ?_)
          refine r_goto (tgt := 57) dX8_act_48 (by decide) ?_
          refine r_sub [] [] rfl ?_
          exact okX8_act_b57 h hk
      · rw [if_pos c11] at h
        refine r_aload_n dX8_act_28 0 rfl ?_
        refine r_iload_n dX8_act_29 1 rfl ?_
        refine r_iload_n dX8_act_30 3 rfl ?_
        obtain ⟨h19, h⟩ := chk_some h
        obtain ⟨q20, g21, h⟩ := ob_some h
        refine r_callV (d' := (7, 0, false)) (As := [.int x1, .int x3]) (st := []) mdv_X8_sitsBy tm_RX8_275 (by decide) rfl rfl (by decide) rfl (Nat.le_refl _) (Nat.le_of_ble_eq_true rfl) rfl dX8_act_31 h19 (ctX8_sitsBy g21) (k_I0 ?_)
        refine r_goto (tgt := 57) dX8_act_34 (by decide) ?_
        refine r_sub [] [] rfl ?_
        exact okX8_act_b57 h hk
    · rw [if_pos c10] at h
      refine r_sub [] [] rfl ?_
      exact okX8_act_b22 h hk
set_option maxHeartbeats 1000000 in
set_option maxRecDepth 20000 in
theorem ctX8_act {E : Ev} {a0 : Nat} {x1 : Int32} {x2 : Int32} {x3 : Int32} {w : Wd} {q : Int32 × Wd} (h : fX8_act a0 x1 x2 x3 w = some q) : CT E mX8_act (10, 0, false) [.ref a0, .int x1, .int x2, .int x3] w (QI q) := CT.of pl_RX8 (Nat.le_of_ble_eq_true rfl) (okX8_act h ⟨rfl, rfl⟩)
def PX8_again_L2 (E : Ev) (Q : Option Value → Wd → Prop) (a0 : Nat) (a1 : Nat) (s : Int32 × Wd) : Prop := Runs E mX8_again (6, 0, false) Q 0 2 [(0, .ref a0), (1, .ref a1), (2, .int s.1)] [] s.2
def PX8_again_L49 (E : Ev) (Q : Option Value → Wd → Prop) (a0 : Nat) (a1 : Nat) (s : Int32 × Wd) : Prop := Runs E mX8_again (6, 0, false) Q 0 49 [(0, .ref a0), (1, .ref a1), (2, .int s.1)] [] s.2
def PX8_again_L87 (E : Ev) (Q : Option Value → Wd → Prop) (a0 : Nat) (a1 : Nat) (s : Int32 × Wd) : Prop := Runs E mX8_again (6, 0, false) Q 0 87 [(0, .ref a0), (1, .ref a1), (2, .int s.1)] [] s.2
def PX8_again_L114 (E : Ev) (Q : Option Value → Wd → Prop) (a0 : Nat) (a1 : Nat) (s : Int32 × Wd) : Prop := Runs E mX8_again (6, 0, false) Q 0 114 [(0, .ref a0), (1, .ref a1), (2, .int s.1)] [] s.2
def fX8_again_L114_body (a0 : Nat) (a1 : Nat) (s : Int32 × Wd) : Option ((Int32 × Wd) ⊕ (Wd)) :=
  if (6 : Int32) ≤ s.1 then (wr (chk (isA s.2 a1 0) (chk (inb 294 (wn s.2 a1)) (chk (isO s.2 a0 8) (bnd (sI s.2 a0 3 (wI s.2 a1 (294 : Int32).toNatClampNeg)) (fun w6 => chk (isA w6 a1 0) (chk (inb 295 (wn w6 a1)) (chk (isO w6 a0 8) (bnd (sI w6 a0 6 (wI w6 a1 (295 : Int32).toNatClampNeg)) (fun w11 => chk (isA w11 a1 0) (chk (inb 296 (wn w11 a1)) (chk (isO w11 a0 8) (bnd (sI w11 a0 12 (wI w11 a1 (296 : Int32).toNatClampNeg)) (fun w16 => chk (isA w16 a1 0) (chk (inb 297 (wn w16 a1)) (chk (isO w16 a0 8) (bnd (sI w16 a0 13 (wI w16 a1 (297 : Int32).toNatClampNeg)) (fun w21 => some w21)))))))))))))))))) else (chk (isO s.2 a0 8) (ob (wR s.2 a0 4) (fun o24 => chk (isA s.2 a1 0) (chk (inb (288 + s.1) (wn s.2 a1)) (chk (isA s.2 o24 0) (chk (inb s.1 (wn s.2 o24)) (bnd (sI s.2 o24 (s.1).toNatClampNeg (wI s.2 a1 ((288 + s.1)).toNatClampNeg)) (fun w30 => some (.inl ((s.1 + 1), w30))))))))))
set_option maxHeartbeats 1000000 in
set_option maxRecDepth 20000 in
theorem okX8_again_L114_body {E : Ev} {Q : Option Value → Wd → Prop} {a0 : Nat} {a1 : Nat} {s : Int32 × Wd} {r : (Int32 × Wd) ⊕ (Wd)} (h : fX8_again_L114_body a0 a1 s = some r) (hk : (Sum.elim (PX8_again_L114 E Q a0 a1) (fun q : Wd => Q none q)) r) : PX8_again_L114 E Q a0 a1 s := by
  unfold fX8_again_L114_body at h
  unfold PX8_again_L114
  refine r_iload_n dX8_again_114 2 rfl ?_
  refine r_bipush (v := 6) dX8_again_115 (by decide) ?_
  refine r_icmp_ge (tgt := 139) dX8_again_117 (by decide) (fun c1 => ?_) (fun c1 => ?_)
  · rw [if_pos c1] at h
    obtain ⟨r2, hr, h⟩ := wr_some h
    rw [hr] at hk
    refine r_aload_n dX8_again_139 0 rfl ?_
    refine r_aload_n dX8_again_140 1 rfl ?_
    refine r_sipush (v := 294) dX8_again_141 (by decide) ?_
    obtain ⟨h3, h⟩ := chk_some h
    obtain ⟨h4, h⟩ := chk_some h
    refine r_iaload dX8_again_144 h3 h4 ?_
    obtain ⟨h5, h⟩ := chk_some h
    obtain ⟨w6, e7, h⟩ := bnd_some h
    refine r_putI (fl_RX8_83 rfl) rfl rfl (ck_ty (by decide) 3 (by decide)) rfl rfl dX8_again_145 h5 ?_
    refine r_eqW e7 ?_
    refine r_aload_n dX8_again_148 0 rfl ?_
    refine r_aload_n dX8_again_149 1 rfl ?_
    refine r_sipush (v := 295) dX8_again_150 (by decide) ?_
    obtain ⟨h8, h⟩ := chk_some h
    obtain ⟨h9, h⟩ := chk_some h
    refine r_iaload dX8_again_153 h8 h9 ?_
    obtain ⟨h10, h⟩ := chk_some h
    obtain ⟨w11, e12, h⟩ := bnd_some h
    refine r_putI (fl_RX8_76 rfl) rfl rfl (ck_ty (by decide) 6 (by decide)) rfl rfl dX8_again_154 h10 ?_
    refine r_eqW e12 ?_
    refine r_aload_n dX8_again_157 0 rfl ?_
    refine r_aload_n dX8_again_158 1 rfl ?_
    refine r_sipush (v := 296) dX8_again_159 (by decide) ?_
    obtain ⟨h13, h⟩ := chk_some h
    obtain ⟨h14, h⟩ := chk_some h
    refine r_iaload dX8_again_162 h13 h14 ?_
    obtain ⟨h15, h⟩ := chk_some h
    obtain ⟨w16, e17, h⟩ := bnd_some h
    refine r_putI (fl_RX8_224 rfl) rfl rfl (ck_ty (by decide) 12 (by decide)) rfl rfl dX8_again_163 h15 ?_
    refine r_eqW e17 ?_
    refine r_aload_n dX8_again_166 0 rfl ?_
    refine r_aload_n dX8_again_167 1 rfl ?_
    refine r_sipush (v := 297) dX8_again_168 (by decide) ?_
    obtain ⟨h18, h⟩ := chk_some h
    obtain ⟨h19, h⟩ := chk_some h
    refine r_iaload dX8_again_171 h18 h19 ?_
    obtain ⟨h20, h⟩ := chk_some h
    obtain ⟨w21, e22, h⟩ := bnd_some h
    refine r_putI (fl_RX8_65 rfl) rfl rfl (ck_ty (by decide) 13 (by decide)) rfl rfl dX8_again_172 h20 ?_
    refine r_eqW e22 ?_
    rw [← Option.some.inj h] at hk
    exact r_return dX8_again_175 rfl hk
  · rw [if_neg c1] at h
    refine r_aload_n dX8_again_120 0 rfl ?_
    obtain ⟨h23, h⟩ := chk_some h
    obtain ⟨o24, g25, h⟩ := ob_some h
    refine r_getR (fl_RX8_20 rfl) rfl dX8_again_121 h23 g25 ?_
    refine r_iload_n dX8_again_124 2 rfl ?_
    refine r_aload_n dX8_again_125 1 rfl ?_
    refine r_sipush (v := 288) dX8_again_126 (by decide) ?_
    refine r_iload_n dX8_again_129 2 rfl ?_
    refine r_iadd dX8_again_130 ?_
    obtain ⟨h26, h⟩ := chk_some h
    obtain ⟨h27, h⟩ := chk_some h
    refine r_iaload dX8_again_131 h26 h27 ?_
    obtain ⟨h28, h⟩ := chk_some h
    obtain ⟨h29, h⟩ := chk_some h
    obtain ⟨w30, e31, h⟩ := bnd_some h
    refine r_iastore dX8_again_132 h28 h29 ?_
    refine r_eqW e31 ?_
    refine r_iinc (v := (s.1 + 1)) dX8_again_133 2 rfl rfl (Nat.le_of_ble_eq_true rfl) [(2, .int (s.1 + 1)), (0, .ref a0), (1, .ref a1)] rfl ?_
    refine r_goto (tgt := 114) dX8_again_136 (by decide) ?_
    rw [← Option.some.inj h] at hk
    refine r_sub [1, 2, 0] [(0, .ref a0), (1, .ref a1), (2, .int (s.1 + 1))] rfl ?_
    exact hk
def fX8_again_L114 (a0 : Nat) (a1 : Nat) (s : Int32 × Wd) : Option (Wd) := it (fX8_again_L114_body a0 a1) FU s
set_option maxHeartbeats 1000000 in
set_option maxRecDepth 20000 in
theorem okX8_again_L114 {E : Ev} {Q : Option Value → Wd → Prop} {a0 : Nat} {a1 : Nat} {s : Int32 × Wd} {r : Wd} (h : fX8_again_L114 a0 a1 s = some r) (hk : (fun q : Wd => Q none q) r) : PX8_again_L114 E Q a0 a1 s := it_runs (fun s r h hk => okX8_again_L114_body h hk) FU s r h hk
def fX8_again_L87_body (a0 : Nat) (a1 : Nat) (s : Int32 × Wd) : Option ((Int32 × Wd) ⊕ (Wd)) :=
  if (72 : Int32) ≤ s.1 then (wr (fX8_again_L114 a0 a1 (0, s.2))) else (chk (isO s.2 a0 8) (ob (wR s.2 a0 5) (fun o4 => chk (isA s.2 a1 0) (chk (inb (216 + s.1) (wn s.2 a1)) (chk (isA s.2 o4 0) (chk (inb s.1 (wn s.2 o4)) (bnd (sI s.2 o4 (s.1).toNatClampNeg (wI s.2 a1 ((216 + s.1)).toNatClampNeg)) (fun w10 => some (.inl ((s.1 + 1), w10))))))))))
set_option maxHeartbeats 1000000 in
set_option maxRecDepth 20000 in
theorem okX8_again_L87_body {E : Ev} {Q : Option Value → Wd → Prop} {a0 : Nat} {a1 : Nat} {s : Int32 × Wd} {r : (Int32 × Wd) ⊕ (Wd)} (h : fX8_again_L87_body a0 a1 s = some r) (hk : (Sum.elim (PX8_again_L87 E Q a0 a1) (fun q : Wd => Q none q)) r) : PX8_again_L87 E Q a0 a1 s := by
  unfold fX8_again_L87_body at h
  unfold PX8_again_L87
  refine r_iload_n dX8_again_87 2 rfl ?_
  refine r_bipush (v := 72) dX8_again_88 (by decide) ?_
  refine r_icmp_ge (tgt := 112) dX8_again_90 (by decide) (fun c1 => ?_) (fun c1 => ?_)
  · rw [if_pos c1] at h
    obtain ⟨r2, hr, h⟩ := wr_some h
    rw [hr] at hk
    refine r_iconst (v := 0) dX8_again_112 (by decide) ?_
    refine r_istore_n dX8_again_113 rfl (Nat.le_of_ble_eq_true rfl) [(2, .int 0), (0, .ref a0), (1, .ref a1)] rfl ?_
    refine r_sub [1, 2, 0] [(0, .ref a0), (1, .ref a1), (2, .int 0)] rfl ?_
    exact okX8_again_L114 h hk
  · rw [if_neg c1] at h
    refine r_aload_n dX8_again_93 0 rfl ?_
    obtain ⟨h3, h⟩ := chk_some h
    obtain ⟨o4, g5, h⟩ := ob_some h
    refine r_getR (fl_RX8_23 rfl) rfl dX8_again_94 h3 g5 ?_
    refine r_iload_n dX8_again_97 2 rfl ?_
    refine r_aload_n dX8_again_98 1 rfl ?_
    refine r_sipush (v := 216) dX8_again_99 (by decide) ?_
    refine r_iload_n dX8_again_102 2 rfl ?_
    refine r_iadd dX8_again_103 ?_
    obtain ⟨h6, h⟩ := chk_some h
    obtain ⟨h7, h⟩ := chk_some h
    refine r_iaload dX8_again_104 h6 h7 ?_
    obtain ⟨h8, h⟩ := chk_some h
    obtain ⟨h9, h⟩ := chk_some h
    obtain ⟨w10, e11, h⟩ := bnd_some h
    refine r_iastore dX8_again_105 h8 h9 ?_
    refine r_eqW e11 ?_
    refine r_iinc (v := (s.1 + 1)) dX8_again_106 2 rfl rfl (Nat.le_of_ble_eq_true rfl) [(2, .int (s.1 + 1)), (0, .ref a0), (1, .ref a1)] rfl ?_
    refine r_goto (tgt := 87) dX8_again_109 (by decide) ?_
    rw [← Option.some.inj h] at hk
    refine r_sub [1, 2, 0] [(0, .ref a0), (1, .ref a1), (2, .int (s.1 + 1))] rfl ?_
    exact hk
def fX8_again_L87 (a0 : Nat) (a1 : Nat) (s : Int32 × Wd) : Option (Wd) := it (fX8_again_L87_body a0 a1) FU s
set_option maxHeartbeats 1000000 in
set_option maxRecDepth 20000 in
theorem okX8_again_L87 {E : Ev} {Q : Option Value → Wd → Prop} {a0 : Nat} {a1 : Nat} {s : Int32 × Wd} {r : Wd} (h : fX8_again_L87 a0 a1 s = some r) (hk : (fun q : Wd => Q none q) r) : PX8_again_L87 E Q a0 a1 s := it_runs (fun s r h hk => okX8_again_L87_body h hk) FU s r h hk
def fX8_again_L49_body (a0 : Nat) (a1 : Nat) (s : Int32 × Wd) : Option ((Int32 × Wd) ⊕ (Wd)) :=
  if (96 : Int32) ≤ s.1 then (wr (fX8_again_L87 a0 a1 (0, s.2))) else (chk (isO s.2 a0 8) (ob (wR s.2 a0 10) (fun o4 => chk (isA s.2 a1 0) (chk (inb (24 + s.1) (wn s.2 a1)) (chk (isA s.2 o4 0) (chk (inb s.1 (wn s.2 o4)) (bnd (sI s.2 o4 (s.1).toNatClampNeg (wI s.2 a1 ((24 + s.1)).toNatClampNeg)) (fun w10 => chk (isO w10 a0 8) (ob (wR w10 a0 11) (fun o13 => chk (isA w10 a1 0) (chk (inb (120 + s.1) (wn w10 a1)) (chk (isA w10 o13 0) (chk (inb s.1 (wn w10 o13)) (bnd (sI w10 o13 (s.1).toNatClampNeg (wI w10 a1 ((120 + s.1)).toNatClampNeg)) (fun w19 => some (.inl ((s.1 + 1), w19)))))))))))))))))
set_option maxHeartbeats 1000000 in
set_option maxRecDepth 20000 in
theorem okX8_again_L49_body {E : Ev} {Q : Option Value → Wd → Prop} {a0 : Nat} {a1 : Nat} {s : Int32 × Wd} {r : (Int32 × Wd) ⊕ (Wd)} (h : fX8_again_L49_body a0 a1 s = some r) (hk : (Sum.elim (PX8_again_L49 E Q a0 a1) (fun q : Wd => Q none q)) r) : PX8_again_L49 E Q a0 a1 s := by
  unfold fX8_again_L49_body at h
  unfold PX8_again_L49
  refine r_iload_n dX8_again_49 2 rfl ?_
  refine r_bipush (v := 96) dX8_again_50 (by decide) ?_
  refine r_icmp_ge (tgt := 85) dX8_again_52 (by decide) (fun c1 => ?_) (fun c1 => ?_)
  · rw [if_pos c1] at h
    obtain ⟨r2, hr, h⟩ := wr_some h
    rw [hr] at hk
    refine r_iconst (v := 0) dX8_again_85 (by decide) ?_
    refine r_istore_n dX8_again_86 rfl (Nat.le_of_ble_eq_true rfl) [(2, .int 0), (0, .ref a0), (1, .ref a1)] rfl ?_
    refine r_sub [1, 2, 0] [(0, .ref a0), (1, .ref a1), (2, .int 0)] rfl ?_
    exact okX8_again_L87 h hk
  · rw [if_neg c1] at h
    refine r_aload_n dX8_again_55 0 rfl ?_
    obtain ⟨h3, h⟩ := chk_some h
    obtain ⟨o4, g5, h⟩ := ob_some h
    refine r_getR (fl_RX8_35 rfl) rfl dX8_again_56 h3 g5 ?_
    refine r_iload_n dX8_again_59 2 rfl ?_
    refine r_aload_n dX8_again_60 1 rfl ?_
    refine r_bipush (v := 24) dX8_again_61 (by decide) ?_
    refine r_iload_n dX8_again_63 2 rfl ?_
    refine r_iadd dX8_again_64 ?_
    obtain ⟨h6, h⟩ := chk_some h
    obtain ⟨h7, h⟩ := chk_some h
    refine r_iaload dX8_again_65 h6 h7 ?_
    obtain ⟨h8, h⟩ := chk_some h
    obtain ⟨h9, h⟩ := chk_some h
    obtain ⟨w10, e11, h⟩ := bnd_some h
    refine r_iastore dX8_again_66 h8 h9 ?_
    refine r_eqW e11 ?_
    refine r_aload_n dX8_again_67 0 rfl ?_
    obtain ⟨h12, h⟩ := chk_some h
    obtain ⟨o13, g14, h⟩ := ob_some h
    refine r_getR (fl_RX8_38 rfl) rfl dX8_again_68 h12 g14 ?_
    refine r_iload_n dX8_again_71 2 rfl ?_
    refine r_aload_n dX8_again_72 1 rfl ?_
    refine r_bipush (v := 120) dX8_again_73 (by decide) ?_
    refine r_iload_n dX8_again_75 2 rfl ?_
    refine r_iadd dX8_again_76 ?_
    obtain ⟨h15, h⟩ := chk_some h
    obtain ⟨h16, h⟩ := chk_some h
    refine r_iaload dX8_again_77 h15 h16 ?_
    obtain ⟨h17, h⟩ := chk_some h
    obtain ⟨h18, h⟩ := chk_some h
    obtain ⟨w19, e20, h⟩ := bnd_some h
    refine r_iastore dX8_again_78 h17 h18 ?_
    refine r_eqW e20 ?_
    refine r_iinc (v := (s.1 + 1)) dX8_again_79 2 rfl rfl (Nat.le_of_ble_eq_true rfl) [(2, .int (s.1 + 1)), (0, .ref a0), (1, .ref a1)] rfl ?_
    refine r_goto (tgt := 49) dX8_again_82 (by decide) ?_
    rw [← Option.some.inj h] at hk
    refine r_sub [1, 2, 0] [(0, .ref a0), (1, .ref a1), (2, .int (s.1 + 1))] rfl ?_
    exact hk
def fX8_again_L49 (a0 : Nat) (a1 : Nat) (s : Int32 × Wd) : Option (Wd) := it (fX8_again_L49_body a0 a1) FU s
set_option maxHeartbeats 1000000 in
set_option maxRecDepth 20000 in
theorem okX8_again_L49 {E : Ev} {Q : Option Value → Wd → Prop} {a0 : Nat} {a1 : Nat} {s : Int32 × Wd} {r : Wd} (h : fX8_again_L49 a0 a1 s = some r) (hk : (fun q : Wd => Q none q) r) : PX8_again_L49 E Q a0 a1 s := it_runs (fun s r h hk => okX8_again_L49_body h hk) FU s r h hk
def fX8_again_L2_body (a0 : Nat) (a1 : Nat) (s : Int32 × Wd) : Option ((Int32 × Wd) ⊕ (Wd)) :=
  if (8 : Int32) ≤ s.1 then (wr (fX8_again_L49 a0 a1 (0, s.2))) else (chk (isO s.2 a0 8) (ob (wR s.2 a0 7) (fun o4 => chk (isA s.2 a1 0) (chk (inb s.1 (wn s.2 a1)) (chk (isA s.2 o4 0) (chk (inb s.1 (wn s.2 o4)) (bnd (sI s.2 o4 (s.1).toNatClampNeg (wI s.2 a1 (s.1).toNatClampNeg)) (fun w10 => chk (isO w10 a0 8) (ob (wR w10 a0 8) (fun o13 => chk (isA w10 a1 0) (chk (inb (8 + s.1) (wn w10 a1)) (chk (isA w10 o13 0) (chk (inb s.1 (wn w10 o13)) (bnd (sI w10 o13 (s.1).toNatClampNeg (wI w10 a1 ((8 + s.1)).toNatClampNeg)) (fun w19 => chk (isO w19 a0 8) (ob (wR w19 a0 9) (fun o22 => chk (isA w19 a1 0) (chk (inb (16 + s.1) (wn w19 a1)) (chk (isA w19 o22 0) (chk (inb s.1 (wn w19 o22)) (bnd (sI w19 o22 (s.1).toNatClampNeg (wI w19 a1 ((16 + s.1)).toNatClampNeg)) (fun w28 => some (.inl ((s.1 + 1), w28))))))))))))))))))))))))
set_option maxHeartbeats 1000000 in
set_option maxRecDepth 20000 in
theorem okX8_again_L2_body {E : Ev} {Q : Option Value → Wd → Prop} {a0 : Nat} {a1 : Nat} {s : Int32 × Wd} {r : (Int32 × Wd) ⊕ (Wd)} (h : fX8_again_L2_body a0 a1 s = some r) (hk : (Sum.elim (PX8_again_L2 E Q a0 a1) (fun q : Wd => Q none q)) r) : PX8_again_L2 E Q a0 a1 s := by
  unfold fX8_again_L2_body at h
  unfold PX8_again_L2
  refine r_iload_n dX8_again_2 2 rfl ?_
  refine r_bipush (v := 8) dX8_again_3 (by decide) ?_
  refine r_icmp_ge (tgt := 47) dX8_again_5 (by decide) (fun c1 => ?_) (fun c1 => ?_)
  · rw [if_pos c1] at h
    obtain ⟨r2, hr, h⟩ := wr_some h
    rw [hr] at hk
    refine r_iconst (v := 0) dX8_again_47 (by decide) ?_
    refine r_istore_n dX8_again_48 rfl (Nat.le_of_ble_eq_true rfl) [(2, .int 0), (0, .ref a0), (1, .ref a1)] rfl ?_
    refine r_sub [1, 2, 0] [(0, .ref a0), (1, .ref a1), (2, .int 0)] rfl ?_
    exact okX8_again_L49 h hk
  · rw [if_neg c1] at h
    refine r_aload_n dX8_again_8 0 rfl ?_
    obtain ⟨h3, h⟩ := chk_some h
    obtain ⟨o4, g5, h⟩ := ob_some h
    refine r_getR (fl_RX8_26 rfl) rfl dX8_again_9 h3 g5 ?_
    refine r_iload_n dX8_again_12 2 rfl ?_
    refine r_aload_n dX8_again_13 1 rfl ?_
    refine r_iload_n dX8_again_14 2 rfl ?_
    obtain ⟨h6, h⟩ := chk_some h
    obtain ⟨h7, h⟩ := chk_some h
    refine r_iaload dX8_again_15 h6 h7 ?_
    obtain ⟨h8, h⟩ := chk_some h
    obtain ⟨h9, h⟩ := chk_some h
    obtain ⟨w10, e11, h⟩ := bnd_some h
    refine r_iastore dX8_again_16 h8 h9 ?_
    refine r_eqW e11 ?_
    refine r_aload_n dX8_again_17 0 rfl ?_
    obtain ⟨h12, h⟩ := chk_some h
    obtain ⟨o13, g14, h⟩ := ob_some h
    refine r_getR (fl_RX8_29 rfl) rfl dX8_again_18 h12 g14 ?_
    refine r_iload_n dX8_again_21 2 rfl ?_
    refine r_aload_n dX8_again_22 1 rfl ?_
    refine r_bipush (v := 8) dX8_again_23 (by decide) ?_
    refine r_iload_n dX8_again_25 2 rfl ?_
    refine r_iadd dX8_again_26 ?_
    obtain ⟨h15, h⟩ := chk_some h
    obtain ⟨h16, h⟩ := chk_some h
    refine r_iaload dX8_again_27 h15 h16 ?_
    obtain ⟨h17, h⟩ := chk_some h
    obtain ⟨h18, h⟩ := chk_some h
    obtain ⟨w19, e20, h⟩ := bnd_some h
    refine r_iastore dX8_again_28 h17 h18 ?_
    refine r_eqW e20 ?_
    refine r_aload_n dX8_again_29 0 rfl ?_
    obtain ⟨h21, h⟩ := chk_some h
    obtain ⟨o22, g23, h⟩ := ob_some h
    refine r_getR (fl_RX8_32 rfl) rfl dX8_again_30 h21 g23 ?_
    refine r_iload_n dX8_again_33 2 rfl ?_
    refine r_aload_n dX8_again_34 1 rfl ?_
    refine r_bipush (v := 16) dX8_again_35 (by decide) ?_
    refine r_iload_n dX8_again_37 2 rfl ?_
    refine r_iadd dX8_again_38 ?_
    obtain ⟨h24, h⟩ := chk_some h
    obtain ⟨h25, h⟩ := chk_some h
    refine r_iaload dX8_again_39 h24 h25 ?_
    obtain ⟨h26, h⟩ := chk_some h
    obtain ⟨h27, h⟩ := chk_some h
    obtain ⟨w28, e29, h⟩ := bnd_some h
    refine r_iastore dX8_again_40 h26 h27 ?_
    refine r_eqW e29 ?_
    refine r_iinc (v := (s.1 + 1)) dX8_again_41 2 rfl rfl (Nat.le_of_ble_eq_true rfl) [(2, .int (s.1 + 1)), (0, .ref a0), (1, .ref a1)] rfl ?_
    refine r_goto (tgt := 2) dX8_again_44 (by decide) ?_
    rw [← Option.some.inj h] at hk
    refine r_sub [1, 2, 0] [(0, .ref a0), (1, .ref a1), (2, .int (s.1 + 1))] rfl ?_
    exact hk
def fX8_again_L2 (a0 : Nat) (a1 : Nat) (s : Int32 × Wd) : Option (Wd) := it (fX8_again_L2_body a0 a1) FU s
set_option maxHeartbeats 1000000 in
set_option maxRecDepth 20000 in
theorem okX8_again_L2 {E : Ev} {Q : Option Value → Wd → Prop} {a0 : Nat} {a1 : Nat} {s : Int32 × Wd} {r : Wd} (h : fX8_again_L2 a0 a1 s = some r) (hk : (fun q : Wd => Q none q) r) : PX8_again_L2 E Q a0 a1 s := it_runs (fun s r h hk => okX8_again_L2_body h hk) FU s r h hk
def fX8_again (a0 : Nat) (a1 : Nat) (w : Wd) : Option (Wd) :=
  fX8_again_L2 a0 a1 (0, w)
set_option maxHeartbeats 1000000 in
set_option maxRecDepth 20000 in
theorem okX8_again {E : Ev} {Q : Option Value → Wd → Prop} {a0 : Nat} {a1 : Nat} {w : Wd} {q : Wd} (h : fX8_again a0 a1 w = some q) (hk : (fun q : Wd => Q none q) q) : Runs E mX8_again (6, 0, false) Q 0 0 [(0, .ref a0), (1, .ref a1)] [] w := by
  unfold fX8_again at h
  refine r_iconst (v := 0) dX8_again_0 (by decide) ?_
  refine r_istore_n dX8_again_1 rfl (Nat.le_of_ble_eq_true rfl) [(2, .int 0), (0, .ref a0), (1, .ref a1)] rfl ?_
  refine r_sub [1, 2, 0] [(0, .ref a0), (1, .ref a1), (2, .int 0)] rfl ?_
  exact okX8_again_L2 h hk
set_option maxHeartbeats 1000000 in
set_option maxRecDepth 20000 in
theorem ctX8_again {E : Ev} {a0 : Nat} {a1 : Nat} {w : Wd} {q : Wd} (h : fX8_again a0 a1 w = some q) : CT E mX8_again (6, 0, false) [.ref a0, .ref a1] w (QV q) := CT.of pl_RX8 (Nat.le_of_ble_eq_true rfl) (okX8_again h ⟨rfl, rfl⟩)
def PX8_habits_L4 (E : Ev) (Q : Option Value → Wd → Prop) (a0 : Nat) (x1 : Int32) (s : Int32 × Int32 × Wd) : Prop := Runs E mX8_habits (6, 0, false) Q 0 4 [(0, .ref a0), (1, .int x1), (2, .int s.1), (3, .int s.2.1)] [] s.2.2
def fX8_habits_b27 (a0 : Nat) (x1 : Int32) (x2 : Int32) (x3 : Int32) (w : Wd) : Option ((Int32 × Int32 × Wd) ⊕ (Int32 × Wd)) :=
  some (.inl (x2, (x3 + 1), w))
set_option maxHeartbeats 1000000 in
set_option maxRecDepth 20000 in
theorem okX8_habits_b27 {E : Ev} {Q : Option Value → Wd → Prop} {a0 : Nat} {x1 : Int32} {x2 : Int32} {x3 : Int32} {w : Wd} {q : (Int32 × Int32 × Wd) ⊕ (Int32 × Wd)} (h : fX8_habits_b27 a0 x1 x2 x3 w = some q) (hk : (Sum.elim (PX8_habits_L4 E Q a0 x1) (fun q : Int32 × Wd => Q (some (.int q.1)) q.2)) q) : Runs E mX8_habits (6, 0, false) Q 0 27 [(0, .ref a0), (1, .int x1), (2, .int x2), (3, .int x3)] [] w := by
  unfold fX8_habits_b27 at h
  refine r_iinc (v := (x3 + 1)) dX8_habits_27 3 rfl rfl (Nat.le_of_ble_eq_true rfl) [(3, .int (x3 + 1)), (0, .ref a0), (1, .int x1), (2, .int x2)] rfl ?_
  refine r_goto (tgt := 4) dX8_habits_30 (by decide) ?_
  rw [← Option.some.inj h] at hk
  refine r_sub [1, 2, 3, 0] [(0, .ref a0), (1, .int x1), (2, .int x2), (3, .int (x3 + 1))] rfl ?_
  exact hk
def fX8_habits_L4_body (a0 : Nat) (x1 : Int32) (s : Int32 × Int32 × Wd) : Option ((Int32 × Int32 × Wd) ⊕ (Int32 × Wd)) :=
  if (12 : Int32) ≤ s.2.1 then (wr (some (s.1, s.2.2))) else (chk (isO s.2.2 a0 8) (ob (wR s.2.2 a0 10) (fun o4 => chk (isA s.2.2 o4 0) (chk (inb ((12 * x1) + s.2.1) (wn s.2.2 o4)) (if (wI s.2.2 o4 (((12 * x1) + s.2.1)).toNatClampNeg) = 0 then (fX8_habits_b27 a0 x1 s.1 s.2.1 s.2.2) else (fX8_habits_b27 a0 x1 (s.1 + 1) s.2.1 s.2.2))))))
set_option maxHeartbeats 1000000 in
set_option maxRecDepth 20000 in
theorem okX8_habits_L4_body {E : Ev} {Q : Option Value → Wd → Prop} {a0 : Nat} {x1 : Int32} {s : Int32 × Int32 × Wd} {r : (Int32 × Int32 × Wd) ⊕ (Int32 × Wd)} (h : fX8_habits_L4_body a0 x1 s = some r) (hk : (Sum.elim (PX8_habits_L4 E Q a0 x1) (fun q : Int32 × Wd => Q (some (.int q.1)) q.2)) r) : PX8_habits_L4 E Q a0 x1 s := by
  unfold fX8_habits_L4_body at h
  unfold PX8_habits_L4
  refine r_iload_n dX8_habits_4 3 rfl ?_
  refine r_bipush (v := 12) dX8_habits_5 (by decide) ?_
  refine r_icmp_ge (tgt := 33) dX8_habits_7 (by decide) (fun c1 => ?_) (fun c1 => ?_)
  · rw [if_pos c1] at h
    obtain ⟨r2, hr, h⟩ := wr_some h
    rw [hr] at hk
    refine r_iload_n dX8_habits_33 2 rfl ?_
    rw [← Option.some.inj h] at hk
    exact r_ireturn dX8_habits_34 rfl rfl hk
  · rw [if_neg c1] at h
    refine r_aload_n dX8_habits_10 0 rfl ?_
    obtain ⟨h3, h⟩ := chk_some h
    obtain ⟨o4, g5, h⟩ := ob_some h
    refine r_getR (fl_RX8_35 rfl) rfl dX8_habits_11 h3 g5 ?_
    refine r_bipush (v := 12) dX8_habits_14 (by decide) ?_
    refine r_iload_n dX8_habits_16 1 rfl ?_
    refine r_imul dX8_habits_17 ?_
    refine r_iload_n dX8_habits_18 3 rfl ?_
    refine r_iadd dX8_habits_19 ?_
    obtain ⟨h6, h⟩ := chk_some h
    obtain ⟨h7, h⟩ := chk_some h
    refine r_iaload dX8_habits_20 h6 h7 ?_
    refine r_if_eq (tgt := 27) dX8_habits_21 (by decide) (fun c8 => ?_) (fun c8 => ?_)
    · rw [if_pos c8] at h
      refine r_sub [0, 1, 2, 3] [(0, .ref a0), (1, .int x1), (2, .int s.1), (3, .int s.2.1)] rfl ?_
      exact okX8_habits_b27 h hk
    · rw [if_neg c8] at h
      refine r_iinc (v := (s.1 + 1)) dX8_habits_24 2 rfl rfl (Nat.le_of_ble_eq_true rfl) [(2, .int (s.1 + 1)), (0, .ref a0), (1, .int x1), (3, .int s.2.1)] rfl ?_
      refine r_sub [1, 2, 0, 3] [(0, .ref a0), (1, .int x1), (2, .int (s.1 + 1)), (3, .int s.2.1)] rfl ?_
      exact okX8_habits_b27 h hk
def fX8_habits_L4 (a0 : Nat) (x1 : Int32) (s : Int32 × Int32 × Wd) : Option (Int32 × Wd) := it (fX8_habits_L4_body a0 x1) FU s
set_option maxHeartbeats 1000000 in
set_option maxRecDepth 20000 in
theorem okX8_habits_L4 {E : Ev} {Q : Option Value → Wd → Prop} {a0 : Nat} {x1 : Int32} {s : Int32 × Int32 × Wd} {r : Int32 × Wd} (h : fX8_habits_L4 a0 x1 s = some r) (hk : (fun q : Int32 × Wd => Q (some (.int q.1)) q.2) r) : PX8_habits_L4 E Q a0 x1 s := it_runs (fun s r h hk => okX8_habits_L4_body h hk) FU s r h hk
def fX8_habits (a0 : Nat) (x1 : Int32) (w : Wd) : Option (Int32 × Wd) :=
  fX8_habits_L4 a0 x1 (0, 0, w)
set_option maxHeartbeats 1000000 in
set_option maxRecDepth 20000 in
theorem okX8_habits {E : Ev} {Q : Option Value → Wd → Prop} {a0 : Nat} {x1 : Int32} {w : Wd} {q : Int32 × Wd} (h : fX8_habits a0 x1 w = some q) (hk : (fun q : Int32 × Wd => Q (some (.int q.1)) q.2) q) : Runs E mX8_habits (6, 0, false) Q 0 0 [(0, .ref a0), (1, .int x1)] [] w := by
  unfold fX8_habits at h
  refine r_iconst (v := 0) dX8_habits_0 (by decide) ?_
  refine r_istore_n dX8_habits_1 rfl (Nat.le_of_ble_eq_true rfl) [(2, .int 0), (0, .ref a0), (1, .int x1)] rfl ?_
  refine r_iconst (v := 0) dX8_habits_2 (by decide) ?_
  refine r_istore_n dX8_habits_3 rfl (Nat.le_of_ble_eq_true rfl) [(3, .int 0), (2, .int 0), (0, .ref a0), (1, .int x1)] rfl ?_
  refine r_sub [2, 3, 1, 0] [(0, .ref a0), (1, .int x1), (2, .int 0), (3, .int 0)] rfl ?_
  exact okX8_habits_L4 h hk
set_option maxHeartbeats 1000000 in
set_option maxRecDepth 20000 in
theorem ctX8_habits {E : Ev} {a0 : Nat} {x1 : Int32} {w : Wd} {q : Int32 × Wd} (h : fX8_habits a0 x1 w = some q) : CT E mX8_habits (6, 0, false) [.ref a0, .int x1] w (QI q) := CT.of pl_RX8 (Nat.le_of_ble_eq_true rfl) (okX8_habits h ⟨rfl, rfl⟩)
def PX8_allHabits_L4 (E : Ev) (Q : Option Value → Wd → Prop) (a0 : Nat) (s : Int32 × Int32 × Wd) : Prop := Runs E mX8_allHabits (7, 0, false) Q 0 4 [(0, .ref a0), (1, .int s.1), (2, .int s.2.1)] [] s.2.2
def fX8_allHabits_L4_body (a0 : Nat) (s : Int32 × Int32 × Wd) : Option ((Int32 × Int32 × Wd) ⊕ (Int32 × Wd)) :=
  chk (isO s.2.2 a0 8) (if (wI s.2.2 a0 6) ≤ s.2.1 then (wr (some (s.1, s.2.2))) else (ob (fX8_habits a0 s.2.1 s.2.2) (fun q4 => bnd (s.1 + q4.1) (fun u6 => some (.inl (u6, (s.2.1 + 1), q4.2))))))
set_option maxHeartbeats 1000000 in
set_option maxRecDepth 20000 in
theorem okX8_allHabits_L4_body {E : Ev} {Q : Option Value → Wd → Prop} {a0 : Nat} {s : Int32 × Int32 × Wd} {r : (Int32 × Int32 × Wd) ⊕ (Int32 × Wd)} (h : fX8_allHabits_L4_body a0 s = some r) (hk : (Sum.elim (PX8_allHabits_L4 E Q a0) (fun q : Int32 × Wd => Q (some (.int q.1)) q.2)) r) : PX8_allHabits_L4 E Q a0 s := by
  unfold fX8_allHabits_L4_body at h
  unfold PX8_allHabits_L4
  refine r_iload_n dX8_allHabits_4 2 rfl ?_
  refine r_aload_n dX8_allHabits_5 0 rfl ?_
  obtain ⟨h1, h⟩ := chk_some h
  refine r_getI (fl_RX8_76 rfl) rfl dX8_allHabits_6 h1 ?_
  refine r_icmp_ge (tgt := 26) dX8_allHabits_9 (by decide) (fun c2 => ?_) (fun c2 => ?_)
  · rw [if_pos c2] at h
    obtain ⟨r3, hr, h⟩ := wr_some h
    rw [hr] at hk
    refine r_iload_n dX8_allHabits_26 1 rfl ?_
    rw [← Option.some.inj h] at hk
    exact r_ireturn dX8_allHabits_27 rfl rfl hk
  · rw [if_neg c2] at h
    refine r_iload_n dX8_allHabits_12 1 rfl ?_
    refine r_aload_n dX8_allHabits_13 0 rfl ?_
    refine r_iload_n dX8_allHabits_14 2 rfl ?_
    obtain ⟨q4, g5, h⟩ := ob_some h
    refine r_callV (d' := (6, 0, false)) (As := [.int s.2.1]) (st := [.int s.1]) mdv_X8_habits tm_RX8_103 (by decide) rfl rfl (by decide) rfl (Nat.le_refl _) (Nat.le_of_ble_eq_true rfl) rfl dX8_allHabits_15 h1 (ctX8_habits g5) (k_I0 ?_)
    refine r_iadd dX8_allHabits_18 ?_
    obtain ⟨u6, e7, h⟩ := bnd_some h
    refine r_eqI e7 ?_
    refine r_istore_n dX8_allHabits_19 rfl (Nat.le_of_ble_eq_true rfl) [(1, .int u6), (0, .ref a0), (2, .int s.2.1)] rfl ?_
    refine r_iinc (v := (s.2.1 + 1)) dX8_allHabits_20 2 rfl rfl (Nat.le_of_ble_eq_true rfl) [(2, .int (s.2.1 + 1)), (1, .int u6), (0, .ref a0)] rfl ?_
    refine r_goto (tgt := 4) dX8_allHabits_23 (by decide) ?_
    rw [← Option.some.inj h] at hk
    refine r_sub [2, 1, 0] [(0, .ref a0), (1, .int u6), (2, .int (s.2.1 + 1))] rfl ?_
    exact hk
def fX8_allHabits_L4 (a0 : Nat) (s : Int32 × Int32 × Wd) : Option (Int32 × Wd) := it (fX8_allHabits_L4_body a0) FU s
set_option maxHeartbeats 1000000 in
set_option maxRecDepth 20000 in
theorem okX8_allHabits_L4 {E : Ev} {Q : Option Value → Wd → Prop} {a0 : Nat} {s : Int32 × Int32 × Wd} {r : Int32 × Wd} (h : fX8_allHabits_L4 a0 s = some r) (hk : (fun q : Int32 × Wd => Q (some (.int q.1)) q.2) r) : PX8_allHabits_L4 E Q a0 s := it_runs (fun s r h hk => okX8_allHabits_L4_body h hk) FU s r h hk
def fX8_allHabits (a0 : Nat) (w : Wd) : Option (Int32 × Wd) :=
  fX8_allHabits_L4 a0 (0, 0, w)
set_option maxHeartbeats 1000000 in
set_option maxRecDepth 20000 in
theorem okX8_allHabits {E : Ev} {Q : Option Value → Wd → Prop} {a0 : Nat} {w : Wd} {q : Int32 × Wd} (h : fX8_allHabits a0 w = some q) (hk : (fun q : Int32 × Wd => Q (some (.int q.1)) q.2) q) : Runs E mX8_allHabits (7, 0, false) Q 0 0 [(0, .ref a0)] [] w := by
  unfold fX8_allHabits at h
  refine r_iconst (v := 0) dX8_allHabits_0 (by decide) ?_
  refine r_istore_n dX8_allHabits_1 rfl (Nat.le_of_ble_eq_true rfl) [(1, .int 0), (0, .ref a0)] rfl ?_
  refine r_iconst (v := 0) dX8_allHabits_2 (by decide) ?_
  refine r_istore_n dX8_allHabits_3 rfl (Nat.le_of_ble_eq_true rfl) [(2, .int 0), (1, .int 0), (0, .ref a0)] rfl ?_
  refine r_sub [2, 1, 0] [(0, .ref a0), (1, .int 0), (2, .int 0)] rfl ?_
  exact okX8_allHabits_L4 h hk
set_option maxHeartbeats 1000000 in
set_option maxRecDepth 20000 in
theorem ctX8_allHabits {E : Ev} {a0 : Nat} {w : Wd} {q : Int32 × Wd} (h : fX8_allHabits a0 w = some q) : CT E mX8_allHabits (7, 0, false) [.ref a0] w (QI q) := CT.of pl_RX8 (Nat.le_of_ble_eq_true rfl) (okX8_allHabits h ⟨rfl, rfl⟩)
def PX8_isUnder_L2 (E : Ev) (Q : Option Value → Wd → Prop) (x1 : Int32) (s : Int32 × Wd) : Prop := Runs E mX8_isUnder (7, 0, false) Q 0 2 [(1, .int x1), (2, .int s.1)] [] s.2
def fX8_isUnder_b29 (s0 : Int32) (w : Wd) : Option (Int32 × Wd) :=
  chk (s0 = 0 ∨ s0 = 1) (some (s0, w))
set_option maxHeartbeats 1000000 in
set_option maxRecDepth 20000 in
theorem okX8_isUnder_b29 {E : Ev} {Q : Option Value → Wd → Prop} {s0 : Int32} {w : Wd} {q : Int32 × Wd} (h : fX8_isUnder_b29 s0 w = some q) (hk : (fun q : Int32 × Wd => Q (some (.int q.1)) q.2) q) : Runs E mX8_isUnder (7, 0, false) Q 0 29 [] [.int s0] w := by
  unfold fX8_isUnder_b29 at h
  obtain ⟨h1, h⟩ := chk_some h
  rw [← Option.some.inj h] at hk
  exact r_ireturn dX8_isUnder_29 rfl (nb h1) hk
def fX8_isUnder_b19 (x1 : Int32) (x2 : Int32) (w : Wd) : Option (Int32 × Wd) :=
  if x2 = x1 then (fX8_isUnder_b29 1 w) else (fX8_isUnder_b29 0 w)
set_option maxHeartbeats 1000000 in
set_option maxRecDepth 20000 in
theorem okX8_isUnder_b19 {E : Ev} {Q : Option Value → Wd → Prop} {x1 : Int32} {x2 : Int32} {w : Wd} {q : Int32 × Wd} (h : fX8_isUnder_b19 x1 x2 w = some q) (hk : (fun q : Int32 × Wd => Q (some (.int q.1)) q.2) q) : Runs E mX8_isUnder (7, 0, false) Q 0 19 [(1, .int x1), (2, .int x2)] [] w := by
  unfold fX8_isUnder_b19 at h
  refine r_iload_n dX8_isUnder_19 1 rfl ?_
  refine r_iload_n dX8_isUnder_20 0 rfl ?_
  refine r_icmp_ne (tgt := 28) dX8_isUnder_21 (by decide) (fun c1 => ?_) (fun c1 => ?_)
  · rw [if_neg c1] at h
    refine r_iconst (v := 0) dX8_isUnder_28 (by decide) ?_
    refine r_sub [] [] rfl ?_
    exact okX8_isUnder_b29 h hk
  · rw [if_pos c1] at h
    refine r_iconst (v := 1) dX8_isUnder_24 (by decide) ?_
    refine r_goto (tgt := 29) dX8_isUnder_25 (by decide) ?_
    refine r_sub [] [] rfl ?_
    exact okX8_isUnder_b29 h hk
def fX8_isUnder_L2_body (x1 : Int32) (s : Int32 × Wd) : Option ((Int32 × Wd) ⊕ (Int32 × Wd)) :=
  if s.1 = x1 then (wr (fX8_isUnder_b19 x1 s.1 s.2)) else (if s.1 ≤ 0 then (wr (fX8_isUnder_b19 x1 s.1 s.2)) else (ob (fX8_above s.1 s.2) (fun q5 => some (.inl (q5.1, q5.2)))))
set_option maxHeartbeats 1000000 in
set_option maxRecDepth 20000 in
theorem okX8_isUnder_L2_body {E : Ev} {Q : Option Value → Wd → Prop} {x1 : Int32} {s : Int32 × Wd} {r : (Int32 × Wd) ⊕ (Int32 × Wd)} (h : fX8_isUnder_L2_body x1 s = some r) (hk : (Sum.elim (PX8_isUnder_L2 E Q x1) (fun q : Int32 × Wd => Q (some (.int q.1)) q.2)) r) : PX8_isUnder_L2 E Q x1 s := by
  unfold fX8_isUnder_L2_body at h
  unfold PX8_isUnder_L2
  refine r_iload_n dX8_isUnder_2 1 rfl ?_
  refine r_iload_n dX8_isUnder_3 0 rfl ?_
  refine r_icmp_eq (tgt := 19) dX8_isUnder_4 (by decide) (fun c1 => ?_) (fun c1 => ?_)
  · rw [if_pos c1] at h
    obtain ⟨r2, hr, h⟩ := wr_some h
    rw [hr] at hk
    refine r_sub [0, 1] [(1, .int x1), (2, .int s.1)] rfl ?_
    exact okX8_isUnder_b19 h hk
  · rw [if_neg c1] at h
    refine r_iload_n dX8_isUnder_7 1 rfl ?_
    refine r_if_le (tgt := 19) dX8_isUnder_8 (by decide) (fun c3 => ?_) (fun c3 => ?_)
    · rw [if_pos c3] at h
      obtain ⟨r4, hr, h⟩ := wr_some h
      rw [hr] at hk
      refine r_sub [0, 1] [(1, .int x1), (2, .int s.1)] rfl ?_
      exact okX8_isUnder_b19 h hk
    · rw [if_neg c3] at h
      refine r_iload_n dX8_isUnder_11 1 rfl ?_
      obtain ⟨q5, g6, h⟩ := ob_some h
      refine r_callS (d' := (6, 0, false)) (As := [.int s.1]) (st := []) mds_X8_above tm_RX8_96 rfl (by decide) rfl (Nat.le_refl _) (Nat.le_of_ble_eq_true rfl) rfl dX8_isUnder_12 (ctX8_above g6) (k_I0 ?_)
      refine r_istore_n dX8_isUnder_15 rfl (Nat.le_of_ble_eq_true rfl) [(2, .int q5.1), (1, .int x1)] rfl ?_
      refine r_goto (tgt := 2) dX8_isUnder_16 (by decide) ?_
      rw [← Option.some.inj h] at hk
      refine r_sub [1, 0] [(1, .int x1), (2, .int q5.1)] rfl ?_
      exact hk
def fX8_isUnder_L2 (x1 : Int32) (s : Int32 × Wd) : Option (Int32 × Wd) := it (fX8_isUnder_L2_body x1) FU s
set_option maxHeartbeats 1000000 in
set_option maxRecDepth 20000 in
theorem okX8_isUnder_L2 {E : Ev} {Q : Option Value → Wd → Prop} {x1 : Int32} {s : Int32 × Wd} {r : Int32 × Wd} (h : fX8_isUnder_L2 x1 s = some r) (hk : (fun q : Int32 × Wd => Q (some (.int q.1)) q.2) r) : PX8_isUnder_L2 E Q x1 s := it_runs (fun s r h hk => okX8_isUnder_L2_body h hk) FU s r h hk
def fX8_isUnder (x0 : Int32) (x1 : Int32) (w : Wd) : Option (Int32 × Wd) :=
  fX8_isUnder_L2 x1 (x0, w)
set_option maxHeartbeats 1000000 in
set_option maxRecDepth 20000 in
theorem okX8_isUnder {E : Ev} {Q : Option Value → Wd → Prop} {x0 : Int32} {x1 : Int32} {w : Wd} {q : Int32 × Wd} (h : fX8_isUnder x0 x1 w = some q) (hk : (fun q : Int32 × Wd => Q (some (.int q.1)) q.2) q) : Runs E mX8_isUnder (7, 0, false) Q 0 0 [(0, .int x0), (1, .int x1)] [] w := by
  unfold fX8_isUnder at h
  refine r_iload_n dX8_isUnder_0 0 rfl ?_
  refine r_istore_n dX8_isUnder_1 rfl (Nat.le_of_ble_eq_true rfl) [(2, .int x0), (0, .int x0), (1, .int x1)] rfl ?_
  refine r_sub [2, 0] [(1, .int x1), (2, .int x0)] rfl ?_
  exact okX8_isUnder_L2 h hk
set_option maxHeartbeats 1000000 in
set_option maxRecDepth 20000 in
theorem ctX8_isUnder {E : Ev} {x0 : Int32} {x1 : Int32} {w : Wd} {q : Int32 × Wd} (h : fX8_isUnder x0 x1 w = some q) : CT E mX8_isUnder (7, 0, false) [.int x0, .int x1] w (QI q) := CT.of pl_RX8 (Nat.le_of_ble_eq_true rfl) (okX8_isUnder h ⟨rfl, rfl⟩)
def fX8_pull_b183 (x4 : Int32) (w : Wd) : Option (Int32 × Wd) :=
  some (x4, w)
set_option maxHeartbeats 1000000 in
set_option maxRecDepth 20000 in
theorem okX8_pull_b183 {E : Ev} {Q : Option Value → Wd → Prop} {x4 : Int32} {w : Wd} {q : Int32 × Wd} (h : fX8_pull_b183 x4 w = some q) (hk : (fun q : Int32 × Wd => Q (some (.int q.1)) q.2) q) : Runs E mX8_pull (6, 0, false) Q 0 183 [(4, .int x4)] [] w := by
  unfold fX8_pull_b183 at h
  refine r_iload dX8_pull_183 0 rfl ?_
  rw [← Option.some.inj h] at hk
  exact r_ireturn dX8_pull_185 rfl rfl hk
def PX8_pull_L93 (E : Ev) (Q : Option Value → Wd → Prop) (a0 : Nat) (x1 : Int32) (x2 : Int32) (x3 : Int32) (x4 : Int32) (s : Int32 × Int32 × Wd) : Prop := Runs E mX8_pull (6, 0, false) Q 0 93 [(0, .ref a0), (1, .int x1), (2, .int x2), (3, .int x3), (4, .int x4), (5, .int s.1), (6, .int s.2.1)] [] s.2.2
def fX8_pull_b132 (a0 : Nat) (x1 : Int32) (x2 : Int32) (x3 : Int32) (x4 : Int32) (x5 : Int32) (x6 : Int32) (w : Wd) : Option ((Int32 × Int32 × Wd) ⊕ (Int32 × Wd)) :=
  some (.inl (x5, (x6 + 1), w))
set_option maxHeartbeats 1000000 in
set_option maxRecDepth 20000 in
theorem okX8_pull_b132 {E : Ev} {Q : Option Value → Wd → Prop} {a0 : Nat} {x1 : Int32} {x2 : Int32} {x3 : Int32} {x4 : Int32} {x5 : Int32} {x6 : Int32} {w : Wd} {q : (Int32 × Int32 × Wd) ⊕ (Int32 × Wd)} (h : fX8_pull_b132 a0 x1 x2 x3 x4 x5 x6 w = some q) (hk : (Sum.elim (PX8_pull_L93 E Q a0 x1 x2 x3 x4) (fun q : Int32 × Wd => Q (some (.int q.1)) q.2)) q) : Runs E mX8_pull (6, 0, false) Q 0 132 [(0, .ref a0), (1, .int x1), (2, .int x2), (3, .int x3), (4, .int x4), (5, .int x5), (6, .int x6)] [] w := by
  unfold fX8_pull_b132 at h
  refine r_iinc (v := (x6 + 1)) dX8_pull_132 6 rfl rfl (Nat.le_of_ble_eq_true rfl) [(6, .int (x6 + 1)), (0, .ref a0), (1, .int x1), (2, .int x2), (3, .int x3), (4, .int x4), (5, .int x5)] rfl ?_
  refine r_goto (tgt := 93) dX8_pull_135 (by decide) ?_
  rw [← Option.some.inj h] at hk
  refine r_sub [1, 2, 3, 4, 5, 6, 0] [(0, .ref a0), (1, .int x1), (2, .int x2), (3, .int x3), (4, .int x4), (5, .int x5), (6, .int (x6 + 1))] rfl ?_
  exact hk
def fX8_pull_L93_body (a0 : Nat) (x1 : Int32) (x2 : Int32) (x3 : Int32) (x4 : Int32) (s : Int32 × Int32 × Wd) : Option ((Int32 × Int32 × Wd) ⊕ (Int32 × Wd)) :=
  chk (isO s.2.2 a0 8) (if (wI s.2.2 a0 6) ≤ s.2.1 then (wr (ob (wR s.2.2 a0 8) (fun o4 => chk (isA s.2.2 o4 0) (chk (inb x1 (wn s.2.2 o4)) (some (((x4 + s.1) + (wI s.2.2 o4 (x1).toNatClampNeg)), s.2.2)))))) else (ob (wR s.2.2 a0 7) (fun o8 => chk (isA s.2.2 o8 0) (chk (inb s.2.1 (wn s.2.2 o8)) (if (wI s.2.2 o8 (s.2.1).toNatClampNeg) = 3 then (ob (wR s.2.2 a0 10) (fun o13 => chk (isA s.2.2 o13 0) (chk (inb ((12 * s.2.1) + x2) (wn s.2.2 o13)) (if (wI s.2.2 o13 (((12 * s.2.1) + x2)).toNatClampNeg) = x3 then (fX8_pull_b132 a0 x1 x2 x3 x4 (s.1 + 1) s.2.1 s.2.2) else (fX8_pull_b132 a0 x1 x2 x3 x4 s.1 s.2.1 s.2.2))))) else (fX8_pull_b132 a0 x1 x2 x3 x4 s.1 s.2.1 s.2.2))))))
set_option maxHeartbeats 1000000 in
set_option maxRecDepth 20000 in
theorem okX8_pull_L93_body {E : Ev} {Q : Option Value → Wd → Prop} {a0 : Nat} {x1 : Int32} {x2 : Int32} {x3 : Int32} {x4 : Int32} {s : Int32 × Int32 × Wd} {r : (Int32 × Int32 × Wd) ⊕ (Int32 × Wd)} (h : fX8_pull_L93_body a0 x1 x2 x3 x4 s = some r) (hk : (Sum.elim (PX8_pull_L93 E Q a0 x1 x2 x3 x4) (fun q : Int32 × Wd => Q (some (.int q.1)) q.2)) r) : PX8_pull_L93 E Q a0 x1 x2 x3 x4 s := by
  unfold fX8_pull_L93_body at h
  unfold PX8_pull_L93
  refine r_iload dX8_pull_93 6 rfl ?_
  refine r_aload_n dX8_pull_95 0 rfl ?_
  obtain ⟨h1, h⟩ := chk_some h
  refine r_getI (fl_RX8_76 rfl) rfl dX8_pull_96 h1 ?_
  refine r_icmp_ge (tgt := 138) dX8_pull_99 (by decide) (fun c2 => ?_) (fun c2 => ?_)
  · rw [if_pos c2] at h
    obtain ⟨r3, hr, h⟩ := wr_some h
    rw [hr] at hk
    refine r_iload dX8_pull_138 4 rfl ?_
    refine r_iload dX8_pull_140 5 rfl ?_
    refine r_iadd dX8_pull_142 ?_
    refine r_aload_n dX8_pull_143 0 rfl ?_
    obtain ⟨o4, g5, h⟩ := ob_some h
    refine r_getR (fl_RX8_29 rfl) rfl dX8_pull_144 h1 g5 ?_
    refine r_iload_n dX8_pull_147 1 rfl ?_
    obtain ⟨h6, h⟩ := chk_some h
    obtain ⟨h7, h⟩ := chk_some h
    refine r_iaload dX8_pull_148 h6 h7 ?_
    refine r_iadd dX8_pull_149 ?_
    rw [← Option.some.inj h] at hk
    exact r_ireturn dX8_pull_150 rfl rfl hk
  · rw [if_neg c2] at h
    refine r_aload_n dX8_pull_102 0 rfl ?_
    obtain ⟨o8, g9, h⟩ := ob_some h
    refine r_getR (fl_RX8_26 rfl) rfl dX8_pull_103 h1 g9 ?_
    refine r_iload dX8_pull_106 6 rfl ?_
    obtain ⟨h10, h⟩ := chk_some h
    obtain ⟨h11, h⟩ := chk_some h
    refine r_iaload dX8_pull_108 h10 h11 ?_
    refine r_iconst (v := 3) dX8_pull_109 (by decide) ?_
    refine r_icmp_ne (tgt := 132) dX8_pull_110 (by decide) (fun c12 => ?_) (fun c12 => ?_)
    · rw [if_neg c12] at h
      refine r_sub [0, 1, 2, 3, 4, 5, 6] [(0, .ref a0), (1, .int x1), (2, .int x2), (3, .int x3), (4, .int x4), (5, .int s.1), (6, .int s.2.1)] rfl ?_
      exact okX8_pull_b132 h hk
    · rw [if_pos c12] at h
      refine r_aload_n dX8_pull_113 0 rfl ?_
      obtain ⟨o13, g14, h⟩ := ob_some h
      refine r_getR (fl_RX8_35 rfl) rfl dX8_pull_114 h1 g14 ?_
      refine r_bipush (v := 12) dX8_pull_117 (by decide) ?_
      refine r_iload dX8_pull_119 6 rfl ?_
      refine r_imul dX8_pull_121 ?_
      refine r_iload_n dX8_pull_122 2 rfl ?_
      refine r_iadd dX8_pull_123 ?_
      obtain ⟨h15, h⟩ := chk_some h
      obtain ⟨h16, h⟩ := chk_some h
      refine r_iaload dX8_pull_124 h15 h16 ?_
      refine r_iload_n dX8_pull_125 3 rfl ?_
      refine r_icmp_ne (tgt := 132) dX8_pull_126 (by decide) (fun c17 => ?_) (fun c17 => ?_)
      · rw [if_neg c17] at h
        refine r_sub [0, 1, 2, 3, 4, 5, 6] [(0, .ref a0), (1, .int x1), (2, .int x2), (3, .int x3), (4, .int x4), (5, .int s.1), (6, .int s.2.1)] rfl ?_
        exact okX8_pull_b132 h hk
      · rw [if_pos c17] at h
        refine r_iinc (v := (s.1 + 1)) dX8_pull_129 5 rfl rfl (Nat.le_of_ble_eq_true rfl) [(5, .int (s.1 + 1)), (0, .ref a0), (1, .int x1), (2, .int x2), (3, .int x3), (4, .int x4), (6, .int s.2.1)] rfl ?_
        refine r_sub [1, 2, 3, 4, 5, 0, 6] [(0, .ref a0), (1, .int x1), (2, .int x2), (3, .int x3), (4, .int x4), (5, .int (s.1 + 1)), (6, .int s.2.1)] rfl ?_
        exact okX8_pull_b132 h hk
def fX8_pull_L93 (a0 : Nat) (x1 : Int32) (x2 : Int32) (x3 : Int32) (x4 : Int32) (s : Int32 × Int32 × Wd) : Option (Int32 × Wd) := it (fX8_pull_L93_body a0 x1 x2 x3 x4) FU s
set_option maxHeartbeats 1000000 in
set_option maxRecDepth 20000 in
theorem okX8_pull_L93 {E : Ev} {Q : Option Value → Wd → Prop} {a0 : Nat} {x1 : Int32} {x2 : Int32} {x3 : Int32} {x4 : Int32} {s : Int32 × Int32 × Wd} {r : Int32 × Wd} (h : fX8_pull_L93 a0 x1 x2 x3 x4 s = some r) (hk : (fun q : Int32 × Wd => Q (some (.int q.1)) q.2) r) : PX8_pull_L93 E Q a0 x1 x2 x3 x4 s := it_runs (fun s r h hk => okX8_pull_L93_body h hk) FU s r h hk
def fX8_pull_b181 (s0 : Int32) (s1 : Int32) (w : Wd) : Option (Int32 × Wd) :=
  some ((s1 + s0), w)
set_option maxHeartbeats 1000000 in
set_option maxRecDepth 20000 in
theorem okX8_pull_b181 {E : Ev} {Q : Option Value → Wd → Prop} {s0 : Int32} {s1 : Int32} {w : Wd} {q : Int32 × Wd} (h : fX8_pull_b181 s0 s1 w = some q) (hk : (fun q : Int32 × Wd => Q (some (.int q.1)) q.2) q) : Runs E mX8_pull (6, 0, false) Q 0 181 [] [.int s0, .int s1] w := by
  unfold fX8_pull_b181 at h
  refine r_iadd dX8_pull_181 ?_
  rw [← Option.some.inj h] at hk
  exact r_ireturn dX8_pull_182 rfl rfl hk
def fX8_pull (a0 : Nat) (x1 : Int32) (x2 : Int32) (w : Wd) : Option (Int32 × Wd) :=
  chk (isO w a0 8) (ob (wR w a0 10) (fun o2 => chk (isA w o2 0) (chk (inb ((12 * x1) + x2) (wn w o2)) (bnd (wI w o2 (((12 * x1) + x2)).toNatClampNeg) (fun u6 => ob (wR w a0 11) (fun o8 => chk (isA w o8 0) (chk (inb ((12 * x1) + x2) (wn w o8)) (bnd (wI w o8 (((12 * x1) + x2)).toNatClampNeg) (fun u12 => if u6 = 0 then (some (0, w)) else (ob (wR w a0 7) (fun o15 => chk (isA w o15 0) (chk (inb x1 (wn w o15)) (if (wI w o15 (x1).toNatClampNeg) = 1 then (ob (wR w a0 8) (fun o20 => chk (isA w o20 0) (chk (inb x1 (wn w o20)) (some ((u12 + (wI w o20 (x1).toNatClampNeg)), w))))) else (if (wI w o15 (x1).toNatClampNeg) = 2 then (fX8_pull_b183 u12 w) else (if (wI w o15 (x1).toNatClampNeg) = 3 then (fX8_pull_L93 a0 x1 x2 u6 u12 (0, 0, w)) else (if (wI w o15 (x1).toNatClampNeg) = 4 then (some ((2 * u12), w)) else (if (wI w o15 (x1).toNatClampNeg) = 5 then (chk (¬ (2 : Int32) = 0) (some ((u12 / 2), w))) else (if (wI w o15 (x1).toNatClampNeg) = 6 then (ob (wR w a0 8) (fun o30 => chk (isA w o30 0) (chk (inb x1 (wn w o30)) (if x2 = (wI w o30 (x1).toNatClampNeg) then (fX8_pull_b181 9 (2 * u12) w) else (fX8_pull_b181 0 (2 * u12) w))))) else (fX8_pull_b183 u12 w)))))))))))))))))))
set_option maxHeartbeats 1000000 in
set_option maxRecDepth 20000 in
theorem okX8_pull {E : Ev} {Q : Option Value → Wd → Prop} {a0 : Nat} {x1 : Int32} {x2 : Int32} {w : Wd} {q : Int32 × Wd} (h : fX8_pull a0 x1 x2 w = some q) (hk : (fun q : Int32 × Wd => Q (some (.int q.1)) q.2) q) : Runs E mX8_pull (6, 0, false) Q 0 0 [(0, .ref a0), (1, .int x1), (2, .int x2)] [] w := by
  unfold fX8_pull at h
  refine r_aload_n dX8_pull_0 0 rfl ?_
  obtain ⟨h1, h⟩ := chk_some h
  obtain ⟨o2, g3, h⟩ := ob_some h
  refine r_getR (fl_RX8_35 rfl) rfl dX8_pull_1 h1 g3 ?_
  refine r_bipush (v := 12) dX8_pull_4 (by decide) ?_
  refine r_iload_n dX8_pull_6 1 rfl ?_
  refine r_imul dX8_pull_7 ?_
  refine r_iload_n dX8_pull_8 2 rfl ?_
  refine r_iadd dX8_pull_9 ?_
  obtain ⟨h4, h⟩ := chk_some h
  obtain ⟨h5, h⟩ := chk_some h
  refine r_iaload dX8_pull_10 h4 h5 ?_
  obtain ⟨u6, e7, h⟩ := bnd_some h
  refine r_eqI e7 ?_
  refine r_istore_n dX8_pull_11 rfl (Nat.le_of_ble_eq_true rfl) [(3, .int u6), (0, .ref a0), (1, .int x1), (2, .int x2)] rfl ?_
  refine r_aload_n dX8_pull_12 1 rfl ?_
  obtain ⟨o8, g9, h⟩ := ob_some h
  refine r_getR (fl_RX8_38 rfl) rfl dX8_pull_13 h1 g9 ?_
  refine r_bipush (v := 12) dX8_pull_16 (by decide) ?_
  refine r_iload_n dX8_pull_18 2 rfl ?_
  refine r_imul dX8_pull_19 ?_
  refine r_iload_n dX8_pull_20 3 rfl ?_
  refine r_iadd dX8_pull_21 ?_
  obtain ⟨h10, h⟩ := chk_some h
  obtain ⟨h11, h⟩ := chk_some h
  refine r_iaload dX8_pull_22 h10 h11 ?_
  obtain ⟨u12, e13, h⟩ := bnd_some h
  refine r_eqI e13 ?_
  refine r_istore dX8_pull_23 (Nat.le_of_ble_eq_true rfl) [(4, .int u12), (3, .int u6), (0, .ref a0), (1, .int x1), (2, .int x2)] rfl ?_
  refine r_iload_n dX8_pull_25 1 rfl ?_
  refine r_if_ne (tgt := 31) dX8_pull_26 (by decide) (fun c14 => ?_) (fun c14 => ?_)
  · rw [if_neg c14] at h
    refine r_iconst (v := 0) dX8_pull_31 (by decide) ?_
    refine r_istore dX8_pull_32 (Nat.le_of_ble_eq_true rfl) [(5, .int 0), (4, .int u12), (3, .int u6), (0, .ref a0), (1, .int x1), (2, .int x2)] rfl ?_
    refine r_aload_n dX8_pull_34 3 rfl ?_
    obtain ⟨o15, g16, h⟩ := ob_some h
    refine r_getR (fl_RX8_26 rfl) rfl dX8_pull_35 h1 g16 ?_
    refine r_iload_n dX8_pull_38 4 rfl ?_
    obtain ⟨h17, h⟩ := chk_some h
    obtain ⟨h18, h⟩ := chk_some h
    refine r_iaload dX8_pull_39 h17 h18 ?_
    by_cases c19 : (wI w o15 (x1).toNatClampNeg) = 1
    · rw [if_pos c19] at h
      refine r_tabIn (tgt := 80) dX8_pull_40 (by rw [c19] <;> decide) (by rw [c19] <;> decide) (by rw [c19] <;> rfl) (by decide) ?_
      refine r_iload dX8_pull_80 1 rfl ?_
      refine r_aload_n dX8_pull_82 3 rfl ?_
      obtain ⟨o20, g21, h⟩ := ob_some h
      refine r_getR (fl_RX8_29 rfl) rfl dX8_pull_83 h1 g21 ?_
      refine r_iload_n dX8_pull_86 4 rfl ?_
      obtain ⟨h22, h⟩ := chk_some h
      obtain ⟨h23, h⟩ := chk_some h
      refine r_iaload dX8_pull_87 h22 h23 ?_
      refine r_iadd dX8_pull_88 ?_
      rw [← Option.some.inj h] at hk
      exact r_ireturn dX8_pull_89 rfl rfl hk
    rw [if_neg c19] at h
    by_cases c24 : (wI w o15 (x1).toNatClampNeg) = 2
    · rw [if_pos c24] at h
      refine r_tabIn (tgt := 183) dX8_pull_40 (by rw [c24] <;> decide) (by rw [c24] <;> decide) (by rw [c24] <;> rfl) (by decide) ?_
      refine r_sub [1] [(4, .int u12)] rfl ?_
      exact okX8_pull_b183 h hk
    rw [if_neg c24] at h
    by_cases c25 : (wI w o15 (x1).toNatClampNeg) = 3
    · rw [if_pos c25] at h
      refine r_tabIn (tgt := 90) dX8_pull_40 (by rw [c25] <;> decide) (by rw [c25] <;> decide) (by rw [c25] <;> rfl) (by decide) ?_
      refine r_iconst (v := 0) dX8_pull_90 (by decide) ?_
      refine r_istore dX8_pull_91 (Nat.le_of_ble_eq_true rfl) [(6, .int 0), (5, .int 0), (4, .int u12), (3, .int u6), (0, .ref a0), (1, .int x1), (2, .int x2)] rfl ?_
      refine r_sub [4, 5, 6, 3, 2, 1, 0] [(0, .ref a0), (1, .int x1), (2, .int x2), (3, .int u6), (4, .int u12), (5, .int 0), (6, .int 0)] rfl ?_
      exact okX8_pull_L93 h hk
    rw [if_neg c25] at h
    by_cases c26 : (wI w o15 (x1).toNatClampNeg) = 4
    · rw [if_pos c26] at h
      refine r_tabIn (tgt := 151) dX8_pull_40 (by rw [c26] <;> decide) (by rw [c26] <;> decide) (by rw [c26] <;> rfl) (by decide) ?_
      refine r_iconst (v := 2) dX8_pull_151 (by decide) ?_
      refine r_iload dX8_pull_152 1 rfl ?_
      refine r_imul dX8_pull_154 ?_
      rw [← Option.some.inj h] at hk
      exact r_ireturn dX8_pull_155 rfl rfl hk
    rw [if_neg c26] at h
    by_cases c27 : (wI w o15 (x1).toNatClampNeg) = 5
    · rw [if_pos c27] at h
      refine r_tabIn (tgt := 156) dX8_pull_40 (by rw [c27] <;> decide) (by rw [c27] <;> decide) (by rw [c27] <;> rfl) (by decide) ?_
      refine r_iload dX8_pull_156 1 rfl ?_
      refine r_iconst (v := 2) dX8_pull_158 (by decide) ?_
      obtain ⟨h28, h⟩ := chk_some h
      refine r_idiv dX8_pull_159 h28 ?_
      rw [← Option.some.inj h] at hk
      exact r_ireturn dX8_pull_160 rfl rfl hk
    rw [if_neg c27] at h
    by_cases c29 : (wI w o15 (x1).toNatClampNeg) = 6
    · rw [if_pos c29] at h
      refine r_tabIn (tgt := 161) dX8_pull_40 (by rw [c29] <;> decide) (by rw [c29] <;> decide) (by rw [c29] <;> rfl) (by decide) ?_
      refine r_iconst (v := 2) dX8_pull_161 (by decide) ?_
      refine r_iload dX8_pull_162 1 rfl ?_
      refine r_imul dX8_pull_164 ?_
      refine r_iload_n dX8_pull_165 5 rfl ?_
      refine r_aload_n dX8_pull_166 3 rfl ?_
      obtain ⟨o30, g31, h⟩ := ob_some h
      refine r_getR (fl_RX8_29 rfl) rfl dX8_pull_167 h1 g31 ?_
      refine r_iload_n dX8_pull_170 4 rfl ?_
      obtain ⟨h32, h⟩ := chk_some h
      obtain ⟨h33, h⟩ := chk_some h
      refine r_iaload dX8_pull_171 h32 h33 ?_
      refine r_icmp_ne (tgt := 180) dX8_pull_172 (by decide) (fun c34 => ?_) (fun c34 => ?_)
      · rw [if_neg c34] at h
        refine r_iconst (v := 0) dX8_pull_180 (by decide) ?_
        refine r_sub [] [] rfl ?_
        exact okX8_pull_b181 h hk
      · rw [if_pos c34] at h
        refine r_bipush (v := 9) dX8_pull_175 (by decide) ?_
        refine r_goto (tgt := 181) dX8_pull_177 (by decide) ?_
        refine r_sub [] [] rfl ?_
        exact okX8_pull_b181 h hk
    rw [if_neg c29] at h
    refine r_tabOut (tgt := 183) dX8_pull_40 (by have := lv_neT (k := 1) (a := 1) c19 rfl; have := lv_neT (k := 2) (a := 2) c24 rfl; have := lv_neT (k := 3) (a := 3) c25 rfl; have := lv_neT (k := 4) (a := 4) c26 rfl; have := lv_neT (k := 5) (a := 5) c27 rfl; have := lv_neT (k := 6) (a := 6) c29 rfl; omega) (by decide) ?_
    refine r_sub [1] [(4, .int u12)] rfl ?_
    exact okX8_pull_b183 h hk
  · rw [if_pos c14] at h
    refine r_iconst (v := 0) dX8_pull_29 (by decide) ?_
    rw [← Option.some.inj h] at hk
    exact r_ireturn dX8_pull_30 rfl rfl hk
set_option maxHeartbeats 1000000 in
set_option maxRecDepth 20000 in
theorem ctX8_pull {E : Ev} {a0 : Nat} {x1 : Int32} {x2 : Int32} {w : Wd} {q : Int32 × Wd} (h : fX8_pull a0 x1 x2 w = some q) : CT E mX8_pull (6, 0, false) [.ref a0, .int x1, .int x2] w (QI q) := CT.of pl_RX8 (Nat.le_of_ble_eq_true rfl) (okX8_pull h ⟨rfl, rfl⟩)
def fX8_couldGo_b40 (s0 : Int32) (w : Wd) : Option (Int32 × Wd) :=
  chk (s0 = 0 ∨ s0 = 1) (some (s0, w))
set_option maxHeartbeats 1000000 in
set_option maxRecDepth 20000 in
theorem okX8_couldGo_b40 {E : Ev} {Q : Option Value → Wd → Prop} {s0 : Int32} {w : Wd} {q : Int32 × Wd} (h : fX8_couldGo_b40 s0 w = some q) (hk : (fun q : Int32 × Wd => Q (some (.int q.1)) q.2) q) : Runs E mX8_couldGo (8, 0, false) Q 0 40 [] [.int s0] w := by
  unfold fX8_couldGo_b40 at h
  obtain ⟨h1, h⟩ := chk_some h
  rw [← Option.some.inj h] at hk
  exact r_ireturn dX8_couldGo_40 rfl (nb h1) hk
def fX8_couldGo_b39 (w : Wd) : Option (Int32 × Wd) :=
  fX8_couldGo_b40 0 w
set_option maxHeartbeats 1000000 in
set_option maxRecDepth 20000 in
theorem okX8_couldGo_b39 {E : Ev} {Q : Option Value → Wd → Prop} {w : Wd} {q : Int32 × Wd} (h : fX8_couldGo_b39 w = some q) (hk : (fun q : Int32 × Wd => Q (some (.int q.1)) q.2) q) : Runs E mX8_couldGo (8, 0, false) Q 0 39 [] [] w := by
  unfold fX8_couldGo_b39 at h
  refine r_iconst (v := 0) dX8_couldGo_39 (by decide) ?_
  refine r_sub [] [] rfl ?_
  exact okX8_couldGo_b40 h hk
def fX8_couldGo_b24 (a0 : Nat) (x1 : Int32) (x2 : Int32) (w : Wd) : Option (Int32 × Wd) :=
  chk (isO w a0 8) (ob (fX8_pull a0 x1 x2 w) (fun q2 => if q2.1 < 10 then (fX8_couldGo_b39 q2.2) else (fX8_couldGo_b40 1 q2.2)))
set_option maxHeartbeats 1000000 in
set_option maxRecDepth 20000 in
theorem okX8_couldGo_b24 {E : Ev} {Q : Option Value → Wd → Prop} {a0 : Nat} {x1 : Int32} {x2 : Int32} {w : Wd} {q : Int32 × Wd} (h : fX8_couldGo_b24 a0 x1 x2 w = some q) (hk : (fun q : Int32 × Wd => Q (some (.int q.1)) q.2) q) : Runs E mX8_couldGo (8, 0, false) Q 0 24 [(0, .ref a0), (1, .int x1), (2, .int x2)] [] w := by
  unfold fX8_couldGo_b24 at h
  refine r_aload_n dX8_couldGo_24 0 rfl ?_
  refine r_iload_n dX8_couldGo_25 1 rfl ?_
  refine r_iload_n dX8_couldGo_26 2 rfl ?_
  obtain ⟨h1, h⟩ := chk_some h
  obtain ⟨q2, g3, h⟩ := ob_some h
  refine r_callV (d' := (6, 0, false)) (As := [.int x1, .int x2]) (st := []) mdv_X8_pull tm_RX8_135 (by decide) rfl rfl (by decide) rfl (Nat.le_refl _) (Nat.le_of_ble_eq_true rfl) rfl dX8_couldGo_27 h1 (ctX8_pull g3) (k_I0 ?_)
  refine r_bipush (v := 10) dX8_couldGo_30 (by decide) ?_
  refine r_icmp_lt (tgt := 39) dX8_couldGo_32 (by decide) (fun c4 => ?_) (fun c4 => ?_)
  · rw [if_pos c4] at h
    refine r_sub [] [] rfl ?_
    exact okX8_couldGo_b39 h hk
  · rw [if_neg c4] at h
    refine r_iconst (v := 1) dX8_couldGo_35 (by decide) ?_
    refine r_goto (tgt := 40) dX8_couldGo_36 (by decide) ?_
    refine r_sub [] [] rfl ?_
    exact okX8_couldGo_b40 h hk
def fX8_couldGo (a0 : Nat) (x1 : Int32) (x2 : Int32) (w : Wd) : Option (Int32 × Wd) :=
  chk (isO w a0 8) (ob (wR w a0 7) (fun o2 => chk (isA w o2 0) (chk (inb x1 (wn w o2)) (ob (fX8_isUnder (wI w o2 (x1).toNatClampNeg) 1 w) (fun q6 => if q6.1 = 0 then (chk (isO q6.2 a0 8) (ob (wR q6.2 a0 7) (fun o10 => chk (isA q6.2 o10 0) (chk (inb x1 (wn q6.2 o10)) (if (wI q6.2 o10 (x1).toNatClampNeg) = 6 then (fX8_couldGo_b24 a0 x1 x2 q6.2) else (fX8_couldGo_b39 q6.2)))))) else (fX8_couldGo_b24 a0 x1 x2 q6.2))))))
set_option maxHeartbeats 1000000 in
set_option maxRecDepth 20000 in
theorem okX8_couldGo {E : Ev} {Q : Option Value → Wd → Prop} {a0 : Nat} {x1 : Int32} {x2 : Int32} {w : Wd} {q : Int32 × Wd} (h : fX8_couldGo a0 x1 x2 w = some q) (hk : (fun q : Int32 × Wd => Q (some (.int q.1)) q.2) q) : Runs E mX8_couldGo (8, 0, false) Q 0 0 [(0, .ref a0), (1, .int x1), (2, .int x2)] [] w := by
  unfold fX8_couldGo at h
  refine r_aload_n dX8_couldGo_0 0 rfl ?_
  obtain ⟨h1, h⟩ := chk_some h
  obtain ⟨o2, g3, h⟩ := ob_some h
  refine r_getR (fl_RX8_26 rfl) rfl dX8_couldGo_1 h1 g3 ?_
  refine r_iload_n dX8_couldGo_4 1 rfl ?_
  obtain ⟨h4, h⟩ := chk_some h
  obtain ⟨h5, h⟩ := chk_some h
  refine r_iaload dX8_couldGo_5 h4 h5 ?_
  refine r_iconst (v := 1) dX8_couldGo_6 (by decide) ?_
  obtain ⟨q6, g7, h⟩ := ob_some h
  refine r_callS (d' := (7, 0, false)) (As := [.int (wI w o2 (x1).toNatClampNeg), .int 1]) (st := []) mds_X8_isUnder tm_RX8_99 rfl (by decide) rfl (Nat.le_refl _) (Nat.le_of_ble_eq_true rfl) rfl dX8_couldGo_7 (ctX8_isUnder g7) (k_I0 ?_)
  refine r_if_ne (tgt := 24) dX8_couldGo_10 (by decide) (fun c8 => ?_) (fun c8 => ?_)
  · rw [if_neg c8] at h
    refine r_sub [0, 1, 2] [(0, .ref a0), (1, .int x1), (2, .int x2)] rfl ?_
    exact okX8_couldGo_b24 h hk
  · rw [if_pos c8] at h
    refine r_aload_n dX8_couldGo_13 0 rfl ?_
    obtain ⟨h9, h⟩ := chk_some h
    obtain ⟨o10, g11, h⟩ := ob_some h
    refine r_getR (fl_RX8_26 rfl) rfl dX8_couldGo_14 h9 g11 ?_
    refine r_iload_n dX8_couldGo_17 1 rfl ?_
    obtain ⟨h12, h⟩ := chk_some h
    obtain ⟨h13, h⟩ := chk_some h
    refine r_iaload dX8_couldGo_18 h12 h13 ?_
    refine r_bipush (v := 6) dX8_couldGo_19 (by decide) ?_
    refine r_icmp_ne (tgt := 39) dX8_couldGo_21 (by decide) (fun c14 => ?_) (fun c14 => ?_)
    · rw [if_neg c14] at h
      refine r_sub [] [] rfl ?_
      exact okX8_couldGo_b39 h hk
    · rw [if_pos c14] at h
      refine r_sub [0, 1, 2] [(0, .ref a0), (1, .int x1), (2, .int x2)] rfl ?_
      exact okX8_couldGo_b24 h hk
set_option maxHeartbeats 1000000 in
set_option maxRecDepth 20000 in
theorem ctX8_couldGo {E : Ev} {a0 : Nat} {x1 : Int32} {x2 : Int32} {w : Wd} {q : Int32 × Wd} (h : fX8_couldGo a0 x1 x2 w = some q) : CT E mX8_couldGo (8, 0, false) [.ref a0, .int x1, .int x2] w (QI q) := CT.of pl_RX8 (Nat.le_of_ble_eq_true rfl) (okX8_couldGo h ⟨rfl, rfl⟩)
def fX8_goesNow_b24 (s0 : Int32) (w : Wd) : Option (Int32 × Wd) :=
  chk (s0 = 0 ∨ s0 = 1) (some (s0, w))
set_option maxHeartbeats 1000000 in
set_option maxRecDepth 20000 in
theorem okX8_goesNow_b24 {E : Ev} {Q : Option Value → Wd → Prop} {s0 : Int32} {w : Wd} {q : Int32 × Wd} (h : fX8_goesNow_b24 s0 w = some q) (hk : (fun q : Int32 × Wd => Q (some (.int q.1)) q.2) q) : Runs E mX8_goesNow (9, 0, false) Q 0 24 [] [.int s0] w := by
  unfold fX8_goesNow_b24 at h
  obtain ⟨h1, h⟩ := chk_some h
  rw [← Option.some.inj h] at hk
  exact r_ireturn dX8_goesNow_24 rfl (nb h1) hk
def fX8_goesNow_b23 (w : Wd) : Option (Int32 × Wd) :=
  fX8_goesNow_b24 0 w
set_option maxHeartbeats 1000000 in
set_option maxRecDepth 20000 in
theorem okX8_goesNow_b23 {E : Ev} {Q : Option Value → Wd → Prop} {w : Wd} {q : Int32 × Wd} (h : fX8_goesNow_b23 w = some q) (hk : (fun q : Int32 × Wd => Q (some (.int q.1)) q.2) q) : Runs E mX8_goesNow (9, 0, false) Q 0 23 [] [] w := by
  unfold fX8_goesNow_b23 at h
  refine r_iconst (v := 0) dX8_goesNow_23 (by decide) ?_
  refine r_sub [] [] rfl ?_
  exact okX8_goesNow_b24 h hk
def fX8_goesNow (a0 : Nat) (x1 : Int32) (x2 : Int32) (w : Wd) : Option (Int32 × Wd) :=
  chk (isO w a0 8) (ob (wR w a0 9) (fun o2 => chk (isA w o2 0) (chk (inb x1 (wn w o2)) (if (wI w o2 (x1).toNatClampNeg) = (-1) then (ob (fX8_couldGo a0 x1 x2 w) (fun q7 => if q7.1 = 0 then (fX8_goesNow_b23 q7.2) else (fX8_goesNow_b24 1 q7.2))) else (fX8_goesNow_b23 w)))))
set_option maxHeartbeats 1000000 in
set_option maxRecDepth 20000 in
theorem okX8_goesNow {E : Ev} {Q : Option Value → Wd → Prop} {a0 : Nat} {x1 : Int32} {x2 : Int32} {w : Wd} {q : Int32 × Wd} (h : fX8_goesNow a0 x1 x2 w = some q) (hk : (fun q : Int32 × Wd => Q (some (.int q.1)) q.2) q) : Runs E mX8_goesNow (9, 0, false) Q 0 0 [(0, .ref a0), (1, .int x1), (2, .int x2)] [] w := by
  unfold fX8_goesNow at h
  refine r_aload_n dX8_goesNow_0 0 rfl ?_
  obtain ⟨h1, h⟩ := chk_some h
  obtain ⟨o2, g3, h⟩ := ob_some h
  refine r_getR (fl_RX8_32 rfl) rfl dX8_goesNow_1 h1 g3 ?_
  refine r_iload_n dX8_goesNow_4 1 rfl ?_
  obtain ⟨h4, h⟩ := chk_some h
  obtain ⟨h5, h⟩ := chk_some h
  refine r_iaload dX8_goesNow_5 h4 h5 ?_
  refine r_iconst (v := (-1)) dX8_goesNow_6 (by decide) ?_
  refine r_icmp_ne (tgt := 23) dX8_goesNow_7 (by decide) (fun c6 => ?_) (fun c6 => ?_)
  · rw [if_neg c6] at h
    refine r_sub [] [] rfl ?_
    exact okX8_goesNow_b23 h hk
  · rw [if_pos c6] at h
    refine r_aload_n dX8_goesNow_10 0 rfl ?_
    refine r_iload_n dX8_goesNow_11 1 rfl ?_
    refine r_iload_n dX8_goesNow_12 2 rfl ?_
    obtain ⟨q7, g8, h⟩ := ob_some h
    refine r_callV (d' := (8, 0, false)) (As := [.int x1, .int x2]) (st := []) mdv_X8_couldGo tm_RX8_110 (by decide) rfl rfl (by decide) rfl (Nat.le_refl _) (Nat.le_of_ble_eq_true rfl) rfl dX8_goesNow_13 h1 (ctX8_couldGo g8) (k_I0 ?_)
    refine r_if_eq (tgt := 23) dX8_goesNow_16 (by decide) (fun c9 => ?_) (fun c9 => ?_)
    · rw [if_pos c9] at h
      refine r_sub [] [] rfl ?_
      exact okX8_goesNow_b23 h hk
    · rw [if_neg c9] at h
      refine r_iconst (v := 1) dX8_goesNow_19 (by decide) ?_
      refine r_goto (tgt := 24) dX8_goesNow_20 (by decide) ?_
      refine r_sub [] [] rfl ?_
      exact okX8_goesNow_b24 h hk
set_option maxHeartbeats 1000000 in
set_option maxRecDepth 20000 in
theorem ctX8_goesNow {E : Ev} {a0 : Nat} {x1 : Int32} {x2 : Int32} {w : Wd} {q : Int32 × Wd} (h : fX8_goesNow a0 x1 x2 w = some q) : CT E mX8_goesNow (9, 0, false) [.ref a0, .int x1, .int x2] w (QI q) := CT.of pl_RX8 (Nat.le_of_ble_eq_true rfl) (okX8_goesNow h ⟨rfl, rfl⟩)
def fX8_isHour (x0 : Int32) (w : Wd) : Option (Int32 × Wd) :=
  ob (fX8_within x0 0 11 w) (fun q1 => chk (q1.1 = 0 ∨ q1.1 = 1) (some (q1.1, q1.2)))
set_option maxHeartbeats 1000000 in
set_option maxRecDepth 20000 in
theorem okX8_isHour {E : Ev} {Q : Option Value → Wd → Prop} {x0 : Int32} {w : Wd} {q : Int32 × Wd} (h : fX8_isHour x0 w = some q) (hk : (fun q : Int32 × Wd => Q (some (.int q.1)) q.2) q) : Runs E mX8_isHour (7, 0, false) Q 0 0 [(0, .int x0)] [] w := by
  unfold fX8_isHour at h
  refine r_iload_n dX8_isHour_0 0 rfl ?_
  refine r_iconst (v := 0) dX8_isHour_1 (by decide) ?_
  refine r_bipush (v := 11) dX8_isHour_2 (by decide) ?_
  obtain ⟨q1, g2, h⟩ := ob_some h
  refine r_callS (d' := (6, 0, false)) (As := [.int x0, .int 0, .int 11]) (st := []) mds_X8_within tm_RX8_79 rfl (by decide) rfl (Nat.le_refl _) (Nat.le_of_ble_eq_true rfl) rfl dX8_isHour_4 (ctX8_within g2) (k_I0 ?_)
  obtain ⟨h3, h⟩ := chk_some h
  rw [← Option.some.inj h] at hk
  exact r_ireturn dX8_isHour_7 rfl (nb h3) hk
set_option maxHeartbeats 1000000 in
set_option maxRecDepth 20000 in
theorem ctX8_isHour {E : Ev} {x0 : Int32} {w : Wd} {q : Int32 × Wd} (h : fX8_isHour x0 w = some q) : CT E mX8_isHour (7, 0, false) [.int x0] w (QI q) := CT.of pl_RX8 (Nat.le_of_ble_eq_true rfl) (okX8_isHour h ⟨rfl, rfl⟩)
def fX8_no (a0 : Nat) (x1 : Int32) (w : Wd) : Option (Int32 × Wd) :=
  chk (isO w a0 8) (ob (wR w a0 15) (fun o2 => chk (isA w o2 0) (chk (inb (-x1) (wn w o2)) (bnd (sI w o2 ((-x1)).toNatClampNeg ((wI w o2 ((-x1)).toNatClampNeg) + 1)) (fun w6 => some (x1, w6))))))
set_option maxHeartbeats 1000000 in
set_option maxRecDepth 20000 in
theorem okX8_no {E : Ev} {Q : Option Value → Wd → Prop} {a0 : Nat} {x1 : Int32} {w : Wd} {q : Int32 × Wd} (h : fX8_no a0 x1 w = some q) (hk : (fun q : Int32 × Wd => Q (some (.int q.1)) q.2) q) : Runs E mX8_no (6, 0, false) Q 0 0 [(0, .ref a0), (1, .int x1)] [] w := by
  unfold fX8_no at h
  refine r_aload_n dX8_no_0 0 rfl ?_
  obtain ⟨h1, h⟩ := chk_some h
  obtain ⟨o2, g3, h⟩ := ob_some h
  refine r_getR (fl_RX8_41 rfl) rfl dX8_no_1 h1 g3 ?_
  refine r_iload_n dX8_no_4 1 rfl ?_
  refine r_ineg dX8_no_5 ?_
  refine r_dup2 dX8_no_6 rfl rfl ?_
  obtain ⟨h4, h⟩ := chk_some h
  obtain ⟨h5, h⟩ := chk_some h
  refine r_iaload dX8_no_7 h4 h5 ?_
  refine r_iconst (v := 1) dX8_no_8 (by decide) ?_
  refine r_iadd dX8_no_9 ?_
  obtain ⟨w6, e7, h⟩ := bnd_some h
  refine r_iastore dX8_no_10 h4 h5 ?_
  refine r_eqW e7 ?_
  refine r_iload_n dX8_no_11 1 rfl ?_
  rw [← Option.some.inj h] at hk
  exact r_ireturn dX8_no_12 rfl rfl hk
set_option maxHeartbeats 1000000 in
set_option maxRecDepth 20000 in
theorem ctX8_no {E : Ev} {a0 : Nat} {x1 : Int32} {w : Wd} {q : Int32 × Wd} (h : fX8_no a0 x1 w = some q) : CT E mX8_no (6, 0, false) [.ref a0, .int x1] w (QI q) := CT.of pl_RX8 (Nat.le_of_ble_eq_true rfl) (okX8_no h ⟨rfl, rfl⟩)
def PX8_alone_L18 (E : Ev) (Q : Option Value → Wd → Prop) (a0 : Nat) (x1 : Int32) (s : Int32 × Int32 × Wd) : Prop := Runs E mX8_alone (10, 0, false) Q 0 18 [(0, .ref a0), (1, .int x1), (2, .int s.1), (3, .int s.2.1)] [] s.2.2
def fX8_alone_b41 (a0 : Nat) (x1 : Int32) (x2 : Int32) (x3 : Int32) (w : Wd) : Option ((Int32 × Int32 × Wd) ⊕ (Int32 × Wd)) :=
  some (.inl (x2, (x3 + 1), w))
set_option maxHeartbeats 1000000 in
set_option maxRecDepth 20000 in
theorem okX8_alone_b41 {E : Ev} {Q : Option Value → Wd → Prop} {a0 : Nat} {x1 : Int32} {x2 : Int32} {x3 : Int32} {w : Wd} {q : (Int32 × Int32 × Wd) ⊕ (Int32 × Wd)} (h : fX8_alone_b41 a0 x1 x2 x3 w = some q) (hk : (Sum.elim (PX8_alone_L18 E Q a0 x1) (fun q : Int32 × Wd => Q (some (.int q.1)) q.2)) q) : Runs E mX8_alone (10, 0, false) Q 0 41 [(0, .ref a0), (1, .int x1), (2, .int x2), (3, .int x3)] [] w := by
  unfold fX8_alone_b41 at h
  refine r_iinc (v := (x3 + 1)) dX8_alone_41 3 rfl rfl (Nat.le_of_ble_eq_true rfl) [(3, .int (x3 + 1)), (0, .ref a0), (1, .int x1), (2, .int x2)] rfl ?_
  refine r_goto (tgt := 18) dX8_alone_44 (by decide) ?_
  rw [← Option.some.inj h] at hk
  refine r_sub [1, 2, 3, 0] [(0, .ref a0), (1, .int x1), (2, .int x2), (3, .int (x3 + 1))] rfl ?_
  exact hk
def fX8_alone_L18_body (a0 : Nat) (x1 : Int32) (s : Int32 × Int32 × Wd) : Option ((Int32 × Int32 × Wd) ⊕ (Int32 × Wd)) :=
  chk (isO s.2.2 a0 8) (if (wI s.2.2 a0 6) ≤ s.2.1 then (wr (some (s.1, s.2.2))) else (ob (fX8_goesNow a0 s.2.1 x1 s.2.2) (fun q4 => if q4.1 = 0 then (fX8_alone_b41 a0 x1 s.1 s.2.1 q4.2) else (bnd (s.1 ||| (1 <<< (s.2.1 &&& 31))) (fun u7 => fX8_alone_b41 a0 x1 u7 s.2.1 q4.2)))))
set_option maxHeartbeats 1000000 in
set_option maxRecDepth 20000 in
theorem okX8_alone_L18_body {E : Ev} {Q : Option Value → Wd → Prop} {a0 : Nat} {x1 : Int32} {s : Int32 × Int32 × Wd} {r : (Int32 × Int32 × Wd) ⊕ (Int32 × Wd)} (h : fX8_alone_L18_body a0 x1 s = some r) (hk : (Sum.elim (PX8_alone_L18 E Q a0 x1) (fun q : Int32 × Wd => Q (some (.int q.1)) q.2)) r) : PX8_alone_L18 E Q a0 x1 s := by
  unfold fX8_alone_L18_body at h
  unfold PX8_alone_L18
  refine r_iload_n dX8_alone_18 3 rfl ?_
  refine r_aload_n dX8_alone_19 0 rfl ?_
  obtain ⟨h1, h⟩ := chk_some h
  refine r_getI (fl_RX8_76 rfl) rfl dX8_alone_20 h1 ?_
  refine r_icmp_ge (tgt := 47) dX8_alone_23 (by decide) (fun c2 => ?_) (fun c2 => ?_)
  · rw [if_pos c2] at h
    obtain ⟨r3, hr, h⟩ := wr_some h
    rw [hr] at hk
    refine r_iload_n dX8_alone_47 2 rfl ?_
    rw [← Option.some.inj h] at hk
    exact r_ireturn dX8_alone_48 rfl rfl hk
  · rw [if_neg c2] at h
    refine r_aload_n dX8_alone_26 0 rfl ?_
    refine r_iload_n dX8_alone_27 3 rfl ?_
    refine r_iload_n dX8_alone_28 1 rfl ?_
    obtain ⟨q4, g5, h⟩ := ob_some h
    refine r_callV (d' := (9, 0, false)) (As := [.int s.2.1, .int x1]) (st := []) mdv_X8_goesNow tm_RX8_236 (by decide) rfl rfl (by decide) rfl (Nat.le_refl _) (Nat.le_of_ble_eq_true rfl) rfl dX8_alone_29 h1 (ctX8_goesNow g5) (k_I0 ?_)
    refine r_if_eq (tgt := 41) dX8_alone_32 (by decide) (fun c6 => ?_) (fun c6 => ?_)
    · rw [if_pos c6] at h
      refine r_sub [0, 1, 2, 3] [(0, .ref a0), (1, .int x1), (2, .int s.1), (3, .int s.2.1)] rfl ?_
      exact okX8_alone_b41 h hk
    · rw [if_neg c6] at h
      refine r_iload_n dX8_alone_35 2 rfl ?_
      refine r_iconst (v := 1) dX8_alone_36 (by decide) ?_
      refine r_iload_n dX8_alone_37 3 rfl ?_
      refine r_ishl dX8_alone_38 ?_
      refine r_ior dX8_alone_39 ?_
      obtain ⟨u7, e8, h⟩ := bnd_some h
      refine r_eqI e8 ?_
      refine r_istore_n dX8_alone_40 rfl (Nat.le_of_ble_eq_true rfl) [(2, .int u7), (0, .ref a0), (1, .int x1), (3, .int s.2.1)] rfl ?_
      refine r_sub [1, 2, 0, 3] [(0, .ref a0), (1, .int x1), (2, .int u7), (3, .int s.2.1)] rfl ?_
      exact okX8_alone_b41 h hk
def fX8_alone_L18 (a0 : Nat) (x1 : Int32) (s : Int32 × Int32 × Wd) : Option (Int32 × Wd) := it (fX8_alone_L18_body a0 x1) FU s
set_option maxHeartbeats 1000000 in
set_option maxRecDepth 20000 in
theorem okX8_alone_L18 {E : Ev} {Q : Option Value → Wd → Prop} {a0 : Nat} {x1 : Int32} {s : Int32 × Int32 × Wd} {r : Int32 × Wd} (h : fX8_alone_L18 a0 x1 s = some r) (hk : (fun q : Int32 × Wd => Q (some (.int q.1)) q.2) r) : PX8_alone_L18 E Q a0 x1 s := it_runs (fun s r h hk => okX8_alone_L18_body h hk) FU s r h hk
def fX8_alone (a0 : Nat) (x1 : Int32) (w : Wd) : Option (Int32 × Wd) :=
  ob (fX8_isHour x1 w) (fun q1 => if q1.1 = 0 then (chk (isO q1.2 a0 8) (ob (fX8_no a0 (-6) q1.2) (fun q5 => some (q5.1, q5.2)))) else (fX8_alone_L18 a0 x1 (0, 0, q1.2)))
set_option maxHeartbeats 1000000 in
set_option maxRecDepth 20000 in
theorem okX8_alone {E : Ev} {Q : Option Value → Wd → Prop} {a0 : Nat} {x1 : Int32} {w : Wd} {q : Int32 × Wd} (h : fX8_alone a0 x1 w = some q) (hk : (fun q : Int32 × Wd => Q (some (.int q.1)) q.2) q) : Runs E mX8_alone (10, 0, false) Q 0 0 [(0, .ref a0), (1, .int x1)] [] w := by
  unfold fX8_alone at h
  refine r_iload_n dX8_alone_0 1 rfl ?_
  obtain ⟨q1, g2, h⟩ := ob_some h
  refine r_callS (d' := (7, 0, false)) (As := [.int x1]) (st := []) mds_X8_isHour tm_RX8_125 rfl (by decide) rfl (Nat.le_refl _) (Nat.le_of_ble_eq_true rfl) rfl dX8_alone_1 (ctX8_isHour g2) (k_I0 ?_)
  refine r_if_ne (tgt := 14) dX8_alone_4 (by decide) (fun c3 => ?_) (fun c3 => ?_)
  · rw [if_neg c3] at h
    refine r_iconst (v := 0) dX8_alone_14 (by decide) ?_
    refine r_istore_n dX8_alone_15 rfl (Nat.le_of_ble_eq_true rfl) [(2, .int 0), (0, .ref a0), (1, .int x1)] rfl ?_
    refine r_iconst (v := 0) dX8_alone_16 (by decide) ?_
    refine r_istore_n dX8_alone_17 rfl (Nat.le_of_ble_eq_true rfl) [(3, .int 0), (2, .int 0), (0, .ref a0), (1, .int x1)] rfl ?_
    refine r_sub [2, 3, 1, 0] [(0, .ref a0), (1, .int x1), (2, .int 0), (3, .int 0)] rfl ?_
    exact okX8_alone_L18 h hk
  · rw [if_pos c3] at h
    refine r_aload_n dX8_alone_7 0 rfl ?_
    refine r_bipush (v := (-6)) dX8_alone_8 (by decide) ?_
    obtain ⟨h4, h⟩ := chk_some h
    obtain ⟨q5, g6, h⟩ := ob_some h
    refine r_callV (d' := (6, 0, false)) (As := [.int (-6)]) (st := []) mdv_X8_no tm_RX8_72 (by decide) rfl rfl (by decide) rfl (Nat.le_refl _) (Nat.le_of_ble_eq_true rfl) rfl dX8_alone_10 h4 (ctX8_no g6) (k_I0 ?_)
    rw [← Option.some.inj h] at hk
    exact r_ireturn dX8_alone_13 rfl rfl hk
set_option maxHeartbeats 1000000 in
set_option maxRecDepth 20000 in
theorem ctX8_alone {E : Ev} {a0 : Nat} {x1 : Int32} {w : Wd} {q : Int32 × Wd} (h : fX8_alone a0 x1 w = some q) : CT E mX8_alone (10, 0, false) [.ref a0, .int x1] w (QI q) := CT.of pl_RX8 (Nat.le_of_ble_eq_true rfl) (okX8_alone h ⟨rfl, rfl⟩)
def fX8_becomes (a0 : Nat) (x1 : Int32) (x2 : Int32) (x3 : Int32) (x4 : Int32) (w : Wd) : Option (Wd) :=
  chk (isO w a0 8) (ob (wR w a0 10) (fun o2 => chk (isA w o2 0) (chk (inb ((12 * x1) + x2) (wn w o2)) (bnd (sI w o2 (((12 * x1) + x2)).toNatClampNeg x3) (fun w6 => chk (isO w6 a0 8) (ob (wR w6 a0 11) (fun o9 => chk (isA w6 o9 0) (chk (inb ((12 * x1) + x2) (wn w6 o9)) (bnd (sI w6 o9 (((12 * x1) + x2)).toNatClampNeg x4) (fun w13 => some w13))))))))))
set_option maxHeartbeats 1000000 in
set_option maxRecDepth 20000 in
theorem okX8_becomes {E : Ev} {Q : Option Value → Wd → Prop} {a0 : Nat} {x1 : Int32} {x2 : Int32} {x3 : Int32} {x4 : Int32} {w : Wd} {q : Wd} (h : fX8_becomes a0 x1 x2 x3 x4 w = some q) (hk : (fun q : Wd => Q none q) q) : Runs E mX8_becomes (6, 0, false) Q 0 0 [(0, .ref a0), (1, .int x1), (2, .int x2), (3, .int x3), (4, .int x4)] [] w := by
  unfold fX8_becomes at h
  refine r_aload_n dX8_becomes_0 0 rfl ?_
  obtain ⟨h1, h⟩ := chk_some h
  obtain ⟨o2, g3, h⟩ := ob_some h
  refine r_getR (fl_RX8_35 rfl) rfl dX8_becomes_1 h1 g3 ?_
  refine r_bipush (v := 12) dX8_becomes_4 (by decide) ?_
  refine r_iload_n dX8_becomes_6 1 rfl ?_
  refine r_imul dX8_becomes_7 ?_
  refine r_iload_n dX8_becomes_8 2 rfl ?_
  refine r_iadd dX8_becomes_9 ?_
  refine r_iload_n dX8_becomes_10 3 rfl ?_
  obtain ⟨h4, h⟩ := chk_some h
  obtain ⟨h5, h⟩ := chk_some h
  obtain ⟨w6, e7, h⟩ := bnd_some h
  refine r_iastore dX8_becomes_11 h4 h5 ?_
  refine r_eqW e7 ?_
  refine r_aload_n dX8_becomes_12 0 rfl ?_
  obtain ⟨h8, h⟩ := chk_some h
  obtain ⟨o9, g10, h⟩ := ob_some h
  refine r_getR (fl_RX8_38 rfl) rfl dX8_becomes_13 h8 g10 ?_
  refine r_bipush (v := 12) dX8_becomes_16 (by decide) ?_
  refine r_iload_n dX8_becomes_18 1 rfl ?_
  refine r_imul dX8_becomes_19 ?_
  refine r_iload_n dX8_becomes_20 2 rfl ?_
  refine r_iadd dX8_becomes_21 ?_
  refine r_iload dX8_becomes_22 4 rfl ?_
  obtain ⟨h11, h⟩ := chk_some h
  obtain ⟨h12, h⟩ := chk_some h
  obtain ⟨w13, e14, h⟩ := bnd_some h
  refine r_iastore dX8_becomes_24 h11 h12 ?_
  refine r_eqW e14 ?_
  rw [← Option.some.inj h] at hk
  exact r_return dX8_becomes_25 rfl hk
set_option maxHeartbeats 1000000 in
set_option maxRecDepth 20000 in
theorem ctX8_becomes {E : Ev} {a0 : Nat} {x1 : Int32} {x2 : Int32} {x3 : Int32} {x4 : Int32} {w : Wd} {q : Wd} (h : fX8_becomes a0 x1 x2 x3 x4 w = some q) : CT E mX8_becomes (6, 0, false) [.ref a0, .int x1, .int x2, .int x3, .int x4] w (QV q) := CT.of pl_RX8 (Nat.le_of_ble_eq_true rfl) (okX8_becomes h ⟨rfl, rfl⟩)
def fX8_isDays (x0 : Int32) (w : Wd) : Option (Int32 × Wd) :=
  ob (fX8_within x0 0 60 w) (fun q1 => chk (q1.1 = 0 ∨ q1.1 = 1) (some (q1.1, q1.2)))
set_option maxHeartbeats 1000000 in
set_option maxRecDepth 20000 in
theorem okX8_isDays {E : Ev} {Q : Option Value → Wd → Prop} {x0 : Int32} {w : Wd} {q : Int32 × Wd} (h : fX8_isDays x0 w = some q) (hk : (fun q : Int32 × Wd => Q (some (.int q.1)) q.2) q) : Runs E mX8_isDays (7, 0, false) Q 0 0 [(0, .int x0)] [] w := by
  unfold fX8_isDays at h
  refine r_iload_n dX8_isDays_0 0 rfl ?_
  refine r_iconst (v := 0) dX8_isDays_1 (by decide) ?_
  refine r_bipush (v := 60) dX8_isDays_2 (by decide) ?_
  obtain ⟨q1, g2, h⟩ := ob_some h
  refine r_callS (d' := (6, 0, false)) (As := [.int x0, .int 0, .int 60]) (st := []) mds_X8_within tm_RX8_79 rfl (by decide) rfl (Nat.le_refl _) (Nat.le_of_ble_eq_true rfl) rfl dX8_isDays_4 (ctX8_within g2) (k_I0 ?_)
  obtain ⟨h3, h⟩ := chk_some h
  rw [← Option.some.inj h] at hk
  exact r_ireturn dX8_isDays_7 rfl (nb h3) hk
set_option maxHeartbeats 1000000 in
set_option maxRecDepth 20000 in
theorem ctX8_isDays {E : Ev} {x0 : Int32} {w : Wd} {q : Int32 × Wd} (h : fX8_isDays x0 w = some q) : CT E mX8_isDays (7, 0, false) [.int x0] w (QI q) := CT.of pl_RX8 (Nat.le_of_ble_eq_true rfl) (okX8_isDays h ⟨rfl, rfl⟩)
def PX8_keep_L2 (E : Ev) (Q : Option Value → Wd → Prop) (a0 : Nat) (a1 : Nat) (s : Int32 × Wd) : Prop := Runs E mX8_keep (6, 0, false) Q 0 2 [(0, .ref a0), (1, .ref a1), (2, .int s.1)] [] s.2
def PX8_keep_L49 (E : Ev) (Q : Option Value → Wd → Prop) (a0 : Nat) (a1 : Nat) (s : Int32 × Wd) : Prop := Runs E mX8_keep (6, 0, false) Q 0 49 [(0, .ref a0), (1, .ref a1), (2, .int s.1)] [] s.2
def PX8_keep_L87 (E : Ev) (Q : Option Value → Wd → Prop) (a0 : Nat) (a1 : Nat) (s : Int32 × Wd) : Prop := Runs E mX8_keep (6, 0, false) Q 0 87 [(0, .ref a0), (1, .ref a1), (2, .int s.1)] [] s.2
def PX8_keep_L114 (E : Ev) (Q : Option Value → Wd → Prop) (a0 : Nat) (a1 : Nat) (s : Int32 × Wd) : Prop := Runs E mX8_keep (6, 0, false) Q 0 114 [(0, .ref a0), (1, .ref a1), (2, .int s.1)] [] s.2
def fX8_keep_L114_body (a0 : Nat) (a1 : Nat) (s : Int32 × Wd) : Option ((Int32 × Wd) ⊕ (Wd)) :=
  if (6 : Int32) ≤ s.1 then (wr (chk (isO s.2 a0 8) (chk (isA s.2 a1 0) (chk (inb 294 (wn s.2 a1)) (bnd (sI s.2 a1 (294 : Int32).toNatClampNeg (wI s.2 a0 3)) (fun w6 => chk (isO w6 a0 8) (chk (isA w6 a1 0) (chk (inb 295 (wn w6 a1)) (bnd (sI w6 a1 (295 : Int32).toNatClampNeg (wI w6 a0 6)) (fun w11 => chk (isO w11 a0 8) (chk (isA w11 a1 0) (chk (inb 296 (wn w11 a1)) (bnd (sI w11 a1 (296 : Int32).toNatClampNeg (wI w11 a0 12)) (fun w16 => chk (isO w16 a0 8) (chk (isA w16 a1 0) (chk (inb 297 (wn w16 a1)) (bnd (sI w16 a1 (297 : Int32).toNatClampNeg (wI w16 a0 13)) (fun w21 => some w21)))))))))))))))))) else (chk (isO s.2 a0 8) (ob (wR s.2 a0 4) (fun o24 => chk (isA s.2 o24 0) (chk (inb s.1 (wn s.2 o24)) (chk (isA s.2 a1 0) (chk (inb (288 + s.1) (wn s.2 a1)) (bnd (sI s.2 a1 ((288 + s.1)).toNatClampNeg (wI s.2 o24 (s.1).toNatClampNeg)) (fun w30 => some (.inl ((s.1 + 1), w30))))))))))
set_option maxHeartbeats 1000000 in
set_option maxRecDepth 20000 in
theorem okX8_keep_L114_body {E : Ev} {Q : Option Value → Wd → Prop} {a0 : Nat} {a1 : Nat} {s : Int32 × Wd} {r : (Int32 × Wd) ⊕ (Wd)} (h : fX8_keep_L114_body a0 a1 s = some r) (hk : (Sum.elim (PX8_keep_L114 E Q a0 a1) (fun q : Wd => Q none q)) r) : PX8_keep_L114 E Q a0 a1 s := by
  unfold fX8_keep_L114_body at h
  unfold PX8_keep_L114
  refine r_iload_n dX8_keep_114 2 rfl ?_
  refine r_bipush (v := 6) dX8_keep_115 (by decide) ?_
  refine r_icmp_ge (tgt := 139) dX8_keep_117 (by decide) (fun c1 => ?_) (fun c1 => ?_)
  · rw [if_pos c1] at h
    obtain ⟨r2, hr, h⟩ := wr_some h
    rw [hr] at hk
    refine r_aload_n dX8_keep_139 1 rfl ?_
    refine r_sipush (v := 294) dX8_keep_140 (by decide) ?_
    refine r_aload_n dX8_keep_143 0 rfl ?_
    obtain ⟨h3, h⟩ := chk_some h
    refine r_getI (fl_RX8_83 rfl) rfl dX8_keep_144 h3 ?_
    obtain ⟨h4, h⟩ := chk_some h
    obtain ⟨h5, h⟩ := chk_some h
    obtain ⟨w6, e7, h⟩ := bnd_some h
    refine r_iastore dX8_keep_147 h4 h5 ?_
    refine r_eqW e7 ?_
    refine r_aload_n dX8_keep_148 1 rfl ?_
    refine r_sipush (v := 295) dX8_keep_149 (by decide) ?_
    refine r_aload_n dX8_keep_152 0 rfl ?_
    obtain ⟨h8, h⟩ := chk_some h
    refine r_getI (fl_RX8_76 rfl) rfl dX8_keep_153 h8 ?_
    obtain ⟨h9, h⟩ := chk_some h
    obtain ⟨h10, h⟩ := chk_some h
    obtain ⟨w11, e12, h⟩ := bnd_some h
    refine r_iastore dX8_keep_156 h9 h10 ?_
    refine r_eqW e12 ?_
    refine r_aload_n dX8_keep_157 1 rfl ?_
    refine r_sipush (v := 296) dX8_keep_158 (by decide) ?_
    refine r_aload_n dX8_keep_161 0 rfl ?_
    obtain ⟨h13, h⟩ := chk_some h
    refine r_getI (fl_RX8_224 rfl) rfl dX8_keep_162 h13 ?_
    obtain ⟨h14, h⟩ := chk_some h
    obtain ⟨h15, h⟩ := chk_some h
    obtain ⟨w16, e17, h⟩ := bnd_some h
    refine r_iastore dX8_keep_165 h14 h15 ?_
    refine r_eqW e17 ?_
    refine r_aload_n dX8_keep_166 1 rfl ?_
    refine r_sipush (v := 297) dX8_keep_167 (by decide) ?_
    refine r_aload_n dX8_keep_170 0 rfl ?_
    obtain ⟨h18, h⟩ := chk_some h
    refine r_getI (fl_RX8_65 rfl) rfl dX8_keep_171 h18 ?_
    obtain ⟨h19, h⟩ := chk_some h
    obtain ⟨h20, h⟩ := chk_some h
    obtain ⟨w21, e22, h⟩ := bnd_some h
    refine r_iastore dX8_keep_174 h19 h20 ?_
    refine r_eqW e22 ?_
    rw [← Option.some.inj h] at hk
    exact r_return dX8_keep_175 rfl hk
  · rw [if_neg c1] at h
    refine r_aload_n dX8_keep_120 1 rfl ?_
    refine r_sipush (v := 288) dX8_keep_121 (by decide) ?_
    refine r_iload_n dX8_keep_124 2 rfl ?_
    refine r_iadd dX8_keep_125 ?_
    refine r_aload_n dX8_keep_126 0 rfl ?_
    obtain ⟨h23, h⟩ := chk_some h
    obtain ⟨o24, g25, h⟩ := ob_some h
    refine r_getR (fl_RX8_20 rfl) rfl dX8_keep_127 h23 g25 ?_
    refine r_iload_n dX8_keep_130 2 rfl ?_
    obtain ⟨h26, h⟩ := chk_some h
    obtain ⟨h27, h⟩ := chk_some h
    refine r_iaload dX8_keep_131 h26 h27 ?_
    obtain ⟨h28, h⟩ := chk_some h
    obtain ⟨h29, h⟩ := chk_some h
    obtain ⟨w30, e31, h⟩ := bnd_some h
    refine r_iastore dX8_keep_132 h28 h29 ?_
    refine r_eqW e31 ?_
    refine r_iinc (v := (s.1 + 1)) dX8_keep_133 2 rfl rfl (Nat.le_of_ble_eq_true rfl) [(2, .int (s.1 + 1)), (0, .ref a0), (1, .ref a1)] rfl ?_
    refine r_goto (tgt := 114) dX8_keep_136 (by decide) ?_
    rw [← Option.some.inj h] at hk
    refine r_sub [1, 2, 0] [(0, .ref a0), (1, .ref a1), (2, .int (s.1 + 1))] rfl ?_
    exact hk
def fX8_keep_L114 (a0 : Nat) (a1 : Nat) (s : Int32 × Wd) : Option (Wd) := it (fX8_keep_L114_body a0 a1) FU s
set_option maxHeartbeats 1000000 in
set_option maxRecDepth 20000 in
theorem okX8_keep_L114 {E : Ev} {Q : Option Value → Wd → Prop} {a0 : Nat} {a1 : Nat} {s : Int32 × Wd} {r : Wd} (h : fX8_keep_L114 a0 a1 s = some r) (hk : (fun q : Wd => Q none q) r) : PX8_keep_L114 E Q a0 a1 s := it_runs (fun s r h hk => okX8_keep_L114_body h hk) FU s r h hk
def fX8_keep_L87_body (a0 : Nat) (a1 : Nat) (s : Int32 × Wd) : Option ((Int32 × Wd) ⊕ (Wd)) :=
  if (72 : Int32) ≤ s.1 then (wr (fX8_keep_L114 a0 a1 (0, s.2))) else (chk (isO s.2 a0 8) (ob (wR s.2 a0 5) (fun o4 => chk (isA s.2 o4 0) (chk (inb s.1 (wn s.2 o4)) (chk (isA s.2 a1 0) (chk (inb (216 + s.1) (wn s.2 a1)) (bnd (sI s.2 a1 ((216 + s.1)).toNatClampNeg (wI s.2 o4 (s.1).toNatClampNeg)) (fun w10 => some (.inl ((s.1 + 1), w10))))))))))
set_option maxHeartbeats 1000000 in
set_option maxRecDepth 20000 in
theorem okX8_keep_L87_body {E : Ev} {Q : Option Value → Wd → Prop} {a0 : Nat} {a1 : Nat} {s : Int32 × Wd} {r : (Int32 × Wd) ⊕ (Wd)} (h : fX8_keep_L87_body a0 a1 s = some r) (hk : (Sum.elim (PX8_keep_L87 E Q a0 a1) (fun q : Wd => Q none q)) r) : PX8_keep_L87 E Q a0 a1 s := by
  unfold fX8_keep_L87_body at h
  unfold PX8_keep_L87
  refine r_iload_n dX8_keep_87 2 rfl ?_
  refine r_bipush (v := 72) dX8_keep_88 (by decide) ?_
  refine r_icmp_ge (tgt := 112) dX8_keep_90 (by decide) (fun c1 => ?_) (fun c1 => ?_)
  · rw [if_pos c1] at h
    obtain ⟨r2, hr, h⟩ := wr_some h
    rw [hr] at hk
    refine r_iconst (v := 0) dX8_keep_112 (by decide) ?_
    refine r_istore_n dX8_keep_113 rfl (Nat.le_of_ble_eq_true rfl) [(2, .int 0), (0, .ref a0), (1, .ref a1)] rfl ?_
    refine r_sub [1, 2, 0] [(0, .ref a0), (1, .ref a1), (2, .int 0)] rfl ?_
    exact okX8_keep_L114 h hk
  · rw [if_neg c1] at h
    refine r_aload_n dX8_keep_93 1 rfl ?_
    refine r_sipush (v := 216) dX8_keep_94 (by decide) ?_
    refine r_iload_n dX8_keep_97 2 rfl ?_
    refine r_iadd dX8_keep_98 ?_
    refine r_aload_n dX8_keep_99 0 rfl ?_
    obtain ⟨h3, h⟩ := chk_some h
    obtain ⟨o4, g5, h⟩ := ob_some h
    refine r_getR (fl_RX8_23 rfl) rfl dX8_keep_100 h3 g5 ?_
    refine r_iload_n dX8_keep_103 2 rfl ?_
    obtain ⟨h6, h⟩ := chk_some h
    obtain ⟨h7, h⟩ := chk_some h
    refine r_iaload dX8_keep_104 h6 h7 ?_
    obtain ⟨h8, h⟩ := chk_some h
    obtain ⟨h9, h⟩ := chk_some h
    obtain ⟨w10, e11, h⟩ := bnd_some h
    refine r_iastore dX8_keep_105 h8 h9 ?_
    refine r_eqW e11 ?_
    refine r_iinc (v := (s.1 + 1)) dX8_keep_106 2 rfl rfl (Nat.le_of_ble_eq_true rfl) [(2, .int (s.1 + 1)), (0, .ref a0), (1, .ref a1)] rfl ?_
    refine r_goto (tgt := 87) dX8_keep_109 (by decide) ?_
    rw [← Option.some.inj h] at hk
    refine r_sub [1, 2, 0] [(0, .ref a0), (1, .ref a1), (2, .int (s.1 + 1))] rfl ?_
    exact hk
def fX8_keep_L87 (a0 : Nat) (a1 : Nat) (s : Int32 × Wd) : Option (Wd) := it (fX8_keep_L87_body a0 a1) FU s
set_option maxHeartbeats 1000000 in
set_option maxRecDepth 20000 in
theorem okX8_keep_L87 {E : Ev} {Q : Option Value → Wd → Prop} {a0 : Nat} {a1 : Nat} {s : Int32 × Wd} {r : Wd} (h : fX8_keep_L87 a0 a1 s = some r) (hk : (fun q : Wd => Q none q) r) : PX8_keep_L87 E Q a0 a1 s := it_runs (fun s r h hk => okX8_keep_L87_body h hk) FU s r h hk
def fX8_keep_L49_body (a0 : Nat) (a1 : Nat) (s : Int32 × Wd) : Option ((Int32 × Wd) ⊕ (Wd)) :=
  if (96 : Int32) ≤ s.1 then (wr (fX8_keep_L87 a0 a1 (0, s.2))) else (chk (isO s.2 a0 8) (ob (wR s.2 a0 10) (fun o4 => chk (isA s.2 o4 0) (chk (inb s.1 (wn s.2 o4)) (chk (isA s.2 a1 0) (chk (inb (24 + s.1) (wn s.2 a1)) (bnd (sI s.2 a1 ((24 + s.1)).toNatClampNeg (wI s.2 o4 (s.1).toNatClampNeg)) (fun w10 => chk (isO w10 a0 8) (ob (wR w10 a0 11) (fun o13 => chk (isA w10 o13 0) (chk (inb s.1 (wn w10 o13)) (chk (isA w10 a1 0) (chk (inb (120 + s.1) (wn w10 a1)) (bnd (sI w10 a1 ((120 + s.1)).toNatClampNeg (wI w10 o13 (s.1).toNatClampNeg)) (fun w19 => some (.inl ((s.1 + 1), w19)))))))))))))))))
set_option maxHeartbeats 1000000 in
set_option maxRecDepth 20000 in
theorem okX8_keep_L49_body {E : Ev} {Q : Option Value → Wd → Prop} {a0 : Nat} {a1 : Nat} {s : Int32 × Wd} {r : (Int32 × Wd) ⊕ (Wd)} (h : fX8_keep_L49_body a0 a1 s = some r) (hk : (Sum.elim (PX8_keep_L49 E Q a0 a1) (fun q : Wd => Q none q)) r) : PX8_keep_L49 E Q a0 a1 s := by
  unfold fX8_keep_L49_body at h
  unfold PX8_keep_L49
  refine r_iload_n dX8_keep_49 2 rfl ?_
  refine r_bipush (v := 96) dX8_keep_50 (by decide) ?_
  refine r_icmp_ge (tgt := 85) dX8_keep_52 (by decide) (fun c1 => ?_) (fun c1 => ?_)
  · rw [if_pos c1] at h
    obtain ⟨r2, hr, h⟩ := wr_some h
    rw [hr] at hk
    refine r_iconst (v := 0) dX8_keep_85 (by decide) ?_
    refine r_istore_n dX8_keep_86 rfl (Nat.le_of_ble_eq_true rfl) [(2, .int 0), (0, .ref a0), (1, .ref a1)] rfl ?_
    refine r_sub [1, 2, 0] [(0, .ref a0), (1, .ref a1), (2, .int 0)] rfl ?_
    exact okX8_keep_L87 h hk
  · rw [if_neg c1] at h
    refine r_aload_n dX8_keep_55 1 rfl ?_
    refine r_bipush (v := 24) dX8_keep_56 (by decide) ?_
    refine r_iload_n dX8_keep_58 2 rfl ?_
    refine r_iadd dX8_keep_59 ?_
    refine r_aload_n dX8_keep_60 0 rfl ?_
    obtain ⟨h3, h⟩ := chk_some h
    obtain ⟨o4, g5, h⟩ := ob_some h
    refine r_getR (fl_RX8_35 rfl) rfl dX8_keep_61 h3 g5 ?_
    refine r_iload_n dX8_keep_64 2 rfl ?_
    obtain ⟨h6, h⟩ := chk_some h
    obtain ⟨h7, h⟩ := chk_some h
    refine r_iaload dX8_keep_65 h6 h7 ?_
    obtain ⟨h8, h⟩ := chk_some h
    obtain ⟨h9, h⟩ := chk_some h
    obtain ⟨w10, e11, h⟩ := bnd_some h
    refine r_iastore dX8_keep_66 h8 h9 ?_
    refine r_eqW e11 ?_
    refine r_aload_n dX8_keep_67 1 rfl ?_
    refine r_bipush (v := 120) dX8_keep_68 (by decide) ?_
    refine r_iload_n dX8_keep_70 2 rfl ?_
    refine r_iadd dX8_keep_71 ?_
    refine r_aload_n dX8_keep_72 0 rfl ?_
    obtain ⟨h12, h⟩ := chk_some h
    obtain ⟨o13, g14, h⟩ := ob_some h
    refine r_getR (fl_RX8_38 rfl) rfl dX8_keep_73 h12 g14 ?_
    refine r_iload_n dX8_keep_76 2 rfl ?_
    obtain ⟨h15, h⟩ := chk_some h
    obtain ⟨h16, h⟩ := chk_some h
    refine r_iaload dX8_keep_77 h15 h16 ?_
    obtain ⟨h17, h⟩ := chk_some h
    obtain ⟨h18, h⟩ := chk_some h
    obtain ⟨w19, e20, h⟩ := bnd_some h
    refine r_iastore dX8_keep_78 h17 h18 ?_
    refine r_eqW e20 ?_
    refine r_iinc (v := (s.1 + 1)) dX8_keep_79 2 rfl rfl (Nat.le_of_ble_eq_true rfl) [(2, .int (s.1 + 1)), (0, .ref a0), (1, .ref a1)] rfl ?_
    refine r_goto (tgt := 49) dX8_keep_82 (by decide) ?_
    rw [← Option.some.inj h] at hk
    refine r_sub [1, 2, 0] [(0, .ref a0), (1, .ref a1), (2, .int (s.1 + 1))] rfl ?_
    exact hk
def fX8_keep_L49 (a0 : Nat) (a1 : Nat) (s : Int32 × Wd) : Option (Wd) := it (fX8_keep_L49_body a0 a1) FU s
set_option maxHeartbeats 1000000 in
set_option maxRecDepth 20000 in
theorem okX8_keep_L49 {E : Ev} {Q : Option Value → Wd → Prop} {a0 : Nat} {a1 : Nat} {s : Int32 × Wd} {r : Wd} (h : fX8_keep_L49 a0 a1 s = some r) (hk : (fun q : Wd => Q none q) r) : PX8_keep_L49 E Q a0 a1 s := it_runs (fun s r h hk => okX8_keep_L49_body h hk) FU s r h hk
def fX8_keep_L2_body (a0 : Nat) (a1 : Nat) (s : Int32 × Wd) : Option ((Int32 × Wd) ⊕ (Wd)) :=
  if (8 : Int32) ≤ s.1 then (wr (fX8_keep_L49 a0 a1 (0, s.2))) else (chk (isO s.2 a0 8) (ob (wR s.2 a0 7) (fun o4 => chk (isA s.2 o4 0) (chk (inb s.1 (wn s.2 o4)) (chk (isA s.2 a1 0) (chk (inb s.1 (wn s.2 a1)) (bnd (sI s.2 a1 (s.1).toNatClampNeg (wI s.2 o4 (s.1).toNatClampNeg)) (fun w10 => chk (isO w10 a0 8) (ob (wR w10 a0 8) (fun o13 => chk (isA w10 o13 0) (chk (inb s.1 (wn w10 o13)) (chk (isA w10 a1 0) (chk (inb (8 + s.1) (wn w10 a1)) (bnd (sI w10 a1 ((8 + s.1)).toNatClampNeg (wI w10 o13 (s.1).toNatClampNeg)) (fun w19 => chk (isO w19 a0 8) (ob (wR w19 a0 9) (fun o22 => chk (isA w19 o22 0) (chk (inb s.1 (wn w19 o22)) (chk (isA w19 a1 0) (chk (inb (16 + s.1) (wn w19 a1)) (bnd (sI w19 a1 ((16 + s.1)).toNatClampNeg (wI w19 o22 (s.1).toNatClampNeg)) (fun w28 => some (.inl ((s.1 + 1), w28))))))))))))))))))))))))
set_option maxHeartbeats 1000000 in
set_option maxRecDepth 20000 in
theorem okX8_keep_L2_body {E : Ev} {Q : Option Value → Wd → Prop} {a0 : Nat} {a1 : Nat} {s : Int32 × Wd} {r : (Int32 × Wd) ⊕ (Wd)} (h : fX8_keep_L2_body a0 a1 s = some r) (hk : (Sum.elim (PX8_keep_L2 E Q a0 a1) (fun q : Wd => Q none q)) r) : PX8_keep_L2 E Q a0 a1 s := by
  unfold fX8_keep_L2_body at h
  unfold PX8_keep_L2
  refine r_iload_n dX8_keep_2 2 rfl ?_
  refine r_bipush (v := 8) dX8_keep_3 (by decide) ?_
  refine r_icmp_ge (tgt := 47) dX8_keep_5 (by decide) (fun c1 => ?_) (fun c1 => ?_)
  · rw [if_pos c1] at h
    obtain ⟨r2, hr, h⟩ := wr_some h
    rw [hr] at hk
    refine r_iconst (v := 0) dX8_keep_47 (by decide) ?_
    refine r_istore_n dX8_keep_48 rfl (Nat.le_of_ble_eq_true rfl) [(2, .int 0), (0, .ref a0), (1, .ref a1)] rfl ?_
    refine r_sub [1, 2, 0] [(0, .ref a0), (1, .ref a1), (2, .int 0)] rfl ?_
    exact okX8_keep_L49 h hk
  · rw [if_neg c1] at h
    refine r_aload_n dX8_keep_8 1 rfl ?_
    refine r_iload_n dX8_keep_9 2 rfl ?_
    refine r_aload_n dX8_keep_10 0 rfl ?_
    obtain ⟨h3, h⟩ := chk_some h
    obtain ⟨o4, g5, h⟩ := ob_some h
    refine r_getR (fl_RX8_26 rfl) rfl dX8_keep_11 h3 g5 ?_
    refine r_iload_n dX8_keep_14 2 rfl ?_
    obtain ⟨h6, h⟩ := chk_some h
    obtain ⟨h7, h⟩ := chk_some h
    refine r_iaload dX8_keep_15 h6 h7 ?_
    obtain ⟨h8, h⟩ := chk_some h
    obtain ⟨h9, h⟩ := chk_some h
    obtain ⟨w10, e11, h⟩ := bnd_some h
    refine r_iastore dX8_keep_16 h8 h9 ?_
    refine r_eqW e11 ?_
    refine r_aload_n dX8_keep_17 1 rfl ?_
    refine r_bipush (v := 8) dX8_keep_18 (by decide) ?_
    refine r_iload_n dX8_keep_20 2 rfl ?_
    refine r_iadd dX8_keep_21 ?_
    refine r_aload_n dX8_keep_22 0 rfl ?_
    obtain ⟨h12, h⟩ := chk_some h
    obtain ⟨o13, g14, h⟩ := ob_some h
    refine r_getR (fl_RX8_29 rfl) rfl dX8_keep_23 h12 g14 ?_
    refine r_iload_n dX8_keep_26 2 rfl ?_
    obtain ⟨h15, h⟩ := chk_some h
    obtain ⟨h16, h⟩ := chk_some h
    refine r_iaload dX8_keep_27 h15 h16 ?_
    obtain ⟨h17, h⟩ := chk_some h
    obtain ⟨h18, h⟩ := chk_some h
    obtain ⟨w19, e20, h⟩ := bnd_some h
    refine r_iastore dX8_keep_28 h17 h18 ?_
    refine r_eqW e20 ?_
    refine r_aload_n dX8_keep_29 1 rfl ?_
    refine r_bipush (v := 16) dX8_keep_30 (by decide) ?_
    refine r_iload_n dX8_keep_32 2 rfl ?_
    refine r_iadd dX8_keep_33 ?_
    refine r_aload_n dX8_keep_34 0 rfl ?_
    obtain ⟨h21, h⟩ := chk_some h
    obtain ⟨o22, g23, h⟩ := ob_some h
    refine r_getR (fl_RX8_32 rfl) rfl dX8_keep_35 h21 g23 ?_
    refine r_iload_n dX8_keep_38 2 rfl ?_
    obtain ⟨h24, h⟩ := chk_some h
    obtain ⟨h25, h⟩ := chk_some h
    refine r_iaload dX8_keep_39 h24 h25 ?_
    obtain ⟨h26, h⟩ := chk_some h
    obtain ⟨h27, h⟩ := chk_some h
    obtain ⟨w28, e29, h⟩ := bnd_some h
    refine r_iastore dX8_keep_40 h26 h27 ?_
    refine r_eqW e29 ?_
    refine r_iinc (v := (s.1 + 1)) dX8_keep_41 2 rfl rfl (Nat.le_of_ble_eq_true rfl) [(2, .int (s.1 + 1)), (0, .ref a0), (1, .ref a1)] rfl ?_
    refine r_goto (tgt := 2) dX8_keep_44 (by decide) ?_
    rw [← Option.some.inj h] at hk
    refine r_sub [1, 2, 0] [(0, .ref a0), (1, .ref a1), (2, .int (s.1 + 1))] rfl ?_
    exact hk
def fX8_keep_L2 (a0 : Nat) (a1 : Nat) (s : Int32 × Wd) : Option (Wd) := it (fX8_keep_L2_body a0 a1) FU s
set_option maxHeartbeats 1000000 in
set_option maxRecDepth 20000 in
theorem okX8_keep_L2 {E : Ev} {Q : Option Value → Wd → Prop} {a0 : Nat} {a1 : Nat} {s : Int32 × Wd} {r : Wd} (h : fX8_keep_L2 a0 a1 s = some r) (hk : (fun q : Wd => Q none q) r) : PX8_keep_L2 E Q a0 a1 s := it_runs (fun s r h hk => okX8_keep_L2_body h hk) FU s r h hk
def fX8_keep (a0 : Nat) (a1 : Nat) (w : Wd) : Option (Wd) :=
  fX8_keep_L2 a0 a1 (0, w)
set_option maxHeartbeats 1000000 in
set_option maxRecDepth 20000 in
theorem okX8_keep {E : Ev} {Q : Option Value → Wd → Prop} {a0 : Nat} {a1 : Nat} {w : Wd} {q : Wd} (h : fX8_keep a0 a1 w = some q) (hk : (fun q : Wd => Q none q) q) : Runs E mX8_keep (6, 0, false) Q 0 0 [(0, .ref a0), (1, .ref a1)] [] w := by
  unfold fX8_keep at h
  refine r_iconst (v := 0) dX8_keep_0 (by decide) ?_
  refine r_istore_n dX8_keep_1 rfl (Nat.le_of_ble_eq_true rfl) [(2, .int 0), (0, .ref a0), (1, .ref a1)] rfl ?_
  refine r_sub [1, 2, 0] [(0, .ref a0), (1, .ref a1), (2, .int 0)] rfl ?_
  exact okX8_keep_L2 h hk
set_option maxHeartbeats 1000000 in
set_option maxRecDepth 20000 in
theorem ctX8_keep {E : Ev} {a0 : Nat} {a1 : Nat} {w : Wd} {q : Wd} (h : fX8_keep a0 a1 w = some q) : CT E mX8_keep (6, 0, false) [.ref a0, .ref a1] w (QV q) := CT.of pl_RX8 (Nat.le_of_ble_eq_true rfl) (okX8_keep h ⟨rfl, rfl⟩)
def fX8_has_b14 (s0 : Int32) (w : Wd) : Option (Int32 × Wd) :=
  chk (s0 = 0 ∨ s0 = 1) (some (s0, w))
set_option maxHeartbeats 1000000 in
set_option maxRecDepth 20000 in
theorem okX8_has_b14 {E : Ev} {Q : Option Value → Wd → Prop} {s0 : Int32} {w : Wd} {q : Int32 × Wd} (h : fX8_has_b14 s0 w = some q) (hk : (fun q : Int32 × Wd => Q (some (.int q.1)) q.2) q) : Runs E mX8_has (6, 0, false) Q 0 14 [] [.int s0] w := by
  unfold fX8_has_b14 at h
  obtain ⟨h1, h⟩ := chk_some h
  rw [← Option.some.inj h] at hk
  exact r_ireturn dX8_has_14 rfl (nb h1) hk
def fX8_has (x0 : Int32) (x1 : Int32) (w : Wd) : Option (Int32 × Wd) :=
  if ((x0 >>> (x1 &&& 31)) &&& 1) = 1 then (fX8_has_b14 1 w) else (fX8_has_b14 0 w)
set_option maxHeartbeats 1000000 in
set_option maxRecDepth 20000 in
theorem okX8_has {E : Ev} {Q : Option Value → Wd → Prop} {x0 : Int32} {x1 : Int32} {w : Wd} {q : Int32 × Wd} (h : fX8_has x0 x1 w = some q) (hk : (fun q : Int32 × Wd => Q (some (.int q.1)) q.2) q) : Runs E mX8_has (6, 0, false) Q 0 0 [(0, .int x0), (1, .int x1)] [] w := by
  unfold fX8_has at h
  refine r_iload_n dX8_has_0 0 rfl ?_
  refine r_iload_n dX8_has_1 1 rfl ?_
  refine r_ishr dX8_has_2 ?_
  refine r_iconst (v := 1) dX8_has_3 (by decide) ?_
  refine r_iand dX8_has_4 ?_
  refine r_iconst (v := 1) dX8_has_5 (by decide) ?_
  refine r_icmp_ne (tgt := 13) dX8_has_6 (by decide) (fun c1 => ?_) (fun c1 => ?_)
  · rw [if_neg c1] at h
    refine r_iconst (v := 0) dX8_has_13 (by decide) ?_
    refine r_sub [] [] rfl ?_
    exact okX8_has_b14 h hk
  · rw [if_pos c1] at h
    refine r_iconst (v := 1) dX8_has_9 (by decide) ?_
    refine r_goto (tgt := 14) dX8_has_10 (by decide) ?_
    refine r_sub [] [] rfl ?_
    exact okX8_has_b14 h hk
set_option maxHeartbeats 1000000 in
set_option maxRecDepth 20000 in
theorem ctX8_has {E : Ev} {x0 : Int32} {x1 : Int32} {w : Wd} {q : Int32 × Wd} (h : fX8_has x0 x1 w = some q) : CT E mX8_has (6, 0, false) [.int x0, .int x1] w (QI q) := CT.of pl_RX8 (Nat.le_of_ble_eq_true rfl) (okX8_has h ⟨rfl, rfl⟩)
def PX8_doesWithout_L6 (E : Ev) (Q : Option Value → Wd → Prop) (a0 : Nat) (x1 : Int32) (x2 : Int32) (x3 : Int32) (s : Int32 × Int32 × Wd) : Prop := Runs E mX8_doesWithout (7, 0, false) Q 0 6 [(0, .ref a0), (1, .int x1), (2, .int x2), (3, .int x3), (4, .int s.1), (5, .int s.2.1)] [] s.2.2
def fX8_doesWithout_b116 (s0 : Int32) (w : Wd) : Option (Int32 × Wd) :=
  some (s0, w)
set_option maxHeartbeats 1000000 in
set_option maxRecDepth 20000 in
theorem okX8_doesWithout_b116 {E : Ev} {Q : Option Value → Wd → Prop} {s0 : Int32} {w : Wd} {q : Int32 × Wd} (h : fX8_doesWithout_b116 s0 w = some q) (hk : (fun q : Int32 × Wd => Q (some (.int q.1)) q.2) q) : Runs E mX8_doesWithout (7, 0, false) Q 0 116 [] [.int s0] w := by
  unfold fX8_doesWithout_b116 at h
  rw [← Option.some.inj h] at hk
  exact r_ireturn dX8_doesWithout_116 rfl rfl hk
def fX8_doesWithout_b105 (a0 : Nat) (x1 : Int32) (x2 : Int32) (w : Wd) : Option (Int32 × Wd) :=
  chk (isO w a0 8) (ob (wR w a0 5) (fun o2 => chk (isA w o2 0) (chk (inb ((12 * x1) + x2) (wn w o2)) (fX8_doesWithout_b116 (wI w o2 (((12 * x1) + x2)).toNatClampNeg) w))))
set_option maxHeartbeats 1000000 in
set_option maxRecDepth 20000 in
theorem okX8_doesWithout_b105 {E : Ev} {Q : Option Value → Wd → Prop} {a0 : Nat} {x1 : Int32} {x2 : Int32} {w : Wd} {q : Int32 × Wd} (h : fX8_doesWithout_b105 a0 x1 x2 w = some q) (hk : (fun q : Int32 × Wd => Q (some (.int q.1)) q.2) q) : Runs E mX8_doesWithout (7, 0, false) Q 0 105 [(0, .ref a0), (1, .int x1), (2, .int x2)] [] w := by
  unfold fX8_doesWithout_b105 at h
  refine r_aload_n dX8_doesWithout_105 0 rfl ?_
  obtain ⟨h1, h⟩ := chk_some h
  obtain ⟨o2, g3, h⟩ := ob_some h
  refine r_getR (fl_RX8_23 rfl) rfl dX8_doesWithout_106 h1 g3 ?_
  refine r_bipush (v := 12) dX8_doesWithout_109 (by decide) ?_
  refine r_iload_n dX8_doesWithout_111 1 rfl ?_
  refine r_imul dX8_doesWithout_112 ?_
  refine r_iload_n dX8_doesWithout_113 2 rfl ?_
  refine r_iadd dX8_doesWithout_114 ?_
  obtain ⟨h4, h⟩ := chk_some h
  obtain ⟨h5, h⟩ := chk_some h
  refine r_iaload dX8_doesWithout_115 h4 h5 ?_
  refine r_sub [] [] rfl ?_
  exact okX8_doesWithout_b116 h hk
def fX8_doesWithout_b62 (a0 : Nat) (x1 : Int32) (x2 : Int32) (x3 : Int32) (x4 : Int32) (x5 : Int32) (w : Wd) : Option ((Int32 × Int32 × Wd) ⊕ (Int32 × Wd)) :=
  some (.inl (x4, (x5 + 1), w))
set_option maxHeartbeats 1000000 in
set_option maxRecDepth 20000 in
theorem okX8_doesWithout_b62 {E : Ev} {Q : Option Value → Wd → Prop} {a0 : Nat} {x1 : Int32} {x2 : Int32} {x3 : Int32} {x4 : Int32} {x5 : Int32} {w : Wd} {q : (Int32 × Int32 × Wd) ⊕ (Int32 × Wd)} (h : fX8_doesWithout_b62 a0 x1 x2 x3 x4 x5 w = some q) (hk : (Sum.elim (PX8_doesWithout_L6 E Q a0 x1 x2 x3) (fun q : Int32 × Wd => Q (some (.int q.1)) q.2)) q) : Runs E mX8_doesWithout (7, 0, false) Q 0 62 [(0, .ref a0), (1, .int x1), (2, .int x2), (3, .int x3), (4, .int x4), (5, .int x5)] [] w := by
  unfold fX8_doesWithout_b62 at h
  refine r_iinc (v := (x5 + 1)) dX8_doesWithout_62 5 rfl rfl (Nat.le_of_ble_eq_true rfl) [(5, .int (x5 + 1)), (0, .ref a0), (1, .int x1), (2, .int x2), (3, .int x3), (4, .int x4)] rfl ?_
  refine r_goto (tgt := 6) dX8_doesWithout_65 (by decide) ?_
  rw [← Option.some.inj h] at hk
  refine r_sub [1, 2, 3, 4, 5, 0] [(0, .ref a0), (1, .int x1), (2, .int x2), (3, .int x3), (4, .int x4), (5, .int (x5 + 1))] rfl ?_
  exact hk
def fX8_doesWithout_b58 (a0 : Nat) (x1 : Int32) (x2 : Int32) (x3 : Int32) (x5 : Int32) (w : Wd) : Option ((Int32 × Int32 × Wd) ⊕ (Int32 × Wd)) :=
  fX8_doesWithout_b62 a0 x1 x2 x3 x5 x5 w
set_option maxHeartbeats 1000000 in
set_option maxRecDepth 20000 in
theorem okX8_doesWithout_b58 {E : Ev} {Q : Option Value → Wd → Prop} {a0 : Nat} {x1 : Int32} {x2 : Int32} {x3 : Int32} {x5 : Int32} {w : Wd} {q : (Int32 × Int32 × Wd) ⊕ (Int32 × Wd)} (h : fX8_doesWithout_b58 a0 x1 x2 x3 x5 w = some q) (hk : (Sum.elim (PX8_doesWithout_L6 E Q a0 x1 x2 x3) (fun q : Int32 × Wd => Q (some (.int q.1)) q.2)) q) : Runs E mX8_doesWithout (7, 0, false) Q 0 58 [(0, .ref a0), (1, .int x1), (2, .int x2), (3, .int x3), (5, .int x5)] [] w := by
  unfold fX8_doesWithout_b58 at h
  refine r_iload dX8_doesWithout_58 4 rfl ?_
  refine r_istore dX8_doesWithout_60 (Nat.le_of_ble_eq_true rfl) [(4, .int x5), (0, .ref a0), (1, .int x1), (2, .int x2), (3, .int x3), (5, .int x5)] rfl ?_
  refine r_sub [1, 2, 3, 4, 0, 5] [(0, .ref a0), (1, .int x1), (2, .int x2), (3, .int x3), (4, .int x5), (5, .int x5)] rfl ?_
  exact okX8_doesWithout_b62 h hk
def fX8_doesWithout_L6_body (a0 : Nat) (x1 : Int32) (x2 : Int32) (x3 : Int32) (s : Int32 × Int32 × Wd) : Option ((Int32 × Int32 × Wd) ⊕ (Int32 × Wd)) :=
  chk (isO s.2.2 a0 8) (if (wI s.2.2 a0 6) ≤ s.2.1 then (wr (if s.1 = (-1) then (fX8_doesWithout_b105 a0 x1 x2 s.2.2) else (ob (fX8_pull a0 s.1 x2 s.2.2) (fun q5 => chk (isO q5.2 a0 8) (ob (wR q5.2 a0 4) (fun o8 => chk (isA q5.2 o8 0) (chk (inb x1 (wn q5.2 o8)) (if q5.1 ≤ (wI q5.2 o8 (x1).toNatClampNeg) then (fX8_doesWithout_b105 a0 x1 x2 q5.2) else (ob (wR q5.2 a0 10) (fun o13 => chk (isA q5.2 o13 0) (chk (inb ((12 * s.1) + x2) (wn q5.2 o13)) (fX8_doesWithout_b116 (wI q5.2 o13 (((12 * s.1) + x2)).toNatClampNeg) q5.2)))))))))))) else (ob (wR s.2.2 a0 9) (fun o17 => chk (isA s.2.2 o17 0) (chk (inb s.2.1 (wn s.2.2 o17)) (if (wI s.2.2 o17 (s.2.1).toNatClampNeg) = x1 then (ob (fX8_has x3 s.2.1 s.2.2) (fun q22 => if q22.1 = 0 then (if s.1 = (-1) then (fX8_doesWithout_b58 a0 x1 x2 x3 s.2.1 q22.2) else (chk (isO q22.2 a0 8) (ob (fX8_pull a0 s.2.1 x2 q22.2) (fun q27 => chk (isO q27.2 a0 8) (ob (fX8_pull a0 s.1 x2 q27.2) (fun q30 => if q27.1 ≤ q30.1 then (fX8_doesWithout_b62 a0 x1 x2 x3 s.1 s.2.1 q30.2) else (fX8_doesWithout_b58 a0 x1 x2 x3 s.2.1 q30.2))))))) else (fX8_doesWithout_b62 a0 x1 x2 x3 s.1 s.2.1 q22.2))) else (fX8_doesWithout_b62 a0 x1 x2 x3 s.1 s.2.1 s.2.2))))))
set_option maxHeartbeats 1000000 in
set_option maxRecDepth 20000 in
theorem okX8_doesWithout_L6_body {E : Ev} {Q : Option Value → Wd → Prop} {a0 : Nat} {x1 : Int32} {x2 : Int32} {x3 : Int32} {s : Int32 × Int32 × Wd} {r : (Int32 × Int32 × Wd) ⊕ (Int32 × Wd)} (h : fX8_doesWithout_L6_body a0 x1 x2 x3 s = some r) (hk : (Sum.elim (PX8_doesWithout_L6 E Q a0 x1 x2 x3) (fun q : Int32 × Wd => Q (some (.int q.1)) q.2)) r) : PX8_doesWithout_L6 E Q a0 x1 x2 x3 s := by
  unfold fX8_doesWithout_L6_body at h
  unfold PX8_doesWithout_L6
  refine r_iload dX8_doesWithout_6 5 rfl ?_
  refine r_aload_n dX8_doesWithout_8 0 rfl ?_
  obtain ⟨h1, h⟩ := chk_some h
  refine r_getI (fl_RX8_76 rfl) rfl dX8_doesWithout_9 h1 ?_
  refine r_icmp_ge (tgt := 68) dX8_doesWithout_12 (by decide) (fun c2 => ?_) (fun c2 => ?_)
  · rw [if_pos c2] at h
    obtain ⟨r3, hr, h⟩ := wr_some h
    rw [hr] at hk
    refine r_iload dX8_doesWithout_68 4 rfl ?_
    refine r_iconst (v := (-1)) dX8_doesWithout_70 (by decide) ?_
    refine r_icmp_eq (tgt := 105) dX8_doesWithout_71 (by decide) (fun c4 => ?_) (fun c4 => ?_)
    · rw [if_pos c4] at h
      refine r_sub [0, 1, 2] [(0, .ref a0), (1, .int x1), (2, .int x2)] rfl ?_
      exact okX8_doesWithout_b105 h hk
    · rw [if_neg c4] at h
      refine r_aload_n dX8_doesWithout_74 0 rfl ?_
      refine r_iload dX8_doesWithout_75 4 rfl ?_
      refine r_iload_n dX8_doesWithout_77 2 rfl ?_
      obtain ⟨q5, g6, h⟩ := ob_some h
      refine r_callV (d' := (6, 0, false)) (As := [.int s.1, .int x2]) (st := []) mdv_X8_pull tm_RX8_135 (by decide) rfl rfl (by decide) rfl (Nat.le_refl _) (Nat.le_of_ble_eq_true rfl) rfl dX8_doesWithout_78 h1 (ctX8_pull g6) (k_I0 ?_)
      refine r_aload_n dX8_doesWithout_81 0 rfl ?_
      obtain ⟨h7, h⟩ := chk_some h
      obtain ⟨o8, g9, h⟩ := ob_some h
      refine r_getR (fl_RX8_20 rfl) rfl dX8_doesWithout_82 h7 g9 ?_
      refine r_iload_n dX8_doesWithout_85 1 rfl ?_
      obtain ⟨h10, h⟩ := chk_some h
      obtain ⟨h11, h⟩ := chk_some h
      refine r_iaload dX8_doesWithout_86 h10 h11 ?_
      refine r_icmp_le (tgt := 105) dX8_doesWithout_87 (by decide) (fun c12 => ?_) (fun c12 => ?_)
      · rw [if_pos c12] at h
        refine r_sub [0, 1, 2] [(0, .ref a0), (1, .int x1), (2, .int x2)] rfl ?_
        exact okX8_doesWithout_b105 h hk
      · rw [if_neg c12] at h
        refine r_aload_n dX8_doesWithout_90 0 rfl ?_
        obtain ⟨o13, g14, h⟩ := ob_some h
        refine r_getR (fl_RX8_35 rfl) rfl dX8_doesWithout_91 h7 g14 ?_
        refine r_bipush (v := 12) dX8_doesWithout_94 (by decide) ?_
        refine r_iload dX8_doesWithout_96 4 rfl ?_
        refine r_imul dX8_doesWithout_98 ?_
        refine r_iload_n dX8_doesWithout_99 2 rfl ?_
        refine r_iadd dX8_doesWithout_100 ?_
        obtain ⟨h15, h⟩ := chk_some h
        obtain ⟨h16, h⟩ := chk_some h
        refine r_iaload dX8_doesWithout_101 h15 h16 ?_
        refine r_goto (tgt := 116) dX8_doesWithout_102 (by decide) ?_
        refine r_sub [] [] rfl ?_
        exact okX8_doesWithout_b116 h hk
  · rw [if_neg c2] at h
    refine r_aload_n dX8_doesWithout_15 0 rfl ?_
    obtain ⟨o17, g18, h⟩ := ob_some h
    refine r_getR (fl_RX8_32 rfl) rfl dX8_doesWithout_16 h1 g18 ?_
    refine r_iload dX8_doesWithout_19 5 rfl ?_
    obtain ⟨h19, h⟩ := chk_some h
    obtain ⟨h20, h⟩ := chk_some h
    refine r_iaload dX8_doesWithout_21 h19 h20 ?_
    refine r_iload_n dX8_doesWithout_22 1 rfl ?_
    refine r_icmp_ne (tgt := 62) dX8_doesWithout_23 (by decide) (fun c21 => ?_) (fun c21 => ?_)
    · rw [if_neg c21] at h
      refine r_sub [0, 1, 2, 3, 4, 5] [(0, .ref a0), (1, .int x1), (2, .int x2), (3, .int x3), (4, .int s.1), (5, .int s.2.1)] rfl ?_
      exact okX8_doesWithout_b62 h hk
    · rw [if_pos c21] at h
      refine r_iload_n dX8_doesWithout_26 3 rfl ?_
      refine r_iload dX8_doesWithout_27 5 rfl ?_
      obtain ⟨q22, g23, h⟩ := ob_some h
      refine r_callS (d' := (6, 0, false)) (As := [.int x3, .int s.2.1]) (st := []) mds_X8_has tm_RX8_205 rfl (by decide) rfl (Nat.le_refl _) (Nat.le_of_ble_eq_true rfl) rfl dX8_doesWithout_29 (ctX8_has g23) (k_I0 ?_)
      refine r_if_ne (tgt := 62) dX8_doesWithout_32 (by decide) (fun c24 => ?_) (fun c24 => ?_)
      · rw [if_neg c24] at h
        refine r_sub [0, 1, 2, 3, 4, 5] [(0, .ref a0), (1, .int x1), (2, .int x2), (3, .int x3), (4, .int s.1), (5, .int s.2.1)] rfl ?_
        exact okX8_doesWithout_b62 h hk
      · rw [if_pos c24] at h
        refine r_iload dX8_doesWithout_35 4 rfl ?_
        refine r_iconst (v := (-1)) dX8_doesWithout_37 (by decide) ?_
        refine r_icmp_eq (tgt := 58) dX8_doesWithout_38 (by decide) (fun c25 => ?_) (fun c25 => ?_)
        · rw [if_pos c25] at h
          refine r_sub [0, 1, 2, 3, 5] [(0, .ref a0), (1, .int x1), (2, .int x2), (3, .int x3), (5, .int s.2.1)] rfl ?_
          exact okX8_doesWithout_b58 h hk
        · rw [if_neg c25] at h
          refine r_aload_n dX8_doesWithout_41 0 rfl ?_
          refine r_iload dX8_doesWithout_42 5 rfl ?_
          refine r_iload_n dX8_doesWithout_44 2 rfl ?_
          obtain ⟨h26, h⟩ := chk_some h
          obtain ⟨q27, g28, h⟩ := ob_some h
          refine r_callV (d' := (6, 0, false)) (As := [.int s.2.1, .int x2]) (st := []) mdv_X8_pull tm_RX8_135 (by decide) rfl rfl (by decide) rfl (Nat.le_refl _) (Nat.le_of_ble_eq_true rfl) rfl dX8_doesWithout_45 h26 (ctX8_pull g28) (k_I0 ?_)
          refine r_aload_n dX8_doesWithout_48 0 rfl ?_
          refine r_iload dX8_doesWithout_49 4 rfl ?_
          refine r_iload_n dX8_doesWithout_51 2 rfl ?_
          obtain ⟨h29, h⟩ := chk_some h
          obtain ⟨q30, g31, h⟩ := ob_some h
          refine r_callV (d' := (6, 0, false)) (As := [.int s.1, .int x2]) (st := [.int q27.1]) mdv_X8_pull tm_RX8_135 (by decide) rfl rfl (by decide) rfl (Nat.le_refl _) (Nat.le_of_ble_eq_true rfl) rfl dX8_doesWithout_52 h29 (ctX8_pull g31) (k_I0 ?_)
          refine r_icmp_le (tgt := 62) dX8_doesWithout_55 (by decide) (fun c32 => ?_) (fun c32 => ?_)
          · rw [if_pos c32] at h
            refine r_sub [0, 1, 2, 3, 4, 5] [(0, .ref a0), (1, .int x1), (2, .int x2), (3, .int x3), (4, .int s.1), (5, .int s.2.1)] rfl ?_
            exact okX8_doesWithout_b62 h hk
          · rw [if_neg c32] at h
            refine r_sub [0, 1, 2, 3, 5] [(0, .ref a0), (1, .int x1), (2, .int x2), (3, .int x3), (5, .int s.2.1)] rfl ?_
            exact okX8_doesWithout_b58 h hk
def fX8_doesWithout_L6 (a0 : Nat) (x1 : Int32) (x2 : Int32) (x3 : Int32) (s : Int32 × Int32 × Wd) : Option (Int32 × Wd) := it (fX8_doesWithout_L6_body a0 x1 x2 x3) FU s
set_option maxHeartbeats 1000000 in
set_option maxRecDepth 20000 in
theorem okX8_doesWithout_L6 {E : Ev} {Q : Option Value → Wd → Prop} {a0 : Nat} {x1 : Int32} {x2 : Int32} {x3 : Int32} {s : Int32 × Int32 × Wd} {r : Int32 × Wd} (h : fX8_doesWithout_L6 a0 x1 x2 x3 s = some r) (hk : (fun q : Int32 × Wd => Q (some (.int q.1)) q.2) r) : PX8_doesWithout_L6 E Q a0 x1 x2 x3 s := it_runs (fun s r h hk => okX8_doesWithout_L6_body h hk) FU s r h hk
def fX8_doesWithout (a0 : Nat) (x1 : Int32) (x2 : Int32) (x3 : Int32) (w : Wd) : Option (Int32 × Wd) :=
  fX8_doesWithout_L6 a0 x1 x2 x3 ((-1), 0, w)
set_option maxHeartbeats 1000000 in
set_option maxRecDepth 20000 in
theorem okX8_doesWithout {E : Ev} {Q : Option Value → Wd → Prop} {a0 : Nat} {x1 : Int32} {x2 : Int32} {x3 : Int32} {w : Wd} {q : Int32 × Wd} (h : fX8_doesWithout a0 x1 x2 x3 w = some q) (hk : (fun q : Int32 × Wd => Q (some (.int q.1)) q.2) q) : Runs E mX8_doesWithout (7, 0, false) Q 0 0 [(0, .ref a0), (1, .int x1), (2, .int x2), (3, .int x3)] [] w := by
  unfold fX8_doesWithout at h
  refine r_iconst (v := (-1)) dX8_doesWithout_0 (by decide) ?_
  refine r_istore dX8_doesWithout_1 (Nat.le_of_ble_eq_true rfl) [(4, .int (-1)), (0, .ref a0), (1, .int x1), (2, .int x2), (3, .int x3)] rfl ?_
  refine r_iconst (v := 0) dX8_doesWithout_3 (by decide) ?_
  refine r_istore dX8_doesWithout_4 (Nat.le_of_ble_eq_true rfl) [(5, .int 0), (4, .int (-1)), (0, .ref a0), (1, .int x1), (2, .int x2), (3, .int x3)] rfl ?_
  refine r_sub [2, 3, 4, 5, 1, 0] [(0, .ref a0), (1, .int x1), (2, .int x2), (3, .int x3), (4, .int (-1)), (5, .int 0)] rfl ?_
  exact okX8_doesWithout_L6 h hk
set_option maxHeartbeats 1000000 in
set_option maxRecDepth 20000 in
theorem ctX8_doesWithout {E : Ev} {a0 : Nat} {x1 : Int32} {x2 : Int32} {x3 : Int32} {w : Wd} {q : Int32 × Wd} (h : fX8_doesWithout a0 x1 x2 x3 w = some q) : CT E mX8_doesWithout (7, 0, false) [.ref a0, .int x1, .int x2, .int x3] w (QI q) := CT.of pl_RX8 (Nat.le_of_ble_eq_true rfl) (okX8_doesWithout h ⟨rfl, rfl⟩)
