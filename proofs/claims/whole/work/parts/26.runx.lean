def fX7_personOf (a0 : Nat) (x1 : Int32) (x2 : Int32) (w : Wd) : Option (Int32 × Wd) :=
  chk (isO w a0 7) (ob (wR w a0 2) (fun o2 => chk (isO w o2 0) (ob (fX0_hasPerson o2 x1 w) (fun q5 => if q5.1 = 0 then (chk (isO q5.2 a0 7) (ob (fX7_refuse a0 (-5) q5.2) (fun q49 => some (q49.1, q49.2)))) else (if x2 = 0 then (chk (isO q5.2 a0 7) (ob (wR q5.2 a0 2) (fun o38 => chk (isO q5.2 o38 0) (ob (wR q5.2 o38 0) (fun o41 => chk (isA q5.2 o41 3) (chk (inb x1 (wn q5.2 o41)) (ob (wR q5.2 o41 (x1).toNatClampNeg) (fun o45 => chk (isO q5.2 o45 4) (some ((wI q5.2 o45 1), q5.2)))))))))) else (if x2 = 1 then (chk (isO q5.2 a0 7) (ob (wR q5.2 a0 2) (fun o32 => chk (isO q5.2 o32 0) (ob (fX0_wornBy o32 x1 q5.2) (fun q35 => some (q35.1, q35.2)))))) else (ob (fX7_isWithin x2 10 21 q5.2) (fun q10 => if q10.1 = 0 then (chk (isO q10.2 a0 7) (ob (fX7_refuse a0 (-5) q10.2) (fun q14 => some (q14.1, q14.2)))) else (chk (isO q10.2 a0 7) (ob (wR q10.2 a0 2) (fun o17 => chk (isO q10.2 o17 0) (ob (wR q10.2 o17 0) (fun o20 => chk (isA q10.2 o20 3) (chk (inb x1 (wn q10.2 o20)) (ob (wR q10.2 o20 (x1).toNatClampNeg) (fun o24 => chk (isO q10.2 o24 4) (ob (wR q10.2 o24 0) (fun o27 => chk (isA q10.2 o27 0) (chk (inb (x2 - 10) (wn q10.2 o27)) (some ((wI q10.2 o27 ((x2 - 10)).toNatClampNeg), q10.2)))))))))))))))))))))
set_option maxHeartbeats 1000000 in
set_option maxRecDepth 20000 in
theorem okX7_personOf {E : Ev} {Q : Option Value → Wd → Prop} {a0 : Nat} {x1 : Int32} {x2 : Int32} {w : Wd} {q : Int32 × Wd} (h : fX7_personOf a0 x1 x2 w = some q) (hk : (fun q : Int32 × Wd => Q (some (.int q.1)) q.2) q) : Runs E mX7_personOf (8, 0, false) Q 0 0 [(0, .ref a0), (1, .int x1), (2, .int x2)] [] w := by
  unfold fX7_personOf at h
  refine r_aload_n dX7_personOf_0 0 rfl ?_
  obtain ⟨h1, h⟩ := chk_some h
  obtain ⟨o2, g3, h⟩ := ob_some h
  refine r_getR (fl_RX7_22 rfl) rfl dX7_personOf_1 h1 g3 ?_
  refine r_iload_n dX7_personOf_4 1 rfl ?_
  obtain ⟨h4, h⟩ := chk_some h
  obtain ⟨q5, g6, h⟩ := ob_some h
  refine r_callV (d' := (7, 0, false)) (As := [.int x1]) (st := []) mdv_X0_hasPerson tm_RX7_173 (by decide) rfl rfl (by decide) rfl (Nat.le_refl _) (Nat.le_of_ble_eq_true rfl) rfl dX7_personOf_5 h4 (ctX0_hasPerson g6) (k_I0 ?_)
  refine r_if_ne (tgt := 18) dX7_personOf_8 (by decide) (fun c7 => ?_) (fun c7 => ?_)
  · rw [if_neg c7] at h
    refine r_iload_n dX7_personOf_18 2 rfl ?_
    refine r_if_ne (tgt := 35) dX7_personOf_19 (by decide) (fun c8 => ?_) (fun c8 => ?_)
    · rw [if_neg c8] at h
      refine r_iload_n dX7_personOf_35 2 rfl ?_
      refine r_iconst (v := 1) dX7_personOf_36 (by decide) ?_
      refine r_icmp_ne (tgt := 49) dX7_personOf_37 (by decide) (fun c9 => ?_) (fun c9 => ?_)
      · rw [if_neg c9] at h
        refine r_iload_n dX7_personOf_49 2 rfl ?_
        refine r_bipush (v := 10) dX7_personOf_50 (by decide) ?_
        refine r_bipush (v := 21) dX7_personOf_52 (by decide) ?_
        obtain ⟨q10, g11, h⟩ := ob_some h
        refine r_callS (d' := (6, 0, false)) (As := [.int x2, .int 10, .int 21]) (st := []) mds_X7_isWithin tm_RX7_77 rfl (by decide) rfl (Nat.le_refl _) (Nat.le_of_ble_eq_true rfl) rfl dX7_personOf_54 (ctX7_isWithin g11) (k_I0 ?_)
        refine r_if_eq (tgt := 78) dX7_personOf_57 (by decide) (fun c12 => ?_) (fun c12 => ?_)
        · rw [if_pos c12] at h
          refine r_aload_n dX7_personOf_78 0 rfl ?_
          refine r_bipush (v := (-5)) dX7_personOf_79 (by decide) ?_
          obtain ⟨h13, h⟩ := chk_some h
          obtain ⟨q14, g15, h⟩ := ob_some h
          refine r_callV (d' := (6, 0, false)) (As := [.int (-5)]) (st := []) mdv_X7_refuse tm_RX7_73 (by decide) rfl rfl (by decide) rfl (Nat.le_refl _) (Nat.le_of_ble_eq_true rfl) rfl dX7_personOf_81 h13 (ctX7_refuse g15) (k_I0 ?_)
          rw [← Option.some.inj h] at hk
          exact r_ireturn dX7_personOf_84 rfl rfl hk
        · rw [if_neg c12] at h
          refine r_aload_n dX7_personOf_60 0 rfl ?_
          obtain ⟨h16, h⟩ := chk_some h
          obtain ⟨o17, g18, h⟩ := ob_some h
          refine r_getR (fl_RX7_22 rfl) rfl dX7_personOf_61 h16 g18 ?_
          obtain ⟨h19, h⟩ := chk_some h
          obtain ⟨o20, g21, h⟩ := ob_some h
          refine r_getR (fl_RX7_179 rfl) rfl dX7_personOf_64 h19 g21 ?_
          refine r_iload_n dX7_personOf_67 1 rfl ?_
          obtain ⟨h22, h⟩ := chk_some h
          obtain ⟨h23, h⟩ := chk_some h
          obtain ⟨o24, g25, h⟩ := ob_some h
          refine r_aaload 3 (by decide) (by decide) dX7_personOf_68 h22 h23 g25 ?_
          obtain ⟨h26, h⟩ := chk_some h
          obtain ⟨o27, g28, h⟩ := ob_some h
          refine r_getR (fl_RX7_183 rfl) rfl dX7_personOf_69 h26 g28 ?_
          refine r_iload_n dX7_personOf_72 2 rfl ?_
          refine r_bipush (v := 10) dX7_personOf_73 (by decide) ?_
          refine r_isub dX7_personOf_75 ?_
          obtain ⟨h29, h⟩ := chk_some h
          obtain ⟨h30, h⟩ := chk_some h
          refine r_iaload dX7_personOf_76 h29 h30 ?_
          rw [← Option.some.inj h] at hk
          exact r_ireturn dX7_personOf_77 rfl rfl hk
      · rw [if_pos c9] at h
        refine r_aload_n dX7_personOf_40 0 rfl ?_
        obtain ⟨h31, h⟩ := chk_some h
        obtain ⟨o32, g33, h⟩ := ob_some h
        refine r_getR (fl_RX7_22 rfl) rfl dX7_personOf_41 h31 g33 ?_
        refine r_iload_n dX7_personOf_44 1 rfl ?_
        obtain ⟨h34, h⟩ := chk_some h
        obtain ⟨q35, g36, h⟩ := ob_some h
        refine r_callV (d' := (6, 0, false)) (As := [.int x1]) (st := []) mdv_X0_wornBy tm_RX7_216 (by decide) rfl rfl (by decide) rfl (Nat.le_refl _) (Nat.le_of_ble_eq_true rfl) rfl dX7_personOf_45 h34 (ctX0_wornBy g36) (k_I0 ?_)
        rw [← Option.some.inj h] at hk
        exact r_ireturn dX7_personOf_48 rfl rfl hk
    · rw [if_pos c8] at h
      refine r_aload_n dX7_personOf_22 0 rfl ?_
      obtain ⟨h37, h⟩ := chk_some h
      obtain ⟨o38, g39, h⟩ := ob_some h
      refine r_getR (fl_RX7_22 rfl) rfl dX7_personOf_23 h37 g39 ?_
      obtain ⟨h40, h⟩ := chk_some h
      obtain ⟨o41, g42, h⟩ := ob_some h
      refine r_getR (fl_RX7_179 rfl) rfl dX7_personOf_26 h40 g42 ?_
      refine r_iload_n dX7_personOf_29 1 rfl ?_
      obtain ⟨h43, h⟩ := chk_some h
      obtain ⟨h44, h⟩ := chk_some h
      obtain ⟨o45, g46, h⟩ := ob_some h
      refine r_aaload 3 (by decide) (by decide) dX7_personOf_30 h43 h44 g46 ?_
      obtain ⟨h47, h⟩ := chk_some h
      refine r_getI (fl_RX7_201 rfl) rfl dX7_personOf_31 h47 ?_
      rw [← Option.some.inj h] at hk
      exact r_ireturn dX7_personOf_34 rfl rfl hk
  · rw [if_pos c7] at h
    refine r_aload_n dX7_personOf_11 0 rfl ?_
    refine r_bipush (v := (-5)) dX7_personOf_12 (by decide) ?_
    obtain ⟨h48, h⟩ := chk_some h
    obtain ⟨q49, g50, h⟩ := ob_some h
    refine r_callV (d' := (6, 0, false)) (As := [.int (-5)]) (st := []) mdv_X7_refuse tm_RX7_73 (by decide) rfl rfl (by decide) rfl (Nat.le_refl _) (Nat.le_of_ble_eq_true rfl) rfl dX7_personOf_14 h48 (ctX7_refuse g50) (k_I0 ?_)
    rw [← Option.some.inj h] at hk
    exact r_ireturn dX7_personOf_17 rfl rfl hk
set_option maxHeartbeats 1000000 in
set_option maxRecDepth 20000 in
theorem ctX7_personOf {E : Ev} {a0 : Nat} {x1 : Int32} {x2 : Int32} {w : Wd} {q : Int32 × Wd} (h : fX7_personOf a0 x1 x2 w = some q) : CT E mX7_personOf (8, 0, false) [.ref a0, .int x1, .int x2] w (QI q) := CT.of pl_RX7 (Nat.le_of_ble_eq_true rfl) (okX7_personOf h ⟨rfl, rfl⟩)
def PX7_restore_L27 (E : Ev) (Q : Option Value → Wd → Prop) (a0 : Nat) (s : Int32 × Wd) : Prop := Runs E mX7_restore (8, 0, false) Q 0 27 [(0, .ref a0), (1, .int s.1)] [] s.2
def fX7_restore_b73 (a0 : Nat) (x1 : Int32) (w : Wd) : Option ((Int32 × Wd) ⊕ (Int32 × Wd)) :=
  some (.inl ((x1 + 1), w))
set_option maxHeartbeats 1000000 in
set_option maxRecDepth 20000 in
theorem okX7_restore_b73 {E : Ev} {Q : Option Value → Wd → Prop} {a0 : Nat} {x1 : Int32} {w : Wd} {q : (Int32 × Wd) ⊕ (Int32 × Wd)} (h : fX7_restore_b73 a0 x1 w = some q) (hk : (Sum.elim (PX7_restore_L27 E Q a0) (fun q : Int32 × Wd => Q (some (.int q.1)) q.2)) q) : Runs E mX7_restore (8, 0, false) Q 0 73 [(0, .ref a0), (1, .int x1)] [] w := by
  unfold fX7_restore_b73 at h
  refine r_iinc (v := (x1 + 1)) dX7_restore_73 1 rfl rfl (Nat.le_of_ble_eq_true rfl) [(1, .int (x1 + 1)), (0, .ref a0)] rfl ?_
  refine r_goto (tgt := 27) dX7_restore_76 (by decide) ?_
  rw [← Option.some.inj h] at hk
  refine r_sub [1, 0] [(0, .ref a0), (1, .int (x1 + 1))] rfl ?_
  exact hk
def fX7_restore_L27_body (a0 : Nat) (s : Int32 × Wd) : Option ((Int32 × Wd) ⊕ (Int32 × Wd)) :=
  if (8 : Int32) ≤ s.1 then (wr (chk (isO s.2 a0 7) (ob (wR s.2 a0 2) (fun o4 => chk (isO s.2 o4 0) (some ((wI s.2 o4 4), s.2)))))) else (chk (isO s.2 a0 7) (ob (wR s.2 a0 0) (fun o8 => chk (isA s.2 o8 4) (chk (inb s.1 (wn s.2 o8)) (ob (wR s.2 o8 (s.1).toNatClampNeg) (fun o12 => chk (isO s.2 o12 6) (ob (fX6_holdsGarment o12 s.2) (fun q15 => if q15.1 = 0 then (fX7_restore_b73 a0 s.1 q15.2) else (chk (isO q15.2 a0 7) (ob (wR q15.2 a0 2) (fun o19 => ob (wR q15.2 a0 0) (fun o21 => chk (isA q15.2 o21 4) (chk (inb s.1 (wn q15.2 o21)) (ob (wR q15.2 o21 (s.1).toNatClampNeg) (fun o25 => chk (isO q15.2 o25 6) (chk (isO q15.2 o19 0) (ob (fX0_hasGarment o19 (wI q15.2 o25 2) q15.2) (fun q29 => if q29.1 = 0 then (chk (isO q29.2 a0 7) (ob (wR q29.2 a0 0) (fun o33 => chk (isA q29.2 o33 4) (chk (inb s.1 (wn q29.2 o33)) (ob (wR q29.2 o33 (s.1).toNatClampNeg) (fun o37 => chk (isO q29.2 o37 6) (ob (fX6_holdNothing o37 q29.2) (fun q40 => fX7_restore_b73 a0 s.1 q40)))))))) else (fX7_restore_b73 a0 s.1 q29.2)))))))))))))))))))
set_option maxHeartbeats 1000000 in
set_option maxRecDepth 20000 in
theorem okX7_restore_L27_body {E : Ev} {Q : Option Value → Wd → Prop} {a0 : Nat} {s : Int32 × Wd} {r : (Int32 × Wd) ⊕ (Int32 × Wd)} (h : fX7_restore_L27_body a0 s = some r) (hk : (Sum.elim (PX7_restore_L27 E Q a0) (fun q : Int32 × Wd => Q (some (.int q.1)) q.2)) r) : PX7_restore_L27 E Q a0 s := by
  unfold fX7_restore_L27_body at h
  unfold PX7_restore_L27
  refine r_iload_n dX7_restore_27 1 rfl ?_
  refine r_bipush (v := 8) dX7_restore_28 (by decide) ?_
  refine r_icmp_ge (tgt := 79) dX7_restore_30 (by decide) (fun c1 => ?_) (fun c1 => ?_)
  · rw [if_pos c1] at h
    obtain ⟨r2, hr, h⟩ := wr_some h
    rw [hr] at hk
    refine r_aload_n dX7_restore_79 0 rfl ?_
    obtain ⟨h3, h⟩ := chk_some h
    obtain ⟨o4, g5, h⟩ := ob_some h
    refine r_getR (fl_RX7_22 rfl) rfl dX7_restore_80 h3 g5 ?_
    obtain ⟨h6, h⟩ := chk_some h
    refine r_getI (fl_RX7_275 rfl) rfl dX7_restore_83 h6 ?_
    rw [← Option.some.inj h] at hk
    exact r_ireturn dX7_restore_86 rfl rfl hk
  · rw [if_neg c1] at h
    refine r_aload_n dX7_restore_33 0 rfl ?_
    obtain ⟨h7, h⟩ := chk_some h
    obtain ⟨o8, g9, h⟩ := ob_some h
    refine r_getR (fl_RX7_11 rfl) rfl dX7_restore_34 h7 g9 ?_
    refine r_iload_n dX7_restore_37 1 rfl ?_
    obtain ⟨h10, h⟩ := chk_some h
    obtain ⟨h11, h⟩ := chk_some h
    obtain ⟨o12, g13, h⟩ := ob_some h
    refine r_aaload 4 (by decide) (by decide) dX7_restore_38 h10 h11 g13 ?_
    obtain ⟨h14, h⟩ := chk_some h
    obtain ⟨q15, g16, h⟩ := ob_some h
    refine r_callV (d' := (6, 0, false)) (As := []) (st := []) mdv_X6_holdsGarment tm_RX7_96 (by decide) rfl rfl (by decide) rfl (Nat.le_refl _) (Nat.le_of_ble_eq_true rfl) rfl dX7_restore_39 h14 (ctX6_holdsGarment g16) (k_I0 ?_)
    refine r_if_eq (tgt := 73) dX7_restore_42 (by decide) (fun c17 => ?_) (fun c17 => ?_)
    · rw [if_pos c17] at h
      refine r_sub [0, 1] [(0, .ref a0), (1, .int s.1)] rfl ?_
      exact okX7_restore_b73 h hk
    · rw [if_neg c17] at h
      refine r_aload_n dX7_restore_45 0 rfl ?_
      obtain ⟨h18, h⟩ := chk_some h
      obtain ⟨o19, g20, h⟩ := ob_some h
      refine r_getR (fl_RX7_22 rfl) rfl dX7_restore_46 h18 g20 ?_
      refine r_aload_n dX7_restore_49 0 rfl ?_
      obtain ⟨o21, g22, h⟩ := ob_some h
      refine r_getR (fl_RX7_11 rfl) rfl dX7_restore_50 h18 g22 ?_
      refine r_iload_n dX7_restore_53 1 rfl ?_
      obtain ⟨h23, h⟩ := chk_some h
      obtain ⟨h24, h⟩ := chk_some h
      obtain ⟨o25, g26, h⟩ := ob_some h
      refine r_aaload 4 (by decide) (by decide) dX7_restore_54 h23 h24 g26 ?_
      obtain ⟨h27, h⟩ := chk_some h
      refine r_getI (fl_RX7_131 rfl) rfl dX7_restore_55 h27 ?_
      obtain ⟨h28, h⟩ := chk_some h
      obtain ⟨q29, g30, h⟩ := ob_some h
      refine r_callV (d' := (7, 0, false)) (As := [.int (wI q15.2 o25 2)]) (st := []) mdv_X0_hasGarment tm_RX7_121 (by decide) rfl rfl (by decide) rfl (Nat.le_refl _) (Nat.le_of_ble_eq_true rfl) rfl dX7_restore_58 h28 (ctX0_hasGarment g30) (k_I0 ?_)
      refine r_if_ne (tgt := 73) dX7_restore_61 (by decide) (fun c31 => ?_) (fun c31 => ?_)
      · rw [if_neg c31] at h
        refine r_sub [0, 1] [(0, .ref a0), (1, .int s.1)] rfl ?_
        exact okX7_restore_b73 h hk
      · rw [if_pos c31] at h
        refine r_aload_n dX7_restore_64 0 rfl ?_
        obtain ⟨h32, h⟩ := chk_some h
        obtain ⟨o33, g34, h⟩ := ob_some h
        refine r_getR (fl_RX7_11 rfl) rfl dX7_restore_65 h32 g34 ?_
        refine r_iload_n dX7_restore_68 1 rfl ?_
        obtain ⟨h35, h⟩ := chk_some h
        obtain ⟨h36, h⟩ := chk_some h
        obtain ⟨o37, g38, h⟩ := ob_some h
        refine r_aaload 4 (by decide) (by decide) dX7_restore_69 h35 h36 g38 ?_
        obtain ⟨h39, h⟩ := chk_some h
        obtain ⟨q40, g41, h⟩ := ob_some h
        refine r_callV (d' := (6, 0, false)) (As := []) (st := []) mdv_X6_holdNothing tm_RX7_124 (by decide) rfl rfl (by decide) rfl (Nat.le_refl _) (Nat.le_of_ble_eq_true rfl) rfl dX7_restore_70 h39 (ctX6_holdNothing g41) (k_V0 ?_)
        refine r_sub [0, 1] [(0, .ref a0), (1, .int s.1)] rfl ?_
        exact okX7_restore_b73 h hk
def fX7_restore_L27 (a0 : Nat) (s : Int32 × Wd) : Option (Int32 × Wd) := it (fX7_restore_L27_body a0) FU s
set_option maxHeartbeats 1000000 in
set_option maxRecDepth 20000 in
theorem okX7_restore_L27 {E : Ev} {Q : Option Value → Wd → Prop} {a0 : Nat} {s : Int32 × Wd} {r : Int32 × Wd} (h : fX7_restore_L27 a0 s = some r) (hk : (fun q : Int32 × Wd => Q (some (.int q.1)) q.2) r) : PX7_restore_L27 E Q a0 s := it_runs (fun s r h hk => okX7_restore_L27_body h hk) FU s r h hk
def fX7_restore (a0 : Nat) (w : Wd) : Option (Int32 × Wd) :=
  chk (isO w a0 7) (if (wI w a0 9) = 0 then (ob (fX7_refuse a0 (-6) w) (fun q10 => some (q10.1, q10.2))) else (ob (wR w a0 2) (fun o3 => ob (wR w a0 4) (fun o5 => chk (isO w o3 0) (ob (fX0_take o3 o5 w) (fun q8 => fX7_restore_L27 a0 (0, q8)))))))
set_option maxHeartbeats 1000000 in
set_option maxRecDepth 20000 in
theorem okX7_restore {E : Ev} {Q : Option Value → Wd → Prop} {a0 : Nat} {w : Wd} {q : Int32 × Wd} (h : fX7_restore a0 w = some q) (hk : (fun q : Int32 × Wd => Q (some (.int q.1)) q.2) q) : Runs E mX7_restore (8, 0, false) Q 0 0 [(0, .ref a0)] [] w := by
  unfold fX7_restore at h
  refine r_aload_n dX7_restore_0 0 rfl ?_
  obtain ⟨h1, h⟩ := chk_some h
  refine r_getI (fl_RX7_60 rfl) rfl dX7_restore_1 h1 ?_
  refine r_if_ne (tgt := 14) dX7_restore_4 (by decide) (fun c2 => ?_) (fun c2 => ?_)
  · rw [if_neg c2] at h
    refine r_aload_n dX7_restore_14 0 rfl ?_
    obtain ⟨o3, g4, h⟩ := ob_some h
    refine r_getR (fl_RX7_22 rfl) rfl dX7_restore_15 h1 g4 ?_
    refine r_aload_n dX7_restore_18 0 rfl ?_
    obtain ⟨o5, g6, h⟩ := ob_some h
    refine r_getR (fl_RX7_29 rfl) rfl dX7_restore_19 h1 g6 ?_
    obtain ⟨h7, h⟩ := chk_some h
    obtain ⟨q8, g9, h⟩ := ob_some h
    refine r_callV (d' := (7, 0, false)) (As := [.ref o5]) (st := []) mdv_X0_take tm_RX7_219 (by decide) rfl rfl (by decide) rfl (Nat.le_refl _) (Nat.le_of_ble_eq_true rfl) rfl dX7_restore_22 h7 (ctX0_take g9) (k_V0 ?_)
    refine r_iconst (v := 0) dX7_restore_25 (by decide) ?_
    refine r_istore_n dX7_restore_26 rfl (Nat.le_of_ble_eq_true rfl) [(1, .int 0), (0, .ref a0)] rfl ?_
    refine r_sub [1, 0] [(0, .ref a0), (1, .int 0)] rfl ?_
    exact okX7_restore_L27 h hk
  · rw [if_pos c2] at h
    refine r_aload_n dX7_restore_7 0 rfl ?_
    refine r_bipush (v := (-6)) dX7_restore_8 (by decide) ?_
    obtain ⟨q10, g11, h⟩ := ob_some h
    refine r_callV (d' := (6, 0, false)) (As := [.int (-6)]) (st := []) mdv_X7_refuse tm_RX7_73 (by decide) rfl rfl (by decide) rfl (Nat.le_refl _) (Nat.le_of_ble_eq_true rfl) rfl dX7_restore_10 h1 (ctX7_refuse g11) (k_I0 ?_)
    rw [← Option.some.inj h] at hk
    exact r_ireturn dX7_restore_13 rfl rfl hk
set_option maxHeartbeats 1000000 in
set_option maxRecDepth 20000 in
theorem ctX7_restore {E : Ev} {a0 : Nat} {w : Wd} {q : Int32 × Wd} (h : fX7_restore a0 w = some q) : CT E mX7_restore (8, 0, false) [.ref a0] w (QI q) := CT.of pl_RX7 (Nat.le_of_ble_eq_true rfl) (okX7_restore h ⟨rfl, rfl⟩)
def fX7_row (a0 : Nat) (x1 : Int32) (x2 : Int32) (x3 : Int32) (w : Wd) : Option (Int32 × Wd) :=
  ob (fX7_isShelf x1 w) (fun q1 => if q1.1 = 0 then (chk (isO q1.2 a0 7) (ob (fX7_refuse a0 (-1) q1.2) (fun q29 => some (q29.1, q29.2)))) else (if 0 ≤ x3 then (ob (fX7_isWithin x2 0 3 q1.2) (fun q5 => if q5.1 = 0 then (chk (isO q5.2 a0 7) (ob (fX7_refuse a0 (-6) q5.2) (fun q23 => some (q23.1, q23.2)))) else (if x3 ≤ 160 then (chk (isO q5.2 a0 7) (ob (wR q5.2 a0 0) (fun o10 => chk (isA q5.2 o10 4) (chk (inb x1 (wn q5.2 o10)) (ob (wR q5.2 o10 (x1).toNatClampNeg) (fun o14 => chk (isO q5.2 o14 6) (ob (fX6_holdRow o14 x2 x3 q5.2) (fun q17 => some (1, q17))))))))) else (chk (isO q5.2 a0 7) (ob (fX7_refuse a0 (-7) q5.2) (fun q20 => some (q20.1, q20.2))))))) else (chk (isO q1.2 a0 7) (ob (fX7_refuse a0 (-4) q1.2) (fun q26 => some (q26.1, q26.2))))))
set_option maxHeartbeats 1000000 in
set_option maxRecDepth 20000 in
theorem okX7_row {E : Ev} {Q : Option Value → Wd → Prop} {a0 : Nat} {x1 : Int32} {x2 : Int32} {x3 : Int32} {w : Wd} {q : Int32 × Wd} (h : fX7_row a0 x1 x2 x3 w = some q) (hk : (fun q : Int32 × Wd => Q (some (.int q.1)) q.2) q) : Runs E mX7_row (8, 0, false) Q 0 0 [(0, .ref a0), (1, .int x1), (2, .int x2), (3, .int x3)] [] w := by
  unfold fX7_row at h
  refine r_iload_n dX7_row_0 1 rfl ?_
  obtain ⟨q1, g2, h⟩ := ob_some h
  refine r_callS (d' := (7, 0, false)) (As := [.int x1]) (st := []) mds_X7_isShelf tm_RX7_69 rfl (by decide) rfl (Nat.le_refl _) (Nat.le_of_ble_eq_true rfl) rfl dX7_row_1 (ctX7_isShelf g2) (k_I0 ?_)
  refine r_if_ne (tgt := 13) dX7_row_4 (by decide) (fun c3 => ?_) (fun c3 => ?_)
  · rw [if_neg c3] at h
    refine r_iload_n dX7_row_13 3 rfl ?_
    refine r_if_ge (tgt := 24) dX7_row_14 (by decide) (fun c4 => ?_) (fun c4 => ?_)
    · rw [if_pos c4] at h
      refine r_iload_n dX7_row_24 2 rfl ?_
      refine r_iconst (v := 0) dX7_row_25 (by decide) ?_
      refine r_iconst (v := 3) dX7_row_26 (by decide) ?_
      obtain ⟨q5, g6, h⟩ := ob_some h
      refine r_callS (d' := (6, 0, false)) (As := [.int x2, .int 0, .int 3]) (st := []) mds_X7_isWithin tm_RX7_77 rfl (by decide) rfl (Nat.le_refl _) (Nat.le_of_ble_eq_true rfl) rfl dX7_row_27 (ctX7_isWithin g6) (k_I0 ?_)
      refine r_if_ne (tgt := 40) dX7_row_30 (by decide) (fun c7 => ?_) (fun c7 => ?_)
      · rw [if_neg c7] at h
        refine r_iload_n dX7_row_40 3 rfl ?_
        refine r_sipush (v := 160) dX7_row_41 (by decide) ?_
        refine r_icmp_le (tgt := 54) dX7_row_44 (by decide) (fun c8 => ?_) (fun c8 => ?_)
        · rw [if_pos c8] at h
          refine r_aload_n dX7_row_54 0 rfl ?_
          obtain ⟨h9, h⟩ := chk_some h
          obtain ⟨o10, g11, h⟩ := ob_some h
          refine r_getR (fl_RX7_11 rfl) rfl dX7_row_55 h9 g11 ?_
          refine r_iload_n dX7_row_58 1 rfl ?_
          obtain ⟨h12, h⟩ := chk_some h
          obtain ⟨h13, h⟩ := chk_some h
          obtain ⟨o14, g15, h⟩ := ob_some h
          refine r_aaload 4 (by decide) (by decide) dX7_row_59 h12 h13 g15 ?_
          refine r_iload_n dX7_row_60 2 rfl ?_
          refine r_iload_n dX7_row_61 3 rfl ?_
          obtain ⟨h16, h⟩ := chk_some h
          obtain ⟨q17, g18, h⟩ := ob_some h
          refine r_callV (d' := (7, 0, false)) (As := [.int x2, .int x3]) (st := []) mdv_X6_holdRow tm_RX7_81 (by decide) rfl rfl (by decide) rfl (Nat.le_refl _) (Nat.le_of_ble_eq_true rfl) rfl dX7_row_62 h16 (ctX6_holdRow g18) (k_V0 ?_)
          refine r_iconst (v := 1) dX7_row_65 (by decide) ?_
          rw [← Option.some.inj h] at hk
          exact r_ireturn dX7_row_66 rfl rfl hk
        · rw [if_neg c8] at h
          refine r_aload_n dX7_row_47 0 rfl ?_
          refine r_bipush (v := (-7)) dX7_row_48 (by decide) ?_
          obtain ⟨h19, h⟩ := chk_some h
          obtain ⟨q20, g21, h⟩ := ob_some h
          refine r_callV (d' := (6, 0, false)) (As := [.int (-7)]) (st := []) mdv_X7_refuse tm_RX7_73 (by decide) rfl rfl (by decide) rfl (Nat.le_refl _) (Nat.le_of_ble_eq_true rfl) rfl dX7_row_50 h19 (ctX7_refuse g21) (k_I0 ?_)
          rw [← Option.some.inj h] at hk
          exact r_ireturn dX7_row_53 rfl rfl hk
      · rw [if_pos c7] at h
        refine r_aload_n dX7_row_33 0 rfl ?_
        refine r_bipush (v := (-6)) dX7_row_34 (by decide) ?_
        obtain ⟨h22, h⟩ := chk_some h
        obtain ⟨q23, g24, h⟩ := ob_some h
        refine r_callV (d' := (6, 0, false)) (As := [.int (-6)]) (st := []) mdv_X7_refuse tm_RX7_73 (by decide) rfl rfl (by decide) rfl (Nat.le_refl _) (Nat.le_of_ble_eq_true rfl) rfl dX7_row_36 h22 (ctX7_refuse g24) (k_I0 ?_)
        rw [← Option.some.inj h] at hk
        exact r_ireturn dX7_row_39 rfl rfl hk
    · rw [if_neg c4] at h
      refine r_aload_n dX7_row_17 0 rfl ?_
      refine r_bipush (v := (-4)) dX7_row_18 (by decide) ?_
      obtain ⟨h25, h⟩ := chk_some h
      obtain ⟨q26, g27, h⟩ := ob_some h
      refine r_callV (d' := (6, 0, false)) (As := [.int (-4)]) (st := []) mdv_X7_refuse tm_RX7_73 (by decide) rfl rfl (by decide) rfl (Nat.le_refl _) (Nat.le_of_ble_eq_true rfl) rfl dX7_row_20 h25 (ctX7_refuse g27) (k_I0 ?_)
      rw [← Option.some.inj h] at hk
      exact r_ireturn dX7_row_23 rfl rfl hk
  · rw [if_pos c3] at h
    refine r_aload_n dX7_row_7 0 rfl ?_
    refine r_iconst (v := (-1)) dX7_row_8 (by decide) ?_
    obtain ⟨h28, h⟩ := chk_some h
    obtain ⟨q29, g30, h⟩ := ob_some h
    refine r_callV (d' := (6, 0, false)) (As := [.int (-1)]) (st := []) mdv_X7_refuse tm_RX7_73 (by decide) rfl rfl (by decide) rfl (Nat.le_refl _) (Nat.le_of_ble_eq_true rfl) rfl dX7_row_9 h28 (ctX7_refuse g30) (k_I0 ?_)
    rw [← Option.some.inj h] at hk
    exact r_ireturn dX7_row_12 rfl rfl hk
set_option maxHeartbeats 1000000 in
set_option maxRecDepth 20000 in
theorem ctX7_row {E : Ev} {a0 : Nat} {x1 : Int32} {x2 : Int32} {x3 : Int32} {w : Wd} {q : Int32 × Wd} (h : fX7_row a0 x1 x2 x3 w = some q) : CT E mX7_row (8, 0, false) [.ref a0, .int x1, .int x2, .int x3] w (QI q) := CT.of pl_RX7 (Nat.le_of_ble_eq_true rfl) (okX7_row h ⟨rfl, rfl⟩)
def fX7_saying_b48 (a0 : Nat) (x1 : Int32) (w : Wd) : Option (Int32 × Wd) :=
  chk (isO w a0 7) (ob (wR w a0 2) (fun o2 => chk (isO w o2 0) (ob (fX0_hoursToGo o2 x1 w) (fun q5 => some (q5.1, q5.2)))))
set_option maxHeartbeats 1000000 in
set_option maxRecDepth 20000 in
theorem okX7_saying_b48 {E : Ev} {Q : Option Value → Wd → Prop} {a0 : Nat} {x1 : Int32} {w : Wd} {q : Int32 × Wd} (h : fX7_saying_b48 a0 x1 w = some q) (hk : (fun q : Int32 × Wd => Q (some (.int q.1)) q.2) q) : Runs E mX7_saying (9, 0, false) Q 0 48 [(0, .ref a0), (1, .int x1)] [] w := by
  unfold fX7_saying_b48 at h
  refine r_aload_n dX7_saying_48 0 rfl ?_
  obtain ⟨h1, h⟩ := chk_some h
  obtain ⟨o2, g3, h⟩ := ob_some h
  refine r_getR (fl_RX7_22 rfl) rfl dX7_saying_49 h1 g3 ?_
  refine r_iload_n dX7_saying_52 1 rfl ?_
  obtain ⟨h4, h⟩ := chk_some h
  obtain ⟨q5, g6, h⟩ := ob_some h
  refine r_callV (d' := (8, 0, false)) (As := [.int x1]) (st := []) mdv_X0_hoursToGo tm_RX7_148 (by decide) rfl rfl (by decide) rfl (Nat.le_refl _) (Nat.le_of_ble_eq_true rfl) rfl dX7_saying_53 h4 (ctX0_hoursToGo g6) (k_I0 ?_)
  rw [← Option.some.inj h] at hk
  exact r_ireturn dX7_saying_56 rfl rfl hk
def fX7_saying_b57 (a3 : Nat) (w : Wd) : Option (Int32 × Wd) :=
  chk (isO w a3 2) (ob (fX2_step a3 w) (fun q2 => some (q2.1, q2.2)))
set_option maxHeartbeats 1000000 in
set_option maxRecDepth 20000 in
theorem okX7_saying_b57 {E : Ev} {Q : Option Value → Wd → Prop} {a3 : Nat} {w : Wd} {q : Int32 × Wd} (h : fX7_saying_b57 a3 w = some q) (hk : (fun q : Int32 × Wd => Q (some (.int q.1)) q.2) q) : Runs E mX7_saying (9, 0, false) Q 0 57 [(3, .ref a3)] [] w := by
  unfold fX7_saying_b57 at h
  refine r_aload_n dX7_saying_57 0 rfl ?_
  obtain ⟨h1, h⟩ := chk_some h
  obtain ⟨q2, g3, h⟩ := ob_some h
  refine r_callV (d' := (6, 0, false)) (As := []) (st := []) mdv_X2_step tm_RX7_151 (by decide) rfl rfl (by decide) rfl (Nat.le_refl _) (Nat.le_of_ble_eq_true rfl) rfl dX7_saying_58 h1 (ctX2_step g3) (k_I0 ?_)
  rw [← Option.some.inj h] at hk
  exact r_ireturn dX7_saying_61 rfl rfl hk
def fX7_saying (a0 : Nat) (x1 : Int32) (x2 : Int32) (w : Wd) : Option (Int32 × Wd) :=
  chk (isO w a0 7) (ob (wR w a0 2) (fun o2 => chk (isO w o2 0) (ob (wR w o2 1) (fun o5 => chk (isA w o5 2) (chk (inb x1 (wn w o5)) (ob (wR w o5 (x1).toNatClampNeg) (fun o9 => if x2 = 1 then (fX7_saying_b48 a0 x1 w) else (if x2 = 2 then (fX7_saying_b57 o9 w) else (if x2 = 3 then (fX7_saying_b48 a0 x1 w) else (if x2 = 4 then (chk (isO w o9 2) (ob (fX2_countHabits o9 w) (fun q16 => some ((12 - q16.1), q16.2)))) else (if x2 = 5 then (fX7_saying_b57 o9 w) else (if x2 = 6 then (fX7_saying_b48 a0 x1 w) else (chk (isO w o9 2) (ob (fX2_countHabits o9 w) (fun q21 => some (q21.1, q21.2))))))))))))))))
set_option maxHeartbeats 1000000 in
set_option maxRecDepth 20000 in
theorem okX7_saying {E : Ev} {Q : Option Value → Wd → Prop} {a0 : Nat} {x1 : Int32} {x2 : Int32} {w : Wd} {q : Int32 × Wd} (h : fX7_saying a0 x1 x2 w = some q) (hk : (fun q : Int32 × Wd => Q (some (.int q.1)) q.2) q) : Runs E mX7_saying (9, 0, false) Q 0 0 [(0, .ref a0), (1, .int x1), (2, .int x2)] [] w := by
  unfold fX7_saying at h
  refine r_aload_n dX7_saying_0 0 rfl ?_
  obtain ⟨h1, h⟩ := chk_some h
  obtain ⟨o2, g3, h⟩ := ob_some h
  refine r_getR (fl_RX7_22 rfl) rfl dX7_saying_1 h1 g3 ?_
  obtain ⟨h4, h⟩ := chk_some h
  obtain ⟨o5, g6, h⟩ := ob_some h
  refine r_getR (fl_RX7_137 rfl) rfl dX7_saying_4 h4 g6 ?_
  refine r_iload_n dX7_saying_7 1 rfl ?_
  obtain ⟨h7, h⟩ := chk_some h
  obtain ⟨h8, h⟩ := chk_some h
  obtain ⟨o9, g10, h⟩ := ob_some h
  refine r_aaload 2 (by decide) (by decide) dX7_saying_8 h7 h8 g10 ?_
  refine r_astore_n dX7_saying_9 rfl (Nat.le_of_ble_eq_true rfl) [(3, .ref o9), (0, .ref a0), (1, .int x1), (2, .int x2)] rfl ?_
  refine r_iload_n dX7_saying_10 3 rfl ?_
  by_cases c11 : x2 = 1
  · rw [if_pos c11] at h
    refine r_tabIn (tgt := 48) dX7_saying_11 (by rw [c11] <;> decide) (by rw [c11] <;> decide) (by rw [c11] <;> rfl) (by decide) ?_
    refine r_sub [1, 2] [(0, .ref a0), (1, .int x1)] rfl ?_
    exact okX7_saying_b48 h hk
  rw [if_neg c11] at h
  by_cases c12 : x2 = 2
  · rw [if_pos c12] at h
    refine r_tabIn (tgt := 57) dX7_saying_11 (by rw [c12] <;> decide) (by rw [c12] <;> decide) (by rw [c12] <;> rfl) (by decide) ?_
    refine r_sub [0] [(3, .ref o9)] rfl ?_
    exact okX7_saying_b57 h hk
  rw [if_neg c12] at h
  by_cases c13 : x2 = 3
  · rw [if_pos c13] at h
    refine r_tabIn (tgt := 48) dX7_saying_11 (by rw [c13] <;> decide) (by rw [c13] <;> decide) (by rw [c13] <;> rfl) (by decide) ?_
    refine r_sub [1, 2] [(0, .ref a0), (1, .int x1)] rfl ?_
    exact okX7_saying_b48 h hk
  rw [if_neg c13] at h
  by_cases c14 : x2 = 4
  · rw [if_pos c14] at h
    refine r_tabIn (tgt := 62) dX7_saying_11 (by rw [c14] <;> decide) (by rw [c14] <;> decide) (by rw [c14] <;> rfl) (by decide) ?_
    refine r_bipush (v := 12) dX7_saying_62 (by decide) ?_
    refine r_aload_n dX7_saying_64 0 rfl ?_
    obtain ⟨h15, h⟩ := chk_some h
    obtain ⟨q16, g17, h⟩ := ob_some h
    refine r_callV (d' := (6, 0, false)) (As := []) (st := [.int 12]) mdv_X2_countHabits tm_RX7_155 (by decide) rfl rfl (by decide) rfl (Nat.le_refl _) (Nat.le_of_ble_eq_true rfl) rfl dX7_saying_65 h15 (ctX2_countHabits g17) (k_I0 ?_)
    refine r_isub dX7_saying_68 ?_
    rw [← Option.some.inj h] at hk
    exact r_ireturn dX7_saying_69 rfl rfl hk
  rw [if_neg c14] at h
  by_cases c18 : x2 = 5
  · rw [if_pos c18] at h
    refine r_tabIn (tgt := 57) dX7_saying_11 (by rw [c18] <;> decide) (by rw [c18] <;> decide) (by rw [c18] <;> rfl) (by decide) ?_
    refine r_sub [0] [(3, .ref o9)] rfl ?_
    exact okX7_saying_b57 h hk
  rw [if_neg c18] at h
  by_cases c19 : x2 = 6
  · rw [if_pos c19] at h
    refine r_tabIn (tgt := 48) dX7_saying_11 (by rw [c19] <;> decide) (by rw [c19] <;> decide) (by rw [c19] <;> rfl) (by decide) ?_
    refine r_sub [1, 2] [(0, .ref a0), (1, .int x1)] rfl ?_
    exact okX7_saying_b48 h hk
  rw [if_neg c19] at h
  refine r_tabOut (tgt := 70) dX7_saying_11 (by have := lv_neT (k := 1) (a := 1) c11 rfl; have := lv_neT (k := 2) (a := 2) c12 rfl; have := lv_neT (k := 3) (a := 3) c13 rfl; have := lv_neT (k := 4) (a := 4) c14 rfl; have := lv_neT (k := 5) (a := 5) c18 rfl; have := lv_neT (k := 6) (a := 6) c19 rfl; omega) (by decide) ?_
  refine r_aload_n dX7_saying_70 0 rfl ?_
  obtain ⟨h20, h⟩ := chk_some h
  obtain ⟨q21, g22, h⟩ := ob_some h
  refine r_callV (d' := (6, 0, false)) (As := []) (st := []) mdv_X2_countHabits tm_RX7_155 (by decide) rfl rfl (by decide) rfl (Nat.le_refl _) (Nat.le_of_ble_eq_true rfl) rfl dX7_saying_71 h20 (ctX2_countHabits g22) (k_I0 ?_)
  rw [← Option.some.inj h] at hk
  exact r_ireturn dX7_saying_74 rfl rfl hk
set_option maxHeartbeats 1000000 in
set_option maxRecDepth 20000 in
theorem ctX7_saying {E : Ev} {a0 : Nat} {x1 : Int32} {x2 : Int32} {w : Wd} {q : Int32 × Wd} (h : fX7_saying a0 x1 x2 w = some q) : CT E mX7_saying (9, 0, false) [.ref a0, .int x1, .int x2] w (QI q) := CT.of pl_RX7 (Nat.le_of_ble_eq_true rfl) (okX7_saying h ⟨rfl, rfl⟩)
def fX7_says_b14 (a0 : Nat) (w : Wd) : Option (Int32 × Wd) :=
  chk (isO w a0 7) (ob (fX7_refuse a0 (-1) w) (fun q2 => some (q2.1, q2.2)))
set_option maxHeartbeats 1000000 in
set_option maxRecDepth 20000 in
theorem okX7_says_b14 {E : Ev} {Q : Option Value → Wd → Prop} {a0 : Nat} {w : Wd} {q : Int32 × Wd} (h : fX7_says_b14 a0 w = some q) (hk : (fun q : Int32 × Wd => Q (some (.int q.1)) q.2) q) : Runs E mX7_says (10, 0, false) Q 0 14 [(0, .ref a0)] [] w := by
  unfold fX7_says_b14 at h
  refine r_aload_n dX7_says_14 0 rfl ?_
  refine r_iconst (v := (-1)) dX7_says_15 (by decide) ?_
  obtain ⟨h1, h⟩ := chk_some h
  obtain ⟨q2, g3, h⟩ := ob_some h
  refine r_callV (d' := (6, 0, false)) (As := [.int (-1)]) (st := []) mdv_X7_refuse tm_RX7_73 (by decide) rfl rfl (by decide) rfl (Nat.le_refl _) (Nat.le_of_ble_eq_true rfl) rfl dX7_says_16 h1 (ctX7_refuse g3) (k_I0 ?_)
  rw [← Option.some.inj h] at hk
  exact r_ireturn dX7_says_19 rfl rfl hk
def fX7_says_b76 (a0 : Nat) (w : Wd) : Option (Int32 × Wd) :=
  chk (isO w a0 7) (ob (fX7_refuse a0 (-2) w) (fun q2 => some (q2.1, q2.2)))
set_option maxHeartbeats 1000000 in
set_option maxRecDepth 20000 in
theorem okX7_says_b76 {E : Ev} {Q : Option Value → Wd → Prop} {a0 : Nat} {w : Wd} {q : Int32 × Wd} (h : fX7_says_b76 a0 w = some q) (hk : (fun q : Int32 × Wd => Q (some (.int q.1)) q.2) q) : Runs E mX7_says (10, 0, false) Q 0 76 [(0, .ref a0)] [] w := by
  unfold fX7_says_b76 at h
  refine r_aload_n dX7_says_76 0 rfl ?_
  refine r_bipush (v := (-2)) dX7_says_77 (by decide) ?_
  obtain ⟨h1, h⟩ := chk_some h
  obtain ⟨q2, g3, h⟩ := ob_some h
  refine r_callV (d' := (6, 0, false)) (As := [.int (-2)]) (st := []) mdv_X7_refuse tm_RX7_73 (by decide) rfl rfl (by decide) rfl (Nat.le_refl _) (Nat.le_of_ble_eq_true rfl) rfl dX7_says_79 h1 (ctX7_refuse g3) (k_I0 ?_)
  rw [← Option.some.inj h] at hk
  exact r_ireturn dX7_says_82 rfl rfl hk
def fX7_says (a0 : Nat) (x1 : Int32) (x2 : Int32) (w : Wd) : Option (Int32 × Wd) :=
  ob (fX7_isShelf x1 w) (fun q1 => if q1.1 = 0 then (fX7_says_b14 a0 q1.2) else (ob (fX7_isKind x2 q1.2) (fun q4 => if q4.1 = 0 then (fX7_says_b14 a0 q4.2) else (chk (isO q4.2 a0 7) (ob (wR q4.2 a0 0) (fun o8 => chk (isA q4.2 o8 4) (chk (inb x1 (wn q4.2 o8)) (ob (wR q4.2 o8 (x1).toNatClampNeg) (fun o12 => chk (isO q4.2 o12 6) (ob (fX6_holdsNothing o12 q4.2) (fun q15 => if q15.1 = 0 then (chk (isO q15.2 a0 7) (ob (wR q15.2 a0 0) (fun o19 => chk (isA q15.2 o19 4) (chk (inb x1 (wn q15.2 o19)) (ob (wR q15.2 o19 (x1).toNatClampNeg) (fun o23 => chk (isO q15.2 o23 6) (bnd (wI q15.2 o23 2) (fun u26 => ob (wR q15.2 a0 2) (fun o28 => chk (isO q15.2 o28 0) (ob (fX0_hasGarment o28 u26 q15.2) (fun q31 => if q31.1 = 0 then (fX7_says_b76 a0 q31.2) else (chk (isO q31.2 a0 7) (ob (wR q31.2 a0 2) (fun o35 => chk (isO q31.2 o35 0) (ob (wR q31.2 o35 1) (fun o38 => chk (isA q31.2 o38 2) (chk (inb u26 (wn q31.2 o38)) (ob (wR q31.2 o38 (u26).toNatClampNeg) (fun o42 => chk (isO q31.2 o42 2) (ob (fX2_isA o42 x2 q31.2) (fun q45 => if q45.1 = 0 then (fX7_says_b76 a0 q45.2) else (chk (isO q45.2 a0 7) (ob (fX7_saying a0 u26 x2 q45.2) (fun q49 => some (q49.1, q49.2))))))))))))))))))))))))) else (chk (isO q15.2 a0 7) (ob (fX7_refuse a0 (-3) q15.2) (fun q52 => some (q52.1, q52.2)))))))))))))))
set_option maxHeartbeats 1000000 in
set_option maxRecDepth 20000 in
theorem okX7_says {E : Ev} {Q : Option Value → Wd → Prop} {a0 : Nat} {x1 : Int32} {x2 : Int32} {w : Wd} {q : Int32 × Wd} (h : fX7_says a0 x1 x2 w = some q) (hk : (fun q : Int32 × Wd => Q (some (.int q.1)) q.2) q) : Runs E mX7_says (10, 0, false) Q 0 0 [(0, .ref a0), (1, .int x1), (2, .int x2)] [] w := by
  unfold fX7_says at h
  refine r_iload_n dX7_says_0 1 rfl ?_
  obtain ⟨q1, g2, h⟩ := ob_some h
  refine r_callS (d' := (7, 0, false)) (As := [.int x1]) (st := []) mds_X7_isShelf tm_RX7_69 rfl (by decide) rfl (Nat.le_refl _) (Nat.le_of_ble_eq_true rfl) rfl dX7_says_1 (ctX7_isShelf g2) (k_I0 ?_)
  refine r_if_eq (tgt := 14) dX7_says_4 (by decide) (fun c3 => ?_) (fun c3 => ?_)
  · rw [if_pos c3] at h
    refine r_sub [0] [(0, .ref a0)] rfl ?_
    exact okX7_says_b14 h hk
  · rw [if_neg c3] at h
    refine r_iload_n dX7_says_7 2 rfl ?_
    obtain ⟨q4, g5, h⟩ := ob_some h
    refine r_callS (d' := (7, 0, false)) (As := [.int x2]) (st := []) mds_X7_isKind tm_RX7_134 rfl (by decide) rfl (Nat.le_refl _) (Nat.le_of_ble_eq_true rfl) rfl dX7_says_8 (ctX7_isKind g5) (k_I0 ?_)
    refine r_if_ne (tgt := 20) dX7_says_11 (by decide) (fun c6 => ?_) (fun c6 => ?_)
    · rw [if_neg c6] at h
      refine r_aload_n dX7_says_20 0 rfl ?_
      obtain ⟨h7, h⟩ := chk_some h
      obtain ⟨o8, g9, h⟩ := ob_some h
      refine r_getR (fl_RX7_11 rfl) rfl dX7_says_21 h7 g9 ?_
      refine r_iload_n dX7_says_24 1 rfl ?_
      obtain ⟨h10, h⟩ := chk_some h
      obtain ⟨h11, h⟩ := chk_some h
      obtain ⟨o12, g13, h⟩ := ob_some h
      refine r_aaload 4 (by decide) (by decide) dX7_says_25 h10 h11 g13 ?_
      obtain ⟨h14, h⟩ := chk_some h
      obtain ⟨q15, g16, h⟩ := ob_some h
      refine r_callV (d' := (6, 0, false)) (As := []) (st := []) mdv_X6_holdsNothing tm_RX7_104 (by decide) rfl rfl (by decide) rfl (Nat.le_refl _) (Nat.le_of_ble_eq_true rfl) rfl dX7_says_26 h14 (ctX6_holdsNothing g16) (k_I0 ?_)
      refine r_if_eq (tgt := 39) dX7_says_29 (by decide) (fun c17 => ?_) (fun c17 => ?_)
      · rw [if_pos c17] at h
        refine r_aload_n dX7_says_39 0 rfl ?_
        obtain ⟨h18, h⟩ := chk_some h
        obtain ⟨o19, g20, h⟩ := ob_some h
        refine r_getR (fl_RX7_11 rfl) rfl dX7_says_40 h18 g20 ?_
        refine r_iload_n dX7_says_43 1 rfl ?_
        obtain ⟨h21, h⟩ := chk_some h
        obtain ⟨h22, h⟩ := chk_some h
        obtain ⟨o23, g24, h⟩ := ob_some h
        refine r_aaload 4 (by decide) (by decide) dX7_says_44 h21 h22 g24 ?_
        obtain ⟨h25, h⟩ := chk_some h
        refine r_getI (fl_RX7_131 rfl) rfl dX7_says_45 h25 ?_
        obtain ⟨u26, e27, h⟩ := bnd_some h
        refine r_eqI e27 ?_
        refine r_istore_n dX7_says_48 rfl (Nat.le_of_ble_eq_true rfl) [(3, .int u26), (0, .ref a0), (1, .int x1), (2, .int x2)] rfl ?_
        refine r_aload_n dX7_says_49 1 rfl ?_
        obtain ⟨o28, g29, h⟩ := ob_some h
        refine r_getR (fl_RX7_22 rfl) rfl dX7_says_50 h18 g29 ?_
        refine r_iload_n dX7_says_53 0 rfl ?_
        obtain ⟨h30, h⟩ := chk_some h
        obtain ⟨q31, g32, h⟩ := ob_some h
        refine r_callV (d' := (7, 0, false)) (As := [.int u26]) (st := []) mdv_X0_hasGarment tm_RX7_121 (by decide) rfl rfl (by decide) rfl (Nat.le_refl _) (Nat.le_of_ble_eq_true rfl) rfl dX7_says_54 h30 (ctX0_hasGarment g32) (k_I0 ?_)
        refine r_if_eq (tgt := 76) dX7_says_57 (by decide) (fun c33 => ?_) (fun c33 => ?_)
        · rw [if_pos c33] at h
          refine r_sub [1] [(0, .ref a0)] rfl ?_
          exact okX7_says_b76 h hk
        · rw [if_neg c33] at h
          refine r_aload_n dX7_says_60 1 rfl ?_
          obtain ⟨h34, h⟩ := chk_some h
          obtain ⟨o35, g36, h⟩ := ob_some h
          refine r_getR (fl_RX7_22 rfl) rfl dX7_says_61 h34 g36 ?_
          obtain ⟨h37, h⟩ := chk_some h
          obtain ⟨o38, g39, h⟩ := ob_some h
          refine r_getR (fl_RX7_137 rfl) rfl dX7_says_64 h37 g39 ?_
          refine r_iload_n dX7_says_67 0 rfl ?_
          obtain ⟨h40, h⟩ := chk_some h
          obtain ⟨h41, h⟩ := chk_some h
          obtain ⟨o42, g43, h⟩ := ob_some h
          refine r_aaload 2 (by decide) (by decide) dX7_says_68 h40 h41 g43 ?_
          refine r_iload_n dX7_says_69 3 rfl ?_
          obtain ⟨h44, h⟩ := chk_some h
          obtain ⟨q45, g46, h⟩ := ob_some h
          refine r_callV (d' := (6, 0, false)) (As := [.int x2]) (st := []) mdv_X2_isA tm_RX7_141 (by decide) rfl rfl (by decide) rfl (Nat.le_refl _) (Nat.le_of_ble_eq_true rfl) rfl dX7_says_70 h44 (ctX2_isA g46) (k_I0 ?_)
          refine r_if_ne (tgt := 83) dX7_says_73 (by decide) (fun c47 => ?_) (fun c47 => ?_)
          · rw [if_neg c47] at h
            refine r_aload_n dX7_says_83 1 rfl ?_
            refine r_iload_n dX7_says_84 0 rfl ?_
            refine r_iload_n dX7_says_85 3 rfl ?_
            obtain ⟨h48, h⟩ := chk_some h
            obtain ⟨q49, g50, h⟩ := ob_some h
            refine r_callV (d' := (9, 0, false)) (As := [.int u26, .int x2]) (st := []) mdv_X7_saying tm_RX7_144 (by decide) rfl rfl (by decide) rfl (Nat.le_refl _) (Nat.le_of_ble_eq_true rfl) rfl dX7_says_86 h48 (ctX7_saying g50) (k_I0 ?_)
            rw [← Option.some.inj h] at hk
            exact r_ireturn dX7_says_89 rfl rfl hk
          · rw [if_pos c47] at h
            refine r_sub [1] [(0, .ref a0)] rfl ?_
            exact okX7_says_b76 h hk
      · rw [if_neg c17] at h
        refine r_aload_n dX7_says_32 0 rfl ?_
        refine r_bipush (v := (-3)) dX7_says_33 (by decide) ?_
        obtain ⟨h51, h⟩ := chk_some h
        obtain ⟨q52, g53, h⟩ := ob_some h
        refine r_callV (d' := (6, 0, false)) (As := [.int (-3)]) (st := []) mdv_X7_refuse tm_RX7_73 (by decide) rfl rfl (by decide) rfl (Nat.le_refl _) (Nat.le_of_ble_eq_true rfl) rfl dX7_says_35 h51 (ctX7_refuse g53) (k_I0 ?_)
        rw [← Option.some.inj h] at hk
        exact r_ireturn dX7_says_38 rfl rfl hk
    · rw [if_pos c6] at h
      refine r_sub [0] [(0, .ref a0)] rfl ?_
      exact okX7_says_b14 h hk
set_option maxHeartbeats 1000000 in
set_option maxRecDepth 20000 in
theorem ctX7_says {E : Ev} {a0 : Nat} {x1 : Int32} {x2 : Int32} {w : Wd} {q : Int32 × Wd} (h : fX7_says a0 x1 x2 w = some q) : CT E mX7_says (10, 0, false) [.ref a0, .int x1, .int x2] w (QI q) := CT.of pl_RX7 (Nat.le_of_ble_eq_true rfl) (okX7_says h ⟨rfl, rfl⟩)
def fX7_seed (a0 : Nat) (x1 : Int32) (w : Wd) : Option (Int32 × Wd) :=
  chk (isO w a0 7) (ob (wR w a0 2) (fun o2 => chk (isO w o2 0) (bnd (wI w o2 5) (fun u5 => bnd (sI w o2 5 x1) (fun w7 => some (u5, w7))))))
set_option maxHeartbeats 1000000 in
set_option maxRecDepth 20000 in
theorem okX7_seed {E : Ev} {Q : Option Value → Wd → Prop} {a0 : Nat} {x1 : Int32} {w : Wd} {q : Int32 × Wd} (h : fX7_seed a0 x1 w = some q) (hk : (fun q : Int32 × Wd => Q (some (.int q.1)) q.2) q) : Runs E mX7_seed (6, 0, false) Q 0 0 [(0, .ref a0), (1, .int x1)] [] w := by
  unfold fX7_seed at h
  refine r_aload_n dX7_seed_0 0 rfl ?_
  obtain ⟨h1, h⟩ := chk_some h
  obtain ⟨o2, g3, h⟩ := ob_some h
  refine r_getR (fl_RX7_22 rfl) rfl dX7_seed_1 h1 g3 ?_
  obtain ⟨h4, h⟩ := chk_some h
  refine r_getI (fl_RX7_326 rfl) rfl dX7_seed_4 h4 ?_
  obtain ⟨u5, e6, h⟩ := bnd_some h
  refine r_eqI e6 ?_
  refine r_istore_n dX7_seed_7 rfl (Nat.le_of_ble_eq_true rfl) [(2, .int u5), (0, .ref a0), (1, .int x1)] rfl ?_
  refine r_aload_n dX7_seed_8 1 rfl ?_
  refine r_getR (fl_RX7_22 rfl) rfl dX7_seed_9 h1 g3 ?_
  refine r_iload_n dX7_seed_12 2 rfl ?_
  obtain ⟨w7, e8, h⟩ := bnd_some h
  refine r_putI (fl_RX7_326 rfl) rfl rfl (ck_ty (by decide) 5 (by decide)) rfl rfl dX7_seed_13 h4 ?_
  refine r_eqW e8 ?_
  refine r_iload_n dX7_seed_16 0 rfl ?_
  rw [← Option.some.inj h] at hk
  exact r_ireturn dX7_seed_17 rfl rfl hk
set_option maxHeartbeats 1000000 in
set_option maxRecDepth 20000 in
theorem ctX7_seed {E : Ev} {a0 : Nat} {x1 : Int32} {w : Wd} {q : Int32 × Wd} (h : fX7_seed a0 x1 w = some q) : CT E mX7_seed (6, 0, false) [.ref a0, .int x1] w (QI q) := CT.of pl_RX7 (Nat.le_of_ble_eq_true rfl) (okX7_seed h ⟨rfl, rfl⟩)
def fX7_set (a0 : Nat) (x1 : Int32) (x2 : Int32) (y3 : Int64) (w : Wd) : Option (Int32 × Wd) :=
  chk (isO w a0 7) (ob (fX7_rowTrouble a0 x1 w) (fun q2 => if q2.1 = 0 then (chk (isO q2.2 a0 7) (ob (wR q2.2 a0 0) (fun o6 => chk (isA q2.2 o6 4) (chk (inb x1 (wn q2.2 o6)) (ob (wR q2.2 o6 (x1).toNatClampNeg) (fun o10 => chk (isO q2.2 o10 6) (ob (fX6_spans o10 x2 1 q2.2) (fun q13 => if q13.1 = 0 then (chk (isO q13.2 a0 7) (ob (fX7_refuse a0 (-5) q13.2) (fun q27 => some (q27.1, q27.2)))) else (chk (isO q13.2 a0 7) (ob (wR q13.2 a0 0) (fun o17 => chk (isA q13.2 o17 4) (chk (inb x1 (wn q13.2 o17)) (ob (wR q13.2 o17 (x1).toNatClampNeg) (fun o21 => chk (isO q13.2 o21 6) (ob (fX6_put o21 x2 y3 q13.2) (fun q24 => some (1, q24))))))))))))))))) else (chk (isO q2.2 a0 7) (ob (fX7_refuse a0 q2.1 q2.2) (fun q30 => some (q30.1, q30.2))))))
set_option maxHeartbeats 1000000 in
set_option maxRecDepth 20000 in
theorem okX7_set {E : Ev} {Q : Option Value → Wd → Prop} {a0 : Nat} {x1 : Int32} {x2 : Int32} {y3 : Int64} {w : Wd} {q : Int32 × Wd} (h : fX7_set a0 x1 x2 y3 w = some q) (hk : (fun q : Int32 × Wd => Q (some (.int q.1)) q.2) q) : Runs E mX7_set (9, 0, false) Q 0 0 [(0, .ref a0), (1, .int x1), (2, .int x2), (3, .long y3)] [] w := by
  unfold fX7_set at h
  refine r_aload_n dX7_set_0 0 rfl ?_
  refine r_iload_n dX7_set_1 1 rfl ?_
  obtain ⟨h1, h⟩ := chk_some h
  obtain ⟨q2, g3, h⟩ := ob_some h
  refine r_callV (d' := (8, 0, false)) (As := [.int x1]) (st := []) mdv_X7_rowTrouble tm_RX7_85 (by decide) rfl rfl (by decide) rfl (Nat.le_refl _) (Nat.le_of_ble_eq_true rfl) rfl dX7_set_2 h1 (ctX7_rowTrouble g3) (k_I0 ?_)
  refine r_istore dX7_set_5 (Nat.le_of_ble_eq_true rfl) [(5, .int q2.1), (0, .ref a0), (1, .int x1), (2, .int x2), (3, .long y3)] rfl ?_
  refine r_iload dX7_set_7 0 rfl ?_
  refine r_if_eq (tgt := 19) dX7_set_9 (by decide) (fun c4 => ?_) (fun c4 => ?_)
  · rw [if_pos c4] at h
    refine r_aload_n dX7_set_19 1 rfl ?_
    obtain ⟨h5, h⟩ := chk_some h
    obtain ⟨o6, g7, h⟩ := ob_some h
    refine r_getR (fl_RX7_11 rfl) rfl dX7_set_20 h5 g7 ?_
    refine r_iload_n dX7_set_23 2 rfl ?_
    obtain ⟨h8, h⟩ := chk_some h
    obtain ⟨h9, h⟩ := chk_some h
    obtain ⟨o10, g11, h⟩ := ob_some h
    refine r_aaload 4 (by decide) (by decide) dX7_set_24 h8 h9 g11 ?_
    refine r_iload_n dX7_set_25 3 rfl ?_
    refine r_iconst (v := 1) dX7_set_26 (by decide) ?_
    obtain ⟨h12, h⟩ := chk_some h
    obtain ⟨q13, g14, h⟩ := ob_some h
    refine r_callV (d' := (6, 0, false)) (As := [.int x2, .int 1]) (st := []) mdv_X6_spans tm_RX7_88 (by decide) rfl rfl (by decide) rfl (Nat.le_refl _) (Nat.le_of_ble_eq_true rfl) rfl dX7_set_27 h12 (ctX6_spans g14) (k_I0 ?_)
    refine r_if_ne (tgt := 40) dX7_set_30 (by decide) (fun c15 => ?_) (fun c15 => ?_)
    · rw [if_neg c15] at h
      refine r_aload_n dX7_set_40 1 rfl ?_
      obtain ⟨h16, h⟩ := chk_some h
      obtain ⟨o17, g18, h⟩ := ob_some h
      refine r_getR (fl_RX7_11 rfl) rfl dX7_set_41 h16 g18 ?_
      refine r_iload_n dX7_set_44 2 rfl ?_
      obtain ⟨h19, h⟩ := chk_some h
      obtain ⟨h20, h⟩ := chk_some h
      obtain ⟨o21, g22, h⟩ := ob_some h
      refine r_aaload 4 (by decide) (by decide) dX7_set_45 h19 h20 g22 ?_
      refine r_iload_n dX7_set_46 3 rfl ?_
      refine r_lload_n dX7_set_47 4 rfl ?_
      obtain ⟨h23, h⟩ := chk_some h
      obtain ⟨q24, g25, h⟩ := ob_some h
      refine r_callV (d' := (6, 0, false)) (As := [.int x2, .long y3]) (st := []) mdv_X6_put tm_RX7_92 (by decide) rfl rfl (by decide) rfl (Nat.le_refl _) (Nat.le_of_ble_eq_true rfl) rfl dX7_set_48 h23 (ctX6_put g25) (k_V0 ?_)
      refine r_iconst (v := 1) dX7_set_51 (by decide) ?_
      rw [← Option.some.inj h] at hk
      exact r_ireturn dX7_set_52 rfl rfl hk
    · rw [if_pos c15] at h
      refine r_aload_n dX7_set_33 1 rfl ?_
      refine r_bipush (v := (-5)) dX7_set_34 (by decide) ?_
      obtain ⟨h26, h⟩ := chk_some h
      obtain ⟨q27, g28, h⟩ := ob_some h
      refine r_callV (d' := (6, 0, false)) (As := [.int (-5)]) (st := []) mdv_X7_refuse tm_RX7_73 (by decide) rfl rfl (by decide) rfl (Nat.le_refl _) (Nat.le_of_ble_eq_true rfl) rfl dX7_set_36 h26 (ctX7_refuse g28) (k_I0 ?_)
      rw [← Option.some.inj h] at hk
      exact r_ireturn dX7_set_39 rfl rfl hk
  · rw [if_neg c4] at h
    refine r_aload_n dX7_set_12 1 rfl ?_
    refine r_iload dX7_set_13 0 rfl ?_
    obtain ⟨h29, h⟩ := chk_some h
    obtain ⟨q30, g31, h⟩ := ob_some h
    refine r_callV (d' := (6, 0, false)) (As := [.int q2.1]) (st := []) mdv_X7_refuse tm_RX7_73 (by decide) rfl rfl (by decide) rfl (Nat.le_refl _) (Nat.le_of_ble_eq_true rfl) rfl dX7_set_15 h29 (ctX7_refuse g31) (k_I0 ?_)
    rw [← Option.some.inj h] at hk
    exact r_ireturn dX7_set_18 rfl rfl hk
set_option maxHeartbeats 1000000 in
set_option maxRecDepth 20000 in
theorem ctX7_set {E : Ev} {a0 : Nat} {x1 : Int32} {x2 : Int32} {y3 : Int64} {w : Wd} {q : Int32 × Wd} (h : fX7_set a0 x1 x2 y3 w = some q) : CT E mX7_set (9, 0, false) [.ref a0, .int x1, .int x2, .long y3] w (QI q) := CT.of pl_RX7 (Nat.le_of_ble_eq_true rfl) (okX7_set h ⟨rfl, rfl⟩)
def PX7_settled_L15 (E : Ev) (Q : Option Value → Wd → Prop) (a0 : Nat) (s : Int32 × Int32 × Wd) : Prop := Runs E mX7_settled (10, 0, false) Q 0 15 [(0, .ref a0), (1, .int s.1), (2, .int s.2.1)] [] s.2.2
def fX7_settled_L15_body (a0 : Nat) (s : Int32 × Int32 × Wd) : Option ((Int32 × Int32 × Wd) ⊕ (Int32 × Wd)) :=
  if (12 : Int32) ≤ s.2.1 then (wr (some (s.1, s.2.2))) else (chk (isO s.2.2 a0 7) (ob (wR s.2.2 a0 3) (fun o4 => chk (isO s.2.2 o4 0) (ob (fX0_daysTillSettled o4 s.2.1 s.2.2) (fun q7 => if q7.1 = (-1) then (wr (some ((-1), q7.2))) else (bnd (if s.1 < q7.1 then q7.1 else s.1) (fun u10 => some (.inl (u10, (s.2.1 + 1), q7.2)))))))))
set_option maxHeartbeats 1000000 in
set_option maxRecDepth 20000 in
theorem okX7_settled_L15_body {E : Ev} {Q : Option Value → Wd → Prop} {a0 : Nat} {s : Int32 × Int32 × Wd} {r : (Int32 × Int32 × Wd) ⊕ (Int32 × Wd)} (h : fX7_settled_L15_body a0 s = some r) (hk : (Sum.elim (PX7_settled_L15 E Q a0) (fun q : Int32 × Wd => Q (some (.int q.1)) q.2)) r) : PX7_settled_L15 E Q a0 s := by
  unfold fX7_settled_L15_body at h
  unfold PX7_settled_L15
  refine r_iload_n dX7_settled_15 2 rfl ?_
  refine r_bipush (v := 12) dX7_settled_16 (by decide) ?_
  refine r_icmp_ge (tgt := 49) dX7_settled_18 (by decide) (fun c1 => ?_) (fun c1 => ?_)
  · rw [if_pos c1] at h
    obtain ⟨r2, hr, h⟩ := wr_some h
    rw [hr] at hk
    refine r_iload_n dX7_settled_49 1 rfl ?_
    rw [← Option.some.inj h] at hk
    exact r_ireturn dX7_settled_50 rfl rfl hk
  · rw [if_neg c1] at h
    refine r_aload_n dX7_settled_21 0 rfl ?_
    obtain ⟨h3, h⟩ := chk_some h
    obtain ⟨o4, g5, h⟩ := ob_some h
    refine r_getR (fl_RX7_26 rfl) rfl dX7_settled_22 h3 g5 ?_
    refine r_iload_n dX7_settled_25 2 rfl ?_
    obtain ⟨h6, h⟩ := chk_some h
    obtain ⟨q7, g8, h⟩ := ob_some h
    refine r_callV (d' := (9, 0, false)) (As := [.int s.2.1]) (st := []) mdv_X0_daysTillSettled tm_RX7_242 (by decide) rfl rfl (by decide) rfl (Nat.le_refl _) (Nat.le_of_ble_eq_true rfl) rfl dX7_settled_26 h6 (ctX0_daysTillSettled g8) (k_I0 ?_)
    refine r_istore_n dX7_settled_29 rfl (Nat.le_of_ble_eq_true rfl) [(3, .int q7.1), (0, .ref a0), (1, .int s.1), (2, .int s.2.1)] rfl ?_
    refine r_iload_n dX7_settled_30 0 rfl ?_
    refine r_iconst (v := (-1)) dX7_settled_31 (by decide) ?_
    refine r_icmp_ne (tgt := 37) dX7_settled_32 (by decide) (fun c9 => ?_) (fun c9 => ?_)
    · rw [if_neg c9] at h
      refine r_iload_n dX7_settled_37 2 rfl ?_
      refine r_iload_n dX7_settled_38 0 rfl ?_
      refine r_mmax (Nat.le_of_ble_eq_true rfl) (Nat.le_of_ble_eq_true rfl) tmm_RX7_245 tst_mmax ti_RJ9 tcode_mmax (by decide) dX7_settled_39 ?_
      obtain ⟨u10, e11, h⟩ := bnd_some h
      refine r_eqI e11 ?_
      refine r_istore_n dX7_settled_42 rfl (Nat.le_of_ble_eq_true rfl) [(1, .int u10), (3, .int q7.1), (0, .ref a0), (2, .int s.2.1)] rfl ?_
      refine r_iinc (v := (s.2.1 + 1)) dX7_settled_43 3 rfl rfl (Nat.le_of_ble_eq_true rfl) [(2, .int (s.2.1 + 1)), (1, .int u10), (3, .int q7.1), (0, .ref a0)] rfl ?_
      refine r_goto (tgt := 15) dX7_settled_46 (by decide) ?_
      rw [← Option.some.inj h] at hk
      refine r_sub [3, 1, 0] [(0, .ref a0), (1, .int u10), (2, .int (s.2.1 + 1))] rfl ?_
      exact hk
    · rw [if_pos c9] at h
      obtain ⟨r12, hr, h⟩ := wr_some h
      rw [hr] at hk
      refine r_iconst (v := (-1)) dX7_settled_35 (by decide) ?_
      rw [← Option.some.inj h] at hk
      exact r_ireturn dX7_settled_36 rfl rfl hk
def fX7_settled_L15 (a0 : Nat) (s : Int32 × Int32 × Wd) : Option (Int32 × Wd) := it (fX7_settled_L15_body a0) FU s
set_option maxHeartbeats 1000000 in
set_option maxRecDepth 20000 in
theorem okX7_settled_L15 {E : Ev} {Q : Option Value → Wd → Prop} {a0 : Nat} {s : Int32 × Int32 × Wd} {r : Int32 × Wd} (h : fX7_settled_L15 a0 s = some r) (hk : (fun q : Int32 × Wd => Q (some (.int q.1)) q.2) r) : PX7_settled_L15 E Q a0 s := it_runs (fun s r h hk => okX7_settled_L15_body h hk) FU s r h hk
def fX7_settled (a0 : Nat) (w : Wd) : Option (Int32 × Wd) :=
  chk (isO w a0 7) (ob (wR w a0 3) (fun o2 => ob (wR w a0 2) (fun o4 => chk (isO w o2 0) (ob (fX0_take o2 o4 w) (fun q7 => fX7_settled_L15 a0 (0, 0, q7))))))
set_option maxHeartbeats 1000000 in
set_option maxRecDepth 20000 in
theorem okX7_settled {E : Ev} {Q : Option Value → Wd → Prop} {a0 : Nat} {w : Wd} {q : Int32 × Wd} (h : fX7_settled a0 w = some q) (hk : (fun q : Int32 × Wd => Q (some (.int q.1)) q.2) q) : Runs E mX7_settled (10, 0, false) Q 0 0 [(0, .ref a0)] [] w := by
  unfold fX7_settled at h
  refine r_aload_n dX7_settled_0 0 rfl ?_
  obtain ⟨h1, h⟩ := chk_some h
  obtain ⟨o2, g3, h⟩ := ob_some h
  refine r_getR (fl_RX7_26 rfl) rfl dX7_settled_1 h1 g3 ?_
  refine r_aload_n dX7_settled_4 0 rfl ?_
  obtain ⟨o4, g5, h⟩ := ob_some h
  refine r_getR (fl_RX7_22 rfl) rfl dX7_settled_5 h1 g5 ?_
  obtain ⟨h6, h⟩ := chk_some h
  obtain ⟨q7, g8, h⟩ := ob_some h
  refine r_callV (d' := (7, 0, false)) (As := [.ref o4]) (st := []) mdv_X0_take tm_RX7_219 (by decide) rfl rfl (by decide) rfl (Nat.le_refl _) (Nat.le_of_ble_eq_true rfl) rfl dX7_settled_8 h6 (ctX0_take g8) (k_V0 ?_)
  refine r_iconst (v := 0) dX7_settled_11 (by decide) ?_
  refine r_istore_n dX7_settled_12 rfl (Nat.le_of_ble_eq_true rfl) [(1, .int 0), (0, .ref a0)] rfl ?_
  refine r_iconst (v := 0) dX7_settled_13 (by decide) ?_
  refine r_istore_n dX7_settled_14 rfl (Nat.le_of_ble_eq_true rfl) [(2, .int 0), (1, .int 0), (0, .ref a0)] rfl ?_
  refine r_sub [2, 1, 0] [(0, .ref a0), (1, .int 0), (2, .int 0)] rfl ?_
  exact okX7_settled_L15 h hk
set_option maxHeartbeats 1000000 in
set_option maxRecDepth 20000 in
theorem ctX7_settled {E : Ev} {a0 : Nat} {w : Wd} {q : Int32 × Wd} (h : fX7_settled a0 w = some q) : CT E mX7_settled (10, 0, false) [.ref a0] w (QI q) := CT.of pl_RX7 (Nat.le_of_ble_eq_true rfl) (okX7_settled h ⟨rfl, rfl⟩)
def fX7_show_b23 (a0 : Nat) (w : Wd) : Option (Int32 × Wd) :=
  chk (isO w a0 7) (ob (fX7_refuse a0 (-1) w) (fun q2 => some (q2.1, q2.2)))
set_option maxHeartbeats 1000000 in
set_option maxRecDepth 20000 in
theorem okX7_show_b23 {E : Ev} {Q : Option Value → Wd → Prop} {a0 : Nat} {w : Wd} {q : Int32 × Wd} (h : fX7_show_b23 a0 w = some q) (hk : (fun q : Int32 × Wd => Q (some (.int q.1)) q.2) q) : Runs E mX7_show (8, 0, false) Q 0 23 [(0, .ref a0)] [] w := by
  unfold fX7_show_b23 at h
  refine r_aload_n dX7_show_23 0 rfl ?_
  refine r_iconst (v := (-1)) dX7_show_24 (by decide) ?_
  obtain ⟨h1, h⟩ := chk_some h
  obtain ⟨q2, g3, h⟩ := ob_some h
  refine r_callV (d' := (6, 0, false)) (As := [.int (-1)]) (st := []) mdv_X7_refuse tm_RX7_73 (by decide) rfl rfl (by decide) rfl (Nat.le_refl _) (Nat.le_of_ble_eq_true rfl) rfl dX7_show_25 h1 (ctX7_refuse g3) (k_I0 ?_)
  rw [← Option.some.inj h] at hk
  exact r_ireturn dX7_show_28 rfl rfl hk
def fX7_show_b29 (a0 : Nat) (x1 : Int32) (x2 : Int32) (w : Wd) : Option (Int32 × Wd) :=
  if x2 = (-1) then (chk (isO w a0 7) (ob (wR w a0 0) (fun o13 => chk (isA w o13 4) (chk (inb x1 (wn w o13)) (ob (wR w o13 (x1).toNatClampNeg) (fun o17 => chk (isO w o17 6) (ob (fX6_holdNothing o17 w) (fun q20 => some (0, q20))))))))) else (chk (isO w a0 7) (ob (wR w a0 0) (fun o3 => chk (isA w o3 4) (chk (inb x1 (wn w o3)) (ob (wR w o3 (x1).toNatClampNeg) (fun o7 => chk (isO w o7 6) (ob (fX6_holdGarment o7 x2 w) (fun q10 => some (1, q10)))))))))
set_option maxHeartbeats 1000000 in
set_option maxRecDepth 20000 in
theorem okX7_show_b29 {E : Ev} {Q : Option Value → Wd → Prop} {a0 : Nat} {x1 : Int32} {x2 : Int32} {w : Wd} {q : Int32 × Wd} (h : fX7_show_b29 a0 x1 x2 w = some q) (hk : (fun q : Int32 × Wd => Q (some (.int q.1)) q.2) q) : Runs E mX7_show (8, 0, false) Q 0 29 [(0, .ref a0), (1, .int x1), (2, .int x2)] [] w := by
  unfold fX7_show_b29 at h
  refine r_iload_n dX7_show_29 2 rfl ?_
  refine r_iconst (v := (-1)) dX7_show_30 (by decide) ?_
  refine r_icmp_ne (tgt := 45) dX7_show_31 (by decide) (fun c1 => ?_) (fun c1 => ?_)
  · rw [if_neg c1] at h
    refine r_aload_n dX7_show_45 0 rfl ?_
    obtain ⟨h2, h⟩ := chk_some h
    obtain ⟨o3, g4, h⟩ := ob_some h
    refine r_getR (fl_RX7_11 rfl) rfl dX7_show_46 h2 g4 ?_
    refine r_iload_n dX7_show_49 1 rfl ?_
    obtain ⟨h5, h⟩ := chk_some h
    obtain ⟨h6, h⟩ := chk_some h
    obtain ⟨o7, g8, h⟩ := ob_some h
    refine r_aaload 4 (by decide) (by decide) dX7_show_50 h5 h6 g8 ?_
    refine r_iload_n dX7_show_51 2 rfl ?_
    obtain ⟨h9, h⟩ := chk_some h
    obtain ⟨q10, g11, h⟩ := ob_some h
    refine r_callV (d' := (6, 0, false)) (As := [.int x2]) (st := []) mdv_X6_holdGarment tm_RX7_127 (by decide) rfl rfl (by decide) rfl (Nat.le_refl _) (Nat.le_of_ble_eq_true rfl) rfl dX7_show_52 h9 (ctX6_holdGarment g11) (k_V0 ?_)
    refine r_iconst (v := 1) dX7_show_55 (by decide) ?_
    rw [← Option.some.inj h] at hk
    exact r_ireturn dX7_show_56 rfl rfl hk
  · rw [if_pos c1] at h
    refine r_aload_n dX7_show_34 0 rfl ?_
    obtain ⟨h12, h⟩ := chk_some h
    obtain ⟨o13, g14, h⟩ := ob_some h
    refine r_getR (fl_RX7_11 rfl) rfl dX7_show_35 h12 g14 ?_
    refine r_iload_n dX7_show_38 1 rfl ?_
    obtain ⟨h15, h⟩ := chk_some h
    obtain ⟨h16, h⟩ := chk_some h
    obtain ⟨o17, g18, h⟩ := ob_some h
    refine r_aaload 4 (by decide) (by decide) dX7_show_39 h15 h16 g18 ?_
    obtain ⟨h19, h⟩ := chk_some h
    obtain ⟨q20, g21, h⟩ := ob_some h
    refine r_callV (d' := (6, 0, false)) (As := []) (st := []) mdv_X6_holdNothing tm_RX7_124 (by decide) rfl rfl (by decide) rfl (Nat.le_refl _) (Nat.le_of_ble_eq_true rfl) rfl dX7_show_40 h19 (ctX6_holdNothing g21) (k_V0 ?_)
    refine r_iconst (v := 0) dX7_show_43 (by decide) ?_
    rw [← Option.some.inj h] at hk
    exact r_ireturn dX7_show_44 rfl rfl hk
def fX7_show (a0 : Nat) (x1 : Int32) (x2 : Int32) (w : Wd) : Option (Int32 × Wd) :=
  ob (fX7_isShelf x1 w) (fun q1 => if q1.1 = 0 then (fX7_show_b23 a0 q1.2) else (if x2 = (-1) then (fX7_show_b29 a0 x1 x2 q1.2) else (chk (isO q1.2 a0 7) (ob (wR q1.2 a0 2) (fun o6 => chk (isO q1.2 o6 0) (ob (fX0_hasGarment o6 x2 q1.2) (fun q9 => if q9.1 = 0 then (fX7_show_b23 a0 q9.2) else (fX7_show_b29 a0 x1 x2 q9.2))))))))
set_option maxHeartbeats 1000000 in
set_option maxRecDepth 20000 in
theorem okX7_show {E : Ev} {Q : Option Value → Wd → Prop} {a0 : Nat} {x1 : Int32} {x2 : Int32} {w : Wd} {q : Int32 × Wd} (h : fX7_show a0 x1 x2 w = some q) (hk : (fun q : Int32 × Wd => Q (some (.int q.1)) q.2) q) : Runs E mX7_show (8, 0, false) Q 0 0 [(0, .ref a0), (1, .int x1), (2, .int x2)] [] w := by
  unfold fX7_show at h
  refine r_iload_n dX7_show_0 1 rfl ?_
  obtain ⟨q1, g2, h⟩ := ob_some h
  refine r_callS (d' := (7, 0, false)) (As := [.int x1]) (st := []) mds_X7_isShelf tm_RX7_69 rfl (by decide) rfl (Nat.le_refl _) (Nat.le_of_ble_eq_true rfl) rfl dX7_show_1 (ctX7_isShelf g2) (k_I0 ?_)
  refine r_if_eq (tgt := 23) dX7_show_4 (by decide) (fun c3 => ?_) (fun c3 => ?_)
  · rw [if_pos c3] at h
    refine r_sub [0] [(0, .ref a0)] rfl ?_
    exact okX7_show_b23 h hk
  · rw [if_neg c3] at h
    refine r_iload_n dX7_show_7 2 rfl ?_
    refine r_iconst (v := (-1)) dX7_show_8 (by decide) ?_
    refine r_icmp_eq (tgt := 29) dX7_show_9 (by decide) (fun c4 => ?_) (fun c4 => ?_)
    · rw [if_pos c4] at h
      refine r_sub [0, 1, 2] [(0, .ref a0), (1, .int x1), (2, .int x2)] rfl ?_
      exact okX7_show_b29 h hk
    · rw [if_neg c4] at h
      refine r_aload_n dX7_show_12 0 rfl ?_
      obtain ⟨h5, h⟩ := chk_some h
      obtain ⟨o6, g7, h⟩ := ob_some h
      refine r_getR (fl_RX7_22 rfl) rfl dX7_show_13 h5 g7 ?_
      refine r_iload_n dX7_show_16 2 rfl ?_
      obtain ⟨h8, h⟩ := chk_some h
      obtain ⟨q9, g10, h⟩ := ob_some h
      refine r_callV (d' := (7, 0, false)) (As := [.int x2]) (st := []) mdv_X0_hasGarment tm_RX7_121 (by decide) rfl rfl (by decide) rfl (Nat.le_refl _) (Nat.le_of_ble_eq_true rfl) rfl dX7_show_17 h8 (ctX0_hasGarment g10) (k_I0 ?_)
      refine r_if_ne (tgt := 29) dX7_show_20 (by decide) (fun c11 => ?_) (fun c11 => ?_)
      · rw [if_neg c11] at h
        refine r_sub [0, 1, 2] [(0, .ref a0), (1, .int x1), (2, .int x2)] rfl ?_
        exact okX7_show_b29 h hk
      · rw [if_pos c11] at h
        refine r_sub [0] [(0, .ref a0)] rfl ?_
        exact okX7_show_b23 h hk
set_option maxHeartbeats 1000000 in
set_option maxRecDepth 20000 in
theorem ctX7_show {E : Ev} {a0 : Nat} {x1 : Int32} {x2 : Int32} {w : Wd} {q : Int32 × Wd} (h : fX7_show a0 x1 x2 w = some q) : CT E mX7_show (8, 0, false) [.ref a0, .int x1, .int x2] w (QI q) := CT.of pl_RX7 (Nat.le_of_ble_eq_true rfl) (okX7_show h ⟨rfl, rfl⟩)
def fX7_status (a0 : Nat) (x1 : Int32) (w : Wd) : Option (Int32 × Wd) :=
  ob (fX7_isWithin x1 11 17 w) (fun q1 => if q1.1 = 0 then (if x1 = 0 then (chk (isO q1.2 a0 7) (ob (wR q1.2 a0 2) (fun o6 => chk (isO q1.2 o6 0) (some ((wI q1.2 o6 4), q1.2))))) else (if x1 = 1 then (chk (isO q1.2 a0 7) (ob (wR q1.2 a0 2) (fun o11 => chk (isO q1.2 o11 0) (some ((wI q1.2 o11 3), q1.2))))) else (if x1 = 2 then (chk (isO q1.2 a0 7) (ob (wR q1.2 a0 2) (fun o16 => chk (isO q1.2 o16 0) (ob (fX0_countHabits o16 q1.2) (fun q19 => some (q19.1, q19.2)))))) else (if x1 = 3 then (chk (isO q1.2 a0 7) (ob (wR q1.2 a0 2) (fun o23 => chk (isO q1.2 o23 0) (ob (fX0_countWorn o23 q1.2) (fun q26 => some (q26.1, q26.2)))))) else (if x1 = 4 then (chk (isO q1.2 a0 7) (ob (wR q1.2 a0 2) (fun o30 => chk (isO q1.2 o30 0) (some ((wI q1.2 o30 6), q1.2))))) else (if x1 = 5 then (chk (isO q1.2 a0 7) (ob (wR q1.2 a0 2) (fun o35 => chk (isO q1.2 o35 0) (some ((wI q1.2 o35 5), q1.2))))) else (if x1 = 6 then (chk (isO q1.2 a0 7) (ob (wR q1.2 a0 8) (fun o40 => chk (isO q1.2 o40 3) (some ((wI q1.2 o40 0), q1.2))))) else (some ((-1), q1.2))))))))) else (chk (isO q1.2 a0 7) (ob (wR q1.2 a0 1) (fun o44 => chk (isA q1.2 o44 0) (chk (inb (x1 - 10) (wn q1.2 o44)) (some ((wI q1.2 o44 ((x1 - 10)).toNatClampNeg), q1.2)))))))
set_option maxHeartbeats 1000000 in
set_option maxRecDepth 20000 in
theorem okX7_status {E : Ev} {Q : Option Value → Wd → Prop} {a0 : Nat} {x1 : Int32} {w : Wd} {q : Int32 × Wd} (h : fX7_status a0 x1 w = some q) (hk : (fun q : Int32 × Wd => Q (some (.int q.1)) q.2) q) : Runs E mX7_status (8, 0, false) Q 0 0 [(0, .ref a0), (1, .int x1)] [] w := by
  unfold fX7_status at h
  refine r_iload_n dX7_status_0 1 rfl ?_
  refine r_bipush (v := 11) dX7_status_1 (by decide) ?_
  refine r_bipush (v := 17) dX7_status_3 (by decide) ?_
  obtain ⟨q1, g2, h⟩ := ob_some h
  refine r_callS (d' := (6, 0, false)) (As := [.int x1, .int 11, .int 17]) (st := []) mds_X7_isWithin tm_RX7_77 rfl (by decide) rfl (Nat.le_refl _) (Nat.le_of_ble_eq_true rfl) rfl dX7_status_5 (ctX7_isWithin g2) (k_I0 ?_)
  refine r_if_eq (tgt := 21) dX7_status_8 (by decide) (fun c3 => ?_) (fun c3 => ?_)
  · rw [if_pos c3] at h
    refine r_iload_n dX7_status_21 1 rfl ?_
    by_cases c4 : x1 = 0
    · rw [if_pos c4] at h
      refine r_tabIn (tgt := 64) dX7_status_22 (by rw [c4] <;> decide) (by rw [c4] <;> decide) (by rw [c4] <;> rfl) (by decide) ?_
      refine r_aload_n dX7_status_64 0 rfl ?_
      obtain ⟨h5, h⟩ := chk_some h
      obtain ⟨o6, g7, h⟩ := ob_some h
      refine r_getR (fl_RX7_22 rfl) rfl dX7_status_65 h5 g7 ?_
      obtain ⟨h8, h⟩ := chk_some h
      refine r_getI (fl_RX7_275 rfl) rfl dX7_status_68 h8 ?_
      rw [← Option.some.inj h] at hk
      exact r_ireturn dX7_status_71 rfl rfl hk
    rw [if_neg c4] at h
    by_cases c9 : x1 = 1
    · rw [if_pos c9] at h
      refine r_tabIn (tgt := 72) dX7_status_22 (by rw [c9] <;> decide) (by rw [c9] <;> decide) (by rw [c9] <;> rfl) (by decide) ?_
      refine r_aload_n dX7_status_72 0 rfl ?_
      obtain ⟨h10, h⟩ := chk_some h
      obtain ⟨o11, g12, h⟩ := ob_some h
      refine r_getR (fl_RX7_22 rfl) rfl dX7_status_73 h10 g12 ?_
      obtain ⟨h13, h⟩ := chk_some h
      refine r_getI (fl_RX7_262 rfl) rfl dX7_status_76 h13 ?_
      rw [← Option.some.inj h] at hk
      exact r_ireturn dX7_status_79 rfl rfl hk
    rw [if_neg c9] at h
    by_cases c14 : x1 = 2
    · rw [if_pos c14] at h
      refine r_tabIn (tgt := 80) dX7_status_22 (by rw [c14] <;> decide) (by rw [c14] <;> decide) (by rw [c14] <;> rfl) (by decide) ?_
      refine r_aload_n dX7_status_80 0 rfl ?_
      obtain ⟨h15, h⟩ := chk_some h
      obtain ⟨o16, g17, h⟩ := ob_some h
      refine r_getR (fl_RX7_22 rfl) rfl dX7_status_81 h15 g17 ?_
      obtain ⟨h18, h⟩ := chk_some h
      obtain ⟨q19, g20, h⟩ := ob_some h
      refine r_callV (d' := (7, 0, false)) (As := []) (st := []) mdv_X0_countHabits tm_RX7_325 (by decide) rfl rfl (by decide) rfl (Nat.le_refl _) (Nat.le_of_ble_eq_true rfl) rfl dX7_status_84 h18 (ctX0_countHabits g20) (k_I0 ?_)
      rw [← Option.some.inj h] at hk
      exact r_ireturn dX7_status_87 rfl rfl hk
    rw [if_neg c14] at h
    by_cases c21 : x1 = 3
    · rw [if_pos c21] at h
      refine r_tabIn (tgt := 88) dX7_status_22 (by rw [c21] <;> decide) (by rw [c21] <;> decide) (by rw [c21] <;> rfl) (by decide) ?_
      refine r_aload_n dX7_status_88 0 rfl ?_
      obtain ⟨h22, h⟩ := chk_some h
      obtain ⟨o23, g24, h⟩ := ob_some h
      refine r_getR (fl_RX7_22 rfl) rfl dX7_status_89 h22 g24 ?_
      obtain ⟨h25, h⟩ := chk_some h
      obtain ⟨q26, g27, h⟩ := ob_some h
      refine r_callV (d' := (7, 0, false)) (As := []) (st := []) mdv_X0_countWorn tm_RX7_339 (by decide) rfl rfl (by decide) rfl (Nat.le_refl _) (Nat.le_of_ble_eq_true rfl) rfl dX7_status_92 h25 (ctX0_countWorn g27) (k_I0 ?_)
      rw [← Option.some.inj h] at hk
      exact r_ireturn dX7_status_95 rfl rfl hk
    rw [if_neg c21] at h
    by_cases c28 : x1 = 4
    · rw [if_pos c28] at h
      refine r_tabIn (tgt := 96) dX7_status_22 (by rw [c28] <;> decide) (by rw [c28] <;> decide) (by rw [c28] <;> rfl) (by decide) ?_
      refine r_aload_n dX7_status_96 0 rfl ?_
      obtain ⟨h29, h⟩ := chk_some h
      obtain ⟨o30, g31, h⟩ := ob_some h
      refine r_getR (fl_RX7_22 rfl) rfl dX7_status_97 h29 g31 ?_
      obtain ⟨h32, h⟩ := chk_some h
      refine r_getI (fl_RX7_342 rfl) rfl dX7_status_100 h32 ?_
      rw [← Option.some.inj h] at hk
      exact r_ireturn dX7_status_103 rfl rfl hk
    rw [if_neg c28] at h
    by_cases c33 : x1 = 5
    · rw [if_pos c33] at h
      refine r_tabIn (tgt := 104) dX7_status_22 (by rw [c33] <;> decide) (by rw [c33] <;> decide) (by rw [c33] <;> rfl) (by decide) ?_
      refine r_aload_n dX7_status_104 0 rfl ?_
      obtain ⟨h34, h⟩ := chk_some h
      obtain ⟨o35, g36, h⟩ := ob_some h
      refine r_getR (fl_RX7_22 rfl) rfl dX7_status_105 h34 g36 ?_
      obtain ⟨h37, h⟩ := chk_some h
      refine r_getI (fl_RX7_326 rfl) rfl dX7_status_108 h37 ?_
      rw [← Option.some.inj h] at hk
      exact r_ireturn dX7_status_111 rfl rfl hk
    rw [if_neg c33] at h
    by_cases c38 : x1 = 6
    · rw [if_pos c38] at h
      refine r_tabIn (tgt := 112) dX7_status_22 (by rw [c38] <;> decide) (by rw [c38] <;> decide) (by rw [c38] <;> rfl) (by decide) ?_
      refine r_aload_n dX7_status_112 0 rfl ?_
      obtain ⟨h39, h⟩ := chk_some h
      obtain ⟨o40, g41, h⟩ := ob_some h
      refine r_getR (fl_RX7_56 rfl) rfl dX7_status_113 h39 g41 ?_
      obtain ⟨h42, h⟩ := chk_some h
      refine r_getI (fl_RX7_345 rfl) rfl dX7_status_116 h42 ?_
      rw [← Option.some.inj h] at hk
      exact r_ireturn dX7_status_119 rfl rfl hk
    rw [if_neg c38] at h
    refine r_tabOut (tgt := 120) dX7_status_22 (by have := lv_neT (k := 0) (a := 0) c4 rfl; have := lv_neT (k := 1) (a := 1) c9 rfl; have := lv_neT (k := 2) (a := 2) c14 rfl; have := lv_neT (k := 3) (a := 3) c21 rfl; have := lv_neT (k := 4) (a := 4) c28 rfl; have := lv_neT (k := 5) (a := 5) c33 rfl; have := lv_neT (k := 6) (a := 6) c38 rfl; omega) (by decide) ?_
    refine r_iconst (v := (-1)) dX7_status_120 (by decide) ?_
    rw [← Option.some.inj h] at hk
    exact r_ireturn dX7_status_121 rfl rfl hk
  · rw [if_neg c3] at h
    refine r_aload_n dX7_status_11 0 rfl ?_
    obtain ⟨h43, h⟩ := chk_some h
    obtain ⟨o44, g45, h⟩ := ob_some h
    refine r_getR (fl_RX7_15 rfl) rfl dX7_status_12 h43 g45 ?_
    refine r_iload_n dX7_status_15 1 rfl ?_
    refine r_bipush (v := 10) dX7_status_16 (by decide) ?_
    refine r_isub dX7_status_18 ?_
    obtain ⟨h46, h⟩ := chk_some h
    obtain ⟨h47, h⟩ := chk_some h
    refine r_iaload dX7_status_19 h46 h47 ?_
    rw [← Option.some.inj h] at hk
    exact r_ireturn dX7_status_20 rfl rfl hk
set_option maxHeartbeats 1000000 in
set_option maxRecDepth 20000 in
theorem ctX7_status {E : Ev} {a0 : Nat} {x1 : Int32} {w : Wd} {q : Int32 × Wd} (h : fX7_status a0 x1 w = some q) : CT E mX7_status (8, 0, false) [.ref a0, .int x1] w (QI q) := CT.of pl_RX7 (Nat.le_of_ble_eq_true rfl) (okX7_status h ⟨rfl, rfl⟩)
def fX7_taught_b18 (a0 : Nat) (w : Wd) : Option (Int32 × Wd) :=
  chk (isO w a0 7) (ob (fX7_refuseLower a0 (-1) w) (fun q2 => some (q2.1, q2.2)))
set_option maxHeartbeats 1000000 in
set_option maxRecDepth 20000 in
theorem okX7_taught_b18 {E : Ev} {Q : Option Value → Wd → Prop} {a0 : Nat} {w : Wd} {q : Int32 × Wd} (h : fX7_taught_b18 a0 w = some q) (hk : (fun q : Int32 × Wd => Q (some (.int q.1)) q.2) q) : Runs E mX7_taught (10, 0, false) Q 0 18 [(0, .ref a0)] [] w := by
  unfold fX7_taught_b18 at h
  refine r_aload_n dX7_taught_18 0 rfl ?_
  refine r_iconst (v := (-1)) dX7_taught_19 (by decide) ?_
  obtain ⟨h1, h⟩ := chk_some h
  obtain ⟨q2, g3, h⟩ := ob_some h
  refine r_callV (d' := (7, 0, false)) (As := [.int (-1)]) (st := []) mdv_X7_refuseLower tm_RX7_195 (by decide) rfl rfl (by decide) rfl (Nat.le_refl _) (Nat.le_of_ble_eq_true rfl) rfl dX7_taught_20 h1 (ctX7_refuseLower g3) (k_I0 ?_)
  rw [← Option.some.inj h] at hk
  exact r_ireturn dX7_taught_23 rfl rfl hk
def PX7_taught_L78 (E : Ev) (Q : Option Value → Wd → Prop) (a0 : Nat) (x1 : Int32) (s : Int32 × Wd) : Prop := Runs E mX7_taught (10, 0, false) Q 0 78 [(0, .ref a0), (1, .int x1), (4, .int s.1)] [] s.2
def fX7_taught_L78_body (a0 : Nat) (x1 : Int32) (s : Int32 × Wd) : Option ((Int32 × Wd) ⊕ (Int32 × Wd)) :=
  if (60 : Int32) < s.1 then (wr (some ((-1), s.2))) else (chk (isO s.2 a0 7) (ob (wR s.2 a0 5) (fun o4 => ob (wR s.2 a0 0) (fun o6 => chk (isA s.2 o6 4) (chk (inb x1 (wn s.2 o6)) (ob (wR s.2 o6 (x1).toNatClampNeg) (fun o10 => chk (isO s.2 o4 2) (ob (fX2_hasLearnt o4 o10 s.2) (fun q13 => if q13.1 = 0 then (chk (isO q13.2 a0 7) (ob (wR q13.2 a0 5) (fun o17 => ob (wR q13.2 a0 0) (fun o19 => chk (isA q13.2 o19 4) (chk (inb x1 (wn q13.2 o19)) (ob (wR q13.2 o19 (x1).toNatClampNeg) (fun o23 => chk (isO q13.2 o17 2) (ob (fX2_learnDay o17 o23 q13.2) (fun q26 => some (.inl ((s.1 + 1), q26))))))))))) else (wr (some (s.1, q13.2))))))))))))
set_option maxHeartbeats 1000000 in
set_option maxRecDepth 20000 in
theorem okX7_taught_L78_body {E : Ev} {Q : Option Value → Wd → Prop} {a0 : Nat} {x1 : Int32} {s : Int32 × Wd} {r : (Int32 × Wd) ⊕ (Int32 × Wd)} (h : fX7_taught_L78_body a0 x1 s = some r) (hk : (Sum.elim (PX7_taught_L78 E Q a0 x1) (fun q : Int32 × Wd => Q (some (.int q.1)) q.2)) r) : PX7_taught_L78 E Q a0 x1 s := by
  unfold fX7_taught_L78_body at h
  unfold PX7_taught_L78
  refine r_iload dX7_taught_78 2 rfl ?_
  refine r_bipush (v := 60) dX7_taught_80 (by decide) ?_
  refine r_icmp_gt (tgt := 123) dX7_taught_82 (by decide) (fun c1 => ?_) (fun c1 => ?_)
  · rw [if_pos c1] at h
    obtain ⟨r2, hr, h⟩ := wr_some h
    rw [hr] at hk
    refine r_iconst (v := (-1)) dX7_taught_123 (by decide) ?_
    rw [← Option.some.inj h] at hk
    exact r_ireturn dX7_taught_124 rfl rfl hk
  · rw [if_neg c1] at h
    refine r_aload_n dX7_taught_85 0 rfl ?_
    obtain ⟨h3, h⟩ := chk_some h
    obtain ⟨o4, g5, h⟩ := ob_some h
    refine r_getR (fl_RX7_35 rfl) rfl dX7_taught_86 h3 g5 ?_
    refine r_aload_n dX7_taught_89 0 rfl ?_
    obtain ⟨o6, g7, h⟩ := ob_some h
    refine r_getR (fl_RX7_11 rfl) rfl dX7_taught_90 h3 g7 ?_
    refine r_iload_n dX7_taught_93 1 rfl ?_
    obtain ⟨h8, h⟩ := chk_some h
    obtain ⟨h9, h⟩ := chk_some h
    obtain ⟨o10, g11, h⟩ := ob_some h
    refine r_aaload 4 (by decide) (by decide) dX7_taught_94 h8 h9 g11 ?_
    obtain ⟨h12, h⟩ := chk_some h
    obtain ⟨q13, g14, h⟩ := ob_some h
    refine r_callV (d' := (7, 0, false)) (As := [.ref o10]) (st := []) mdv_X2_hasLearnt tm_RX7_312 (by decide) rfl rfl (by decide) rfl (Nat.le_refl _) (Nat.le_of_ble_eq_true rfl) rfl dX7_taught_95 h12 (ctX2_hasLearnt g14) (k_I0 ?_)
    refine r_if_eq (tgt := 104) dX7_taught_98 (by decide) (fun c15 => ?_) (fun c15 => ?_)
    · rw [if_pos c15] at h
      refine r_aload_n dX7_taught_104 0 rfl ?_
      obtain ⟨h16, h⟩ := chk_some h
      obtain ⟨o17, g18, h⟩ := ob_some h
      refine r_getR (fl_RX7_35 rfl) rfl dX7_taught_105 h16 g18 ?_
      refine r_aload_n dX7_taught_108 0 rfl ?_
      obtain ⟨o19, g20, h⟩ := ob_some h
      refine r_getR (fl_RX7_11 rfl) rfl dX7_taught_109 h16 g20 ?_
      refine r_iload_n dX7_taught_112 1 rfl ?_
      obtain ⟨h21, h⟩ := chk_some h
      obtain ⟨h22, h⟩ := chk_some h
      obtain ⟨o23, g24, h⟩ := ob_some h
      refine r_aaload 4 (by decide) (by decide) dX7_taught_113 h21 h22 g24 ?_
      obtain ⟨h25, h⟩ := chk_some h
      obtain ⟨q26, g27, h⟩ := ob_some h
      refine r_callV (d' := (8, 0, false)) (As := [.ref o23]) (st := []) mdv_X2_learnDay tm_RX7_315 (by decide) rfl rfl (by decide) rfl (Nat.le_refl _) (Nat.le_of_ble_eq_true rfl) rfl dX7_taught_114 h25 (ctX2_learnDay g27) (k_V0 ?_)
      refine r_iinc (v := (s.1 + 1)) dX7_taught_117 2 rfl rfl (Nat.le_of_ble_eq_true rfl) [(4, .int (s.1 + 1)), (0, .ref a0), (1, .int x1)] rfl ?_
      refine r_goto (tgt := 78) dX7_taught_120 (by decide) ?_
      rw [← Option.some.inj h] at hk
      refine r_sub [1, 2, 0] [(0, .ref a0), (1, .int x1), (4, .int (s.1 + 1))] rfl ?_
      exact hk
    · rw [if_neg c15] at h
      obtain ⟨r28, hr, h⟩ := wr_some h
      rw [hr] at hk
      refine r_iload dX7_taught_101 2 rfl ?_
      rw [← Option.some.inj h] at hk
      exact r_ireturn dX7_taught_103 rfl rfl hk
def fX7_taught_L78 (a0 : Nat) (x1 : Int32) (s : Int32 × Wd) : Option (Int32 × Wd) := it (fX7_taught_L78_body a0 x1) FU s
set_option maxHeartbeats 1000000 in
set_option maxRecDepth 20000 in
theorem okX7_taught_L78 {E : Ev} {Q : Option Value → Wd → Prop} {a0 : Nat} {x1 : Int32} {s : Int32 × Wd} {r : Int32 × Wd} (h : fX7_taught_L78 a0 x1 s = some r) (hk : (fun q : Int32 × Wd => Q (some (.int q.1)) q.2) r) : PX7_taught_L78 E Q a0 x1 s := it_runs (fun s r h hk => okX7_taught_L78_body h hk) FU s r h hk
def fX7_taught (a0 : Nat) (x1 : Int32) (x2 : Int32) (w : Wd) : Option (Int32 × Wd) :=
  ob (fX7_isShelf x1 w) (fun q1 => if q1.1 = 0 then (fX7_taught_b18 a0 q1.2) else (chk (isO q1.2 a0 7) (ob (wR q1.2 a0 2) (fun o5 => chk (isO q1.2 o5 0) (ob (fX0_hasGarment o5 x2 q1.2) (fun q8 => if q8.1 = 0 then (fX7_taught_b18 a0 q8.2) else (chk (isO q8.2 a0 7) (ob (fX7_toldDayTrouble a0 x1 q8.2) (fun q12 => if q12.1 = 0 then (chk (isO q12.2 a0 7) (ob (wR q12.2 a0 0) (fun o16 => chk (isA q12.2 o16 4) (chk (inb x1 (wn q12.2 o16)) (ob (wR q12.2 o16 (x1).toNatClampNeg) (fun o20 => chk (isO q12.2 o20 6) (ob (fX6_tellsDeedsAlone o20 q12.2) (fun q23 => if q23.1 = 0 then (chk (isO q23.2 a0 7) (ob (fX7_refuseLower a0 (-6) q23.2) (fun q42 => some (q42.1, q42.2)))) else (chk (isO q23.2 a0 7) (ob (wR q23.2 a0 5) (fun o27 => ob (wR q23.2 a0 2) (fun o29 => chk (isO q23.2 o29 0) (ob (wR q23.2 o29 1) (fun o32 => chk (isA q23.2 o32 2) (chk (inb x2 (wn q23.2 o32)) (ob (wR q23.2 o32 (x2).toNatClampNeg) (fun o36 => chk (isO q23.2 o27 2) (ob (fX2_take o27 o36 q23.2) (fun q39 => fX7_taught_L78 a0 x1 (0, q39)))))))))))))))))))) else (chk (isO q12.2 a0 7) (ob (fX7_refuseLower a0 q12.1 q12.2) (fun q45 => some (q45.1, q45.2)))))))))))))
set_option maxHeartbeats 1000000 in
set_option maxRecDepth 20000 in
theorem okX7_taught {E : Ev} {Q : Option Value → Wd → Prop} {a0 : Nat} {x1 : Int32} {x2 : Int32} {w : Wd} {q : Int32 × Wd} (h : fX7_taught a0 x1 x2 w = some q) (hk : (fun q : Int32 × Wd => Q (some (.int q.1)) q.2) q) : Runs E mX7_taught (10, 0, false) Q 0 0 [(0, .ref a0), (1, .int x1), (2, .int x2)] [] w := by
  unfold fX7_taught at h
  refine r_iload_n dX7_taught_0 1 rfl ?_
  obtain ⟨q1, g2, h⟩ := ob_some h
  refine r_callS (d' := (7, 0, false)) (As := [.int x1]) (st := []) mds_X7_isShelf tm_RX7_69 rfl (by decide) rfl (Nat.le_refl _) (Nat.le_of_ble_eq_true rfl) rfl dX7_taught_1 (ctX7_isShelf g2) (k_I0 ?_)
  refine r_if_eq (tgt := 18) dX7_taught_4 (by decide) (fun c3 => ?_) (fun c3 => ?_)
  · rw [if_pos c3] at h
    refine r_sub [0] [(0, .ref a0)] rfl ?_
    exact okX7_taught_b18 h hk
  · rw [if_neg c3] at h
    refine r_aload_n dX7_taught_7 0 rfl ?_
    obtain ⟨h4, h⟩ := chk_some h
    obtain ⟨o5, g6, h⟩ := ob_some h
    refine r_getR (fl_RX7_22 rfl) rfl dX7_taught_8 h4 g6 ?_
    refine r_iload_n dX7_taught_11 2 rfl ?_
    obtain ⟨h7, h⟩ := chk_some h
    obtain ⟨q8, g9, h⟩ := ob_some h
    refine r_callV (d' := (7, 0, false)) (As := [.int x2]) (st := []) mdv_X0_hasGarment tm_RX7_121 (by decide) rfl rfl (by decide) rfl (Nat.le_refl _) (Nat.le_of_ble_eq_true rfl) rfl dX7_taught_12 h7 (ctX0_hasGarment g9) (k_I0 ?_)
    refine r_if_ne (tgt := 24) dX7_taught_15 (by decide) (fun c10 => ?_) (fun c10 => ?_)
    · rw [if_neg c10] at h
      refine r_aload_n dX7_taught_24 0 rfl ?_
      refine r_iload_n dX7_taught_25 1 rfl ?_
      obtain ⟨h11, h⟩ := chk_some h
      obtain ⟨q12, g13, h⟩ := ob_some h
      refine r_callV (d' := (9, 0, false)) (As := [.int x1]) (st := []) mdv_X7_toldDayTrouble tm_RX7_259 (by decide) rfl rfl (by decide) rfl (Nat.le_refl _) (Nat.le_of_ble_eq_true rfl) rfl dX7_taught_26 h11 (ctX7_toldDayTrouble g13) (k_I0 ?_)
      refine r_istore_n dX7_taught_29 rfl (Nat.le_of_ble_eq_true rfl) [(3, .int q12.1), (0, .ref a0), (1, .int x1), (2, .int x2)] rfl ?_
      refine r_iload_n dX7_taught_30 0 rfl ?_
      refine r_if_eq (tgt := 40) dX7_taught_31 (by decide) (fun c14 => ?_) (fun c14 => ?_)
      · rw [if_pos c14] at h
        refine r_aload_n dX7_taught_40 1 rfl ?_
        obtain ⟨h15, h⟩ := chk_some h
        obtain ⟨o16, g17, h⟩ := ob_some h
        refine r_getR (fl_RX7_11 rfl) rfl dX7_taught_41 h15 g17 ?_
        refine r_iload_n dX7_taught_44 2 rfl ?_
        obtain ⟨h18, h⟩ := chk_some h
        obtain ⟨h19, h⟩ := chk_some h
        obtain ⟨o20, g21, h⟩ := ob_some h
        refine r_aaload 4 (by decide) (by decide) dX7_taught_45 h18 h19 g21 ?_
        obtain ⟨h22, h⟩ := chk_some h
        obtain ⟨q23, g24, h⟩ := ob_some h
        refine r_callV (d' := (8, 0, false)) (As := []) (st := []) mdv_X6_tellsDeedsAlone tm_RX7_309 (by decide) rfl rfl (by decide) rfl (Nat.le_refl _) (Nat.le_of_ble_eq_true rfl) rfl dX7_taught_46 h22 (ctX6_tellsDeedsAlone g24) (k_I0 ?_)
        refine r_if_ne (tgt := 59) dX7_taught_49 (by decide) (fun c25 => ?_) (fun c25 => ?_)
        · rw [if_neg c25] at h
          refine r_aload_n dX7_taught_59 1 rfl ?_
          obtain ⟨h26, h⟩ := chk_some h
          obtain ⟨o27, g28, h⟩ := ob_some h
          refine r_getR (fl_RX7_35 rfl) rfl dX7_taught_60 h26 g28 ?_
          refine r_aload_n dX7_taught_63 1 rfl ?_
          obtain ⟨o29, g30, h⟩ := ob_some h
          refine r_getR (fl_RX7_22 rfl) rfl dX7_taught_64 h26 g30 ?_
          obtain ⟨h31, h⟩ := chk_some h
          obtain ⟨o32, g33, h⟩ := ob_some h
          refine r_getR (fl_RX7_137 rfl) rfl dX7_taught_67 h31 g33 ?_
          refine r_iload_n dX7_taught_70 3 rfl ?_
          obtain ⟨h34, h⟩ := chk_some h
          obtain ⟨h35, h⟩ := chk_some h
          obtain ⟨o36, g37, h⟩ := ob_some h
          refine r_aaload 2 (by decide) (by decide) dX7_taught_71 h34 h35 g37 ?_
          obtain ⟨h38, h⟩ := chk_some h
          obtain ⟨q39, g40, h⟩ := ob_some h
          refine r_callV (d' := (6, 0, false)) (As := [.ref o36]) (st := []) mdv_X2_take tm_RX7_291 (by decide) rfl rfl (by decide) rfl (Nat.le_refl _) (Nat.le_of_ble_eq_true rfl) rfl dX7_taught_72 h38 (ctX2_take g40) (k_V0 ?_)
          refine r_iconst (v := 0) dX7_taught_75 (by decide) ?_
          refine r_istore dX7_taught_76 (Nat.le_of_ble_eq_true rfl) [(4, .int 0), (3, .int q12.1), (0, .ref a0), (1, .int x1), (2, .int x2)] rfl ?_
          refine r_sub [2, 3, 0] [(0, .ref a0), (1, .int x1), (4, .int 0)] rfl ?_
          exact okX7_taught_L78 h hk
        · rw [if_pos c25] at h
          refine r_aload_n dX7_taught_52 1 rfl ?_
          refine r_bipush (v := (-6)) dX7_taught_53 (by decide) ?_
          obtain ⟨h41, h⟩ := chk_some h
          obtain ⟨q42, g43, h⟩ := ob_some h
          refine r_callV (d' := (7, 0, false)) (As := [.int (-6)]) (st := []) mdv_X7_refuseLower tm_RX7_195 (by decide) rfl rfl (by decide) rfl (Nat.le_refl _) (Nat.le_of_ble_eq_true rfl) rfl dX7_taught_55 h41 (ctX7_refuseLower g43) (k_I0 ?_)
          rw [← Option.some.inj h] at hk
          exact r_ireturn dX7_taught_58 rfl rfl hk
      · rw [if_neg c14] at h
        refine r_aload_n dX7_taught_34 1 rfl ?_
        refine r_iload_n dX7_taught_35 0 rfl ?_
        obtain ⟨h44, h⟩ := chk_some h
        obtain ⟨q45, g46, h⟩ := ob_some h
        refine r_callV (d' := (7, 0, false)) (As := [.int q12.1]) (st := []) mdv_X7_refuseLower tm_RX7_195 (by decide) rfl rfl (by decide) rfl (Nat.le_refl _) (Nat.le_of_ble_eq_true rfl) rfl dX7_taught_36 h44 (ctX7_refuseLower g46) (k_I0 ?_)
        rw [← Option.some.inj h] at hk
        exact r_ireturn dX7_taught_39 rfl rfl hk
    · rw [if_pos c10] at h
      refine r_sub [0] [(0, .ref a0)] rfl ?_
      exact okX7_taught_b18 h hk
set_option maxHeartbeats 1000000 in
set_option maxRecDepth 20000 in
theorem ctX7_taught {E : Ev} {a0 : Nat} {x1 : Int32} {x2 : Int32} {w : Wd} {q : Int32 × Wd} (h : fX7_taught a0 x1 x2 w = some q) : CT E mX7_taught (10, 0, false) [.ref a0, .int x1, .int x2] w (QI q) := CT.of pl_RX7 (Nat.le_of_ble_eq_true rfl) (okX7_taught h ⟨rfl, rfl⟩)
def fX7_trace (a0 : Nat) (x1 : Int32) (w : Wd) : Option (Int32 × Wd) :=
  chk (isO w a0 7) (ob (wR w a0 8) (fun o2 => chk (isO w o2 3) (ob (fX3_bodyAt o2 x1 w) (fun q5 => some (q5.1, q5.2)))))
set_option maxHeartbeats 1000000 in
set_option maxRecDepth 20000 in
theorem okX7_trace {E : Ev} {Q : Option Value → Wd → Prop} {a0 : Nat} {x1 : Int32} {w : Wd} {q : Int32 × Wd} (h : fX7_trace a0 x1 w = some q) (hk : (fun q : Int32 × Wd => Q (some (.int q.1)) q.2) q) : Runs E mX7_trace (7, 0, false) Q 0 0 [(0, .ref a0), (1, .int x1)] [] w := by
  unfold fX7_trace at h
  refine r_aload_n dX7_trace_0 0 rfl ?_
  obtain ⟨h1, h⟩ := chk_some h
  obtain ⟨o2, g3, h⟩ := ob_some h
  refine r_getR (fl_RX7_56 rfl) rfl dX7_trace_1 h1 g3 ?_
  refine r_iload_n dX7_trace_4 1 rfl ?_
  obtain ⟨h4, h⟩ := chk_some h
  obtain ⟨q5, g6, h⟩ := ob_some h
  refine r_callV (d' := (6, 0, false)) (As := [.int x1]) (st := []) mdv_X3_bodyAt tm_RX7_336 (by decide) rfl rfl (by decide) rfl (Nat.le_refl _) (Nat.le_of_ble_eq_true rfl) rfl dX7_trace_5 h4 (ctX3_bodyAt g6) (k_I0 ?_)
  rw [← Option.some.inj h] at hk
  exact r_ireturn dX7_trace_8 rfl rfl hk
set_option maxHeartbeats 1000000 in
set_option maxRecDepth 20000 in
theorem ctX7_trace {E : Ev} {a0 : Nat} {x1 : Int32} {w : Wd} {q : Int32 × Wd} (h : fX7_trace a0 x1 w = some q) : CT E mX7_trace (7, 0, false) [.ref a0, .int x1] w (QI q) := CT.of pl_RX7 (Nat.le_of_ble_eq_true rfl) (okX7_trace h ⟨rfl, rfl⟩)
def fX7_two_b22 (a0 : Nat) (w : Wd) : Option (Int32 × Wd) :=
  chk (isO w a0 7) (ob (fX7_refuse a0 (-1) w) (fun q2 => some (q2.1, q2.2)))
set_option maxHeartbeats 1000000 in
set_option maxRecDepth 20000 in
theorem okX7_two_b22 {E : Ev} {Q : Option Value → Wd → Prop} {a0 : Nat} {w : Wd} {q : Int32 × Wd} (h : fX7_two_b22 a0 w = some q) (hk : (fun q : Int32 × Wd => Q (some (.int q.1)) q.2) q) : Runs E mX7_two (8, 0, false) Q 0 22 [(0, .ref a0)] [] w := by
  unfold fX7_two_b22 at h
  refine r_aload_n dX7_two_22 0 rfl ?_
  refine r_iconst (v := (-1)) dX7_two_23 (by decide) ?_
  obtain ⟨h1, h⟩ := chk_some h
  obtain ⟨q2, g3, h⟩ := ob_some h
  refine r_callV (d' := (6, 0, false)) (As := [.int (-1)]) (st := []) mdv_X7_refuse tm_RX7_73 (by decide) rfl rfl (by decide) rfl (Nat.le_refl _) (Nat.le_of_ble_eq_true rfl) rfl dX7_two_24 h1 (ctX7_refuse g3) (k_I0 ?_)
  rw [← Option.some.inj h] at hk
  exact r_ireturn dX7_two_27 rfl rfl hk
def fX7_two_b81 (s0 : Int32) (w : Wd) : Option (Int32 × Wd) :=
  some (s0, w)
set_option maxHeartbeats 1000000 in
set_option maxRecDepth 20000 in
theorem okX7_two_b81 {E : Ev} {Q : Option Value → Wd → Prop} {s0 : Int32} {w : Wd} {q : Int32 × Wd} (h : fX7_two_b81 s0 w = some q) (hk : (fun q : Int32 × Wd => Q (some (.int q.1)) q.2) q) : Runs E mX7_two (8, 0, false) Q 0 81 [] [.int s0] w := by
  unfold fX7_two_b81 at h
  rw [← Option.some.inj h] at hk
  exact r_ireturn dX7_two_81 rfl rfl hk
def fX7_two (a0 : Nat) (x1 : Int32) (x2 : Int32) (x3 : Int32) (w : Wd) : Option (Int32 × Wd) :=
  chk (isO w a0 7) (ob (wR w a0 2) (fun o2 => chk (isO w o2 0) (ob (fX0_hasGarment o2 x1 w) (fun q5 => if q5.1 = 0 then (fX7_two_b22 a0 q5.2) else (chk (isO q5.2 a0 7) (ob (wR q5.2 a0 2) (fun o9 => chk (isO q5.2 o9 0) (ob (fX0_hasGarment o9 x2 q5.2) (fun q12 => if q12.1 = 0 then (fX7_two_b22 a0 q12.2) else (ob (fX7_isWithin x3 0 1 q12.2) (fun q15 => if q15.1 = 0 then (chk (isO q15.2 a0 7) (ob (fX7_refuse a0 (-5) q15.2) (fun q36 => some (q36.1, q36.2)))) else (if x1 = x2 then (chk (isO q15.2 a0 7) (ob (fX7_refuse a0 (-6) q15.2) (fun q33 => some (q33.1, q33.2)))) else (if x3 = 0 then (chk (isO q15.2 a0 7) (ob (wR q15.2 a0 2) (fun o27 => chk (isO q15.2 o27 0) (ob (fX0_hoursInStrife o27 x1 x2 q15.2) (fun q30 => fX7_two_b81 q30.1 q30.2))))) else (chk (isO q15.2 a0 7) (ob (wR q15.2 a0 2) (fun o21 => chk (isO q15.2 o21 0) (ob (fX0_habitsPatched o21 x1 x2 q15.2) (fun q24 => fX7_two_b81 q24.1 q24.2))))))))))))))))))
set_option maxHeartbeats 1000000 in
set_option maxRecDepth 20000 in
theorem okX7_two {E : Ev} {Q : Option Value → Wd → Prop} {a0 : Nat} {x1 : Int32} {x2 : Int32} {x3 : Int32} {w : Wd} {q : Int32 × Wd} (h : fX7_two a0 x1 x2 x3 w = some q) (hk : (fun q : Int32 × Wd => Q (some (.int q.1)) q.2) q) : Runs E mX7_two (8, 0, false) Q 0 0 [(0, .ref a0), (1, .int x1), (2, .int x2), (3, .int x3)] [] w := by
  unfold fX7_two at h
  refine r_aload_n dX7_two_0 0 rfl ?_
  obtain ⟨h1, h⟩ := chk_some h
  obtain ⟨o2, g3, h⟩ := ob_some h
  refine r_getR (fl_RX7_22 rfl) rfl dX7_two_1 h1 g3 ?_
  refine r_iload_n dX7_two_4 1 rfl ?_
  obtain ⟨h4, h⟩ := chk_some h
  obtain ⟨q5, g6, h⟩ := ob_some h
  refine r_callV (d' := (7, 0, false)) (As := [.int x1]) (st := []) mdv_X0_hasGarment tm_RX7_121 (by decide) rfl rfl (by decide) rfl (Nat.le_refl _) (Nat.le_of_ble_eq_true rfl) rfl dX7_two_5 h4 (ctX0_hasGarment g6) (k_I0 ?_)
  refine r_if_eq (tgt := 22) dX7_two_8 (by decide) (fun c7 => ?_) (fun c7 => ?_)
  · rw [if_pos c7] at h
    refine r_sub [0] [(0, .ref a0)] rfl ?_
    exact okX7_two_b22 h hk
  · rw [if_neg c7] at h
    refine r_aload_n dX7_two_11 0 rfl ?_
    obtain ⟨h8, h⟩ := chk_some h
    obtain ⟨o9, g10, h⟩ := ob_some h
    refine r_getR (fl_RX7_22 rfl) rfl dX7_two_12 h8 g10 ?_
    refine r_iload_n dX7_two_15 2 rfl ?_
    obtain ⟨h11, h⟩ := chk_some h
    obtain ⟨q12, g13, h⟩ := ob_some h
    refine r_callV (d' := (7, 0, false)) (As := [.int x2]) (st := []) mdv_X0_hasGarment tm_RX7_121 (by decide) rfl rfl (by decide) rfl (Nat.le_refl _) (Nat.le_of_ble_eq_true rfl) rfl dX7_two_16 h11 (ctX0_hasGarment g13) (k_I0 ?_)
    refine r_if_ne (tgt := 28) dX7_two_19 (by decide) (fun c14 => ?_) (fun c14 => ?_)
    · rw [if_neg c14] at h
      refine r_iload_n dX7_two_28 3 rfl ?_
      refine r_iconst (v := 0) dX7_two_29 (by decide) ?_
      refine r_iconst (v := 1) dX7_two_30 (by decide) ?_
      obtain ⟨q15, g16, h⟩ := ob_some h
      refine r_callS (d' := (6, 0, false)) (As := [.int x3, .int 0, .int 1]) (st := []) mds_X7_isWithin tm_RX7_77 rfl (by decide) rfl (Nat.le_refl _) (Nat.le_of_ble_eq_true rfl) rfl dX7_two_31 (ctX7_isWithin g16) (k_I0 ?_)
      refine r_if_ne (tgt := 44) dX7_two_34 (by decide) (fun c17 => ?_) (fun c17 => ?_)
      · rw [if_neg c17] at h
        refine r_iload_n dX7_two_44 1 rfl ?_
        refine r_iload_n dX7_two_45 2 rfl ?_
        refine r_icmp_ne (tgt := 56) dX7_two_46 (by decide) (fun c18 => ?_) (fun c18 => ?_)
        · rw [if_neg c18] at h
          refine r_iload_n dX7_two_56 3 rfl ?_
          refine r_if_ne (tgt := 72) dX7_two_57 (by decide) (fun c19 => ?_) (fun c19 => ?_)
          · rw [if_neg c19] at h
            refine r_aload_n dX7_two_72 0 rfl ?_
            obtain ⟨h20, h⟩ := chk_some h
            obtain ⟨o21, g22, h⟩ := ob_some h
            refine r_getR (fl_RX7_22 rfl) rfl dX7_two_73 h20 g22 ?_
            refine r_iload_n dX7_two_76 1 rfl ?_
            refine r_iload_n dX7_two_77 2 rfl ?_
            obtain ⟨h23, h⟩ := chk_some h
            obtain ⟨q24, g25, h⟩ := ob_some h
            refine r_callV (d' := (7, 0, false)) (As := [.int x1, .int x2]) (st := []) mdv_X0_habitsPatched tm_RX7_300 (by decide) rfl rfl (by decide) rfl (Nat.le_refl _) (Nat.le_of_ble_eq_true rfl) rfl dX7_two_78 h23 (ctX0_habitsPatched g25) (k_I0 ?_)
            refine r_sub [] [] rfl ?_
            exact okX7_two_b81 h hk
          · rw [if_pos c19] at h
            refine r_aload_n dX7_two_60 0 rfl ?_
            obtain ⟨h26, h⟩ := chk_some h
            obtain ⟨o27, g28, h⟩ := ob_some h
            refine r_getR (fl_RX7_22 rfl) rfl dX7_two_61 h26 g28 ?_
            refine r_iload_n dX7_two_64 1 rfl ?_
            refine r_iload_n dX7_two_65 2 rfl ?_
            obtain ⟨h29, h⟩ := chk_some h
            obtain ⟨q30, g31, h⟩ := ob_some h
            refine r_callV (d' := (6, 0, false)) (As := [.int x1, .int x2]) (st := []) mdv_X0_hoursInStrife tm_RX7_297 (by decide) rfl rfl (by decide) rfl (Nat.le_refl _) (Nat.le_of_ble_eq_true rfl) rfl dX7_two_66 h29 (ctX0_hoursInStrife g31) (k_I0 ?_)
            refine r_goto (tgt := 81) dX7_two_69 (by decide) ?_
            refine r_sub [] [] rfl ?_
            exact okX7_two_b81 h hk
        · rw [if_pos c18] at h
          refine r_aload_n dX7_two_49 0 rfl ?_
          refine r_bipush (v := (-6)) dX7_two_50 (by decide) ?_
          obtain ⟨h32, h⟩ := chk_some h
          obtain ⟨q33, g34, h⟩ := ob_some h
          refine r_callV (d' := (6, 0, false)) (As := [.int (-6)]) (st := []) mdv_X7_refuse tm_RX7_73 (by decide) rfl rfl (by decide) rfl (Nat.le_refl _) (Nat.le_of_ble_eq_true rfl) rfl dX7_two_52 h32 (ctX7_refuse g34) (k_I0 ?_)
          rw [← Option.some.inj h] at hk
          exact r_ireturn dX7_two_55 rfl rfl hk
      · rw [if_pos c17] at h
        refine r_aload_n dX7_two_37 0 rfl ?_
        refine r_bipush (v := (-5)) dX7_two_38 (by decide) ?_
        obtain ⟨h35, h⟩ := chk_some h
        obtain ⟨q36, g37, h⟩ := ob_some h
        refine r_callV (d' := (6, 0, false)) (As := [.int (-5)]) (st := []) mdv_X7_refuse tm_RX7_73 (by decide) rfl rfl (by decide) rfl (Nat.le_refl _) (Nat.le_of_ble_eq_true rfl) rfl dX7_two_40 h35 (ctX7_refuse g37) (k_I0 ?_)
        rw [← Option.some.inj h] at hk
        exact r_ireturn dX7_two_43 rfl rfl hk
    · rw [if_pos c14] at h
      refine r_sub [0] [(0, .ref a0)] rfl ?_
      exact okX7_two_b22 h hk
set_option maxHeartbeats 1000000 in
set_option maxRecDepth 20000 in
theorem ctX7_two {E : Ev} {a0 : Nat} {x1 : Int32} {x2 : Int32} {x3 : Int32} {w : Wd} {q : Int32 × Wd} (h : fX7_two a0 x1 x2 x3 w = some q) : CT E mX7_two (8, 0, false) [.ref a0, .int x1, .int x2, .int x3] w (QI q) := CT.of pl_RX7 (Nat.le_of_ble_eq_true rfl) (okX7_two h ⟨rfl, rfl⟩)
def fX7_wardrobe (a0 : Nat) (x1 : Int32) (w : Wd) : Option (Int32 × Wd) :=
  chk (isO w a0 7) (ob (fX7_rowTrouble a0 x1 w) (fun q2 => if q2.1 = 0 then (chk (isO q2.2 a0 7) (ob (wR q2.2 a0 3) (fun o6 => ob (wR q2.2 a0 2) (fun o8 => chk (isO q2.2 o6 0) (ob (fX0_take o6 o8 q2.2) (fun q11 => chk (isO q11 a0 7) (ob (wR q11 a0 6) (fun o14 => ob (wR q11 a0 0) (fun o16 => chk (isA q11 o16 4) (chk (inb x1 (wn q11 o16)) (ob (wR q11 o16 (x1).toNatClampNeg) (fun o20 => ob (wR q11 a0 3) (fun o22 => chk (isO q11 o14 5) (ob (fX5_read o14 o20 o22 q11) (fun q25 => chk (isO q25.2 a0 7) (ob (wR q25.2 a0 6) (fun o28 => chk (isO q25.2 o28 5) (bnd (sI q25.2 a0 10 (wI q25.2 o28 0)) (fun w31 => chk (isO w31 a0 7) (if (wI w31 a0 10) = (-1) then (ob (wR w31 a0 2) (fun o35 => ob (wR w31 a0 3) (fun o37 => chk (isO w31 o35 0) (ob (fX0_take o35 o37 w31) (fun q40 => some (q25.1, q40)))))) else (ob (fX7_refuse a0 (-6) w31) (fun q42 => some (q42.1, q42.2))))))))))))))))))))))) else (chk (isO q2.2 a0 7) (ob (fX7_refuse a0 q2.1 q2.2) (fun q45 => some (q45.1, q45.2))))))
set_option maxHeartbeats 1000000 in
set_option maxRecDepth 20000 in
theorem okX7_wardrobe {E : Ev} {Q : Option Value → Wd → Prop} {a0 : Nat} {x1 : Int32} {w : Wd} {q : Int32 × Wd} (h : fX7_wardrobe a0 x1 w = some q) (hk : (fun q : Int32 × Wd => Q (some (.int q.1)) q.2) q) : Runs E mX7_wardrobe (14, 0, false) Q 0 0 [(0, .ref a0), (1, .int x1)] [] w := by
  unfold fX7_wardrobe at h
  refine r_aload_n dX7_wardrobe_0 0 rfl ?_
  refine r_iload_n dX7_wardrobe_1 1 rfl ?_
  obtain ⟨h1, h⟩ := chk_some h
  obtain ⟨q2, g3, h⟩ := ob_some h
  refine r_callV (d' := (8, 0, false)) (As := [.int x1]) (st := []) mdv_X7_rowTrouble tm_RX7_85 (by decide) rfl rfl (by decide) rfl (Nat.le_refl _) (Nat.le_of_ble_eq_true rfl) rfl dX7_wardrobe_2 h1 (ctX7_rowTrouble g3) (k_I0 ?_)
  refine r_istore_n dX7_wardrobe_5 rfl (Nat.le_of_ble_eq_true rfl) [(2, .int q2.1), (0, .ref a0), (1, .int x1)] rfl ?_
  refine r_iload_n dX7_wardrobe_6 0 rfl ?_
  refine r_if_eq (tgt := 16) dX7_wardrobe_7 (by decide) (fun c4 => ?_) (fun c4 => ?_)
  · rw [if_pos c4] at h
    refine r_aload_n dX7_wardrobe_16 1 rfl ?_
    obtain ⟨h5, h⟩ := chk_some h
    obtain ⟨o6, g7, h⟩ := ob_some h
    refine r_getR (fl_RX7_26 rfl) rfl dX7_wardrobe_17 h5 g7 ?_
    refine r_aload_n dX7_wardrobe_20 1 rfl ?_
    obtain ⟨o8, g9, h⟩ := ob_some h
    refine r_getR (fl_RX7_22 rfl) rfl dX7_wardrobe_21 h5 g9 ?_
    obtain ⟨h10, h⟩ := chk_some h
    obtain ⟨q11, g12, h⟩ := ob_some h
    refine r_callV (d' := (7, 0, false)) (As := [.ref o8]) (st := []) mdv_X0_take tm_RX7_219 (by decide) rfl rfl (by decide) rfl (Nat.le_refl _) (Nat.le_of_ble_eq_true rfl) rfl dX7_wardrobe_24 h10 (ctX0_take g12) (k_V0 ?_)
    refine r_aload_n dX7_wardrobe_27 1 rfl ?_
    obtain ⟨h13, h⟩ := chk_some h
    obtain ⟨o14, g15, h⟩ := ob_some h
    refine r_getR (fl_RX7_42 rfl) rfl dX7_wardrobe_28 h13 g15 ?_
    refine r_aload_n dX7_wardrobe_31 1 rfl ?_
    obtain ⟨o16, g17, h⟩ := ob_some h
    refine r_getR (fl_RX7_11 rfl) rfl dX7_wardrobe_32 h13 g17 ?_
    refine r_iload_n dX7_wardrobe_35 2 rfl ?_
    obtain ⟨h18, h⟩ := chk_some h
    obtain ⟨h19, h⟩ := chk_some h
    obtain ⟨o20, g21, h⟩ := ob_some h
    refine r_aaload 4 (by decide) (by decide) dX7_wardrobe_36 h18 h19 g21 ?_
    refine r_aload_n dX7_wardrobe_37 1 rfl ?_
    obtain ⟨o22, g23, h⟩ := ob_some h
    refine r_getR (fl_RX7_26 rfl) rfl dX7_wardrobe_38 h13 g23 ?_
    obtain ⟨h24, h⟩ := chk_some h
    obtain ⟨q25, g26, h⟩ := ob_some h
    refine r_callV (d' := (13, 0, false)) (As := [.ref o20, .ref o22]) (st := []) mdv_X5_read tm_RX7_223 (by decide) rfl rfl (by decide) rfl (Nat.le_refl _) (Nat.le_of_ble_eq_true rfl) rfl dX7_wardrobe_41 h24 (ctX5_read g26) (k_I0 ?_)
    refine r_istore_n dX7_wardrobe_44 rfl (Nat.le_of_ble_eq_true rfl) [(3, .int q25.1), (2, .int q2.1), (0, .ref a0), (1, .int x1)] rfl ?_
    refine r_aload_n dX7_wardrobe_45 2 rfl ?_
    refine r_aload_n dX7_wardrobe_46 2 rfl ?_
    obtain ⟨h27, h⟩ := chk_some h
    obtain ⟨o28, g29, h⟩ := ob_some h
    refine r_getR (fl_RX7_42 rfl) rfl dX7_wardrobe_47 h27 g29 ?_
    obtain ⟨h30, h⟩ := chk_some h
    refine r_getI (fl_RX7_227 rfl) rfl dX7_wardrobe_50 h30 ?_
    obtain ⟨w31, e32, h⟩ := bnd_some h
    refine r_putI (fl_RX7_64 rfl) rfl rfl (ck_ty (by decide) 10 (by decide)) rfl rfl dX7_wardrobe_53 h27 ?_
    refine r_eqW e32 ?_
    refine r_aload_n dX7_wardrobe_56 2 rfl ?_
    obtain ⟨h33, h⟩ := chk_some h
    refine r_getI (fl_RX7_64 rfl) rfl dX7_wardrobe_57 h33 ?_
    refine r_iconst (v := (-1)) dX7_wardrobe_60 (by decide) ?_
    refine r_icmp_eq (tgt := 71) dX7_wardrobe_61 (by decide) (fun c34 => ?_) (fun c34 => ?_)
    · rw [if_pos c34] at h
      refine r_aload_n dX7_wardrobe_71 2 rfl ?_
      obtain ⟨o35, g36, h⟩ := ob_some h
      refine r_getR (fl_RX7_22 rfl) rfl dX7_wardrobe_72 h33 g36 ?_
      refine r_aload_n dX7_wardrobe_75 2 rfl ?_
      obtain ⟨o37, g38, h⟩ := ob_some h
      refine r_getR (fl_RX7_26 rfl) rfl dX7_wardrobe_76 h33 g38 ?_
      obtain ⟨h39, h⟩ := chk_some h
      obtain ⟨q40, g41, h⟩ := ob_some h
      refine r_callV (d' := (7, 0, false)) (As := [.ref o37]) (st := []) mdv_X0_take tm_RX7_219 (by decide) rfl rfl (by decide) rfl (Nat.le_refl _) (Nat.le_of_ble_eq_true rfl) rfl dX7_wardrobe_79 h39 (ctX0_take g41) (k_V0 ?_)
      refine r_iload_n dX7_wardrobe_82 0 rfl ?_
      rw [← Option.some.inj h] at hk
      exact r_ireturn dX7_wardrobe_83 rfl rfl hk
    · rw [if_neg c34] at h
      refine r_aload_n dX7_wardrobe_64 2 rfl ?_
      refine r_bipush (v := (-6)) dX7_wardrobe_65 (by decide) ?_
      obtain ⟨q42, g43, h⟩ := ob_some h
      refine r_callV (d' := (6, 0, false)) (As := [.int (-6)]) (st := []) mdv_X7_refuse tm_RX7_73 (by decide) rfl rfl (by decide) rfl (Nat.le_refl _) (Nat.le_of_ble_eq_true rfl) rfl dX7_wardrobe_67 h33 (ctX7_refuse g43) (k_I0 ?_)
      rw [← Option.some.inj h] at hk
      exact r_ireturn dX7_wardrobe_70 rfl rfl hk
  · rw [if_neg c4] at h
    refine r_aload_n dX7_wardrobe_10 1 rfl ?_
    refine r_iload_n dX7_wardrobe_11 0 rfl ?_
    obtain ⟨h44, h⟩ := chk_some h
    obtain ⟨q45, g46, h⟩ := ob_some h
    refine r_callV (d' := (6, 0, false)) (As := [.int q2.1]) (st := []) mdv_X7_refuse tm_RX7_73 (by decide) rfl rfl (by decide) rfl (Nat.le_refl _) (Nat.le_of_ble_eq_true rfl) rfl dX7_wardrobe_12 h44 (ctX7_refuse g46) (k_I0 ?_)
    rw [← Option.some.inj h] at hk
    exact r_ireturn dX7_wardrobe_15 rfl rfl hk
set_option maxHeartbeats 1000000 in
set_option maxRecDepth 20000 in
theorem ctX7_wardrobe {E : Ev} {a0 : Nat} {x1 : Int32} {w : Wd} {q : Int32 × Wd} (h : fX7_wardrobe a0 x1 w = some q) : CT E mX7_wardrobe (14, 0, false) [.ref a0, .int x1] w (QI q) := CT.of pl_RX7 (Nat.le_of_ble_eq_true rfl) (okX7_wardrobe h ⟨rfl, rfl⟩)
def fX7_wash (a0 : Nat) (x1 : Int32) (w : Wd) : Option (Int32 × Wd) :=
  chk (isO w a0 7) (ob (wR w a0 2) (fun o2 => chk (isO w o2 0) (ob (fX0_hasGarment o2 x1 w) (fun q5 => if q5.1 = 0 then (chk (isO q5.2 a0 7) (ob (fX7_refuse a0 (-1) q5.2) (fun q35 => some (q35.1, q35.2)))) else (chk (isO q5.2 a0 7) (ob (wR q5.2 a0 2) (fun o9 => chk (isO q5.2 o9 0) (ob (wR q5.2 o9 1) (fun o12 => chk (isA q5.2 o12 2) (chk (inb x1 (wn q5.2 o12)) (ob (wR q5.2 o12 (x1).toNatClampNeg) (fun o16 => chk (isO q5.2 o16 2) (ob (fX2_launder o16 q5.2) (fun q19 => chk (isO q19 a0 7) (ob (wR q19 a0 2) (fun o22 => chk (isO q19 o22 0) (ob (wR q19 o22 1) (fun o25 => chk (isA q19 o25 2) (chk (inb x1 (wn q19 o25)) (ob (wR q19 o25 (x1).toNatClampNeg) (fun o29 => chk (isO q19 o29 2) (ob (fX2_countHabits o29 q19) (fun q32 => some (q32.1, q32.2))))))))))))))))))))))))
set_option maxHeartbeats 1000000 in
set_option maxRecDepth 20000 in
theorem okX7_wash {E : Ev} {Q : Option Value → Wd → Prop} {a0 : Nat} {x1 : Int32} {w : Wd} {q : Int32 × Wd} (h : fX7_wash a0 x1 w = some q) (hk : (fun q : Int32 × Wd => Q (some (.int q.1)) q.2) q) : Runs E mX7_wash (8, 0, false) Q 0 0 [(0, .ref a0), (1, .int x1)] [] w := by
  unfold fX7_wash at h
  refine r_aload_n dX7_wash_0 0 rfl ?_
  obtain ⟨h1, h⟩ := chk_some h
  obtain ⟨o2, g3, h⟩ := ob_some h
  refine r_getR (fl_RX7_22 rfl) rfl dX7_wash_1 h1 g3 ?_
  refine r_iload_n dX7_wash_4 1 rfl ?_
  obtain ⟨h4, h⟩ := chk_some h
  obtain ⟨q5, g6, h⟩ := ob_some h
  refine r_callV (d' := (7, 0, false)) (As := [.int x1]) (st := []) mdv_X0_hasGarment tm_RX7_121 (by decide) rfl rfl (by decide) rfl (Nat.le_refl _) (Nat.le_of_ble_eq_true rfl) rfl dX7_wash_5 h4 (ctX0_hasGarment g6) (k_I0 ?_)
  refine r_if_ne (tgt := 17) dX7_wash_8 (by decide) (fun c7 => ?_) (fun c7 => ?_)
  · rw [if_neg c7] at h
    refine r_aload_n dX7_wash_17 0 rfl ?_
    obtain ⟨h8, h⟩ := chk_some h
    obtain ⟨o9, g10, h⟩ := ob_some h
    refine r_getR (fl_RX7_22 rfl) rfl dX7_wash_18 h8 g10 ?_
    obtain ⟨h11, h⟩ := chk_some h
    obtain ⟨o12, g13, h⟩ := ob_some h
    refine r_getR (fl_RX7_137 rfl) rfl dX7_wash_21 h11 g13 ?_
    refine r_iload_n dX7_wash_24 1 rfl ?_
    obtain ⟨h14, h⟩ := chk_some h
    obtain ⟨h15, h⟩ := chk_some h
    obtain ⟨o16, g17, h⟩ := ob_some h
    refine r_aaload 2 (by decide) (by decide) dX7_wash_25 h14 h15 g17 ?_
    obtain ⟨h18, h⟩ := chk_some h
    obtain ⟨q19, g20, h⟩ := ob_some h
    refine r_callV (d' := (7, 0, false)) (As := []) (st := []) mdv_X2_launder tm_RX7_294 (by decide) rfl rfl (by decide) rfl (Nat.le_refl _) (Nat.le_of_ble_eq_true rfl) rfl dX7_wash_26 h18 (ctX2_launder g20) (k_V0 ?_)
    refine r_aload_n dX7_wash_29 0 rfl ?_
    obtain ⟨h21, h⟩ := chk_some h
    obtain ⟨o22, g23, h⟩ := ob_some h
    refine r_getR (fl_RX7_22 rfl) rfl dX7_wash_30 h21 g23 ?_
    obtain ⟨h24, h⟩ := chk_some h
    obtain ⟨o25, g26, h⟩ := ob_some h
    refine r_getR (fl_RX7_137 rfl) rfl dX7_wash_33 h24 g26 ?_
    refine r_iload_n dX7_wash_36 1 rfl ?_
    obtain ⟨h27, h⟩ := chk_some h
    obtain ⟨h28, h⟩ := chk_some h
    obtain ⟨o29, g30, h⟩ := ob_some h
    refine r_aaload 2 (by decide) (by decide) dX7_wash_37 h27 h28 g30 ?_
    obtain ⟨h31, h⟩ := chk_some h
    obtain ⟨q32, g33, h⟩ := ob_some h
    refine r_callV (d' := (6, 0, false)) (As := []) (st := []) mdv_X2_countHabits tm_RX7_155 (by decide) rfl rfl (by decide) rfl (Nat.le_refl _) (Nat.le_of_ble_eq_true rfl) rfl dX7_wash_38 h31 (ctX2_countHabits g33) (k_I0 ?_)
    rw [← Option.some.inj h] at hk
    exact r_ireturn dX7_wash_41 rfl rfl hk
  · rw [if_pos c7] at h
    refine r_aload_n dX7_wash_11 0 rfl ?_
    refine r_iconst (v := (-1)) dX7_wash_12 (by decide) ?_
    obtain ⟨h34, h⟩ := chk_some h
    obtain ⟨q35, g36, h⟩ := ob_some h
    refine r_callV (d' := (6, 0, false)) (As := [.int (-1)]) (st := []) mdv_X7_refuse tm_RX7_73 (by decide) rfl rfl (by decide) rfl (Nat.le_refl _) (Nat.le_of_ble_eq_true rfl) rfl dX7_wash_13 h34 (ctX7_refuse g36) (k_I0 ?_)
    rw [← Option.some.inj h] at hk
    exact r_ireturn dX7_wash_16 rfl rfl hk
set_option maxHeartbeats 1000000 in
set_option maxRecDepth 20000 in
theorem ctX7_wash {E : Ev} {a0 : Nat} {x1 : Int32} {w : Wd} {q : Int32 × Wd} (h : fX7_wash a0 x1 w = some q) : CT E mX7_wash (8, 0, false) [.ref a0, .int x1] w (QI q) := CT.of pl_RX7 (Nat.le_of_ble_eq_true rfl) (okX7_wash h ⟨rfl, rfl⟩)
def PX7_washed_L49 (E : Ev) (Q : Option Value → Wd → Prop) (a0 : Nat) (x2 : Int32) (s : Int32 × Wd) : Prop := Runs E mX7_washed (8, 0, false) Q 0 49 [(0, .ref a0), (2, .int x2), (3, .int s.1)] [] s.2
def fX7_washed_L49_body (a0 : Nat) (x2 : Int32) (s : Int32 × Wd) : Option ((Int32 × Wd) ⊕ (Int32 × Wd)) :=
  if (9 : Int32) < s.1 then (wr (some ((-1), s.2))) else (chk (isO s.2 a0 7) (ob (wR s.2 a0 5) (fun o4 => chk (isO s.2 o4 2) (ob (wR s.2 o4 0) (fun o7 => chk (isA s.2 o7 0) (chk (inb x2 (wn s.2 o7)) (if (wI s.2 o7 (x2).toNatClampNeg) = 0 then (wr (some (s.1, s.2))) else (ob (fX2_launder o4 s.2) (fun q12 => some (.inl ((s.1 + 1), q12)))))))))))
set_option maxHeartbeats 1000000 in
set_option maxRecDepth 20000 in
theorem okX7_washed_L49_body {E : Ev} {Q : Option Value → Wd → Prop} {a0 : Nat} {x2 : Int32} {s : Int32 × Wd} {r : (Int32 × Wd) ⊕ (Int32 × Wd)} (h : fX7_washed_L49_body a0 x2 s = some r) (hk : (Sum.elim (PX7_washed_L49 E Q a0 x2) (fun q : Int32 × Wd => Q (some (.int q.1)) q.2)) r) : PX7_washed_L49 E Q a0 x2 s := by
  unfold fX7_washed_L49_body at h
  unfold PX7_washed_L49
  refine r_iload_n dX7_washed_49 2 rfl ?_
  refine r_bipush (v := 9) dX7_washed_50 (by decide) ?_
  refine r_icmp_gt (tgt := 82) dX7_washed_52 (by decide) (fun c1 => ?_) (fun c1 => ?_)
  · rw [if_pos c1] at h
    obtain ⟨r2, hr, h⟩ := wr_some h
    rw [hr] at hk
    refine r_iconst (v := (-1)) dX7_washed_82 (by decide) ?_
    rw [← Option.some.inj h] at hk
    exact r_ireturn dX7_washed_83 rfl rfl hk
  · rw [if_neg c1] at h
    refine r_aload_n dX7_washed_55 0 rfl ?_
    obtain ⟨h3, h⟩ := chk_some h
    obtain ⟨o4, g5, h⟩ := ob_some h
    refine r_getR (fl_RX7_35 rfl) rfl dX7_washed_56 h3 g5 ?_
    obtain ⟨h6, h⟩ := chk_some h
    obtain ⟨o7, g8, h⟩ := ob_some h
    refine r_getR (fl_RX7_188 rfl) rfl dX7_washed_59 h6 g8 ?_
    refine r_iload_n dX7_washed_62 1 rfl ?_
    obtain ⟨h9, h⟩ := chk_some h
    obtain ⟨h10, h⟩ := chk_some h
    refine r_iaload dX7_washed_63 h9 h10 ?_
    refine r_if_ne (tgt := 69) dX7_washed_64 (by decide) (fun c11 => ?_) (fun c11 => ?_)
    · rw [if_neg c11] at h
      refine r_aload_n dX7_washed_69 0 rfl ?_
      refine r_getR (fl_RX7_35 rfl) rfl dX7_washed_70 h3 g5 ?_
      obtain ⟨q12, g13, h⟩ := ob_some h
      refine r_callV (d' := (7, 0, false)) (As := []) (st := []) mdv_X2_launder tm_RX7_294 (by decide) rfl rfl (by decide) rfl (Nat.le_refl _) (Nat.le_of_ble_eq_true rfl) rfl dX7_washed_73 h6 (ctX2_launder g13) (k_V0 ?_)
      refine r_iinc (v := (s.1 + 1)) dX7_washed_76 2 rfl rfl (Nat.le_of_ble_eq_true rfl) [(3, .int (s.1 + 1)), (0, .ref a0), (2, .int x2)] rfl ?_
      refine r_goto (tgt := 49) dX7_washed_79 (by decide) ?_
      rw [← Option.some.inj h] at hk
      refine r_sub [1, 2, 0] [(0, .ref a0), (2, .int x2), (3, .int (s.1 + 1))] rfl ?_
      exact hk
    · rw [if_pos c11] at h
      obtain ⟨r14, hr, h⟩ := wr_some h
      rw [hr] at hk
      refine r_iload_n dX7_washed_67 2 rfl ?_
      rw [← Option.some.inj h] at hk
      exact r_ireturn dX7_washed_68 rfl rfl hk
def fX7_washed_L49 (a0 : Nat) (x2 : Int32) (s : Int32 × Wd) : Option (Int32 × Wd) := it (fX7_washed_L49_body a0 x2) FU s
set_option maxHeartbeats 1000000 in
set_option maxRecDepth 20000 in
theorem okX7_washed_L49 {E : Ev} {Q : Option Value → Wd → Prop} {a0 : Nat} {x2 : Int32} {s : Int32 × Wd} {r : Int32 × Wd} (h : fX7_washed_L49 a0 x2 s = some r) (hk : (fun q : Int32 × Wd => Q (some (.int q.1)) q.2) r) : PX7_washed_L49 E Q a0 x2 s := it_runs (fun s r h hk => okX7_washed_L49_body h hk) FU s r h hk
def fX7_washed (a0 : Nat) (x1 : Int32) (x2 : Int32) (w : Wd) : Option (Int32 × Wd) :=
  chk (isO w a0 7) (ob (wR w a0 2) (fun o2 => chk (isO w o2 0) (ob (fX0_hasGarment o2 x1 w) (fun q5 => if q5.1 = 0 then (chk (isO q5.2 a0 7) (ob (fX7_refuseLower a0 (-1) q5.2) (fun q30 => some (q30.1, q30.2)))) else (ob (fX7_isHour x2 q5.2) (fun q8 => if q8.1 = 0 then (chk (isO q8.2 a0 7) (ob (fX7_refuseLower a0 (-6) q8.2) (fun q27 => some (q27.1, q27.2)))) else (chk (isO q8.2 a0 7) (ob (wR q8.2 a0 5) (fun o12 => ob (wR q8.2 a0 2) (fun o14 => chk (isO q8.2 o14 0) (ob (wR q8.2 o14 1) (fun o17 => chk (isA q8.2 o17 2) (chk (inb x1 (wn q8.2 o17)) (ob (wR q8.2 o17 (x1).toNatClampNeg) (fun o21 => chk (isO q8.2 o12 2) (ob (fX2_take o12 o21 q8.2) (fun q24 => fX7_washed_L49 a0 x2 (0, q24))))))))))))))))))
set_option maxHeartbeats 1000000 in
set_option maxRecDepth 20000 in
theorem okX7_washed {E : Ev} {Q : Option Value → Wd → Prop} {a0 : Nat} {x1 : Int32} {x2 : Int32} {w : Wd} {q : Int32 × Wd} (h : fX7_washed a0 x1 x2 w = some q) (hk : (fun q : Int32 × Wd => Q (some (.int q.1)) q.2) q) : Runs E mX7_washed (8, 0, false) Q 0 0 [(0, .ref a0), (1, .int x1), (2, .int x2)] [] w := by
  unfold fX7_washed at h
  refine r_aload_n dX7_washed_0 0 rfl ?_
  obtain ⟨h1, h⟩ := chk_some h
  obtain ⟨o2, g3, h⟩ := ob_some h
  refine r_getR (fl_RX7_22 rfl) rfl dX7_washed_1 h1 g3 ?_
  refine r_iload_n dX7_washed_4 1 rfl ?_
  obtain ⟨h4, h⟩ := chk_some h
  obtain ⟨q5, g6, h⟩ := ob_some h
  refine r_callV (d' := (7, 0, false)) (As := [.int x1]) (st := []) mdv_X0_hasGarment tm_RX7_121 (by decide) rfl rfl (by decide) rfl (Nat.le_refl _) (Nat.le_of_ble_eq_true rfl) rfl dX7_washed_5 h4 (ctX0_hasGarment g6) (k_I0 ?_)
  refine r_if_ne (tgt := 17) dX7_washed_8 (by decide) (fun c7 => ?_) (fun c7 => ?_)
  · rw [if_neg c7] at h
    refine r_iload_n dX7_washed_17 2 rfl ?_
    obtain ⟨q8, g9, h⟩ := ob_some h
    refine r_callS (d' := (7, 0, false)) (As := [.int x2]) (st := []) mds_X7_isHour tm_RX7_176 rfl (by decide) rfl (Nat.le_refl _) (Nat.le_of_ble_eq_true rfl) rfl dX7_washed_18 (ctX7_isHour g9) (k_I0 ?_)
    refine r_if_ne (tgt := 31) dX7_washed_21 (by decide) (fun c10 => ?_) (fun c10 => ?_)
    · rw [if_neg c10] at h
      refine r_aload_n dX7_washed_31 0 rfl ?_
      obtain ⟨h11, h⟩ := chk_some h
      obtain ⟨o12, g13, h⟩ := ob_some h
      refine r_getR (fl_RX7_35 rfl) rfl dX7_washed_32 h11 g13 ?_
      refine r_aload_n dX7_washed_35 0 rfl ?_
      obtain ⟨o14, g15, h⟩ := ob_some h
      refine r_getR (fl_RX7_22 rfl) rfl dX7_washed_36 h11 g15 ?_
      obtain ⟨h16, h⟩ := chk_some h
      obtain ⟨o17, g18, h⟩ := ob_some h
      refine r_getR (fl_RX7_137 rfl) rfl dX7_washed_39 h16 g18 ?_
      refine r_iload_n dX7_washed_42 1 rfl ?_
      obtain ⟨h19, h⟩ := chk_some h
      obtain ⟨h20, h⟩ := chk_some h
      obtain ⟨o21, g22, h⟩ := ob_some h
      refine r_aaload 2 (by decide) (by decide) dX7_washed_43 h19 h20 g22 ?_
      obtain ⟨h23, h⟩ := chk_some h
      obtain ⟨q24, g25, h⟩ := ob_some h
      refine r_callV (d' := (6, 0, false)) (As := [.ref o21]) (st := []) mdv_X2_take tm_RX7_291 (by decide) rfl rfl (by decide) rfl (Nat.le_refl _) (Nat.le_of_ble_eq_true rfl) rfl dX7_washed_44 h23 (ctX2_take g25) (k_V0 ?_)
      refine r_iconst (v := 0) dX7_washed_47 (by decide) ?_
      refine r_istore_n dX7_washed_48 rfl (Nat.le_of_ble_eq_true rfl) [(3, .int 0), (0, .ref a0), (1, .int x1), (2, .int x2)] rfl ?_
      refine r_sub [1, 3, 0] [(0, .ref a0), (2, .int x2), (3, .int 0)] rfl ?_
      exact okX7_washed_L49 h hk
    · rw [if_pos c10] at h
      refine r_aload_n dX7_washed_24 0 rfl ?_
      refine r_bipush (v := (-6)) dX7_washed_25 (by decide) ?_
      obtain ⟨h26, h⟩ := chk_some h
      obtain ⟨q27, g28, h⟩ := ob_some h
      refine r_callV (d' := (7, 0, false)) (As := [.int (-6)]) (st := []) mdv_X7_refuseLower tm_RX7_195 (by decide) rfl rfl (by decide) rfl (Nat.le_refl _) (Nat.le_of_ble_eq_true rfl) rfl dX7_washed_27 h26 (ctX7_refuseLower g28) (k_I0 ?_)
      rw [← Option.some.inj h] at hk
      exact r_ireturn dX7_washed_30 rfl rfl hk
  · rw [if_pos c7] at h
    refine r_aload_n dX7_washed_11 0 rfl ?_
    refine r_iconst (v := (-1)) dX7_washed_12 (by decide) ?_
    obtain ⟨h29, h⟩ := chk_some h
    obtain ⟨q30, g31, h⟩ := ob_some h
    refine r_callV (d' := (7, 0, false)) (As := [.int (-1)]) (st := []) mdv_X7_refuseLower tm_RX7_195 (by decide) rfl rfl (by decide) rfl (Nat.le_refl _) (Nat.le_of_ble_eq_true rfl) rfl dX7_washed_13 h29 (ctX7_refuseLower g31) (k_I0 ?_)
    rw [← Option.some.inj h] at hk
    exact r_ireturn dX7_washed_16 rfl rfl hk
set_option maxHeartbeats 1000000 in
set_option maxRecDepth 20000 in
theorem ctX7_washed {E : Ev} {a0 : Nat} {x1 : Int32} {x2 : Int32} {w : Wd} {q : Int32 × Wd} (h : fX7_washed a0 x1 x2 w = some q) : CT E mX7_washed (8, 0, false) [.ref a0, .int x1, .int x2] w (QI q) := CT.of pl_RX7 (Nat.le_of_ble_eq_true rfl) (okX7_washed h ⟨rfl, rfl⟩)
def PX7_watch_L23 (E : Ev) (Q : Option Value → Wd → Prop) (a0 : Nat) (s : Int32 × Int32 × Int32 × Wd) : Prop := Runs E mX7_watch (10, 0, false) Q 0 23 [(0, .ref a0), (1, .int s.1), (2, .int s.2.1), (3, .int s.2.2.1)] [] s.2.2.2
def fX7_watch_b50 (a0 : Nat) (x1 : Int32) (x2 : Int32) (x3 : Int32) (w : Wd) : Option ((Int32 × Int32 × Int32 × Wd) ⊕ (Int32 × Wd)) :=
  some (.inl (x1, x2, (x3 + 1), w))
set_option maxHeartbeats 1000000 in
set_option maxRecDepth 20000 in
theorem okX7_watch_b50 {E : Ev} {Q : Option Value → Wd → Prop} {a0 : Nat} {x1 : Int32} {x2 : Int32} {x3 : Int32} {w : Wd} {q : (Int32 × Int32 × Int32 × Wd) ⊕ (Int32 × Wd)} (h : fX7_watch_b50 a0 x1 x2 x3 w = some q) (hk : (Sum.elim (PX7_watch_L23 E Q a0) (fun q : Int32 × Wd => Q (some (.int q.1)) q.2)) q) : Runs E mX7_watch (10, 0, false) Q 0 50 [(0, .ref a0), (1, .int x1), (2, .int x2), (3, .int x3)] [] w := by
  unfold fX7_watch_b50 at h
  refine r_iinc (v := (x3 + 1)) dX7_watch_50 3 rfl rfl (Nat.le_of_ble_eq_true rfl) [(3, .int (x3 + 1)), (0, .ref a0), (1, .int x1), (2, .int x2)] rfl ?_
  refine r_goto (tgt := 23) dX7_watch_53 (by decide) ?_
  rw [← Option.some.inj h] at hk
  refine r_sub [1, 2, 3, 0] [(0, .ref a0), (1, .int x1), (2, .int x2), (3, .int (x3 + 1))] rfl ?_
  exact hk
def fX7_watch_L23_body (a0 : Nat) (s : Int32 × Int32 × Int32 × Wd) : Option ((Int32 × Int32 × Int32 × Wd) ⊕ (Int32 × Wd)) :=
  if (12 : Int32) ≤ s.2.2.1 then (wr (some (s.1, s.2.2.2))) else (chk (isO s.2.2.2 a0 7) (ob (wR s.2.2.2 a0 2) (fun o4 => chk (isO s.2.2.2 o4 0) (ob (fX0_unlikeDeeds o4 s.2.2.1 s.2.2.2) (fun q7 => if q7.1 ≤ s.2.1 then (fX7_watch_b50 a0 s.1 s.2.1 s.2.2.1 q7.2) else (fX7_watch_b50 a0 s.2.2.1 q7.1 s.2.2.1 q7.2))))))
set_option maxHeartbeats 1000000 in
set_option maxRecDepth 20000 in
theorem okX7_watch_L23_body {E : Ev} {Q : Option Value → Wd → Prop} {a0 : Nat} {s : Int32 × Int32 × Int32 × Wd} {r : (Int32 × Int32 × Int32 × Wd) ⊕ (Int32 × Wd)} (h : fX7_watch_L23_body a0 s = some r) (hk : (Sum.elim (PX7_watch_L23 E Q a0) (fun q : Int32 × Wd => Q (some (.int q.1)) q.2)) r) : PX7_watch_L23 E Q a0 s := by
  unfold fX7_watch_L23_body at h
  unfold PX7_watch_L23
  refine r_iload_n dX7_watch_23 3 rfl ?_
  refine r_bipush (v := 12) dX7_watch_24 (by decide) ?_
  refine r_icmp_ge (tgt := 56) dX7_watch_26 (by decide) (fun c1 => ?_) (fun c1 => ?_)
  · rw [if_pos c1] at h
    obtain ⟨r2, hr, h⟩ := wr_some h
    rw [hr] at hk
    refine r_iload_n dX7_watch_56 1 rfl ?_
    rw [← Option.some.inj h] at hk
    exact r_ireturn dX7_watch_57 rfl rfl hk
  · rw [if_neg c1] at h
    refine r_aload_n dX7_watch_29 0 rfl ?_
    obtain ⟨h3, h⟩ := chk_some h
    obtain ⟨o4, g5, h⟩ := ob_some h
    refine r_getR (fl_RX7_22 rfl) rfl dX7_watch_30 h3 g5 ?_
    refine r_iload_n dX7_watch_33 3 rfl ?_
    obtain ⟨h6, h⟩ := chk_some h
    obtain ⟨q7, g8, h⟩ := ob_some h
    refine r_callV (d' := (9, 0, false)) (As := [.int s.2.2.1]) (st := []) mdv_X0_unlikeDeeds tm_RX7_272 (by decide) rfl rfl (by decide) rfl (Nat.le_refl _) (Nat.le_of_ble_eq_true rfl) rfl dX7_watch_34 h6 (ctX0_unlikeDeeds g8) (k_I0 ?_)
    refine r_istore dX7_watch_37 (Nat.le_of_ble_eq_true rfl) [(4, .int q7.1), (0, .ref a0), (1, .int s.1), (2, .int s.2.1), (3, .int s.2.2.1)] rfl ?_
    refine r_iload dX7_watch_39 0 rfl ?_
    refine r_iload_n dX7_watch_41 3 rfl ?_
    refine r_icmp_le (tgt := 50) dX7_watch_42 (by decide) (fun c9 => ?_) (fun c9 => ?_)
    · rw [if_pos c9] at h
      refine r_sub [1, 2, 3, 4] [(0, .ref a0), (1, .int s.1), (2, .int s.2.1), (3, .int s.2.2.1)] rfl ?_
      exact okX7_watch_b50 h hk
    · rw [if_neg c9] at h
      refine r_iload dX7_watch_45 0 rfl ?_
      refine r_istore_n dX7_watch_47 rfl (Nat.le_of_ble_eq_true rfl) [(2, .int q7.1), (4, .int q7.1), (0, .ref a0), (1, .int s.1), (3, .int s.2.2.1)] rfl ?_
      refine r_iload_n dX7_watch_48 4 rfl ?_
      refine r_istore_n dX7_watch_49 rfl (Nat.le_of_ble_eq_true rfl) [(1, .int s.2.2.1), (2, .int q7.1), (4, .int q7.1), (0, .ref a0), (3, .int s.2.2.1)] rfl ?_
      refine r_sub [3, 0, 1, 4] [(0, .ref a0), (1, .int s.2.2.1), (2, .int q7.1), (3, .int s.2.2.1)] rfl ?_
      exact okX7_watch_b50 h hk
def fX7_watch_L23 (a0 : Nat) (s : Int32 × Int32 × Int32 × Wd) : Option (Int32 × Wd) := it (fX7_watch_L23_body a0) FU s
set_option maxHeartbeats 1000000 in
set_option maxRecDepth 20000 in
theorem okX7_watch_L23 {E : Ev} {Q : Option Value → Wd → Prop} {a0 : Nat} {s : Int32 × Int32 × Int32 × Wd} {r : Int32 × Wd} (h : fX7_watch_L23 a0 s = some r) (hk : (fun q : Int32 × Wd => Q (some (.int q.1)) q.2) r) : PX7_watch_L23 E Q a0 s := it_runs (fun s r h hk => okX7_watch_L23_body h hk) FU s r h hk
def fX7_watch (a0 : Nat) (w : Wd) : Option (Int32 × Wd) :=
  chk (isO w a0 7) (ob (wR w a0 2) (fun o2 => chk (isO w o2 0) (if (wI w o2 3) = 0 then (ob (fX7_refuse a0 (-5) w) (fun q6 => some (q6.1, q6.2))) else (fX7_watch_L23 a0 (0, 0, 0, w)))))
set_option maxHeartbeats 1000000 in
set_option maxRecDepth 20000 in
theorem okX7_watch {E : Ev} {Q : Option Value → Wd → Prop} {a0 : Nat} {w : Wd} {q : Int32 × Wd} (h : fX7_watch a0 w = some q) (hk : (fun q : Int32 × Wd => Q (some (.int q.1)) q.2) q) : Runs E mX7_watch (10, 0, false) Q 0 0 [(0, .ref a0)] [] w := by
  unfold fX7_watch at h
  refine r_aload_n dX7_watch_0 0 rfl ?_
  obtain ⟨h1, h⟩ := chk_some h
  obtain ⟨o2, g3, h⟩ := ob_some h
  refine r_getR (fl_RX7_22 rfl) rfl dX7_watch_1 h1 g3 ?_
  obtain ⟨h4, h⟩ := chk_some h
  refine r_getI (fl_RX7_262 rfl) rfl dX7_watch_4 h4 ?_
  refine r_if_ne (tgt := 17) dX7_watch_7 (by decide) (fun c5 => ?_) (fun c5 => ?_)
  · rw [if_neg c5] at h
    refine r_iconst (v := 0) dX7_watch_17 (by decide) ?_
    refine r_istore_n dX7_watch_18 rfl (Nat.le_of_ble_eq_true rfl) [(1, .int 0), (0, .ref a0)] rfl ?_
    refine r_iconst (v := 0) dX7_watch_19 (by decide) ?_
    refine r_istore_n dX7_watch_20 rfl (Nat.le_of_ble_eq_true rfl) [(2, .int 0), (1, .int 0), (0, .ref a0)] rfl ?_
    refine r_iconst (v := 0) dX7_watch_21 (by decide) ?_
    refine r_istore_n dX7_watch_22 rfl (Nat.le_of_ble_eq_true rfl) [(3, .int 0), (2, .int 0), (1, .int 0), (0, .ref a0)] rfl ?_
    refine r_sub [3, 2, 1, 0] [(0, .ref a0), (1, .int 0), (2, .int 0), (3, .int 0)] rfl ?_
    exact okX7_watch_L23 h hk
  · rw [if_pos c5] at h
    refine r_aload_n dX7_watch_10 0 rfl ?_
    refine r_bipush (v := (-5)) dX7_watch_11 (by decide) ?_
    obtain ⟨q6, g7, h⟩ := ob_some h
    refine r_callV (d' := (6, 0, false)) (As := [.int (-5)]) (st := []) mdv_X7_refuse tm_RX7_73 (by decide) rfl rfl (by decide) rfl (Nat.le_refl _) (Nat.le_of_ble_eq_true rfl) rfl dX7_watch_13 h1 (ctX7_refuse g7) (k_I0 ?_)
    rw [← Option.some.inj h] at hk
    exact r_ireturn dX7_watch_16 rfl rfl hk
set_option maxHeartbeats 1000000 in
set_option maxRecDepth 20000 in
theorem ctX7_watch {E : Ev} {a0 : Nat} {w : Wd} {q : Int32 × Wd} (h : fX7_watch a0 w = some q) : CT E mX7_watch (10, 0, false) [.ref a0] w (QI q) := CT.of pl_RX7 (Nat.le_of_ble_eq_true rfl) (okX7_watch h ⟨rfl, rfl⟩)
def fX7_wear_b27 (a0 : Nat) (w : Wd) : Option (Int32 × Wd) :=
  chk (isO w a0 7) (ob (fX7_refuseLower a0 (-1) w) (fun q2 => some (q2.1, q2.2)))
set_option maxHeartbeats 1000000 in
set_option maxRecDepth 20000 in
theorem okX7_wear_b27 {E : Ev} {Q : Option Value → Wd → Prop} {a0 : Nat} {w : Wd} {q : Int32 × Wd} (h : fX7_wear_b27 a0 w = some q) (hk : (fun q : Int32 × Wd => Q (some (.int q.1)) q.2) q) : Runs E mX7_wear (8, 0, false) Q 0 27 [(0, .ref a0)] [] w := by
  unfold fX7_wear_b27 at h
  refine r_aload_n dX7_wear_27 0 rfl ?_
  refine r_iconst (v := (-1)) dX7_wear_28 (by decide) ?_
  obtain ⟨h1, h⟩ := chk_some h
  obtain ⟨q2, g3, h⟩ := ob_some h
  refine r_callV (d' := (7, 0, false)) (As := [.int (-1)]) (st := []) mdv_X7_refuseLower tm_RX7_195 (by decide) rfl rfl (by decide) rfl (Nat.le_refl _) (Nat.le_of_ble_eq_true rfl) rfl dX7_wear_29 h1 (ctX7_refuseLower g3) (k_I0 ?_)
  rw [← Option.some.inj h] at hk
  exact r_ireturn dX7_wear_32 rfl rfl hk
def fX7_wear_b33 (a0 : Nat) (x1 : Int32) (x2 : Int32) (w : Wd) : Option (Int32 × Wd) :=
  chk (isO w a0 7) (ob (wR w a0 2) (fun o2 => chk (isO w o2 0) (ob (wR w o2 1) (fun o5 => chk (isA w o5 2) (chk (inb x1 (wn w o5)) (ob (wR w o5 (x1).toNatClampNeg) (fun o9 => chk (isO w o9 2) (bnd (wI w o9 4) (fun u12 => bnd (sI w o9 4 x2) (fun w14 => some (u12, w14)))))))))))
set_option maxHeartbeats 1000000 in
set_option maxRecDepth 20000 in
theorem okX7_wear_b33 {E : Ev} {Q : Option Value → Wd → Prop} {a0 : Nat} {x1 : Int32} {x2 : Int32} {w : Wd} {q : Int32 × Wd} (h : fX7_wear_b33 a0 x1 x2 w = some q) (hk : (fun q : Int32 × Wd => Q (some (.int q.1)) q.2) q) : Runs E mX7_wear (8, 0, false) Q 0 33 [(0, .ref a0), (1, .int x1), (2, .int x2)] [] w := by
  unfold fX7_wear_b33 at h
  refine r_aload_n dX7_wear_33 0 rfl ?_
  obtain ⟨h1, h⟩ := chk_some h
  obtain ⟨o2, g3, h⟩ := ob_some h
  refine r_getR (fl_RX7_22 rfl) rfl dX7_wear_34 h1 g3 ?_
  obtain ⟨h4, h⟩ := chk_some h
  obtain ⟨o5, g6, h⟩ := ob_some h
  refine r_getR (fl_RX7_137 rfl) rfl dX7_wear_37 h4 g6 ?_
  refine r_iload_n dX7_wear_40 1 rfl ?_
  obtain ⟨h7, h⟩ := chk_some h
  obtain ⟨h8, h⟩ := chk_some h
  obtain ⟨o9, g10, h⟩ := ob_some h
  refine r_aaload 2 (by decide) (by decide) dX7_wear_41 h7 h8 g10 ?_
  obtain ⟨h11, h⟩ := chk_some h
  refine r_getI (fl_RX7_198 rfl) rfl dX7_wear_42 h11 ?_
  obtain ⟨u12, e13, h⟩ := bnd_some h
  refine r_eqI e13 ?_
  refine r_istore_n dX7_wear_45 rfl (Nat.le_of_ble_eq_true rfl) [(3, .int u12), (0, .ref a0), (1, .int x1), (2, .int x2)] rfl ?_
  refine r_aload_n dX7_wear_46 1 rfl ?_
  refine r_getR (fl_RX7_22 rfl) rfl dX7_wear_47 h1 g3 ?_
  refine r_getR (fl_RX7_137 rfl) rfl dX7_wear_50 h4 g6 ?_
  refine r_iload_n dX7_wear_53 2 rfl ?_
  refine r_aaload 2 (by decide) (by decide) dX7_wear_54 h7 h8 g10 ?_
  refine r_iload_n dX7_wear_55 3 rfl ?_
  obtain ⟨w14, e15, h⟩ := bnd_some h
  refine r_putI (fl_RX7_198 rfl) rfl rfl (ck_ty (by decide) 4 (by decide)) rfl rfl dX7_wear_56 h11 ?_
  refine r_eqW e15 ?_
  refine r_iload_n dX7_wear_59 0 rfl ?_
  rw [← Option.some.inj h] at hk
  exact r_ireturn dX7_wear_60 rfl rfl hk
def fX7_wear (a0 : Nat) (x1 : Int32) (x2 : Int32) (w : Wd) : Option (Int32 × Wd) :=
  chk (isO w a0 7) (ob (wR w a0 2) (fun o2 => chk (isO w o2 0) (ob (fX0_hasGarment o2 x1 w) (fun q5 => if q5.1 = 0 then (fX7_wear_b27 a0 q5.2) else (if x2 = (-1) then (fX7_wear_b33 a0 x1 x2 q5.2) else (chk (isO q5.2 a0 7) (ob (wR q5.2 a0 2) (fun o10 => chk (isO q5.2 o10 0) (ob (fX0_hasPerson o10 x2 q5.2) (fun q13 => if q13.1 = 0 then (fX7_wear_b27 a0 q13.2) else (fX7_wear_b33 a0 x1 x2 q13.2)))))))))))
set_option maxHeartbeats 1000000 in
set_option maxRecDepth 20000 in
theorem okX7_wear {E : Ev} {Q : Option Value → Wd → Prop} {a0 : Nat} {x1 : Int32} {x2 : Int32} {w : Wd} {q : Int32 × Wd} (h : fX7_wear a0 x1 x2 w = some q) (hk : (fun q : Int32 × Wd => Q (some (.int q.1)) q.2) q) : Runs E mX7_wear (8, 0, false) Q 0 0 [(0, .ref a0), (1, .int x1), (2, .int x2)] [] w := by
  unfold fX7_wear at h
  refine r_aload_n dX7_wear_0 0 rfl ?_
  obtain ⟨h1, h⟩ := chk_some h
  obtain ⟨o2, g3, h⟩ := ob_some h
  refine r_getR (fl_RX7_22 rfl) rfl dX7_wear_1 h1 g3 ?_
  refine r_iload_n dX7_wear_4 1 rfl ?_
  obtain ⟨h4, h⟩ := chk_some h
  obtain ⟨q5, g6, h⟩ := ob_some h
  refine r_callV (d' := (7, 0, false)) (As := [.int x1]) (st := []) mdv_X0_hasGarment tm_RX7_121 (by decide) rfl rfl (by decide) rfl (Nat.le_refl _) (Nat.le_of_ble_eq_true rfl) rfl dX7_wear_5 h4 (ctX0_hasGarment g6) (k_I0 ?_)
  refine r_if_eq (tgt := 27) dX7_wear_8 (by decide) (fun c7 => ?_) (fun c7 => ?_)
  · rw [if_pos c7] at h
    refine r_sub [0] [(0, .ref a0)] rfl ?_
    exact okX7_wear_b27 h hk
  · rw [if_neg c7] at h
    refine r_iload_n dX7_wear_11 2 rfl ?_
    refine r_iconst (v := (-1)) dX7_wear_12 (by decide) ?_
    refine r_icmp_eq (tgt := 33) dX7_wear_13 (by decide) (fun c8 => ?_) (fun c8 => ?_)
    · rw [if_pos c8] at h
      refine r_sub [0, 1, 2] [(0, .ref a0), (1, .int x1), (2, .int x2)] rfl ?_
      exact okX7_wear_b33 h hk
    · rw [if_neg c8] at h
      refine r_aload_n dX7_wear_16 0 rfl ?_
      obtain ⟨h9, h⟩ := chk_some h
      obtain ⟨o10, g11, h⟩ := ob_some h
      refine r_getR (fl_RX7_22 rfl) rfl dX7_wear_17 h9 g11 ?_
      refine r_iload_n dX7_wear_20 2 rfl ?_
      obtain ⟨h12, h⟩ := chk_some h
      obtain ⟨q13, g14, h⟩ := ob_some h
      refine r_callV (d' := (7, 0, false)) (As := [.int x2]) (st := []) mdv_X0_hasPerson tm_RX7_173 (by decide) rfl rfl (by decide) rfl (Nat.le_refl _) (Nat.le_of_ble_eq_true rfl) rfl dX7_wear_21 h12 (ctX0_hasPerson g14) (k_I0 ?_)
      refine r_if_ne (tgt := 33) dX7_wear_24 (by decide) (fun c15 => ?_) (fun c15 => ?_)
      · rw [if_neg c15] at h
        refine r_sub [0, 1, 2] [(0, .ref a0), (1, .int x1), (2, .int x2)] rfl ?_
        exact okX7_wear_b33 h hk
      · rw [if_pos c15] at h
        refine r_sub [0] [(0, .ref a0)] rfl ?_
        exact okX7_wear_b27 h hk
set_option maxHeartbeats 1000000 in
set_option maxRecDepth 20000 in
theorem ctX7_wear {E : Ev} {a0 : Nat} {x1 : Int32} {x2 : Int32} {w : Wd} {q : Int32 × Wd} (h : fX7_wear a0 x1 x2 w = some q) : CT E mX7_wear (8, 0, false) [.ref a0, .int x1, .int x2] w (QI q) := CT.of pl_RX7 (Nat.le_of_ble_eq_true rfl) (okX7_wear h ⟨rfl, rfl⟩)
def fX7_whose_b27 (s0 : Int32) (w : Wd) : Option (Int32 × Wd) :=
  some (s0, w)
set_option maxHeartbeats 1000000 in
set_option maxRecDepth 20000 in
theorem okX7_whose_b27 {E : Ev} {Q : Option Value → Wd → Prop} {s0 : Int32} {w : Wd} {q : Int32 × Wd} (h : fX7_whose_b27 s0 w = some q) (hk : (fun q : Int32 × Wd => Q (some (.int q.1)) q.2) q) : Runs E mX7_whose (8, 0, false) Q 0 27 [] [.int s0] w := by
  unfold fX7_whose_b27 at h
  rw [← Option.some.inj h] at hk
  exact r_ireturn dX7_whose_27 rfl rfl hk
def fX7_whose (a0 : Nat) (x1 : Int32) (w : Wd) : Option (Int32 × Wd) :=
  chk (isO w a0 7) (ob (wR w a0 2) (fun o2 => chk (isO w o2 0) (ob (fX0_hasGarment o2 x1 w) (fun q5 => if q5.1 = 0 then (chk (isO q5.2 a0 7) (ob (fX7_refuseLower a0 (-1) q5.2) (fun q9 => fX7_whose_b27 q9.1 q9.2))) else (chk (isO q5.2 a0 7) (ob (wR q5.2 a0 2) (fun o12 => chk (isO q5.2 o12 0) (ob (fX0_mostLike o12 x1 q5.2) (fun q15 => fX7_whose_b27 q15.1 q15.2)))))))))
set_option maxHeartbeats 1000000 in
set_option maxRecDepth 20000 in
theorem okX7_whose {E : Ev} {Q : Option Value → Wd → Prop} {a0 : Nat} {x1 : Int32} {w : Wd} {q : Int32 × Wd} (h : fX7_whose a0 x1 w = some q) (hk : (fun q : Int32 × Wd => Q (some (.int q.1)) q.2) q) : Runs E mX7_whose (8, 0, false) Q 0 0 [(0, .ref a0), (1, .int x1)] [] w := by
  unfold fX7_whose at h
  refine r_aload_n dX7_whose_0 0 rfl ?_
  obtain ⟨h1, h⟩ := chk_some h
  obtain ⟨o2, g3, h⟩ := ob_some h
  refine r_getR (fl_RX7_22 rfl) rfl dX7_whose_1 h1 g3 ?_
  refine r_iload_n dX7_whose_4 1 rfl ?_
  obtain ⟨h4, h⟩ := chk_some h
  obtain ⟨q5, g6, h⟩ := ob_some h
  refine r_callV (d' := (7, 0, false)) (As := [.int x1]) (st := []) mdv_X0_hasGarment tm_RX7_121 (by decide) rfl rfl (by decide) rfl (Nat.le_refl _) (Nat.le_of_ble_eq_true rfl) rfl dX7_whose_5 h4 (ctX0_hasGarment g6) (k_I0 ?_)
  refine r_if_eq (tgt := 22) dX7_whose_8 (by decide) (fun c7 => ?_) (fun c7 => ?_)
  · rw [if_pos c7] at h
    refine r_aload_n dX7_whose_22 0 rfl ?_
    refine r_iconst (v := (-1)) dX7_whose_23 (by decide) ?_
    obtain ⟨h8, h⟩ := chk_some h
    obtain ⟨q9, g10, h⟩ := ob_some h
    refine r_callV (d' := (7, 0, false)) (As := [.int (-1)]) (st := []) mdv_X7_refuseLower tm_RX7_195 (by decide) rfl rfl (by decide) rfl (Nat.le_refl _) (Nat.le_of_ble_eq_true rfl) rfl dX7_whose_24 h8 (ctX7_refuseLower g10) (k_I0 ?_)
    refine r_sub [] [] rfl ?_
    exact okX7_whose_b27 h hk
  · rw [if_neg c7] at h
    refine r_aload_n dX7_whose_11 0 rfl ?_
    obtain ⟨h11, h⟩ := chk_some h
    obtain ⟨o12, g13, h⟩ := ob_some h
    refine r_getR (fl_RX7_22 rfl) rfl dX7_whose_12 h11 g13 ?_
    refine r_iload_n dX7_whose_15 1 rfl ?_
    obtain ⟨h14, h⟩ := chk_some h
    obtain ⟨q15, g16, h⟩ := ob_some h
    refine r_callV (d' := (7, 0, false)) (As := [.int x1]) (st := []) mdv_X0_mostLike tm_RX7_256 (by decide) rfl rfl (by decide) rfl (Nat.le_refl _) (Nat.le_of_ble_eq_true rfl) rfl dX7_whose_16 h14 (ctX0_mostLike g16) (k_I0 ?_)
    refine r_goto (tgt := 27) dX7_whose_19 (by decide) ?_
    refine r_sub [] [] rfl ?_
    exact okX7_whose_b27 h hk
set_option maxHeartbeats 1000000 in
set_option maxRecDepth 20000 in
theorem ctX7_whose {E : Ev} {a0 : Nat} {x1 : Int32} {w : Wd} {q : Int32 × Wd} (h : fX7_whose a0 x1 w = some q) : CT E mX7_whose (8, 0, false) [.ref a0, .int x1] w (QI q) := CT.of pl_RX7 (Nat.le_of_ble_eq_true rfl) (okX7_whose h ⟨rfl, rfl⟩)
def fX7_will (a0 : Nat) (x1 : Int32) (x2 : Int32) (w : Wd) : Option (Int32 × Wd) :=
  chk (isO w a0 7) (ob (wR w a0 2) (fun o2 => chk (isO w o2 0) (ob (fX0_hasPerson o2 x1 w) (fun q5 => if q5.1 = 0 then (chk (isO q5.2 a0 7) (ob (fX7_refuse a0 (-1) q5.2) (fun q30 => some (q30.1, q30.2)))) else (ob (fX7_isDigit x2 q5.2) (fun q8 => if q8.1 = 0 then (chk (isO q8.2 a0 7) (ob (fX7_refuse a0 (-6) q8.2) (fun q27 => some (q27.1, q27.2)))) else (chk (isO q8.2 a0 7) (ob (wR q8.2 a0 2) (fun o12 => chk (isO q8.2 o12 0) (ob (wR q8.2 o12 0) (fun o15 => chk (isA q8.2 o15 3) (chk (inb x1 (wn q8.2 o15)) (ob (wR q8.2 o15 (x1).toNatClampNeg) (fun o19 => chk (isO q8.2 o19 4) (bnd (wI q8.2 o19 1) (fun u22 => bnd (sI q8.2 o19 1 x2) (fun w24 => some (u22, w24))))))))))))))))))
set_option maxHeartbeats 1000000 in
set_option maxRecDepth 20000 in
theorem okX7_will {E : Ev} {Q : Option Value → Wd → Prop} {a0 : Nat} {x1 : Int32} {x2 : Int32} {w : Wd} {q : Int32 × Wd} (h : fX7_will a0 x1 x2 w = some q) (hk : (fun q : Int32 × Wd => Q (some (.int q.1)) q.2) q) : Runs E mX7_will (8, 0, false) Q 0 0 [(0, .ref a0), (1, .int x1), (2, .int x2)] [] w := by
  unfold fX7_will at h
  refine r_aload_n dX7_will_0 0 rfl ?_
  obtain ⟨h1, h⟩ := chk_some h
  obtain ⟨o2, g3, h⟩ := ob_some h
  refine r_getR (fl_RX7_22 rfl) rfl dX7_will_1 h1 g3 ?_
  refine r_iload_n dX7_will_4 1 rfl ?_
  obtain ⟨h4, h⟩ := chk_some h
  obtain ⟨q5, g6, h⟩ := ob_some h
  refine r_callV (d' := (7, 0, false)) (As := [.int x1]) (st := []) mdv_X0_hasPerson tm_RX7_173 (by decide) rfl rfl (by decide) rfl (Nat.le_refl _) (Nat.le_of_ble_eq_true rfl) rfl dX7_will_5 h4 (ctX0_hasPerson g6) (k_I0 ?_)
  refine r_if_ne (tgt := 17) dX7_will_8 (by decide) (fun c7 => ?_) (fun c7 => ?_)
  · rw [if_neg c7] at h
    refine r_iload_n dX7_will_17 2 rfl ?_
    obtain ⟨q8, g9, h⟩ := ob_some h
    refine r_callS (d' := (7, 0, false)) (As := [.int x2]) (st := []) mds_X7_isDigit tm_RX7_158 rfl (by decide) rfl (Nat.le_refl _) (Nat.le_of_ble_eq_true rfl) rfl dX7_will_18 (ctX7_isDigit g9) (k_I0 ?_)
    refine r_if_ne (tgt := 31) dX7_will_21 (by decide) (fun c10 => ?_) (fun c10 => ?_)
    · rw [if_neg c10] at h
      refine r_aload_n dX7_will_31 0 rfl ?_
      obtain ⟨h11, h⟩ := chk_some h
      obtain ⟨o12, g13, h⟩ := ob_some h
      refine r_getR (fl_RX7_22 rfl) rfl dX7_will_32 h11 g13 ?_
      obtain ⟨h14, h⟩ := chk_some h
      obtain ⟨o15, g16, h⟩ := ob_some h
      refine r_getR (fl_RX7_179 rfl) rfl dX7_will_35 h14 g16 ?_
      refine r_iload_n dX7_will_38 1 rfl ?_
      obtain ⟨h17, h⟩ := chk_some h
      obtain ⟨h18, h⟩ := chk_some h
      obtain ⟨o19, g20, h⟩ := ob_some h
      refine r_aaload 3 (by decide) (by decide) dX7_will_39 h17 h18 g20 ?_
      obtain ⟨h21, h⟩ := chk_some h
      refine r_getI (fl_RX7_201 rfl) rfl dX7_will_40 h21 ?_
      obtain ⟨u22, e23, h⟩ := bnd_some h
      refine r_eqI e23 ?_
      refine r_istore_n dX7_will_43 rfl (Nat.le_of_ble_eq_true rfl) [(3, .int u22), (0, .ref a0), (1, .int x1), (2, .int x2)] rfl ?_
      refine r_aload_n dX7_will_44 1 rfl ?_
      refine r_getR (fl_RX7_22 rfl) rfl dX7_will_45 h11 g13 ?_
      refine r_getR (fl_RX7_179 rfl) rfl dX7_will_48 h14 g16 ?_
      refine r_iload_n dX7_will_51 2 rfl ?_
      refine r_aaload 3 (by decide) (by decide) dX7_will_52 h17 h18 g20 ?_
      refine r_iload_n dX7_will_53 3 rfl ?_
      obtain ⟨w24, e25, h⟩ := bnd_some h
      refine r_putI (fl_RX7_201 rfl) rfl rfl (ck_ty (by decide) 1 (by decide)) rfl rfl dX7_will_54 h21 ?_
      refine r_eqW e25 ?_
      refine r_iload_n dX7_will_57 0 rfl ?_
      rw [← Option.some.inj h] at hk
      exact r_ireturn dX7_will_58 rfl rfl hk
    · rw [if_pos c10] at h
      refine r_aload_n dX7_will_24 0 rfl ?_
      refine r_bipush (v := (-6)) dX7_will_25 (by decide) ?_
      obtain ⟨h26, h⟩ := chk_some h
      obtain ⟨q27, g28, h⟩ := ob_some h
      refine r_callV (d' := (6, 0, false)) (As := [.int (-6)]) (st := []) mdv_X7_refuse tm_RX7_73 (by decide) rfl rfl (by decide) rfl (Nat.le_refl _) (Nat.le_of_ble_eq_true rfl) rfl dX7_will_27 h26 (ctX7_refuse g28) (k_I0 ?_)
      rw [← Option.some.inj h] at hk
      exact r_ireturn dX7_will_30 rfl rfl hk
  · rw [if_pos c7] at h
    refine r_aload_n dX7_will_11 0 rfl ?_
    refine r_iconst (v := (-1)) dX7_will_12 (by decide) ?_
    obtain ⟨h29, h⟩ := chk_some h
    obtain ⟨q30, g31, h⟩ := ob_some h
    refine r_callV (d' := (6, 0, false)) (As := [.int (-1)]) (st := []) mdv_X7_refuse tm_RX7_73 (by decide) rfl rfl (by decide) rfl (Nat.le_refl _) (Nat.le_of_ble_eq_true rfl) rfl dX7_will_13 h29 (ctX7_refuse g31) (k_I0 ?_)
    rw [← Option.some.inj h] at hk
    exact r_ireturn dX7_will_16 rfl rfl hk
set_option maxHeartbeats 1000000 in
set_option maxRecDepth 20000 in
theorem ctX7_will {E : Ev} {a0 : Nat} {x1 : Int32} {x2 : Int32} {w : Wd} {q : Int32 × Wd} (h : fX7_will a0 x1 x2 w = some q) : CT E mX7_will (8, 0, false) [.ref a0, .int x1, .int x2] w (QI q) := CT.of pl_RX7 (Nat.le_of_ble_eq_true rfl) (okX7_will h ⟨rfl, rfl⟩)
def PX7_wins_L21 (E : Ev) (Q : Option Value → Wd → Prop) (a0 : Nat) (x1 : Int32) (s : Int32 × Int32 × Wd) : Prop := Runs E mX7_wins (9, 0, false) Q 0 21 [(0, .ref a0), (1, .int x1), (2, .int s.1), (3, .int s.2.1)] [] s.2.2
def fX7_wins_b56 (a0 : Nat) (x1 : Int32) (x2 : Int32) (x3 : Int32) (w : Wd) : Option ((Int32 × Int32 × Wd) ⊕ (Int32 × Wd)) :=
  some (.inl (x2, (x3 + 1), w))
set_option maxHeartbeats 1000000 in
set_option maxRecDepth 20000 in
theorem okX7_wins_b56 {E : Ev} {Q : Option Value → Wd → Prop} {a0 : Nat} {x1 : Int32} {x2 : Int32} {x3 : Int32} {w : Wd} {q : (Int32 × Int32 × Wd) ⊕ (Int32 × Wd)} (h : fX7_wins_b56 a0 x1 x2 x3 w = some q) (hk : (Sum.elim (PX7_wins_L21 E Q a0 x1) (fun q : Int32 × Wd => Q (some (.int q.1)) q.2)) q) : Runs E mX7_wins (9, 0, false) Q 0 56 [(0, .ref a0), (1, .int x1), (2, .int x2), (3, .int x3)] [] w := by
  unfold fX7_wins_b56 at h
  refine r_iinc (v := (x3 + 1)) dX7_wins_56 3 rfl rfl (Nat.le_of_ble_eq_true rfl) [(3, .int (x3 + 1)), (0, .ref a0), (1, .int x1), (2, .int x2)] rfl ?_
  refine r_goto (tgt := 21) dX7_wins_59 (by decide) ?_
  rw [← Option.some.inj h] at hk
  refine r_sub [1, 2, 3, 0] [(0, .ref a0), (1, .int x1), (2, .int x2), (3, .int (x3 + 1))] rfl ?_
  exact hk
def fX7_wins_L21_body (a0 : Nat) (x1 : Int32) (s : Int32 × Int32 × Wd) : Option ((Int32 × Int32 × Wd) ⊕ (Int32 × Wd)) :=
  if (12 : Int32) ≤ s.2.1 then (wr (some (s.1, s.2.2))) else (chk (isO s.2.2 a0 7) (ob (wR s.2.2 a0 2) (fun o4 => chk (isO s.2.2 o4 0) (ob (fX0_deedOf o4 x1 s.2.1 s.2.2) (fun q7 => chk (isO q7.2 a0 7) (ob (wR q7.2 a0 2) (fun o10 => chk (isO q7.2 o10 0) (ob (wR q7.2 o10 0) (fun o13 => chk (isA q7.2 o13 3) (chk (inb x1 (wn q7.2 o13)) (ob (wR q7.2 o13 (x1).toNatClampNeg) (fun o17 => chk (isO q7.2 o17 4) (ob (wR q7.2 o17 0) (fun o20 => chk (isA q7.2 o20 0) (chk (inb s.2.1 (wn q7.2 o20)) (if q7.1 = (wI q7.2 o20 (s.2.1).toNatClampNeg) then (fX7_wins_b56 a0 x1 s.1 s.2.1 q7.2) else (fX7_wins_b56 a0 x1 (s.1 + 1) s.2.1 q7.2)))))))))))))))))
set_option maxHeartbeats 1000000 in
set_option maxRecDepth 20000 in
theorem okX7_wins_L21_body {E : Ev} {Q : Option Value → Wd → Prop} {a0 : Nat} {x1 : Int32} {s : Int32 × Int32 × Wd} {r : (Int32 × Int32 × Wd) ⊕ (Int32 × Wd)} (h : fX7_wins_L21_body a0 x1 s = some r) (hk : (Sum.elim (PX7_wins_L21 E Q a0 x1) (fun q : Int32 × Wd => Q (some (.int q.1)) q.2)) r) : PX7_wins_L21 E Q a0 x1 s := by
  unfold fX7_wins_L21_body at h
  unfold PX7_wins_L21
  refine r_iload_n dX7_wins_21 3 rfl ?_
  refine r_bipush (v := 12) dX7_wins_22 (by decide) ?_
  refine r_icmp_ge (tgt := 62) dX7_wins_24 (by decide) (fun c1 => ?_) (fun c1 => ?_)
  · rw [if_pos c1] at h
    obtain ⟨r2, hr, h⟩ := wr_some h
    rw [hr] at hk
    refine r_iload_n dX7_wins_62 2 rfl ?_
    rw [← Option.some.inj h] at hk
    exact r_ireturn dX7_wins_63 rfl rfl hk
  · rw [if_neg c1] at h
    refine r_aload_n dX7_wins_27 0 rfl ?_
    obtain ⟨h3, h⟩ := chk_some h
    obtain ⟨o4, g5, h⟩ := ob_some h
    refine r_getR (fl_RX7_22 rfl) rfl dX7_wins_28 h3 g5 ?_
    refine r_iload_n dX7_wins_31 1 rfl ?_
    refine r_iload_n dX7_wins_32 3 rfl ?_
    obtain ⟨h6, h⟩ := chk_some h
    obtain ⟨q7, g8, h⟩ := ob_some h
    refine r_callV (d' := (8, 0, false)) (As := [.int x1, .int s.2.1]) (st := []) mdv_X0_deedOf tm_RX7_236 (by decide) rfl rfl (by decide) rfl (Nat.le_refl _) (Nat.le_of_ble_eq_true rfl) rfl dX7_wins_33 h6 (ctX0_deedOf g8) (k_I0 ?_)
    refine r_aload_n dX7_wins_36 0 rfl ?_
    obtain ⟨h9, h⟩ := chk_some h
    obtain ⟨o10, g11, h⟩ := ob_some h
    refine r_getR (fl_RX7_22 rfl) rfl dX7_wins_37 h9 g11 ?_
    obtain ⟨h12, h⟩ := chk_some h
    obtain ⟨o13, g14, h⟩ := ob_some h
    refine r_getR (fl_RX7_179 rfl) rfl dX7_wins_40 h12 g14 ?_
    refine r_iload_n dX7_wins_43 1 rfl ?_
    obtain ⟨h15, h⟩ := chk_some h
    obtain ⟨h16, h⟩ := chk_some h
    obtain ⟨o17, g18, h⟩ := ob_some h
    refine r_aaload 3 (by decide) (by decide) dX7_wins_44 h15 h16 g18 ?_
    obtain ⟨h19, h⟩ := chk_some h
    obtain ⟨o20, g21, h⟩ := ob_some h
    refine r_getR (fl_RX7_183 rfl) rfl dX7_wins_45 h19 g21 ?_
    refine r_iload_n dX7_wins_48 3 rfl ?_
    obtain ⟨h22, h⟩ := chk_some h
    obtain ⟨h23, h⟩ := chk_some h
    refine r_iaload dX7_wins_49 h22 h23 ?_
    refine r_icmp_eq (tgt := 56) dX7_wins_50 (by decide) (fun c24 => ?_) (fun c24 => ?_)
    · rw [if_pos c24] at h
      refine r_sub [0, 1, 2, 3] [(0, .ref a0), (1, .int x1), (2, .int s.1), (3, .int s.2.1)] rfl ?_
      exact okX7_wins_b56 h hk
    · rw [if_neg c24] at h
      refine r_iinc (v := (s.1 + 1)) dX7_wins_53 2 rfl rfl (Nat.le_of_ble_eq_true rfl) [(2, .int (s.1 + 1)), (0, .ref a0), (1, .int x1), (3, .int s.2.1)] rfl ?_
      refine r_sub [1, 2, 0, 3] [(0, .ref a0), (1, .int x1), (2, .int (s.1 + 1)), (3, .int s.2.1)] rfl ?_
      exact okX7_wins_b56 h hk
def fX7_wins_L21 (a0 : Nat) (x1 : Int32) (s : Int32 × Int32 × Wd) : Option (Int32 × Wd) := it (fX7_wins_L21_body a0 x1) FU s
set_option maxHeartbeats 1000000 in
set_option maxRecDepth 20000 in
theorem okX7_wins_L21 {E : Ev} {Q : Option Value → Wd → Prop} {a0 : Nat} {x1 : Int32} {s : Int32 × Int32 × Wd} {r : Int32 × Wd} (h : fX7_wins_L21 a0 x1 s = some r) (hk : (fun q : Int32 × Wd => Q (some (.int q.1)) q.2) r) : PX7_wins_L21 E Q a0 x1 s := it_runs (fun s r h hk => okX7_wins_L21_body h hk) FU s r h hk
def fX7_wins (a0 : Nat) (x1 : Int32) (w : Wd) : Option (Int32 × Wd) :=
  chk (isO w a0 7) (ob (wR w a0 2) (fun o2 => chk (isO w o2 0) (ob (fX0_hasPerson o2 x1 w) (fun q5 => if q5.1 = 0 then (chk (isO q5.2 a0 7) (ob (fX7_refuse a0 (-1) q5.2) (fun q9 => some (q9.1, q9.2)))) else (fX7_wins_L21 a0 x1 (0, 0, q5.2))))))
set_option maxHeartbeats 1000000 in
set_option maxRecDepth 20000 in
theorem okX7_wins {E : Ev} {Q : Option Value → Wd → Prop} {a0 : Nat} {x1 : Int32} {w : Wd} {q : Int32 × Wd} (h : fX7_wins a0 x1 w = some q) (hk : (fun q : Int32 × Wd => Q (some (.int q.1)) q.2) q) : Runs E mX7_wins (9, 0, false) Q 0 0 [(0, .ref a0), (1, .int x1)] [] w := by
  unfold fX7_wins at h
  refine r_aload_n dX7_wins_0 0 rfl ?_
  obtain ⟨h1, h⟩ := chk_some h
  obtain ⟨o2, g3, h⟩ := ob_some h
  refine r_getR (fl_RX7_22 rfl) rfl dX7_wins_1 h1 g3 ?_
  refine r_iload_n dX7_wins_4 1 rfl ?_
  obtain ⟨h4, h⟩ := chk_some h
  obtain ⟨q5, g6, h⟩ := ob_some h
  refine r_callV (d' := (7, 0, false)) (As := [.int x1]) (st := []) mdv_X0_hasPerson tm_RX7_173 (by decide) rfl rfl (by decide) rfl (Nat.le_refl _) (Nat.le_of_ble_eq_true rfl) rfl dX7_wins_5 h4 (ctX0_hasPerson g6) (k_I0 ?_)
  refine r_if_ne (tgt := 17) dX7_wins_8 (by decide) (fun c7 => ?_) (fun c7 => ?_)
  · rw [if_neg c7] at h
    refine r_iconst (v := 0) dX7_wins_17 (by decide) ?_
    refine r_istore_n dX7_wins_18 rfl (Nat.le_of_ble_eq_true rfl) [(2, .int 0), (0, .ref a0), (1, .int x1)] rfl ?_
    refine r_iconst (v := 0) dX7_wins_19 (by decide) ?_
    refine r_istore_n dX7_wins_20 rfl (Nat.le_of_ble_eq_true rfl) [(3, .int 0), (2, .int 0), (0, .ref a0), (1, .int x1)] rfl ?_
    refine r_sub [2, 3, 1, 0] [(0, .ref a0), (1, .int x1), (2, .int 0), (3, .int 0)] rfl ?_
    exact okX7_wins_L21 h hk
  · rw [if_pos c7] at h
    refine r_aload_n dX7_wins_11 0 rfl ?_
    refine r_iconst (v := (-1)) dX7_wins_12 (by decide) ?_
    obtain ⟨h8, h⟩ := chk_some h
    obtain ⟨q9, g10, h⟩ := ob_some h
    refine r_callV (d' := (6, 0, false)) (As := [.int (-1)]) (st := []) mdv_X7_refuse tm_RX7_73 (by decide) rfl rfl (by decide) rfl (Nat.le_refl _) (Nat.le_of_ble_eq_true rfl) rfl dX7_wins_13 h8 (ctX7_refuse g10) (k_I0 ?_)
    rw [← Option.some.inj h] at hk
    exact r_ireturn dX7_wins_16 rfl rfl hk
set_option maxHeartbeats 1000000 in
set_option maxRecDepth 20000 in
theorem ctX7_wins {E : Ev} {a0 : Nat} {x1 : Int32} {w : Wd} {q : Int32 × Wd} (h : fX7_wins a0 x1 w = some q) : CT E mX7_wins (9, 0, false) [.ref a0, .int x1] w (QI q) := CT.of pl_RX7 (Nat.le_of_ble_eq_true rfl) (okX7_wins h ⟨rfl, rfl⟩)
def PX7_years_L36 (E : Ev) (Q : Option Value → Wd → Prop) (a0 : Nat) (x1 : Int32) (s : Int32 × Wd) : Prop := Runs E mX7_years (11, 0, false) Q 0 36 [(0, .ref a0), (1, .int x1), (2, .int s.1)] [] s.2
def fX7_years_L36_body (a0 : Nat) (x1 : Int32) (s : Int32 × Wd) : Option ((Int32 × Wd) ⊕ (Int32 × Wd)) :=
  if x1 ≤ s.1 then (wr (chk (isO s.2 a0 7) (ob (wR s.2 a0 2) (fun o4 => chk (isO s.2 o4 0) (ob (fX0_countHabits o4 s.2) (fun q7 => some (q7.1, q7.2))))))) else (chk (isO s.2 a0 7) (ob (wR s.2 a0 2) (fun o10 => chk (isO s.2 o10 0) (ob (fX0_passYear o10 s.2) (fun q13 => some (.inl ((s.1 + 1), q13)))))))
set_option maxHeartbeats 1000000 in
set_option maxRecDepth 20000 in
theorem okX7_years_L36_body {E : Ev} {Q : Option Value → Wd → Prop} {a0 : Nat} {x1 : Int32} {s : Int32 × Wd} {r : (Int32 × Wd) ⊕ (Int32 × Wd)} (h : fX7_years_L36_body a0 x1 s = some r) (hk : (Sum.elim (PX7_years_L36 E Q a0 x1) (fun q : Int32 × Wd => Q (some (.int q.1)) q.2)) r) : PX7_years_L36 E Q a0 x1 s := by
  unfold fX7_years_L36_body at h
  unfold PX7_years_L36
  refine r_iload_n dX7_years_36 2 rfl ?_
  refine r_iload_n dX7_years_37 1 rfl ?_
  refine r_icmp_ge (tgt := 54) dX7_years_38 (by decide) (fun c1 => ?_) (fun c1 => ?_)
  · rw [if_pos c1] at h
    obtain ⟨r2, hr, h⟩ := wr_some h
    rw [hr] at hk
    refine r_aload_n dX7_years_54 0 rfl ?_
    obtain ⟨h3, h⟩ := chk_some h
    obtain ⟨o4, g5, h⟩ := ob_some h
    refine r_getR (fl_RX7_22 rfl) rfl dX7_years_55 h3 g5 ?_
    obtain ⟨h6, h⟩ := chk_some h
    obtain ⟨q7, g8, h⟩ := ob_some h
    refine r_callV (d' := (7, 0, false)) (As := []) (st := []) mdv_X0_countHabits tm_RX7_325 (by decide) rfl rfl (by decide) rfl (Nat.le_refl _) (Nat.le_of_ble_eq_true rfl) rfl dX7_years_58 h6 (ctX0_countHabits g8) (k_I0 ?_)
    rw [← Option.some.inj h] at hk
    exact r_ireturn dX7_years_61 rfl rfl hk
  · rw [if_neg c1] at h
    refine r_aload_n dX7_years_41 0 rfl ?_
    obtain ⟨h9, h⟩ := chk_some h
    obtain ⟨o10, g11, h⟩ := ob_some h
    refine r_getR (fl_RX7_22 rfl) rfl dX7_years_42 h9 g11 ?_
    obtain ⟨h12, h⟩ := chk_some h
    obtain ⟨q13, g14, h⟩ := ob_some h
    refine r_callV (d' := (10, 0, false)) (As := []) (st := []) mdv_X0_passYear tm_RX7_322 (by decide) rfl rfl (by decide) rfl (Nat.le_refl _) (Nat.le_of_ble_eq_true rfl) rfl dX7_years_45 h12 (ctX0_passYear g14) (k_V0 ?_)
    refine r_iinc (v := (s.1 + 1)) dX7_years_48 2 rfl rfl (Nat.le_of_ble_eq_true rfl) [(2, .int (s.1 + 1)), (0, .ref a0), (1, .int x1)] rfl ?_
    refine r_goto (tgt := 36) dX7_years_51 (by decide) ?_
    rw [← Option.some.inj h] at hk
    refine r_sub [1, 2, 0] [(0, .ref a0), (1, .int x1), (2, .int (s.1 + 1))] rfl ?_
    exact hk
def fX7_years_L36 (a0 : Nat) (x1 : Int32) (s : Int32 × Wd) : Option (Int32 × Wd) := it (fX7_years_L36_body a0 x1) FU s
set_option maxHeartbeats 1000000 in
set_option maxRecDepth 20000 in
theorem okX7_years_L36 {E : Ev} {Q : Option Value → Wd → Prop} {a0 : Nat} {x1 : Int32} {s : Int32 × Wd} {r : Int32 × Wd} (h : fX7_years_L36 a0 x1 s = some r) (hk : (fun q : Int32 × Wd => Q (some (.int q.1)) q.2) r) : PX7_years_L36 E Q a0 x1 s := it_runs (fun s r h hk => okX7_years_L36_body h hk) FU s r h hk
def fX7_years (a0 : Nat) (x1 : Int32) (w : Wd) : Option (Int32 × Wd) :=
  chk (isO w a0 7) (ob (wR w a0 2) (fun o2 => chk (isO w o2 0) (if (wI w o2 4) = 0 then (ob (fX7_refuse a0 (-5) w) (fun q12 => some (q12.1, q12.2))) else (ob (fX7_isWithin x1 1 60 w) (fun q6 => if q6.1 = 0 then (chk (isO q6.2 a0 7) (ob (fX7_refuse a0 (-6) q6.2) (fun q10 => some (q10.1, q10.2)))) else (fX7_years_L36 a0 x1 (0, q6.2)))))))
set_option maxHeartbeats 1000000 in
set_option maxRecDepth 20000 in
theorem okX7_years {E : Ev} {Q : Option Value → Wd → Prop} {a0 : Nat} {x1 : Int32} {w : Wd} {q : Int32 × Wd} (h : fX7_years a0 x1 w = some q) (hk : (fun q : Int32 × Wd => Q (some (.int q.1)) q.2) q) : Runs E mX7_years (11, 0, false) Q 0 0 [(0, .ref a0), (1, .int x1)] [] w := by
  unfold fX7_years at h
  refine r_aload_n dX7_years_0 0 rfl ?_
  obtain ⟨h1, h⟩ := chk_some h
  obtain ⟨o2, g3, h⟩ := ob_some h
  refine r_getR (fl_RX7_22 rfl) rfl dX7_years_1 h1 g3 ?_
  obtain ⟨h4, h⟩ := chk_some h
  refine r_getI (fl_RX7_275 rfl) rfl dX7_years_4 h4 ?_
  refine r_if_ne (tgt := 17) dX7_years_7 (by decide) (fun c5 => ?_) (fun c5 => ?_)
  · rw [if_neg c5] at h
    refine r_iload_n dX7_years_17 1 rfl ?_
    refine r_iconst (v := 1) dX7_years_18 (by decide) ?_
    refine r_bipush (v := 60) dX7_years_19 (by decide) ?_
    obtain ⟨q6, g7, h⟩ := ob_some h
    refine r_callS (d' := (6, 0, false)) (As := [.int x1, .int 1, .int 60]) (st := []) mds_X7_isWithin tm_RX7_77 rfl (by decide) rfl (Nat.le_refl _) (Nat.le_of_ble_eq_true rfl) rfl dX7_years_21 (ctX7_isWithin g7) (k_I0 ?_)
    refine r_if_ne (tgt := 34) dX7_years_24 (by decide) (fun c8 => ?_) (fun c8 => ?_)
    · rw [if_neg c8] at h
      refine r_iconst (v := 0) dX7_years_34 (by decide) ?_
      refine r_istore_n dX7_years_35 rfl (Nat.le_of_ble_eq_true rfl) [(2, .int 0), (0, .ref a0), (1, .int x1)] rfl ?_
      refine r_sub [1, 2, 0] [(0, .ref a0), (1, .int x1), (2, .int 0)] rfl ?_
      exact okX7_years_L36 h hk
    · rw [if_pos c8] at h
      refine r_aload_n dX7_years_27 0 rfl ?_
      refine r_bipush (v := (-6)) dX7_years_28 (by decide) ?_
      obtain ⟨h9, h⟩ := chk_some h
      obtain ⟨q10, g11, h⟩ := ob_some h
      refine r_callV (d' := (6, 0, false)) (As := [.int (-6)]) (st := []) mdv_X7_refuse tm_RX7_73 (by decide) rfl rfl (by decide) rfl (Nat.le_refl _) (Nat.le_of_ble_eq_true rfl) rfl dX7_years_30 h9 (ctX7_refuse g11) (k_I0 ?_)
      rw [← Option.some.inj h] at hk
      exact r_ireturn dX7_years_33 rfl rfl hk
  · rw [if_pos c5] at h
    refine r_aload_n dX7_years_10 0 rfl ?_
    refine r_bipush (v := (-5)) dX7_years_11 (by decide) ?_
    obtain ⟨q12, g13, h⟩ := ob_some h
    refine r_callV (d' := (6, 0, false)) (As := [.int (-5)]) (st := []) mdv_X7_refuse tm_RX7_73 (by decide) rfl rfl (by decide) rfl (Nat.le_refl _) (Nat.le_of_ble_eq_true rfl) rfl dX7_years_13 h1 (ctX7_refuse g13) (k_I0 ?_)
    rw [← Option.some.inj h] at hk
    exact r_ireturn dX7_years_16 rfl rfl hk
set_option maxHeartbeats 1000000 in
set_option maxRecDepth 20000 in
theorem ctX7_years {E : Ev} {a0 : Nat} {x1 : Int32} {w : Wd} {q : Int32 × Wd} (h : fX7_years a0 x1 w = some q) : CT E mX7_years (11, 0, false) [.ref a0, .int x1] w (QI q) := CT.of pl_RX7 (Nat.le_of_ble_eq_true rfl) (okX7_years h ⟨rfl, rfl⟩)
