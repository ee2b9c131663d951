def fX7_isShelf (x0 : Int32) (w : Wd) : Option (Int32 × Wd) :=
  ob (fX7_isWithin x0 0 7 w) (fun q1 => chk (q1.1 = 0 ∨ q1.1 = 1) (some (q1.1, q1.2)))
set_option maxHeartbeats 1000000 in
set_option maxRecDepth 20000 in
theorem okX7_isShelf {E : Ev} {Q : Option Value → Wd → Prop} {x0 : Int32} {w : Wd} {q : Int32 × Wd} (h : fX7_isShelf x0 w = some q) (hk : (fun q : Int32 × Wd => Q (some (.int q.1)) q.2) q) : Runs E mX7_isShelf (7, 0, false) Q 0 0 [(0, .int x0)] [] w := by
  unfold fX7_isShelf at h
  refine r_iload_n dX7_isShelf_0 0 rfl ?_
  refine r_iconst (v := 0) dX7_isShelf_1 (by decide) ?_
  refine r_bipush (v := 7) dX7_isShelf_2 (by decide) ?_
  obtain ⟨q1, g2, h⟩ := ob_some h
  refine r_callS (d' := (6, 0, false)) (As := [.int x0, .int 0, .int 7]) (st := []) mds_X7_isWithin tm_RX7_77 rfl (by decide) rfl (Nat.le_refl _) (Nat.le_of_ble_eq_true rfl) rfl dX7_isShelf_4 (ctX7_isWithin g2) (k_I0 ?_)
  obtain ⟨h3, h⟩ := chk_some h
  rw [← Option.some.inj h] at hk
  exact r_ireturn dX7_isShelf_7 rfl (nb h3) hk
set_option maxHeartbeats 1000000 in
set_option maxRecDepth 20000 in
theorem ctX7_isShelf {E : Ev} {x0 : Int32} {w : Wd} {q : Int32 × Wd} (h : fX7_isShelf x0 w = some q) : CT E mX7_isShelf (7, 0, false) [.int x0] w (QI q) := CT.of pl_RX7 (Nat.le_of_ble_eq_true rfl) (okX7_isShelf h ⟨rfl, rfl⟩)
def fX7_copy_b14 (a0 : Nat) (w : Wd) : Option (Int32 × Wd) :=
  chk (isO w a0 7) (ob (fX7_refuse a0 (-1) w) (fun q2 => some (q2.1, q2.2)))
set_option maxHeartbeats 1000000 in
set_option maxRecDepth 20000 in
theorem okX7_copy_b14 {E : Ev} {Q : Option Value → Wd → Prop} {a0 : Nat} {w : Wd} {q : Int32 × Wd} (h : fX7_copy_b14 a0 w = some q) (hk : (fun q : Int32 × Wd => Q (some (.int q.1)) q.2) q) : Runs E mX7_copy (8, 0, false) Q 0 14 [(0, .ref a0)] [] w := by
  unfold fX7_copy_b14 at h
  refine r_aload_n dX7_copy_14 0 rfl ?_
  refine r_iconst (v := (-1)) dX7_copy_15 (by decide) ?_
  obtain ⟨h1, h⟩ := chk_some h
  obtain ⟨q2, g3, h⟩ := ob_some h
  refine r_callV (d' := (6, 0, false)) (As := [.int (-1)]) (st := []) mdv_X7_refuse tm_RX7_73 (by decide) rfl rfl (by decide) rfl (Nat.le_refl _) (Nat.le_of_ble_eq_true rfl) rfl dX7_copy_16 h1 (ctX7_refuse g3) (k_I0 ?_)
  rw [← Option.some.inj h] at hk
  exact r_ireturn dX7_copy_19 rfl rfl hk
def fX7_copy_b62 (a0 : Nat) (w : Wd) : Option (Int32 × Wd) :=
  chk (isO w a0 7) (ob (fX7_refuse a0 (-2) w) (fun q2 => some (q2.1, q2.2)))
set_option maxHeartbeats 1000000 in
set_option maxRecDepth 20000 in
theorem okX7_copy_b62 {E : Ev} {Q : Option Value → Wd → Prop} {a0 : Nat} {w : Wd} {q : Int32 × Wd} (h : fX7_copy_b62 a0 w = some q) (hk : (fun q : Int32 × Wd => Q (some (.int q.1)) q.2) q) : Runs E mX7_copy (8, 0, false) Q 0 62 [(0, .ref a0)] [] w := by
  unfold fX7_copy_b62 at h
  refine r_aload_n dX7_copy_62 0 rfl ?_
  refine r_bipush (v := (-2)) dX7_copy_63 (by decide) ?_
  obtain ⟨h1, h⟩ := chk_some h
  obtain ⟨q2, g3, h⟩ := ob_some h
  refine r_callV (d' := (6, 0, false)) (As := [.int (-2)]) (st := []) mdv_X7_refuse tm_RX7_73 (by decide) rfl rfl (by decide) rfl (Nat.le_refl _) (Nat.le_of_ble_eq_true rfl) rfl dX7_copy_65 h1 (ctX7_refuse g3) (k_I0 ?_)
  rw [← Option.some.inj h] at hk
  exact r_ireturn dX7_copy_68 rfl rfl hk
def fX7_copy_b85 (a0 : Nat) (w : Wd) : Option (Int32 × Wd) :=
  chk (isO w a0 7) (ob (fX7_refuse a0 (-3) w) (fun q2 => some (q2.1, q2.2)))
set_option maxHeartbeats 1000000 in
set_option maxRecDepth 20000 in
theorem okX7_copy_b85 {E : Ev} {Q : Option Value → Wd → Prop} {a0 : Nat} {w : Wd} {q : Int32 × Wd} (h : fX7_copy_b85 a0 w = some q) (hk : (fun q : Int32 × Wd => Q (some (.int q.1)) q.2) q) : Runs E mX7_copy (8, 0, false) Q 0 85 [(0, .ref a0)] [] w := by
  unfold fX7_copy_b85 at h
  refine r_aload_n dX7_copy_85 0 rfl ?_
  refine r_bipush (v := (-3)) dX7_copy_86 (by decide) ?_
  obtain ⟨h1, h⟩ := chk_some h
  obtain ⟨q2, g3, h⟩ := ob_some h
  refine r_callV (d' := (6, 0, false)) (As := [.int (-3)]) (st := []) mdv_X7_refuse tm_RX7_73 (by decide) rfl rfl (by decide) rfl (Nat.le_refl _) (Nat.le_of_ble_eq_true rfl) rfl dX7_copy_88 h1 (ctX7_refuse g3) (k_I0 ?_)
  rw [← Option.some.inj h] at hk
  exact r_ireturn dX7_copy_91 rfl rfl hk
def fX7_copy_b127 (a0 : Nat) (w : Wd) : Option (Int32 × Wd) :=
  chk (isO w a0 7) (ob (fX7_refuse a0 (-5) w) (fun q2 => some (q2.1, q2.2)))
set_option maxHeartbeats 1000000 in
set_option maxRecDepth 20000 in
theorem okX7_copy_b127 {E : Ev} {Q : Option Value → Wd → Prop} {a0 : Nat} {w : Wd} {q : Int32 × Wd} (h : fX7_copy_b127 a0 w = some q) (hk : (fun q : Int32 × Wd => Q (some (.int q.1)) q.2) q) : Runs E mX7_copy (8, 0, false) Q 0 127 [(0, .ref a0)] [] w := by
  unfold fX7_copy_b127 at h
  refine r_aload_n dX7_copy_127 0 rfl ?_
  refine r_bipush (v := (-5)) dX7_copy_128 (by decide) ?_
  obtain ⟨h1, h⟩ := chk_some h
  obtain ⟨q2, g3, h⟩ := ob_some h
  refine r_callV (d' := (6, 0, false)) (As := [.int (-5)]) (st := []) mdv_X7_refuse tm_RX7_73 (by decide) rfl rfl (by decide) rfl (Nat.le_refl _) (Nat.le_of_ble_eq_true rfl) rfl dX7_copy_130 h1 (ctX7_refuse g3) (k_I0 ?_)
  rw [← Option.some.inj h] at hk
  exact r_ireturn dX7_copy_133 rfl rfl hk
def fX7_copy (a0 : Nat) (x1 : Int32) (x2 : Int32) (x3 : Int32) (x4 : Int32) (x5 : Int32) (w : Wd) : Option (Int32 × Wd) :=
  ob (fX7_isShelf x1 w) (fun q1 => if q1.1 = 0 then (fX7_copy_b14 a0 q1.2) else (ob (fX7_isShelf x2 q1.2) (fun q4 => if q4.1 = 0 then (fX7_copy_b14 a0 q4.2) else (chk (isO q4.2 a0 7) (ob (wR q4.2 a0 0) (fun o8 => chk (isA q4.2 o8 4) (chk (inb x1 (wn q4.2 o8)) (ob (wR q4.2 o8 (x1).toNatClampNeg) (fun o12 => chk (inb x2 (wn q4.2 o8)) (ob (wR q4.2 o8 (x2).toNatClampNeg) (fun o15 => chk (isO q4.2 o12 6) (ob (fX6_holdsGarment o12 q4.2) (fun q18 => if q18.1 = 0 then (chk (isO q18.2 o15 6) (ob (fX6_holdsGarment o15 q18.2) (fun q22 => if q22.1 = 0 then (chk (isO q22.2 o12 6) (ob (fX6_isOfOtherSort o12 o15 q22.2) (fun q26 => if q26.1 = 0 then (chk (isO q26.2 o12 6) (ob (fX6_holdsNothing o12 q26.2) (fun q30 => if q30.1 = 0 then (chk (isO q30.2 o15 6) (ob (fX6_holdsNothing o15 q30.2) (fun q34 => if q34.1 = 0 then (if 0 ≤ x5 then (chk (isO q34.2 o12 6) (ob (fX6_spans o12 x3 x5 q34.2) (fun q39 => if q39.1 = 0 then (fX7_copy_b127 a0 q39.2) else (chk (isO q39.2 o15 6) (ob (fX6_spans o15 x4 x5 q39.2) (fun q43 => if q43.1 = 0 then (fX7_copy_b127 a0 q43.2) else (chk (isO q43.2 o12 6) (ob (wR q43.2 o12 0) (fun o47 => chk (isO q43.2 o15 6) (ob (wR q43.2 o15 0) (fun o50 => chk (isA q43.2 o47 1) (chk (isA q43.2 o50 1) (chk (¬ x3 < 0 ∧ ¬ x4 < 0 ∧ ¬ x5 < 0 ∧ (x3).toNatClampNeg + (x5).toNatClampNeg ≤ wn q43.2 o47 ∧ (x4).toNatClampNeg + (x5).toNatClampNeg ≤ wn q43.2 o50) (bnd (cpL q43.2 o47 o50 (x3).toNatClampNeg (x4).toNatClampNeg (x5).toNatClampNeg) (fun w55 => some (1, w55)))))))))))))))) else (chk (isO q34.2 a0 7) (ob (fX7_refuse a0 (-4) q34.2) (fun q58 => some (q58.1, q58.2))))) else (fX7_copy_b85 a0 q34.2)))) else (fX7_copy_b85 a0 q30.2)))) else (fX7_copy_b62 a0 q26.2)))) else (fX7_copy_b62 a0 q22.2)))) else (fX7_copy_b62 a0 q18.2))))))))))))))
set_option maxHeartbeats 1000000 in
set_option maxRecDepth 20000 in
theorem okX7_copy {E : Ev} {Q : Option Value → Wd → Prop} {a0 : Nat} {x1 : Int32} {x2 : Int32} {x3 : Int32} {x4 : Int32} {x5 : Int32} {w : Wd} {q : Int32 × Wd} (h : fX7_copy a0 x1 x2 x3 x4 x5 w = some q) (hk : (fun q : Int32 × Wd => Q (some (.int q.1)) q.2) q) : Runs E mX7_copy (8, 0, false) Q 0 0 [(0, .ref a0), (1, .int x1), (2, .int x2), (3, .int x3), (4, .int x4), (5, .int x5)] [] w := by
  unfold fX7_copy at h
  refine r_iload_n dX7_copy_0 1 rfl ?_
  obtain ⟨q1, g2, h⟩ := ob_some h
  refine r_callS (d' := (7, 0, false)) (As := [.int x1]) (st := []) mds_X7_isShelf tm_RX7_69 rfl (by decide) rfl (Nat.le_refl _) (Nat.le_of_ble_eq_true rfl) rfl dX7_copy_1 (ctX7_isShelf g2) (k_I0 ?_)
  refine r_if_eq (tgt := 14) dX7_copy_4 (by decide) (fun c3 => ?_) (fun c3 => ?_)
  · rw [if_pos c3] at h
    refine r_sub [0] [(0, .ref a0)] rfl ?_
    exact okX7_copy_b14 h hk
  · rw [if_neg c3] at h
    refine r_iload_n dX7_copy_7 2 rfl ?_
    obtain ⟨q4, g5, h⟩ := ob_some h
    refine r_callS (d' := (7, 0, false)) (As := [.int x2]) (st := []) mds_X7_isShelf tm_RX7_69 rfl (by decide) rfl (Nat.le_refl _) (Nat.le_of_ble_eq_true rfl) rfl dX7_copy_8 (ctX7_isShelf g5) (k_I0 ?_)
    refine r_if_ne (tgt := 20) dX7_copy_11 (by decide) (fun c6 => ?_) (fun c6 => ?_)
    · rw [if_neg c6] at h
      refine r_aload_n dX7_copy_20 0 rfl ?_
      obtain ⟨h7, h⟩ := chk_some h
      obtain ⟨o8, g9, h⟩ := ob_some h
      refine r_getR (fl_RX7_11 rfl) rfl dX7_copy_21 h7 g9 ?_
      refine r_iload_n dX7_copy_24 1 rfl ?_
      obtain ⟨h10, h⟩ := chk_some h
      obtain ⟨h11, h⟩ := chk_some h
      obtain ⟨o12, g13, h⟩ := ob_some h
      refine r_aaload 4 (by decide) (by decide) dX7_copy_25 h10 h11 g13 ?_
      refine r_astore dX7_copy_26 (Nat.le_of_ble_eq_true rfl) [(6, .ref o12), (0, .ref a0), (1, .int x1), (2, .int x2), (3, .int x3), (4, .int x4), (5, .int x5)] rfl ?_
      refine r_aload_n dX7_copy_28 1 rfl ?_
      refine r_getR (fl_RX7_11 rfl) rfl dX7_copy_29 h7 g9 ?_
      refine r_iload_n dX7_copy_32 3 rfl ?_
      obtain ⟨h14, h⟩ := chk_some h
      obtain ⟨o15, g16, h⟩ := ob_some h
      refine r_aaload 4 (by decide) (by decide) dX7_copy_33 h10 h14 g16 ?_
      refine r_astore dX7_copy_34 (Nat.le_of_ble_eq_true rfl) [(7, .ref o15), (6, .ref o12), (0, .ref a0), (1, .int x1), (2, .int x2), (3, .int x3), (4, .int x4), (5, .int x5)] rfl ?_
      refine r_aload dX7_copy_36 1 rfl ?_
      obtain ⟨h17, h⟩ := chk_some h
      obtain ⟨q18, g19, h⟩ := ob_some h
      refine r_callV (d' := (6, 0, false)) (As := []) (st := []) mdv_X6_holdsGarment tm_RX7_96 (by decide) rfl rfl (by decide) rfl (Nat.le_refl _) (Nat.le_of_ble_eq_true rfl) rfl dX7_copy_38 h17 (ctX6_holdsGarment g19) (k_I0 ?_)
      refine r_if_ne (tgt := 62) dX7_copy_41 (by decide) (fun c20 => ?_) (fun c20 => ?_)
      · rw [if_neg c20] at h
        refine r_sub [2] [(0, .ref a0)] rfl ?_
        exact okX7_copy_b62 h hk
      · rw [if_pos c20] at h
        refine r_aload dX7_copy_44 0 rfl ?_
        obtain ⟨h21, h⟩ := chk_some h
        obtain ⟨q22, g23, h⟩ := ob_some h
        refine r_callV (d' := (6, 0, false)) (As := []) (st := []) mdv_X6_holdsGarment tm_RX7_96 (by decide) rfl rfl (by decide) rfl (Nat.le_refl _) (Nat.le_of_ble_eq_true rfl) rfl dX7_copy_46 h21 (ctX6_holdsGarment g23) (k_I0 ?_)
        refine r_if_ne (tgt := 62) dX7_copy_49 (by decide) (fun c24 => ?_) (fun c24 => ?_)
        · rw [if_neg c24] at h
          refine r_sub [2] [(0, .ref a0)] rfl ?_
          exact okX7_copy_b62 h hk
        · rw [if_pos c24] at h
          refine r_aload dX7_copy_52 1 rfl ?_
          refine r_aload dX7_copy_54 0 rfl ?_
          obtain ⟨h25, h⟩ := chk_some h
          obtain ⟨q26, g27, h⟩ := ob_some h
          refine r_callV (d' := (7, 0, false)) (As := [.ref o15]) (st := []) mdv_X6_isOfOtherSort tm_RX7_100 (by decide) rfl rfl (by decide) rfl (Nat.le_refl _) (Nat.le_of_ble_eq_true rfl) rfl dX7_copy_56 h25 (ctX6_isOfOtherSort g27) (k_I0 ?_)
          refine r_if_eq (tgt := 69) dX7_copy_59 (by decide) (fun c28 => ?_) (fun c28 => ?_)
          · rw [if_pos c28] at h
            refine r_aload dX7_copy_69 1 rfl ?_
            obtain ⟨h29, h⟩ := chk_some h
            obtain ⟨q30, g31, h⟩ := ob_some h
            refine r_callV (d' := (6, 0, false)) (As := []) (st := []) mdv_X6_holdsNothing tm_RX7_104 (by decide) rfl rfl (by decide) rfl (Nat.le_refl _) (Nat.le_of_ble_eq_true rfl) rfl dX7_copy_71 h29 (ctX6_holdsNothing g31) (k_I0 ?_)
            refine r_if_ne (tgt := 85) dX7_copy_74 (by decide) (fun c32 => ?_) (fun c32 => ?_)
            · rw [if_neg c32] at h
              refine r_sub [2] [(0, .ref a0)] rfl ?_
              exact okX7_copy_b85 h hk
            · rw [if_pos c32] at h
              refine r_aload dX7_copy_77 0 rfl ?_
              obtain ⟨h33, h⟩ := chk_some h
              obtain ⟨q34, g35, h⟩ := ob_some h
              refine r_callV (d' := (6, 0, false)) (As := []) (st := []) mdv_X6_holdsNothing tm_RX7_104 (by decide) rfl rfl (by decide) rfl (Nat.le_refl _) (Nat.le_of_ble_eq_true rfl) rfl dX7_copy_79 h33 (ctX6_holdsNothing g35) (k_I0 ?_)
              refine r_if_eq (tgt := 92) dX7_copy_82 (by decide) (fun c36 => ?_) (fun c36 => ?_)
              · rw [if_pos c36] at h
                refine r_iload dX7_copy_92 7 rfl ?_
                refine r_if_ge (tgt := 104) dX7_copy_94 (by decide) (fun c37 => ?_) (fun c37 => ?_)
                · rw [if_pos c37] at h
                  refine r_aload dX7_copy_104 1 rfl ?_
                  refine r_iload_n dX7_copy_106 5 rfl ?_
                  refine r_iload dX7_copy_107 7 rfl ?_
                  obtain ⟨h38, h⟩ := chk_some h
                  obtain ⟨q39, g40, h⟩ := ob_some h
                  refine r_callV (d' := (6, 0, false)) (As := [.int x3, .int x5]) (st := []) mdv_X6_spans tm_RX7_88 (by decide) rfl rfl (by decide) rfl (Nat.le_refl _) (Nat.le_of_ble_eq_true rfl) rfl dX7_copy_109 h38 (ctX6_spans g40) (k_I0 ?_)
                  refine r_if_eq (tgt := 127) dX7_copy_112 (by decide) (fun c41 => ?_) (fun c41 => ?_)
                  · rw [if_pos c41] at h
                    refine r_sub [2] [(0, .ref a0)] rfl ?_
                    exact okX7_copy_b127 h hk
                  · rw [if_neg c41] at h
                    refine r_aload dX7_copy_115 0 rfl ?_
                    refine r_iload dX7_copy_117 6 rfl ?_
                    refine r_iload dX7_copy_119 7 rfl ?_
                    obtain ⟨h42, h⟩ := chk_some h
                    obtain ⟨q43, g44, h⟩ := ob_some h
                    refine r_callV (d' := (6, 0, false)) (As := [.int x4, .int x5]) (st := []) mdv_X6_spans tm_RX7_88 (by decide) rfl rfl (by decide) rfl (Nat.le_refl _) (Nat.le_of_ble_eq_true rfl) rfl dX7_copy_121 h42 (ctX6_spans g44) (k_I0 ?_)
                    refine r_if_ne (tgt := 134) dX7_copy_124 (by decide) (fun c45 => ?_) (fun c45 => ?_)
                    · rw [if_neg c45] at h
                      refine r_aload dX7_copy_134 1 rfl ?_
                      obtain ⟨h46, h⟩ := chk_some h
                      obtain ⟨o47, g48, h⟩ := ob_some h
                      refine r_getR (fl_RX7_107 rfl) rfl dX7_copy_136 h46 g48 ?_
                      refine r_iload_n dX7_copy_139 5 rfl ?_
                      refine r_aload dX7_copy_140 0 rfl ?_
                      obtain ⟨h49, h⟩ := chk_some h
                      obtain ⟨o50, g51, h⟩ := ob_some h
                      refine r_getR (fl_RX7_107 rfl) rfl dX7_copy_142 h49 g51 ?_
                      refine r_iload dX7_copy_145 6 rfl ?_
                      refine r_iload dX7_copy_147 7 rfl ?_
                      obtain ⟨h52, h⟩ := chk_some h
                      obtain ⟨h53, h⟩ := chk_some h
                      obtain ⟨h54, h⟩ := chk_some h
                      obtain ⟨w55, e56, h⟩ := bnd_some h
                      refine r_copyL rfl (Nat.le_of_ble_eq_true rfl) (Nat.le_of_ble_eq_true rfl) tm_RX7_111 tnat_ac tst_ac ti_sys dX7_copy_149 h52 h53 h54.1 h54.2.1 h54.2.2.1 h54.2.2.2.1 h54.2.2.2.2 ?_
                      refine r_eqW e56 ?_
                      refine r_iconst (v := 1) dX7_copy_152 (by decide) ?_
                      rw [← Option.some.inj h] at hk
                      exact r_ireturn dX7_copy_153 rfl rfl hk
                    · rw [if_pos c45] at h
                      refine r_sub [2] [(0, .ref a0)] rfl ?_
                      exact okX7_copy_b127 h hk
                · rw [if_neg c37] at h
                  refine r_aload_n dX7_copy_97 2 rfl ?_
                  refine r_bipush (v := (-4)) dX7_copy_98 (by decide) ?_
                  obtain ⟨h57, h⟩ := chk_some h
                  obtain ⟨q58, g59, h⟩ := ob_some h
                  refine r_callV (d' := (6, 0, false)) (As := [.int (-4)]) (st := []) mdv_X7_refuse tm_RX7_73 (by decide) rfl rfl (by decide) rfl (Nat.le_refl _) (Nat.le_of_ble_eq_true rfl) rfl dX7_copy_100 h57 (ctX7_refuse g59) (k_I0 ?_)
                  rw [← Option.some.inj h] at hk
                  exact r_ireturn dX7_copy_103 rfl rfl hk
              · rw [if_neg c36] at h
                refine r_sub [2] [(0, .ref a0)] rfl ?_
                exact okX7_copy_b85 h hk
          · rw [if_neg c28] at h
            refine r_sub [2] [(0, .ref a0)] rfl ?_
            exact okX7_copy_b62 h hk
    · rw [if_pos c6] at h
      refine r_sub [0] [(0, .ref a0)] rfl ?_
      exact okX7_copy_b14 h hk
set_option maxHeartbeats 1000000 in
set_option maxRecDepth 20000 in
theorem ctX7_copy {E : Ev} {a0 : Nat} {x1 : Int32} {x2 : Int32} {x3 : Int32} {x4 : Int32} {x5 : Int32} {w : Wd} {q : Int32 × Wd} (h : fX7_copy a0 x1 x2 x3 x4 x5 w = some q) : CT E mX7_copy (8, 0, false) [.ref a0, .int x1, .int x2, .int x3, .int x4, .int x5] w (QI q) := CT.of pl_RX7 (Nat.le_of_ble_eq_true rfl) (okX7_copy h ⟨rfl, rfl⟩)
def fX7_refuseLower (a0 : Nat) (x1 : Int32) (w : Wd) : Option (Int32 × Wd) :=
  chk (isO w a0 7) (ob (fX7_refuse a0 x1 w) (fun q2 => some ((q2.1 - 10), q2.2)))
set_option maxHeartbeats 1000000 in
set_option maxRecDepth 20000 in
theorem okX7_refuseLower {E : Ev} {Q : Option Value → Wd → Prop} {a0 : Nat} {x1 : Int32} {w : Wd} {q : Int32 × Wd} (h : fX7_refuseLower a0 x1 w = some q) (hk : (fun q : Int32 × Wd => Q (some (.int q.1)) q.2) q) : Runs E mX7_refuseLower (7, 0, false) Q 0 0 [(0, .ref a0), (1, .int x1)] [] w := by
  unfold fX7_refuseLower at h
  refine r_aload_n dX7_refuseLower_0 0 rfl ?_
  refine r_iload_n dX7_refuseLower_1 1 rfl ?_
  obtain ⟨h1, h⟩ := chk_some h
  obtain ⟨q2, g3, h⟩ := ob_some h
  refine r_callV (d' := (6, 0, false)) (As := [.int x1]) (st := []) mdv_X7_refuse tm_RX7_73 (by decide) rfl rfl (by decide) rfl (Nat.le_refl _) (Nat.le_of_ble_eq_true rfl) rfl dX7_refuseLower_2 h1 (ctX7_refuse g3) (k_I0 ?_)
  refine r_bipush (v := 10) dX7_refuseLower_5 (by decide) ?_
  refine r_isub dX7_refuseLower_7 ?_
  rw [← Option.some.inj h] at hk
  exact r_ireturn dX7_refuseLower_8 rfl rfl hk
set_option maxHeartbeats 1000000 in
set_option maxRecDepth 20000 in
theorem ctX7_refuseLower {E : Ev} {a0 : Nat} {x1 : Int32} {w : Wd} {q : Int32 × Wd} (h : fX7_refuseLower a0 x1 w = some q) : CT E mX7_refuseLower (7, 0, false) [.ref a0, .int x1] w (QI q) := CT.of pl_RX7 (Nat.le_of_ble_eq_true rfl) (okX7_refuseLower h ⟨rfl, rfl⟩)
def fX7_cure_b56 (s0 : Int32) (w : Wd) : Option (Int32 × Wd) :=
  some (s0, w)
set_option maxHeartbeats 1000000 in
set_option maxRecDepth 20000 in
theorem okX7_cure_b56 {E : Ev} {Q : Option Value → Wd → Prop} {s0 : Int32} {w : Wd} {q : Int32 × Wd} (h : fX7_cure_b56 s0 w = some q) (hk : (fun q : Int32 × Wd => Q (some (.int q.1)) q.2) q) : Runs E mX7_cure (10, 0, false) Q 0 56 [] [.int s0] w := by
  unfold fX7_cure_b56 at h
  rw [← Option.some.inj h] at hk
  exact r_ireturn dX7_cure_56 rfl rfl hk
def fX7_cure (a0 : Nat) (x1 : Int32) (x2 : Int32) (w : Wd) : Option (Int32 × Wd) :=
  chk (isO w a0 7) (ob (wR w a0 2) (fun o2 => chk (isO w o2 0) (ob (fX0_hasPerson o2 x1 w) (fun q5 => if q5.1 = 0 then (chk (isO q5.2 a0 7) (ob (fX7_refuseLower a0 (-1) q5.2) (fun q28 => some (q28.1, q28.2)))) else (ob (fX7_isWithin x2 0 1 q5.2) (fun q8 => if q8.1 = 0 then (chk (isO q8.2 a0 7) (ob (fX7_refuseLower a0 (-5) q8.2) (fun q25 => some (q25.1, q25.2)))) else (if x2 = 0 then (chk (isO q8.2 a0 7) (ob (wR q8.2 a0 2) (fun o19 => chk (isO q8.2 o19 0) (ob (fX0_leastWill o19 x1 q8.2) (fun q22 => fX7_cure_b56 q22.1 q22.2))))) else (chk (isO q8.2 a0 7) (ob (wR q8.2 a0 2) (fun o13 => chk (isO q8.2 o13 0) (ob (fX0_fewestOff o13 x1 q8.2) (fun q16 => fX7_cure_b56 q16.1 q16.2))))))))))))
set_option maxHeartbeats 1000000 in
set_option maxRecDepth 20000 in
theorem okX7_cure {E : Ev} {Q : Option Value → Wd → Prop} {a0 : Nat} {x1 : Int32} {x2 : Int32} {w : Wd} {q : Int32 × Wd} (h : fX7_cure a0 x1 x2 w = some q) (hk : (fun q : Int32 × Wd => Q (some (.int q.1)) q.2) q) : Runs E mX7_cure (10, 0, false) Q 0 0 [(0, .ref a0), (1, .int x1), (2, .int x2)] [] w := by
  unfold fX7_cure at h
  refine r_aload_n dX7_cure_0 0 rfl ?_
  obtain ⟨h1, h⟩ := chk_some h
  obtain ⟨o2, g3, h⟩ := ob_some h
  refine r_getR (fl_RX7_22 rfl) rfl dX7_cure_1 h1 g3 ?_
  refine r_iload_n dX7_cure_4 1 rfl ?_
  obtain ⟨h4, h⟩ := chk_some h
  obtain ⟨q5, g6, h⟩ := ob_some h
  refine r_callV (d' := (7, 0, false)) (As := [.int x1]) (st := []) mdv_X0_hasPerson tm_RX7_173 (by decide) rfl rfl (by decide) rfl (Nat.le_refl _) (Nat.le_of_ble_eq_true rfl) rfl dX7_cure_5 h4 (ctX0_hasPerson g6) (k_I0 ?_)
  refine r_if_ne (tgt := 17) dX7_cure_8 (by decide) (fun c7 => ?_) (fun c7 => ?_)
  · rw [if_neg c7] at h
    refine r_iload_n dX7_cure_17 2 rfl ?_
    refine r_iconst (v := 0) dX7_cure_18 (by decide) ?_
    refine r_iconst (v := 1) dX7_cure_19 (by decide) ?_
    obtain ⟨q8, g9, h⟩ := ob_some h
    refine r_callS (d' := (6, 0, false)) (As := [.int x2, .int 0, .int 1]) (st := []) mds_X7_isWithin tm_RX7_77 rfl (by decide) rfl (Nat.le_refl _) (Nat.le_of_ble_eq_true rfl) rfl dX7_cure_20 (ctX7_isWithin g9) (k_I0 ?_)
    refine r_if_ne (tgt := 33) dX7_cure_23 (by decide) (fun c10 => ?_) (fun c10 => ?_)
    · rw [if_neg c10] at h
      refine r_iload_n dX7_cure_33 2 rfl ?_
      refine r_if_ne (tgt := 48) dX7_cure_34 (by decide) (fun c11 => ?_) (fun c11 => ?_)
      · rw [if_neg c11] at h
        refine r_aload_n dX7_cure_48 0 rfl ?_
        obtain ⟨h12, h⟩ := chk_some h
        obtain ⟨o13, g14, h⟩ := ob_some h
        refine r_getR (fl_RX7_22 rfl) rfl dX7_cure_49 h12 g14 ?_
        refine r_iload_n dX7_cure_52 1 rfl ?_
        obtain ⟨h15, h⟩ := chk_some h
        obtain ⟨q16, g17, h⟩ := ob_some h
        refine r_callV (d' := (9, 0, false)) (As := [.int x1]) (st := []) mdv_X0_fewestOff tm_RX7_306 (by decide) rfl rfl (by decide) rfl (Nat.le_refl _) (Nat.le_of_ble_eq_true rfl) rfl dX7_cure_53 h15 (ctX0_fewestOff g17) (k_I0 ?_)
        refine r_sub [] [] rfl ?_
        exact okX7_cure_b56 h hk
      · rw [if_pos c11] at h
        refine r_aload_n dX7_cure_37 0 rfl ?_
        obtain ⟨h18, h⟩ := chk_some h
        obtain ⟨o19, g20, h⟩ := ob_some h
        refine r_getR (fl_RX7_22 rfl) rfl dX7_cure_38 h18 g20 ?_
        refine r_iload_n dX7_cure_41 1 rfl ?_
        obtain ⟨h21, h⟩ := chk_some h
        obtain ⟨q22, g23, h⟩ := ob_some h
        refine r_callV (d' := (9, 0, false)) (As := [.int x1]) (st := []) mdv_X0_leastWill tm_RX7_303 (by decide) rfl rfl (by decide) rfl (Nat.le_refl _) (Nat.le_of_ble_eq_true rfl) rfl dX7_cure_42 h21 (ctX0_leastWill g23) (k_I0 ?_)
        refine r_goto (tgt := 56) dX7_cure_45 (by decide) ?_
        refine r_sub [] [] rfl ?_
        exact okX7_cure_b56 h hk
    · rw [if_pos c10] at h
      refine r_aload_n dX7_cure_26 0 rfl ?_
      refine r_bipush (v := (-5)) dX7_cure_27 (by decide) ?_
      obtain ⟨h24, h⟩ := chk_some h
      obtain ⟨q25, g26, h⟩ := ob_some h
      refine r_callV (d' := (7, 0, false)) (As := [.int (-5)]) (st := []) mdv_X7_refuseLower tm_RX7_195 (by decide) rfl rfl (by decide) rfl (Nat.le_refl _) (Nat.le_of_ble_eq_true rfl) rfl dX7_cure_29 h24 (ctX7_refuseLower g26) (k_I0 ?_)
      rw [← Option.some.inj h] at hk
      exact r_ireturn dX7_cure_32 rfl rfl hk
  · rw [if_pos c7] at h
    refine r_aload_n dX7_cure_11 0 rfl ?_
    refine r_iconst (v := (-1)) dX7_cure_12 (by decide) ?_
    obtain ⟨h27, h⟩ := chk_some h
    obtain ⟨q28, g29, h⟩ := ob_some h
    refine r_callV (d' := (7, 0, false)) (As := [.int (-1)]) (st := []) mdv_X7_refuseLower tm_RX7_195 (by decide) rfl rfl (by decide) rfl (Nat.le_refl _) (Nat.le_of_ble_eq_true rfl) rfl dX7_cure_13 h27 (ctX7_refuseLower g29) (k_I0 ?_)
    rw [← Option.some.inj h] at hk
    exact r_ireturn dX7_cure_16 rfl rfl hk
set_option maxHeartbeats 1000000 in
set_option maxRecDepth 20000 in
theorem ctX7_cure {E : Ev} {a0 : Nat} {x1 : Int32} {x2 : Int32} {w : Wd} {q : Int32 × Wd} (h : fX7_cure a0 x1 x2 w = some q) : CT E mX7_cure (10, 0, false) [.ref a0, .int x1, .int x2] w (QI q) := CT.of pl_RX7 (Nat.le_of_ble_eq_true rfl) (okX7_cure h ⟨rfl, rfl⟩)
def PX7_days_L21 (E : Ev) (Q : Option Value → Wd → Prop) (a0 : Nat) (x1 : Int32) (s : Int32 × Int32 × Wd) : Prop := Runs E mX7_days (10, 0, false) Q 0 21 [(0, .ref a0), (1, .int x1), (2, .int s.1), (3, .int s.2.1)] [] s.2.2
def fX7_days_L21_body (a0 : Nat) (x1 : Int32) (s : Int32 × Int32 × Wd) : Option ((Int32 × Int32 × Wd) ⊕ (Int32 × Wd)) :=
  if x1 ≤ s.2.1 then (wr (some (s.1, s.2.2))) else (chk (isO s.2.2 a0 7) (ob (wR s.2.2 a0 2) (fun o4 => chk (isO s.2.2 o4 0) (ob (fX0_passDay o4 s.2.2) (fun q7 => bnd (s.1 + q7.1) (fun u9 => some (.inl (u9, (s.2.1 + 1), q7.2))))))))
set_option maxHeartbeats 1000000 in
set_option maxRecDepth 20000 in
theorem okX7_days_L21_body {E : Ev} {Q : Option Value → Wd → Prop} {a0 : Nat} {x1 : Int32} {s : Int32 × Int32 × Wd} {r : (Int32 × Int32 × Wd) ⊕ (Int32 × Wd)} (h : fX7_days_L21_body a0 x1 s = some r) (hk : (Sum.elim (PX7_days_L21 E Q a0 x1) (fun q : Int32 × Wd => Q (some (.int q.1)) q.2)) r) : PX7_days_L21 E Q a0 x1 s := by
  unfold fX7_days_L21_body at h
  unfold PX7_days_L21
  refine r_iload_n dX7_days_21 3 rfl ?_
  refine r_iload_n dX7_days_22 1 rfl ?_
  refine r_icmp_ge (tgt := 42) dX7_days_23 (by decide) (fun c1 => ?_) (fun c1 => ?_)
  · rw [if_pos c1] at h
    obtain ⟨r2, hr, h⟩ := wr_some h
    rw [hr] at hk
    refine r_iload_n dX7_days_42 2 rfl ?_
    rw [← Option.some.inj h] at hk
    exact r_ireturn dX7_days_43 rfl rfl hk
  · rw [if_neg c1] at h
    refine r_iload_n dX7_days_26 2 rfl ?_
    refine r_aload_n dX7_days_27 0 rfl ?_
    obtain ⟨h3, h⟩ := chk_some h
    obtain ⟨o4, g5, h⟩ := ob_some h
    refine r_getR (fl_RX7_22 rfl) rfl dX7_days_28 h3 g5 ?_
    obtain ⟨h6, h⟩ := chk_some h
    obtain ⟨q7, g8, h⟩ := ob_some h
    refine r_callV (d' := (9, 0, false)) (As := []) (st := [.int s.1]) mdv_X0_passDay tm_RX7_319 (by decide) rfl rfl (by decide) rfl (Nat.le_refl _) (Nat.le_of_ble_eq_true rfl) rfl dX7_days_31 h6 (ctX0_passDay g8) (k_I0 ?_)
    refine r_iadd dX7_days_34 ?_
    obtain ⟨u9, e10, h⟩ := bnd_some h
    refine r_eqI e10 ?_
    refine r_istore_n dX7_days_35 rfl (Nat.le_of_ble_eq_true rfl) [(2, .int u9), (0, .ref a0), (1, .int x1), (3, .int s.2.1)] rfl ?_
    refine r_iinc (v := (s.2.1 + 1)) dX7_days_36 3 rfl rfl (Nat.le_of_ble_eq_true rfl) [(3, .int (s.2.1 + 1)), (2, .int u9), (0, .ref a0), (1, .int x1)] rfl ?_
    refine r_goto (tgt := 21) dX7_days_39 (by decide) ?_
    rw [← Option.some.inj h] at hk
    refine r_sub [2, 3, 1, 0] [(0, .ref a0), (1, .int x1), (2, .int u9), (3, .int (s.2.1 + 1))] rfl ?_
    exact hk
def fX7_days_L21 (a0 : Nat) (x1 : Int32) (s : Int32 × Int32 × Wd) : Option (Int32 × Wd) := it (fX7_days_L21_body a0 x1) FU s
set_option maxHeartbeats 1000000 in
set_option maxRecDepth 20000 in
theorem okX7_days_L21 {E : Ev} {Q : Option Value → Wd → Prop} {a0 : Nat} {x1 : Int32} {s : Int32 × Int32 × Wd} {r : Int32 × Wd} (h : fX7_days_L21 a0 x1 s = some r) (hk : (fun q : Int32 × Wd => Q (some (.int q.1)) q.2) r) : PX7_days_L21 E Q a0 x1 s := it_runs (fun s r h hk => okX7_days_L21_body h hk) FU s r h hk
def fX7_days (a0 : Nat) (x1 : Int32) (w : Wd) : Option (Int32 × Wd) :=
  ob (fX7_isWithin x1 1 60 w) (fun q1 => if q1.1 = 0 then (chk (isO q1.2 a0 7) (ob (fX7_refuse a0 (-6) q1.2) (fun q5 => some (q5.1, q5.2)))) else (fX7_days_L21 a0 x1 (0, 0, q1.2)))
set_option maxHeartbeats 1000000 in
set_option maxRecDepth 20000 in
theorem okX7_days {E : Ev} {Q : Option Value → Wd → Prop} {a0 : Nat} {x1 : Int32} {w : Wd} {q : Int32 × Wd} (h : fX7_days a0 x1 w = some q) (hk : (fun q : Int32 × Wd => Q (some (.int q.1)) q.2) q) : Runs E mX7_days (10, 0, false) Q 0 0 [(0, .ref a0), (1, .int x1)] [] w := by
  unfold fX7_days at h
  refine r_iload_n dX7_days_0 1 rfl ?_
  refine r_iconst (v := 1) dX7_days_1 (by decide) ?_
  refine r_bipush (v := 60) dX7_days_2 (by decide) ?_
  obtain ⟨q1, g2, h⟩ := ob_some h
  refine r_callS (d' := (6, 0, false)) (As := [.int x1, .int 1, .int 60]) (st := []) mds_X7_isWithin tm_RX7_77 rfl (by decide) rfl (Nat.le_refl _) (Nat.le_of_ble_eq_true rfl) rfl dX7_days_4 (ctX7_isWithin g2) (k_I0 ?_)
  refine r_if_ne (tgt := 17) dX7_days_7 (by decide) (fun c3 => ?_) (fun c3 => ?_)
  · rw [if_neg c3] at h
    refine r_iconst (v := 0) dX7_days_17 (by decide) ?_
    refine r_istore_n dX7_days_18 rfl (Nat.le_of_ble_eq_true rfl) [(2, .int 0), (0, .ref a0), (1, .int x1)] rfl ?_
    refine r_iconst (v := 0) dX7_days_19 (by decide) ?_
    refine r_istore_n dX7_days_20 rfl (Nat.le_of_ble_eq_true rfl) [(3, .int 0), (2, .int 0), (0, .ref a0), (1, .int x1)] rfl ?_
    refine r_sub [2, 3, 1, 0] [(0, .ref a0), (1, .int x1), (2, .int 0), (3, .int 0)] rfl ?_
    exact okX7_days_L21 h hk
  · rw [if_pos c3] at h
    refine r_aload_n dX7_days_10 0 rfl ?_
    refine r_bipush (v := (-6)) dX7_days_11 (by decide) ?_
    obtain ⟨h4, h⟩ := chk_some h
    obtain ⟨q5, g6, h⟩ := ob_some h
    refine r_callV (d' := (6, 0, false)) (As := [.int (-6)]) (st := []) mdv_X7_refuse tm_RX7_73 (by decide) rfl rfl (by decide) rfl (Nat.le_refl _) (Nat.le_of_ble_eq_true rfl) rfl dX7_days_13 h4 (ctX7_refuse g6) (k_I0 ?_)
    rw [← Option.some.inj h] at hk
    exact r_ireturn dX7_days_16 rfl rfl hk
set_option maxHeartbeats 1000000 in
set_option maxRecDepth 20000 in
theorem ctX7_days {E : Ev} {a0 : Nat} {x1 : Int32} {w : Wd} {q : Int32 × Wd} (h : fX7_days a0 x1 w = some q) : CT E mX7_days (10, 0, false) [.ref a0, .int x1] w (QI q) := CT.of pl_RX7 (Nat.le_of_ble_eq_true rfl) (okX7_days h ⟨rfl, rfl⟩)
def fX7_does (a0 : Nat) (x1 : Int32) (x2 : Int32) (x3 : Int32) (w : Wd) : Option (Int32 × Wd) :=
  chk (isO w a0 7) (ob (wR w a0 2) (fun o2 => chk (isO w o2 0) (ob (fX0_hasPerson o2 x1 w) (fun q5 => if q5.1 = 0 then (chk (isO q5.2 a0 7) (ob (fX7_refuse a0 (-1) q5.2) (fun q24 => some (q24.1, q24.2)))) else (ob (fX7_areDaysAndHour x2 x3 q5.2) (fun q8 => if q8.1 = 0 then (chk (isO q8.2 a0 7) (ob (fX7_refuse a0 (-6) q8.2) (fun q21 => some (q21.1, q21.2)))) else (chk (isO q8.2 a0 7) (ob (fX7_tryDays a0 x2 x3 q8.2) (fun q12 => chk (isO q12 a0 7) (ob (wR q12 a0 3) (fun o15 => chk (isO q12 o15 0) (ob (fX0_deedOf o15 x1 x3 q12) (fun q18 => some (q18.1, q18.2))))))))))))))
set_option maxHeartbeats 1000000 in
set_option maxRecDepth 20000 in
theorem okX7_does {E : Ev} {Q : Option Value → Wd → Prop} {a0 : Nat} {x1 : Int32} {x2 : Int32} {x3 : Int32} {w : Wd} {q : Int32 × Wd} (h : fX7_does a0 x1 x2 x3 w = some q) (hk : (fun q : Int32 × Wd => Q (some (.int q.1)) q.2) q) : Runs E mX7_does (10, 0, false) Q 0 0 [(0, .ref a0), (1, .int x1), (2, .int x2), (3, .int x3)] [] w := by
  unfold fX7_does at h
  refine r_aload_n dX7_does_0 0 rfl ?_
  obtain ⟨h1, h⟩ := chk_some h
  obtain ⟨o2, g3, h⟩ := ob_some h
  refine r_getR (fl_RX7_22 rfl) rfl dX7_does_1 h1 g3 ?_
  refine r_iload_n dX7_does_4 1 rfl ?_
  obtain ⟨h4, h⟩ := chk_some h
  obtain ⟨q5, g6, h⟩ := ob_some h
  refine r_callV (d' := (7, 0, false)) (As := [.int x1]) (st := []) mdv_X0_hasPerson tm_RX7_173 (by decide) rfl rfl (by decide) rfl (Nat.le_refl _) (Nat.le_of_ble_eq_true rfl) rfl dX7_does_5 h4 (ctX0_hasPerson g6) (k_I0 ?_)
  refine r_if_ne (tgt := 17) dX7_does_8 (by decide) (fun c7 => ?_) (fun c7 => ?_)
  · rw [if_neg c7] at h
    refine r_iload_n dX7_does_17 2 rfl ?_
    refine r_iload_n dX7_does_18 3 rfl ?_
    obtain ⟨q8, g9, h⟩ := ob_some h
    refine r_callS (d' := (8, 0, false)) (As := [.int x2, .int x3]) (st := []) mds_X7_areDaysAndHour tm_RX7_230 rfl (by decide) rfl (Nat.le_refl _) (Nat.le_of_ble_eq_true rfl) rfl dX7_does_19 (ctX7_areDaysAndHour g9) (k_I0 ?_)
    refine r_if_ne (tgt := 32) dX7_does_22 (by decide) (fun c10 => ?_) (fun c10 => ?_)
    · rw [if_neg c10] at h
      refine r_aload_n dX7_does_32 0 rfl ?_
      refine r_iload_n dX7_does_33 2 rfl ?_
      refine r_iload_n dX7_does_34 3 rfl ?_
      obtain ⟨h11, h⟩ := chk_some h
      obtain ⟨q12, g13, h⟩ := ob_some h
      refine r_callV (d' := (9, 0, false)) (As := [.int x2, .int x3]) (st := []) mdv_X7_tryDays tm_RX7_233 (by decide) rfl rfl (by decide) rfl (Nat.le_refl _) (Nat.le_of_ble_eq_true rfl) rfl dX7_does_35 h11 (ctX7_tryDays g13) (k_V0 ?_)
      refine r_aload_n dX7_does_38 0 rfl ?_
      obtain ⟨h14, h⟩ := chk_some h
      obtain ⟨o15, g16, h⟩ := ob_some h
      refine r_getR (fl_RX7_26 rfl) rfl dX7_does_39 h14 g16 ?_
      refine r_iload_n dX7_does_42 1 rfl ?_
      refine r_iload_n dX7_does_43 3 rfl ?_
      obtain ⟨h17, h⟩ := chk_some h
      obtain ⟨q18, g19, h⟩ := ob_some h
      refine r_callV (d' := (8, 0, false)) (As := [.int x1, .int x3]) (st := []) mdv_X0_deedOf tm_RX7_236 (by decide) rfl rfl (by decide) rfl (Nat.le_refl _) (Nat.le_of_ble_eq_true rfl) rfl dX7_does_44 h17 (ctX0_deedOf g19) (k_I0 ?_)
      rw [← Option.some.inj h] at hk
      exact r_ireturn dX7_does_47 rfl rfl hk
    · rw [if_pos c10] at h
      refine r_aload_n dX7_does_25 0 rfl ?_
      refine r_bipush (v := (-6)) dX7_does_26 (by decide) ?_
      obtain ⟨h20, h⟩ := chk_some h
      obtain ⟨q21, g22, h⟩ := ob_some h
      refine r_callV (d' := (6, 0, false)) (As := [.int (-6)]) (st := []) mdv_X7_refuse tm_RX7_73 (by decide) rfl rfl (by decide) rfl (Nat.le_refl _) (Nat.le_of_ble_eq_true rfl) rfl dX7_does_28 h20 (ctX7_refuse g22) (k_I0 ?_)
      rw [← Option.some.inj h] at hk
      exact r_ireturn dX7_does_31 rfl rfl hk
  · rw [if_pos c7] at h
    refine r_aload_n dX7_does_11 0 rfl ?_
    refine r_iconst (v := (-1)) dX7_does_12 (by decide) ?_
    obtain ⟨h23, h⟩ := chk_some h
    obtain ⟨q24, g25, h⟩ := ob_some h
    refine r_callV (d' := (6, 0, false)) (As := [.int (-1)]) (st := []) mdv_X7_refuse tm_RX7_73 (by decide) rfl rfl (by decide) rfl (Nat.le_refl _) (Nat.le_of_ble_eq_true rfl) rfl dX7_does_13 h23 (ctX7_refuse g25) (k_I0 ?_)
    rw [← Option.some.inj h] at hk
    exact r_ireturn dX7_does_16 rfl rfl hk
set_option maxHeartbeats 1000000 in
set_option maxRecDepth 20000 in
theorem ctX7_does {E : Ev} {a0 : Nat} {x1 : Int32} {x2 : Int32} {x3 : Int32} {w : Wd} {q : Int32 × Wd} (h : fX7_does a0 x1 x2 x3 w = some q) : CT E mX7_does (10, 0, false) [.ref a0, .int x1, .int x2, .int x3] w (QI q) := CT.of pl_RX7 (Nat.le_of_ble_eq_true rfl) (okX7_does h ⟨rfl, rfl⟩)
def fX7_rowTrouble_b42 (s0 : Int32) (w : Wd) : Option (Int32 × Wd) :=
  some (s0, w)
set_option maxHeartbeats 1000000 in
set_option maxRecDepth 20000 in
theorem okX7_rowTrouble_b42 {E : Ev} {Q : Option Value → Wd → Prop} {s0 : Int32} {w : Wd} {q : Int32 × Wd} (h : fX7_rowTrouble_b42 s0 w = some q) (hk : (fun q : Int32 × Wd => Q (some (.int q.1)) q.2) q) : Runs E mX7_rowTrouble (8, 0, false) Q 0 42 [] [.int s0] w := by
  unfold fX7_rowTrouble_b42 at h
  rw [← Option.some.inj h] at hk
  exact r_ireturn dX7_rowTrouble_42 rfl rfl hk
def fX7_rowTrouble (a0 : Nat) (x1 : Int32) (w : Wd) : Option (Int32 × Wd) :=
  ob (fX7_isShelf x1 w) (fun q1 => if q1.1 = 0 then (some ((-1), q1.2)) else (chk (isO q1.2 a0 7) (ob (wR q1.2 a0 0) (fun o5 => chk (isA q1.2 o5 4) (chk (inb x1 (wn q1.2 o5)) (ob (wR q1.2 o5 (x1).toNatClampNeg) (fun o9 => chk (isO q1.2 o9 6) (ob (fX6_holdsGarment o9 q1.2) (fun q12 => if q12.1 = 0 then (chk (isO q12.2 a0 7) (ob (wR q12.2 a0 0) (fun o16 => chk (isA q12.2 o16 4) (chk (inb x1 (wn q12.2 o16)) (ob (wR q12.2 o16 (x1).toNatClampNeg) (fun o20 => chk (isO q12.2 o20 6) (ob (fX6_holdsNothing o20 q12.2) (fun q23 => if q23.1 = 0 then (fX7_rowTrouble_b42 0 q23.2) else (fX7_rowTrouble_b42 (-3) q23.2))))))))) else (some ((-2), q12.2)))))))))))
set_option maxHeartbeats 1000000 in
set_option maxRecDepth 20000 in
theorem okX7_rowTrouble {E : Ev} {Q : Option Value → Wd → Prop} {a0 : Nat} {x1 : Int32} {w : Wd} {q : Int32 × Wd} (h : fX7_rowTrouble a0 x1 w = some q) (hk : (fun q : Int32 × Wd => Q (some (.int q.1)) q.2) q) : Runs E mX7_rowTrouble (8, 0, false) Q 0 0 [(0, .ref a0), (1, .int x1)] [] w := by
  unfold fX7_rowTrouble at h
  refine r_iload_n dX7_rowTrouble_0 1 rfl ?_
  obtain ⟨q1, g2, h⟩ := ob_some h
  refine r_callS (d' := (7, 0, false)) (As := [.int x1]) (st := []) mds_X7_isShelf tm_RX7_69 rfl (by decide) rfl (Nat.le_refl _) (Nat.le_of_ble_eq_true rfl) rfl dX7_rowTrouble_1 (ctX7_isShelf g2) (k_I0 ?_)
  refine r_if_ne (tgt := 9) dX7_rowTrouble_4 (by decide) (fun c3 => ?_) (fun c3 => ?_)
  · rw [if_neg c3] at h
    refine r_aload_n dX7_rowTrouble_9 0 rfl ?_
    obtain ⟨h4, h⟩ := chk_some h
    obtain ⟨o5, g6, h⟩ := ob_some h
    refine r_getR (fl_RX7_11 rfl) rfl dX7_rowTrouble_10 h4 g6 ?_
    refine r_iload_n dX7_rowTrouble_13 1 rfl ?_
    obtain ⟨h7, h⟩ := chk_some h
    obtain ⟨h8, h⟩ := chk_some h
    obtain ⟨o9, g10, h⟩ := ob_some h
    refine r_aaload 4 (by decide) (by decide) dX7_rowTrouble_14 h7 h8 g10 ?_
    obtain ⟨h11, h⟩ := chk_some h
    obtain ⟨q12, g13, h⟩ := ob_some h
    refine r_callV (d' := (6, 0, false)) (As := []) (st := []) mdv_X6_holdsGarment tm_RX7_96 (by decide) rfl rfl (by decide) rfl (Nat.le_refl _) (Nat.le_of_ble_eq_true rfl) rfl dX7_rowTrouble_15 h11 (ctX6_holdsGarment g13) (k_I0 ?_)
    refine r_if_eq (tgt := 24) dX7_rowTrouble_18 (by decide) (fun c14 => ?_) (fun c14 => ?_)
    · rw [if_pos c14] at h
      refine r_aload_n dX7_rowTrouble_24 0 rfl ?_
      obtain ⟨h15, h⟩ := chk_some h
      obtain ⟨o16, g17, h⟩ := ob_some h
      refine r_getR (fl_RX7_11 rfl) rfl dX7_rowTrouble_25 h15 g17 ?_
      refine r_iload_n dX7_rowTrouble_28 1 rfl ?_
      obtain ⟨h18, h⟩ := chk_some h
      obtain ⟨h19, h⟩ := chk_some h
      obtain ⟨o20, g21, h⟩ := ob_some h
      refine r_aaload 4 (by decide) (by decide) dX7_rowTrouble_29 h18 h19 g21 ?_
      obtain ⟨h22, h⟩ := chk_some h
      obtain ⟨q23, g24, h⟩ := ob_some h
      refine r_callV (d' := (6, 0, false)) (As := []) (st := []) mdv_X6_holdsNothing tm_RX7_104 (by decide) rfl rfl (by decide) rfl (Nat.le_refl _) (Nat.le_of_ble_eq_true rfl) rfl dX7_rowTrouble_30 h22 (ctX6_holdsNothing g24) (k_I0 ?_)
      refine r_if_eq (tgt := 41) dX7_rowTrouble_33 (by decide) (fun c25 => ?_) (fun c25 => ?_)
      · rw [if_pos c25] at h
        refine r_iconst (v := 0) dX7_rowTrouble_41 (by decide) ?_
        refine r_sub [] [] rfl ?_
        exact okX7_rowTrouble_b42 h hk
      · rw [if_neg c25] at h
        refine r_bipush (v := (-3)) dX7_rowTrouble_36 (by decide) ?_
        refine r_goto (tgt := 42) dX7_rowTrouble_38 (by decide) ?_
        refine r_sub [] [] rfl ?_
        exact okX7_rowTrouble_b42 h hk
    · rw [if_neg c14] at h
      refine r_bipush (v := (-2)) dX7_rowTrouble_21 (by decide) ?_
      rw [← Option.some.inj h] at hk
      exact r_ireturn dX7_rowTrouble_23 rfl rfl hk
  · rw [if_pos c3] at h
    refine r_iconst (v := (-1)) dX7_rowTrouble_7 (by decide) ?_
    rw [← Option.some.inj h] at hk
    exact r_ireturn dX7_rowTrouble_8 rfl rfl hk
set_option maxHeartbeats 1000000 in
set_option maxRecDepth 20000 in
theorem ctX7_rowTrouble {E : Ev} {a0 : Nat} {x1 : Int32} {w : Wd} {q : Int32 × Wd} (h : fX7_rowTrouble a0 x1 w = some q) : CT E mX7_rowTrouble (8, 0, false) [.ref a0, .int x1] w (QI q) := CT.of pl_RX7 (Nat.le_of_ble_eq_true rfl) (okX7_rowTrouble h ⟨rfl, rfl⟩)
def fX7_dressed_b84 (a0 : Nat) (w : Wd) : Option (Int32 × Wd) :=
  chk (isO w a0 7) (ob (fX7_refuse a0 (-5) w) (fun q2 => some (q2.1, q2.2)))
set_option maxHeartbeats 1000000 in
set_option maxRecDepth 20000 in
theorem okX7_dressed_b84 {E : Ev} {Q : Option Value → Wd → Prop} {a0 : Nat} {w : Wd} {q : Int32 × Wd} (h : fX7_dressed_b84 a0 w = some q) (hk : (fun q : Int32 × Wd => Q (some (.int q.1)) q.2) q) : Runs E mX7_dressed (11, 0, false) Q 0 84 [(0, .ref a0)] [] w := by
  unfold fX7_dressed_b84 at h
  refine r_aload_n dX7_dressed_84 0 rfl ?_
  refine r_bipush (v := (-5)) dX7_dressed_85 (by decide) ?_
  obtain ⟨h1, h⟩ := chk_some h
  obtain ⟨q2, g3, h⟩ := ob_some h
  refine r_callV (d' := (6, 0, false)) (As := [.int (-5)]) (st := []) mdv_X7_refuse tm_RX7_73 (by decide) rfl rfl (by decide) rfl (Nat.le_refl _) (Nat.le_of_ble_eq_true rfl) rfl dX7_dressed_87 h1 (ctX7_refuse g3) (k_I0 ?_)
  rw [← Option.some.inj h] at hk
  exact r_ireturn dX7_dressed_90 rfl rfl hk
def fX7_dressed_b145 (s0 : Int32) (w : Wd) : Option (Int32 × Wd) :=
  some (s0, w)
set_option maxHeartbeats 1000000 in
set_option maxRecDepth 20000 in
theorem okX7_dressed_b145 {E : Ev} {Q : Option Value → Wd → Prop} {s0 : Int32} {w : Wd} {q : Int32 × Wd} (h : fX7_dressed_b145 s0 w = some q) (hk : (fun q : Int32 × Wd => Q (some (.int q.1)) q.2) q) : Runs E mX7_dressed (11, 0, false) Q 0 145 [] [.int s0] w := by
  unfold fX7_dressed_b145 at h
  rw [← Option.some.inj h] at hk
  exact r_ireturn dX7_dressed_145 rfl rfl hk
def fX7_dressed_b91 (a0 : Nat) (x1 : Int32) (x2 : Int32) (x3 : Int32) (x5 : Int32) (w : Wd) : Option (Int32 × Wd) :=
  if x5 = 0 then (chk (isO w a0 7) (ob (fX7_refuse a0 (-6) w) (fun q30 => some (q30.1, q30.2)))) else (chk (isO w a0 7) (ob (wR w a0 7) (fun o3 => ob (wR w a0 2) (fun o5 => ob (wR w a0 0) (fun o7 => chk (isA w o7 4) (chk (inb x1 (wn w o7)) (ob (wR w o7 (x1).toNatClampNeg) (fun o11 => chk (isO w o3 1) (ob (fX1_search o3 o5 o11 x2 w) (fun q14 => if x3 = (-1) then (chk (isO q14 a0 7) (ob (wR q14 a0 7) (fun o26 => chk (isO q14 o26 1) (fX7_dressed_b145 (wI q14 o26 1) q14)))) else (chk (isO q14 a0 7) (ob (wR q14 a0 7) (fun o18 => chk (isO q14 o18 1) (ob (wR q14 o18 0) (fun o21 => chk (isA q14 o21 0) (chk (inb x3 (wn q14 o21)) (fX7_dressed_b145 (wI q14 o21 (x3).toNatClampNeg) q14)))))))))))))))))
set_option maxHeartbeats 1000000 in
set_option maxRecDepth 20000 in
theorem okX7_dressed_b91 {E : Ev} {Q : Option Value → Wd → Prop} {a0 : Nat} {x1 : Int32} {x2 : Int32} {x3 : Int32} {x5 : Int32} {w : Wd} {q : Int32 × Wd} (h : fX7_dressed_b91 a0 x1 x2 x3 x5 w = some q) (hk : (fun q : Int32 × Wd => Q (some (.int q.1)) q.2) q) : Runs E mX7_dressed (11, 0, false) Q 0 91 [(0, .ref a0), (1, .int x1), (2, .int x2), (3, .int x3), (5, .int x5)] [] w := by
  unfold fX7_dressed_b91 at h
  refine r_iload dX7_dressed_91 4 rfl ?_
  refine r_if_ne (tgt := 103) dX7_dressed_93 (by decide) (fun c1 => ?_) (fun c1 => ?_)
  · rw [if_neg c1] at h
    refine r_aload_n dX7_dressed_103 0 rfl ?_
    obtain ⟨h2, h⟩ := chk_some h
    obtain ⟨o3, g4, h⟩ := ob_some h
    refine r_getR (fl_RX7_49 rfl) rfl dX7_dressed_104 h2 g4 ?_
    refine r_aload_n dX7_dressed_107 0 rfl ?_
    obtain ⟨o5, g6, h⟩ := ob_some h
    refine r_getR (fl_RX7_22 rfl) rfl dX7_dressed_108 h2 g6 ?_
    refine r_aload_n dX7_dressed_111 0 rfl ?_
    obtain ⟨o7, g8, h⟩ := ob_some h
    refine r_getR (fl_RX7_11 rfl) rfl dX7_dressed_112 h2 g8 ?_
    refine r_iload_n dX7_dressed_115 1 rfl ?_
    obtain ⟨h9, h⟩ := chk_some h
    obtain ⟨h10, h⟩ := chk_some h
    obtain ⟨o11, g12, h⟩ := ob_some h
    refine r_aaload 4 (by decide) (by decide) dX7_dressed_116 h9 h10 g12 ?_
    refine r_iload_n dX7_dressed_117 2 rfl ?_
    obtain ⟨h13, h⟩ := chk_some h
    obtain ⟨q14, g15, h⟩ := ob_some h
    refine r_callV (d' := (10, 0, false)) (As := [.ref o5, .ref o11, .int x2]) (st := []) mdv_X1_search tm_RX7_281 (by decide) rfl rfl (by decide) rfl (Nat.le_refl _) (Nat.le_of_ble_eq_true rfl) rfl dX7_dressed_118 h13 (ctX1_search g15) (k_V0 ?_)
    refine r_iload_n dX7_dressed_121 3 rfl ?_
    refine r_iconst (v := (-1)) dX7_dressed_122 (by decide) ?_
    refine r_icmp_ne (tgt := 136) dX7_dressed_123 (by decide) (fun c16 => ?_) (fun c16 => ?_)
    · rw [if_neg c16] at h
      refine r_aload_n dX7_dressed_136 0 rfl ?_
      obtain ⟨h17, h⟩ := chk_some h
      obtain ⟨o18, g19, h⟩ := ob_some h
      refine r_getR (fl_RX7_49 rfl) rfl dX7_dressed_137 h17 g19 ?_
      obtain ⟨h20, h⟩ := chk_some h
      obtain ⟨o21, g22, h⟩ := ob_some h
      refine r_getR (fl_RX7_288 rfl) rfl dX7_dressed_140 h20 g22 ?_
      refine r_iload_n dX7_dressed_143 3 rfl ?_
      obtain ⟨h23, h⟩ := chk_some h
      obtain ⟨h24, h⟩ := chk_some h
      refine r_iaload dX7_dressed_144 h23 h24 ?_
      refine r_sub [] [] rfl ?_
      exact okX7_dressed_b145 h hk
    · rw [if_pos c16] at h
      refine r_aload_n dX7_dressed_126 0 rfl ?_
      obtain ⟨h25, h⟩ := chk_some h
      obtain ⟨o26, g27, h⟩ := ob_some h
      refine r_getR (fl_RX7_49 rfl) rfl dX7_dressed_127 h25 g27 ?_
      obtain ⟨h28, h⟩ := chk_some h
      refine r_getI (fl_RX7_285 rfl) rfl dX7_dressed_130 h28 ?_
      refine r_goto (tgt := 145) dX7_dressed_133 (by decide) ?_
      refine r_sub [] [] rfl ?_
      exact okX7_dressed_b145 h hk
  · rw [if_pos c1] at h
    refine r_aload_n dX7_dressed_96 0 rfl ?_
    refine r_bipush (v := (-6)) dX7_dressed_97 (by decide) ?_
    obtain ⟨h29, h⟩ := chk_some h
    obtain ⟨q30, g31, h⟩ := ob_some h
    refine r_callV (d' := (6, 0, false)) (As := [.int (-6)]) (st := []) mdv_X7_refuse tm_RX7_73 (by decide) rfl rfl (by decide) rfl (Nat.le_refl _) (Nat.le_of_ble_eq_true rfl) rfl dX7_dressed_99 h29 (ctX7_refuse g31) (k_I0 ?_)
    rw [← Option.some.inj h] at hk
    exact r_ireturn dX7_dressed_102 rfl rfl hk
def fX7_dressed_b44 (a0 : Nat) (x1 : Int32) (x2 : Int32) (x3 : Int32) (s0 : Int32) (w : Wd) : Option (Int32 × Wd) :=
  chk (isO w a0 7) (ob (wR w a0 0) (fun o2 => chk (isA w o2 4) (chk (inb x1 (wn w o2)) (ob (wR w o2 (x1).toNatClampNeg) (fun o6 => chk (isO w o6 6) (ob (wR w a0 2) (fun o9 => chk (isO w o9 0) (if (wI w o6 1) < (12 * (wI w o9 3)) then (fX7_dressed_b84 a0 w) else (if s0 = 0 then (fX7_dressed_b91 a0 x1 x2 x3 s0 w) else (ob (fX7_isWithin x3 (-1) (x2 - 1) w) (fun q14 => if q14.1 = 0 then (fX7_dressed_b84 a0 q14.2) else (fX7_dressed_b91 a0 x1 x2 x3 s0 q14.2))))))))))))
set_option maxHeartbeats 1000000 in
set_option maxRecDepth 20000 in
theorem okX7_dressed_b44 {E : Ev} {Q : Option Value → Wd → Prop} {a0 : Nat} {x1 : Int32} {x2 : Int32} {x3 : Int32} {s0 : Int32} {w : Wd} {q : Int32 × Wd} (h : fX7_dressed_b44 a0 x1 x2 x3 s0 w = some q) (hk : (fun q : Int32 × Wd => Q (some (.int q.1)) q.2) q) : Runs E mX7_dressed (11, 0, false) Q 0 44 [(0, .ref a0), (1, .int x1), (2, .int x2), (3, .int x3)] [.int s0] w := by
  unfold fX7_dressed_b44 at h
  refine r_istore dX7_dressed_44 (Nat.le_of_ble_eq_true rfl) [(5, .int s0), (0, .ref a0), (1, .int x1), (2, .int x2), (3, .int x3)] rfl ?_
  refine r_aload_n dX7_dressed_46 1 rfl ?_
  obtain ⟨h1, h⟩ := chk_some h
  obtain ⟨o2, g3, h⟩ := ob_some h
  refine r_getR (fl_RX7_11 rfl) rfl dX7_dressed_47 h1 g3 ?_
  refine r_iload_n dX7_dressed_50 2 rfl ?_
  obtain ⟨h4, h⟩ := chk_some h
  obtain ⟨h5, h⟩ := chk_some h
  obtain ⟨o6, g7, h⟩ := ob_some h
  refine r_aaload 4 (by decide) (by decide) dX7_dressed_51 h4 h5 g7 ?_
  obtain ⟨h8, h⟩ := chk_some h
  refine r_getI (fl_RX7_278 rfl) rfl dX7_dressed_52 h8 ?_
  refine r_bipush (v := 12) dX7_dressed_55 (by decide) ?_
  refine r_aload_n dX7_dressed_57 1 rfl ?_
  obtain ⟨o9, g10, h⟩ := ob_some h
  refine r_getR (fl_RX7_22 rfl) rfl dX7_dressed_58 h1 g10 ?_
  obtain ⟨h11, h⟩ := chk_some h
  refine r_getI (fl_RX7_262 rfl) rfl dX7_dressed_61 h11 ?_
  refine r_imul dX7_dressed_64 ?_
  refine r_icmp_lt (tgt := 84) dX7_dressed_65 (by decide) (fun c12 => ?_) (fun c12 => ?_)
  · rw [if_pos c12] at h
    refine r_sub [1] [(0, .ref a0)] rfl ?_
    exact okX7_dressed_b84 h hk
  · rw [if_neg c12] at h
    refine r_iload dX7_dressed_68 0 rfl ?_
    refine r_if_eq (tgt := 91) dX7_dressed_70 (by decide) (fun c13 => ?_) (fun c13 => ?_)
    · rw [if_pos c13] at h
      refine r_sub [1, 2, 3, 4, 0] [(0, .ref a0), (1, .int x1), (2, .int x2), (3, .int x3), (5, .int s0)] rfl ?_
      exact okX7_dressed_b91 h hk
    · rw [if_neg c13] at h
      refine r_iload_n dX7_dressed_73 4 rfl ?_
      refine r_iconst (v := (-1)) dX7_dressed_74 (by decide) ?_
      refine r_iload_n dX7_dressed_75 3 rfl ?_
      refine r_iconst (v := 1) dX7_dressed_76 (by decide) ?_
      refine r_isub dX7_dressed_77 ?_
      obtain ⟨q14, g15, h⟩ := ob_some h
      refine r_callS (d' := (6, 0, false)) (As := [.int x3, .int (-1), .int (x2 - 1)]) (st := []) mds_X7_isWithin tm_RX7_77 rfl (by decide) rfl (Nat.le_refl _) (Nat.le_of_ble_eq_true rfl) rfl dX7_dressed_78 (ctX7_isWithin g15) (k_I0 ?_)
      refine r_if_ne (tgt := 91) dX7_dressed_81 (by decide) (fun c16 => ?_) (fun c16 => ?_)
      · rw [if_neg c16] at h
        refine r_sub [1, 2, 3, 4, 0] [(0, .ref a0), (1, .int x1), (2, .int x2), (3, .int x3), (5, .int s0)] rfl ?_
        exact okX7_dressed_b91 h hk
      · rw [if_pos c16] at h
        refine r_sub [1] [(0, .ref a0)] rfl ?_
        exact okX7_dressed_b84 h hk
def fX7_dressed_b43 (a0 : Nat) (x1 : Int32) (x2 : Int32) (x3 : Int32) (w : Wd) : Option (Int32 × Wd) :=
  fX7_dressed_b44 a0 x1 x2 x3 0 w
set_option maxHeartbeats 1000000 in
set_option maxRecDepth 20000 in
theorem okX7_dressed_b43 {E : Ev} {Q : Option Value → Wd → Prop} {a0 : Nat} {x1 : Int32} {x2 : Int32} {x3 : Int32} {w : Wd} {q : Int32 × Wd} (h : fX7_dressed_b43 a0 x1 x2 x3 w = some q) (hk : (fun q : Int32 × Wd => Q (some (.int q.1)) q.2) q) : Runs E mX7_dressed (11, 0, false) Q 0 43 [(0, .ref a0), (1, .int x1), (2, .int x2), (3, .int x3)] [] w := by
  unfold fX7_dressed_b43 at h
  refine r_iconst (v := 0) dX7_dressed_43 (by decide) ?_
  refine r_sub [0, 1, 2, 3] [(0, .ref a0), (1, .int x1), (2, .int x2), (3, .int x3)] rfl ?_
  exact okX7_dressed_b44 h hk
def fX7_dressed (a0 : Nat) (x1 : Int32) (x2 : Int32) (x3 : Int32) (w : Wd) : Option (Int32 × Wd) :=
  chk (isO w a0 7) (ob (fX7_rowTrouble a0 x1 w) (fun q2 => if q2.1 = 0 then (ob (fX7_isWithin x2 1 4 q2.2) (fun q5 => if q5.1 = 0 then (fX7_dressed_b43 a0 x1 x2 x3 q5.2) else (chk (isO q5.2 a0 7) (ob (wR q5.2 a0 2) (fun o9 => chk (isO q5.2 o9 0) (if (wI q5.2 o9 4) < x2 then (fX7_dressed_b43 a0 x1 x2 x3 q5.2) else (fX7_dressed_b44 a0 x1 x2 x3 1 q5.2))))))) else (chk (isO q2.2 a0 7) (ob (fX7_refuse a0 q2.1 q2.2) (fun q14 => some (q14.1, q14.2))))))
set_option maxHeartbeats 1000000 in
set_option maxRecDepth 20000 in
theorem okX7_dressed {E : Ev} {Q : Option Value → Wd → Prop} {a0 : Nat} {x1 : Int32} {x2 : Int32} {x3 : Int32} {w : Wd} {q : Int32 × Wd} (h : fX7_dressed a0 x1 x2 x3 w = some q) (hk : (fun q : Int32 × Wd => Q (some (.int q.1)) q.2) q) : Runs E mX7_dressed (11, 0, false) Q 0 0 [(0, .ref a0), (1, .int x1), (2, .int x2), (3, .int x3)] [] w := by
  unfold fX7_dressed at h
  refine r_aload_n dX7_dressed_0 0 rfl ?_
  refine r_iload_n dX7_dressed_1 1 rfl ?_
  obtain ⟨h1, h⟩ := chk_some h
  obtain ⟨q2, g3, h⟩ := ob_some h
  refine r_callV (d' := (8, 0, false)) (As := [.int x1]) (st := []) mdv_X7_rowTrouble tm_RX7_85 (by decide) rfl rfl (by decide) rfl (Nat.le_refl _) (Nat.le_of_ble_eq_true rfl) rfl dX7_dressed_2 h1 (ctX7_rowTrouble g3) (k_I0 ?_)
  refine r_istore dX7_dressed_5 (Nat.le_of_ble_eq_true rfl) [(4, .int q2.1), (0, .ref a0), (1, .int x1), (2, .int x2), (3, .int x3)] rfl ?_
  refine r_iload dX7_dressed_7 0 rfl ?_
  refine r_if_eq (tgt := 19) dX7_dressed_9 (by decide) (fun c4 => ?_) (fun c4 => ?_)
  · rw [if_pos c4] at h
    refine r_iload_n dX7_dressed_19 3 rfl ?_
    refine r_iconst (v := 1) dX7_dressed_20 (by decide) ?_
    refine r_iconst (v := 4) dX7_dressed_21 (by decide) ?_
    obtain ⟨q5, g6, h⟩ := ob_some h
    refine r_callS (d' := (6, 0, false)) (As := [.int x2, .int 1, .int 4]) (st := []) mds_X7_isWithin tm_RX7_77 rfl (by decide) rfl (Nat.le_refl _) (Nat.le_of_ble_eq_true rfl) rfl dX7_dressed_22 (ctX7_isWithin g6) (k_I0 ?_)
    refine r_if_eq (tgt := 43) dX7_dressed_25 (by decide) (fun c7 => ?_) (fun c7 => ?_)
    · rw [if_pos c7] at h
      refine r_sub [1, 2, 3, 4] [(0, .ref a0), (1, .int x1), (2, .int x2), (3, .int x3)] rfl ?_
      exact okX7_dressed_b43 h hk
    · rw [if_neg c7] at h
      refine r_iload_n dX7_dressed_28 3 rfl ?_
      refine r_aload_n dX7_dressed_29 1 rfl ?_
      obtain ⟨h8, h⟩ := chk_some h
      obtain ⟨o9, g10, h⟩ := ob_some h
      refine r_getR (fl_RX7_22 rfl) rfl dX7_dressed_30 h8 g10 ?_
      obtain ⟨h11, h⟩ := chk_some h
      refine r_getI (fl_RX7_275 rfl) rfl dX7_dressed_33 h11 ?_
      refine r_icmp_gt (tgt := 43) dX7_dressed_36 (by decide) (fun c12 => ?_) (fun c12 => ?_)
      · rw [if_pos c12] at h
        refine r_sub [1, 2, 3, 4] [(0, .ref a0), (1, .int x1), (2, .int x2), (3, .int x3)] rfl ?_
        exact okX7_dressed_b43 h hk
      · rw [if_neg c12] at h
        refine r_iconst (v := 1) dX7_dressed_39 (by decide) ?_
        refine r_goto (tgt := 44) dX7_dressed_40 (by decide) ?_
        refine r_sub [1, 2, 3, 4] [(0, .ref a0), (1, .int x1), (2, .int x2), (3, .int x3)] rfl ?_
        exact okX7_dressed_b44 h hk
  · rw [if_neg c4] at h
    refine r_aload_n dX7_dressed_12 1 rfl ?_
    refine r_iload dX7_dressed_13 0 rfl ?_
    obtain ⟨h13, h⟩ := chk_some h
    obtain ⟨q14, g15, h⟩ := ob_some h
    refine r_callV (d' := (6, 0, false)) (As := [.int q2.1]) (st := []) mdv_X7_refuse tm_RX7_73 (by decide) rfl rfl (by decide) rfl (Nat.le_refl _) (Nat.le_of_ble_eq_true rfl) rfl dX7_dressed_15 h13 (ctX7_refuse g15) (k_I0 ?_)
    rw [← Option.some.inj h] at hk
    exact r_ireturn dX7_dressed_18 rfl rfl hk
set_option maxHeartbeats 1000000 in
set_option maxRecDepth 20000 in
theorem ctX7_dressed {E : Ev} {a0 : Nat} {x1 : Int32} {x2 : Int32} {x3 : Int32} {w : Wd} {q : Int32 × Wd} (h : fX7_dressed a0 x1 x2 x3 w = some q) : CT E mX7_dressed (11, 0, false) [.ref a0, .int x1, .int x2, .int x3] w (QI q) := CT.of pl_RX7 (Nat.le_of_ble_eq_true rfl) (okX7_dressed h ⟨rfl, rfl⟩)
def fX7_element_b22 (s0 : Int64) (w : Wd) : Option (Int64 × Wd) :=
  some (s0, w)
set_option maxHeartbeats 1000000 in
set_option maxRecDepth 20000 in
theorem okX7_element_b22 {E : Ev} {Q : Option Value → Wd → Prop} {s0 : Int64} {w : Wd} {q : Int64 × Wd} (h : fX7_element_b22 s0 w = some q) (hk : (fun q : Int64 × Wd => Q (some (.long q.1)) q.2) q) : Runs E mX7_element (9, 0, false) Q 0 22 [] [.long s0] w := by
  unfold fX7_element_b22 at h
  rw [← Option.some.inj h] at hk
  exact r_lreturn dX7_element_22 rfl hk
def fX7_element (a0 : Nat) (x1 : Int32) (x2 : Int32) (w : Wd) : Option (Int64 × Wd) :=
  chk (isO w a0 7) (ob (fX7_rowTrouble a0 x1 w) (fun q2 => if q2.1 = 0 then (chk (isO q2.2 a0 7) (ob (wR q2.2 a0 0) (fun o6 => chk (isA q2.2 o6 4) (chk (inb x1 (wn q2.2 o6)) (ob (wR q2.2 o6 (x1).toNatClampNeg) (fun o10 => chk (isO q2.2 o10 6) (ob (fX6_at o10 x2 q2.2) (fun q13 => fX7_element_b22 q13.1 q13.2)))))))) else (fX7_element_b22 0 q2.2)))
set_option maxHeartbeats 1000000 in
set_option maxRecDepth 20000 in
theorem okX7_element {E : Ev} {Q : Option Value → Wd → Prop} {a0 : Nat} {x1 : Int32} {x2 : Int32} {w : Wd} {q : Int64 × Wd} (h : fX7_element a0 x1 x2 w = some q) (hk : (fun q : Int64 × Wd => Q (some (.long q.1)) q.2) q) : Runs E mX7_element (9, 0, false) Q 0 0 [(0, .ref a0), (1, .int x1), (2, .int x2)] [] w := by
  unfold fX7_element at h
  refine r_aload_n dX7_element_0 0 rfl ?_
  refine r_iload_n dX7_element_1 1 rfl ?_
  obtain ⟨h1, h⟩ := chk_some h
  obtain ⟨q2, g3, h⟩ := ob_some h
  refine r_callV (d' := (8, 0, false)) (As := [.int x1]) (st := []) mdv_X7_rowTrouble tm_RX7_85 (by decide) rfl rfl (by decide) rfl (Nat.le_refl _) (Nat.le_of_ble_eq_true rfl) rfl dX7_element_2 h1 (ctX7_rowTrouble g3) (k_I0 ?_)
  refine r_if_ne (tgt := 21) dX7_element_5 (by decide) (fun c4 => ?_) (fun c4 => ?_)
  · rw [if_neg c4] at h
    refine r_lconst (v := 0) dX7_element_21 (by decide) ?_
    refine r_sub [] [] rfl ?_
    exact okX7_element_b22 h hk
  · rw [if_pos c4] at h
    refine r_aload_n dX7_element_8 0 rfl ?_
    obtain ⟨h5, h⟩ := chk_some h
    obtain ⟨o6, g7, h⟩ := ob_some h
    refine r_getR (fl_RX7_11 rfl) rfl dX7_element_9 h5 g7 ?_
    refine r_iload_n dX7_element_12 1 rfl ?_
    obtain ⟨h8, h⟩ := chk_some h
    obtain ⟨h9, h⟩ := chk_some h
    obtain ⟨o10, g11, h⟩ := ob_some h
    refine r_aaload 4 (by decide) (by decide) dX7_element_13 h8 h9 g11 ?_
    refine r_iload_n dX7_element_14 2 rfl ?_
    obtain ⟨h12, h⟩ := chk_some h
    obtain ⟨q13, g14, h⟩ := ob_some h
    refine r_callV (d' := (6, 0, false)) (As := [.int x2]) (st := []) mdv_X6_at tm_RX7_117 (by decide) rfl rfl (by decide) rfl (Nat.le_refl _) (Nat.le_of_ble_eq_true rfl) rfl dX7_element_15 h12 (ctX6_at g14) (k_L0 ?_)
    refine r_goto (tgt := 22) dX7_element_18 (by decide) ?_
    refine r_sub [] [] rfl ?_
    exact okX7_element_b22 h hk
set_option maxHeartbeats 1000000 in
set_option maxRecDepth 20000 in
theorem ctX7_element {E : Ev} {a0 : Nat} {x1 : Int32} {x2 : Int32} {w : Wd} {q : Int64 × Wd} (h : fX7_element a0 x1 x2 w = some q) : CT E mX7_element (9, 0, false) [.ref a0, .int x1, .int x2] w (QL q) := CT.of pl_RX7 (Nat.le_of_ble_eq_true rfl) (okX7_element h ⟨rfl, rfl⟩)
def fX7_fault (a0 : Nat) (w : Wd) : Option (Int32 × Wd) :=
  chk (isO w a0 7) (some ((wI w a0 10), w))
set_option maxHeartbeats 1000000 in
set_option maxRecDepth 20000 in
theorem okX7_fault {E : Ev} {Q : Option Value → Wd → Prop} {a0 : Nat} {w : Wd} {q : Int32 × Wd} (h : fX7_fault a0 w = some q) (hk : (fun q : Int32 × Wd => Q (some (.int q.1)) q.2) q) : Runs E mX7_fault (6, 0, false) Q 0 0 [(0, .ref a0)] [] w := by
  unfold fX7_fault at h
  refine r_aload_n dX7_fault_0 0 rfl ?_
  obtain ⟨h1, h⟩ := chk_some h
  refine r_getI (fl_RX7_64 rfl) rfl dX7_fault_1 h1 ?_
  rw [← Option.some.inj h] at hk
  exact r_ireturn dX7_fault_4 rfl rfl hk
set_option maxHeartbeats 1000000 in
set_option maxRecDepth 20000 in
theorem ctX7_fault {E : Ev} {a0 : Nat} {w : Wd} {q : Int32 × Wd} (h : fX7_fault a0 w = some q) : CT E mX7_fault (6, 0, false) [.ref a0] w (QI q) := CT.of pl_RX7 (Nat.le_of_ble_eq_true rfl) (okX7_fault h ⟨rfl, rfl⟩)
def PX7_isFitting_L2 (E : Ev) (Q : Option Value → Wd → Prop) (a0 : Nat) (x1 : Int32) (a2 : Nat) (s : Int32 × Wd) : Prop := Runs E mX7_isFitting (9, 0, false) Q 0 2 [(0, .ref a0), (1, .int x1), (2, .ref a2), (3, .int s.1)] [] s.2
def fX7_isFitting_b37 (a0 : Nat) (x1 : Int32) (a2 : Nat) (x3 : Int32) (w : Wd) : Option ((Int32 × Wd) ⊕ (Int32 × Wd)) :=
  some (.inl ((x3 + 1), w))
set_option maxHeartbeats 1000000 in
set_option maxRecDepth 20000 in
theorem okX7_isFitting_b37 {E : Ev} {Q : Option Value → Wd → Prop} {a0 : Nat} {x1 : Int32} {a2 : Nat} {x3 : Int32} {w : Wd} {q : (Int32 × Wd) ⊕ (Int32 × Wd)} (h : fX7_isFitting_b37 a0 x1 a2 x3 w = some q) (hk : (Sum.elim (PX7_isFitting_L2 E Q a0 x1 a2) (fun q : Int32 × Wd => Q (some (.int q.1)) q.2)) q) : Runs E mX7_isFitting (9, 0, false) Q 0 37 [(0, .ref a0), (1, .int x1), (2, .ref a2), (3, .int x3)] [] w := by
  unfold fX7_isFitting_b37 at h
  refine r_iinc (v := (x3 + 1)) dX7_isFitting_37 3 rfl rfl (Nat.le_of_ble_eq_true rfl) [(3, .int (x3 + 1)), (0, .ref a0), (1, .int x1), (2, .ref a2)] rfl ?_
  refine r_goto (tgt := 2) dX7_isFitting_40 (by decide) ?_
  rw [← Option.some.inj h] at hk
  refine r_sub [1, 2, 3, 0] [(0, .ref a0), (1, .int x1), (2, .ref a2), (3, .int (x3 + 1))] rfl ?_
  exact hk
def fX7_isFitting_L2_body (a0 : Nat) (x1 : Int32) (a2 : Nat) (s : Int32 × Wd) : Option ((Int32 × Wd) ⊕ (Int32 × Wd)) :=
  if (12 : Int32) ≤ s.1 then (wr (some (1, s.2))) else (chk (isO s.2 a2 6) (ob (fX6_intAt a2 s.1 s.2) (fun q4 => if q4.1 = (-1) then (fX7_isFitting_b37 a0 x1 a2 s.1 q4.2) else (chk (isO q4.2 a0 7) (ob (wR q4.2 a0 2) (fun o8 => chk (isO q4.2 o8 0) (ob (fX0_deedOf o8 x1 s.1 q4.2) (fun q11 => if q4.1 = q11.1 then (fX7_isFitting_b37 a0 x1 a2 s.1 q11.2) else (wr (some (0, q11.2)))))))))))
set_option maxHeartbeats 1000000 in
set_option maxRecDepth 20000 in
theorem okX7_isFitting_L2_body {E : Ev} {Q : Option Value → Wd → Prop} {a0 : Nat} {x1 : Int32} {a2 : Nat} {s : Int32 × Wd} {r : (Int32 × Wd) ⊕ (Int32 × Wd)} (h : fX7_isFitting_L2_body a0 x1 a2 s = some r) (hk : (Sum.elim (PX7_isFitting_L2 E Q a0 x1 a2) (fun q : Int32 × Wd => Q (some (.int q.1)) q.2)) r) : PX7_isFitting_L2 E Q a0 x1 a2 s := by
  unfold fX7_isFitting_L2_body at h
  unfold PX7_isFitting_L2
  refine r_iload_n dX7_isFitting_2 3 rfl ?_
  refine r_bipush (v := 12) dX7_isFitting_3 (by decide) ?_
  refine r_icmp_ge (tgt := 43) dX7_isFitting_5 (by decide) (fun c1 => ?_) (fun c1 => ?_)
  · rw [if_pos c1] at h
    obtain ⟨r2, hr, h⟩ := wr_some h
    rw [hr] at hk
    refine r_iconst (v := 1) dX7_isFitting_43 (by decide) ?_
    rw [← Option.some.inj h] at hk
    exact r_ireturn dX7_isFitting_44 rfl rfl hk
  · rw [if_neg c1] at h
    refine r_aload_n dX7_isFitting_8 2 rfl ?_
    refine r_iload_n dX7_isFitting_9 3 rfl ?_
    obtain ⟨h3, h⟩ := chk_some h
    obtain ⟨q4, g5, h⟩ := ob_some h
    refine r_callV (d' := (6, 0, false)) (As := [.int s.1]) (st := []) mdv_X6_intAt tm_RX7_269 (by decide) rfl rfl (by decide) rfl (Nat.le_refl _) (Nat.le_of_ble_eq_true rfl) rfl dX7_isFitting_10 h3 (ctX6_intAt g5) (k_I0 ?_)
    refine r_istore dX7_isFitting_13 (Nat.le_of_ble_eq_true rfl) [(4, .int q4.1), (0, .ref a0), (1, .int x1), (2, .ref a2), (3, .int s.1)] rfl ?_
    refine r_iload dX7_isFitting_15 0 rfl ?_
    refine r_iconst (v := (-1)) dX7_isFitting_17 (by decide) ?_
    refine r_icmp_eq (tgt := 37) dX7_isFitting_18 (by decide) (fun c6 => ?_) (fun c6 => ?_)
    · rw [if_pos c6] at h
      refine r_sub [1, 2, 3, 4] [(0, .ref a0), (1, .int x1), (2, .ref a2), (3, .int s.1)] rfl ?_
      exact okX7_isFitting_b37 h hk
    · rw [if_neg c6] at h
      refine r_iload dX7_isFitting_21 0 rfl ?_
      refine r_aload_n dX7_isFitting_23 1 rfl ?_
      obtain ⟨h7, h⟩ := chk_some h
      obtain ⟨o8, g9, h⟩ := ob_some h
      refine r_getR (fl_RX7_22 rfl) rfl dX7_isFitting_24 h7 g9 ?_
      refine r_iload_n dX7_isFitting_27 2 rfl ?_
      refine r_iload_n dX7_isFitting_28 4 rfl ?_
      obtain ⟨h10, h⟩ := chk_some h
      obtain ⟨q11, g12, h⟩ := ob_some h
      refine r_callV (d' := (8, 0, false)) (As := [.int x1, .int s.1]) (st := [.int q4.1]) mdv_X0_deedOf tm_RX7_236 (by decide) rfl rfl (by decide) rfl (Nat.le_refl _) (Nat.le_of_ble_eq_true rfl) rfl dX7_isFitting_29 h10 (ctX0_deedOf g12) (k_I0 ?_)
      refine r_icmp_eq (tgt := 37) dX7_isFitting_32 (by decide) (fun c13 => ?_) (fun c13 => ?_)
      · rw [if_pos c13] at h
        refine r_sub [1, 2, 3, 4] [(0, .ref a0), (1, .int x1), (2, .ref a2), (3, .int s.1)] rfl ?_
        exact okX7_isFitting_b37 h hk
      · rw [if_neg c13] at h
        obtain ⟨r14, hr, h⟩ := wr_some h
        rw [hr] at hk
        refine r_iconst (v := 0) dX7_isFitting_35 (by decide) ?_
        rw [← Option.some.inj h] at hk
        exact r_ireturn dX7_isFitting_36 rfl rfl hk
def fX7_isFitting_L2 (a0 : Nat) (x1 : Int32) (a2 : Nat) (s : Int32 × Wd) : Option (Int32 × Wd) := it (fX7_isFitting_L2_body a0 x1 a2) FU s
set_option maxHeartbeats 1000000 in
set_option maxRecDepth 20000 in
theorem okX7_isFitting_L2 {E : Ev} {Q : Option Value → Wd → Prop} {a0 : Nat} {x1 : Int32} {a2 : Nat} {s : Int32 × Wd} {r : Int32 × Wd} (h : fX7_isFitting_L2 a0 x1 a2 s = some r) (hk : (fun q : Int32 × Wd => Q (some (.int q.1)) q.2) r) : PX7_isFitting_L2 E Q a0 x1 a2 s := it_runs (fun s r h hk => okX7_isFitting_L2_body h hk) FU s r h hk
def fX7_isFitting (a0 : Nat) (x1 : Int32) (a2 : Nat) (w : Wd) : Option (Int32 × Wd) :=
  fX7_isFitting_L2 a0 x1 a2 (0, w)
set_option maxHeartbeats 1000000 in
set_option maxRecDepth 20000 in
theorem okX7_isFitting {E : Ev} {Q : Option Value → Wd → Prop} {a0 : Nat} {x1 : Int32} {a2 : Nat} {w : Wd} {q : Int32 × Wd} (h : fX7_isFitting a0 x1 a2 w = some q) (hk : (fun q : Int32 × Wd => Q (some (.int q.1)) q.2) q) : Runs E mX7_isFitting (9, 0, false) Q 0 0 [(0, .ref a0), (1, .int x1), (2, .ref a2)] [] w := by
  unfold fX7_isFitting at h
  refine r_iconst (v := 0) dX7_isFitting_0 (by decide) ?_
  refine r_istore_n dX7_isFitting_1 rfl (Nat.le_of_ble_eq_true rfl) [(3, .int 0), (0, .ref a0), (1, .int x1), (2, .ref a2)] rfl ?_
  refine r_sub [1, 2, 3, 0] [(0, .ref a0), (1, .int x1), (2, .ref a2), (3, .int 0)] rfl ?_
  exact okX7_isFitting_L2 h hk
set_option maxHeartbeats 1000000 in
set_option maxRecDepth 20000 in
theorem ctX7_isFitting {E : Ev} {a0 : Nat} {x1 : Int32} {a2 : Nat} {w : Wd} {q : Int32 × Wd} (h : fX7_isFitting a0 x1 a2 w = some q) : CT E mX7_isFitting (9, 0, false) [.ref a0, .int x1, .ref a2] w (QI q) := CT.of pl_RX7 (Nat.le_of_ble_eq_true rfl) (okX7_isFitting h ⟨rfl, rfl⟩)
def fX7_toldDayTrouble_b32 (s0 : Int32) (w : Wd) : Option (Int32 × Wd) :=
  some (s0, w)
set_option maxHeartbeats 1000000 in
set_option maxRecDepth 20000 in
theorem okX7_toldDayTrouble_b32 {E : Ev} {Q : Option Value → Wd → Prop} {s0 : Int32} {w : Wd} {q : Int32 × Wd} (h : fX7_toldDayTrouble_b32 s0 w = some q) (hk : (fun q : Int32 × Wd => Q (some (.int q.1)) q.2) q) : Runs E mX7_toldDayTrouble (9, 0, false) Q 0 32 [] [.int s0] w := by
  unfold fX7_toldDayTrouble_b32 at h
  rw [← Option.some.inj h] at hk
  exact r_ireturn dX7_toldDayTrouble_32 rfl rfl hk
def fX7_toldDayTrouble (a0 : Nat) (x1 : Int32) (w : Wd) : Option (Int32 × Wd) :=
  chk (isO w a0 7) (ob (fX7_rowTrouble a0 x1 w) (fun q2 => if q2.1 = 0 then (chk (isO q2.2 a0 7) (ob (wR q2.2 a0 0) (fun o6 => chk (isA q2.2 o6 4) (chk (inb x1 (wn q2.2 o6)) (ob (wR q2.2 o6 (x1).toNatClampNeg) (fun o10 => chk (isO q2.2 o10 6) (if (12 : Int32) ≤ (wI q2.2 o10 1) then (fX7_toldDayTrouble_b32 0 q2.2) else (fX7_toldDayTrouble_b32 (-5) q2.2)))))))) else (some (q2.1, q2.2))))
set_option maxHeartbeats 1000000 in
set_option maxRecDepth 20000 in
theorem okX7_toldDayTrouble {E : Ev} {Q : Option Value → Wd → Prop} {a0 : Nat} {x1 : Int32} {w : Wd} {q : Int32 × Wd} (h : fX7_toldDayTrouble a0 x1 w = some q) (hk : (fun q : Int32 × Wd => Q (some (.int q.1)) q.2) q) : Runs E mX7_toldDayTrouble (9, 0, false) Q 0 0 [(0, .ref a0), (1, .int x1)] [] w := by
  unfold fX7_toldDayTrouble at h
  refine r_aload_n dX7_toldDayTrouble_0 0 rfl ?_
  refine r_iload_n dX7_toldDayTrouble_1 1 rfl ?_
  obtain ⟨h1, h⟩ := chk_some h
  obtain ⟨q2, g3, h⟩ := ob_some h
  refine r_callV (d' := (8, 0, false)) (As := [.int x1]) (st := []) mdv_X7_rowTrouble tm_RX7_85 (by decide) rfl rfl (by decide) rfl (Nat.le_refl _) (Nat.le_of_ble_eq_true rfl) rfl dX7_toldDayTrouble_2 h1 (ctX7_rowTrouble g3) (k_I0 ?_)
  refine r_istore_n dX7_toldDayTrouble_5 rfl (Nat.le_of_ble_eq_true rfl) [(2, .int q2.1), (0, .ref a0), (1, .int x1)] rfl ?_
  refine r_iload_n dX7_toldDayTrouble_6 0 rfl ?_
  refine r_if_eq (tgt := 12) dX7_toldDayTrouble_7 (by decide) (fun c4 => ?_) (fun c4 => ?_)
  · rw [if_pos c4] at h
    refine r_aload_n dX7_toldDayTrouble_12 1 rfl ?_
    obtain ⟨h5, h⟩ := chk_some h
    obtain ⟨o6, g7, h⟩ := ob_some h
    refine r_getR (fl_RX7_11 rfl) rfl dX7_toldDayTrouble_13 h5 g7 ?_
    refine r_iload_n dX7_toldDayTrouble_16 2 rfl ?_
    obtain ⟨h8, h⟩ := chk_some h
    obtain ⟨h9, h⟩ := chk_some h
    obtain ⟨o10, g11, h⟩ := ob_some h
    refine r_aaload 4 (by decide) (by decide) dX7_toldDayTrouble_17 h8 h9 g11 ?_
    obtain ⟨h12, h⟩ := chk_some h
    refine r_getI (fl_RX7_278 rfl) rfl dX7_toldDayTrouble_18 h12 ?_
    refine r_bipush (v := 12) dX7_toldDayTrouble_21 (by decide) ?_
    refine r_icmp_ge (tgt := 31) dX7_toldDayTrouble_23 (by decide) (fun c13 => ?_) (fun c13 => ?_)
    · rw [if_pos c13] at h
      refine r_iconst (v := 0) dX7_toldDayTrouble_31 (by decide) ?_
      refine r_sub [] [] rfl ?_
      exact okX7_toldDayTrouble_b32 h hk
    · rw [if_neg c13] at h
      refine r_bipush (v := (-5)) dX7_toldDayTrouble_26 (by decide) ?_
      refine r_goto (tgt := 32) dX7_toldDayTrouble_28 (by decide) ?_
      refine r_sub [] [] rfl ?_
      exact okX7_toldDayTrouble_b32 h hk
  · rw [if_neg c4] at h
    refine r_iload_n dX7_toldDayTrouble_10 0 rfl ?_
    rw [← Option.some.inj h] at hk
    exact r_ireturn dX7_toldDayTrouble_11 rfl rfl hk
set_option maxHeartbeats 1000000 in
set_option maxRecDepth 20000 in
theorem ctX7_toldDayTrouble {E : Ev} {a0 : Nat} {x1 : Int32} {w : Wd} {q : Int32 × Wd} (h : fX7_toldDayTrouble a0 x1 w = some q) : CT E mX7_toldDayTrouble (9, 0, false) [.ref a0, .int x1] w (QI q) := CT.of pl_RX7 (Nat.le_of_ble_eq_true rfl) (okX7_toldDayTrouble h ⟨rfl, rfl⟩)
def PX7_fits_L21 (E : Ev) (Q : Option Value → Wd → Prop) (a0 : Nat) (x1 : Int32) (s : Int32 × Int32 × Wd) : Prop := Runs E mX7_fits (10, 0, false) Q 0 21 [(0, .ref a0), (1, .int x1), (3, .int s.1), (4, .int s.2.1)] [] s.2.2
def fX7_fits_b55 (a0 : Nat) (x1 : Int32) (x3 : Int32) (x4 : Int32) (w : Wd) : Option ((Int32 × Int32 × Wd) ⊕ (Int32 × Wd)) :=
  some (.inl (x3, (x4 + 1), w))
set_option maxHeartbeats 1000000 in
set_option maxRecDepth 20000 in
theorem okX7_fits_b55 {E : Ev} {Q : Option Value → Wd → Prop} {a0 : Nat} {x1 : Int32} {x3 : Int32} {x4 : Int32} {w : Wd} {q : (Int32 × Int32 × Wd) ⊕ (Int32 × Wd)} (h : fX7_fits_b55 a0 x1 x3 x4 w = some q) (hk : (Sum.elim (PX7_fits_L21 E Q a0 x1) (fun q : Int32 × Wd => Q (some (.int q.1)) q.2)) q) : Runs E mX7_fits (10, 0, false) Q 0 55 [(0, .ref a0), (1, .int x1), (3, .int x3), (4, .int x4)] [] w := by
  unfold fX7_fits_b55 at h
  refine r_iinc (v := (x4 + 1)) dX7_fits_55 3 rfl rfl (Nat.le_of_ble_eq_true rfl) [(4, .int (x4 + 1)), (0, .ref a0), (1, .int x1), (3, .int x3)] rfl ?_
  refine r_goto (tgt := 21) dX7_fits_58 (by decide) ?_
  rw [← Option.some.inj h] at hk
  refine r_sub [1, 2, 3, 0] [(0, .ref a0), (1, .int x1), (3, .int x3), (4, .int (x4 + 1))] rfl ?_
  exact hk
def fX7_fits_L21_body (a0 : Nat) (x1 : Int32) (s : Int32 × Int32 × Wd) : Option ((Int32 × Int32 × Wd) ⊕ (Int32 × Wd)) :=
  chk (isO s.2.2 a0 7) (ob (wR s.2.2 a0 2) (fun o2 => chk (isO s.2.2 o2 0) (if (wI s.2.2 o2 3) ≤ s.2.1 then (wr (some (s.1, s.2.2))) else (ob (wR s.2.2 a0 0) (fun o7 => chk (isA s.2.2 o7 4) (chk (inb x1 (wn s.2.2 o7)) (ob (wR s.2.2 o7 (x1).toNatClampNeg) (fun o11 => ob (fX7_isFitting a0 s.2.1 o11 s.2.2) (fun q13 => if q13.1 = 0 then (fX7_fits_b55 a0 x1 s.1 s.2.1 q13.2) else (bnd (s.1 ||| (1 <<< (s.2.1 &&& 31))) (fun u16 => fX7_fits_b55 a0 x1 u16 s.2.1 q13.2)))))))))))
set_option maxHeartbeats 1000000 in
set_option maxRecDepth 20000 in
theorem okX7_fits_L21_body {E : Ev} {Q : Option Value → Wd → Prop} {a0 : Nat} {x1 : Int32} {s : Int32 × Int32 × Wd} {r : (Int32 × Int32 × Wd) ⊕ (Int32 × Wd)} (h : fX7_fits_L21_body a0 x1 s = some r) (hk : (Sum.elim (PX7_fits_L21 E Q a0 x1) (fun q : Int32 × Wd => Q (some (.int q.1)) q.2)) r) : PX7_fits_L21 E Q a0 x1 s := by
  unfold fX7_fits_L21_body at h
  unfold PX7_fits_L21
  refine r_iload dX7_fits_21 3 rfl ?_
  refine r_aload_n dX7_fits_23 0 rfl ?_
  obtain ⟨h1, h⟩ := chk_some h
  obtain ⟨o2, g3, h⟩ := ob_some h
  refine r_getR (fl_RX7_22 rfl) rfl dX7_fits_24 h1 g3 ?_
  obtain ⟨h4, h⟩ := chk_some h
  refine r_getI (fl_RX7_262 rfl) rfl dX7_fits_27 h4 ?_
  refine r_icmp_ge (tgt := 61) dX7_fits_30 (by decide) (fun c5 => ?_) (fun c5 => ?_)
  · rw [if_pos c5] at h
    obtain ⟨r6, hr, h⟩ := wr_some h
    rw [hr] at hk
    refine r_iload_n dX7_fits_61 2 rfl ?_
    rw [← Option.some.inj h] at hk
    exact r_ireturn dX7_fits_62 rfl rfl hk
  · rw [if_neg c5] at h
    refine r_aload_n dX7_fits_33 0 rfl ?_
    refine r_iload dX7_fits_34 3 rfl ?_
    refine r_aload_n dX7_fits_36 0 rfl ?_
    obtain ⟨o7, g8, h⟩ := ob_some h
    refine r_getR (fl_RX7_11 rfl) rfl dX7_fits_37 h1 g8 ?_
    refine r_iload_n dX7_fits_40 1 rfl ?_
    obtain ⟨h9, h⟩ := chk_some h
    obtain ⟨h10, h⟩ := chk_some h
    obtain ⟨o11, g12, h⟩ := ob_some h
    refine r_aaload 4 (by decide) (by decide) dX7_fits_41 h9 h10 g12 ?_
    obtain ⟨q13, g14, h⟩ := ob_some h
    refine r_callV (d' := (9, 0, false)) (As := [.int s.2.1, .ref o11]) (st := []) mdv_X7_isFitting tm_RX7_265 (by decide) rfl rfl (by decide) rfl (Nat.le_refl _) (Nat.le_of_ble_eq_true rfl) rfl dX7_fits_42 h1 (ctX7_isFitting g14) (k_I0 ?_)
    refine r_if_eq (tgt := 55) dX7_fits_45 (by decide) (fun c15 => ?_) (fun c15 => ?_)
    · rw [if_pos c15] at h
      refine r_sub [0, 1, 2, 3] [(0, .ref a0), (1, .int x1), (3, .int s.1), (4, .int s.2.1)] rfl ?_
      exact okX7_fits_b55 h hk
    · rw [if_neg c15] at h
      refine r_iload_n dX7_fits_48 2 rfl ?_
      refine r_iconst (v := 1) dX7_fits_49 (by decide) ?_
      refine r_iload dX7_fits_50 3 rfl ?_
      refine r_ishl dX7_fits_52 ?_
      refine r_ior dX7_fits_53 ?_
      obtain ⟨u16, e17, h⟩ := bnd_some h
      refine r_eqI e17 ?_
      refine r_istore_n dX7_fits_54 rfl (Nat.le_of_ble_eq_true rfl) [(3, .int u16), (0, .ref a0), (1, .int x1), (4, .int s.2.1)] rfl ?_
      refine r_sub [1, 2, 0, 3] [(0, .ref a0), (1, .int x1), (3, .int u16), (4, .int s.2.1)] rfl ?_
      exact okX7_fits_b55 h hk
def fX7_fits_L21 (a0 : Nat) (x1 : Int32) (s : Int32 × Int32 × Wd) : Option (Int32 × Wd) := it (fX7_fits_L21_body a0 x1) FU s
set_option maxHeartbeats 1000000 in
set_option maxRecDepth 20000 in
theorem okX7_fits_L21 {E : Ev} {Q : Option Value → Wd → Prop} {a0 : Nat} {x1 : Int32} {s : Int32 × Int32 × Wd} {r : Int32 × Wd} (h : fX7_fits_L21 a0 x1 s = some r) (hk : (fun q : Int32 × Wd => Q (some (.int q.1)) q.2) r) : PX7_fits_L21 E Q a0 x1 s := it_runs (fun s r h hk => okX7_fits_L21_body h hk) FU s r h hk
def fX7_fits (a0 : Nat) (x1 : Int32) (w : Wd) : Option (Int32 × Wd) :=
  chk (isO w a0 7) (ob (fX7_toldDayTrouble a0 x1 w) (fun q2 => if q2.1 = 0 then (fX7_fits_L21 a0 x1 (0, 0, q2.2)) else (chk (isO q2.2 a0 7) (ob (fX7_refuse a0 q2.1 q2.2) (fun q6 => some (q6.1, q6.2))))))
set_option maxHeartbeats 1000000 in
set_option maxRecDepth 20000 in
theorem okX7_fits {E : Ev} {Q : Option Value → Wd → Prop} {a0 : Nat} {x1 : Int32} {w : Wd} {q : Int32 × Wd} (h : fX7_fits a0 x1 w = some q) (hk : (fun q : Int32 × Wd => Q (some (.int q.1)) q.2) q) : Runs E mX7_fits (10, 0, false) Q 0 0 [(0, .ref a0), (1, .int x1)] [] w := by
  unfold fX7_fits at h
  refine r_aload_n dX7_fits_0 0 rfl ?_
  refine r_iload_n dX7_fits_1 1 rfl ?_
  obtain ⟨h1, h⟩ := chk_some h
  obtain ⟨q2, g3, h⟩ := ob_some h
  refine r_callV (d' := (9, 0, false)) (As := [.int x1]) (st := []) mdv_X7_toldDayTrouble tm_RX7_259 (by decide) rfl rfl (by decide) rfl (Nat.le_refl _) (Nat.le_of_ble_eq_true rfl) rfl dX7_fits_2 h1 (ctX7_toldDayTrouble g3) (k_I0 ?_)
  refine r_istore_n dX7_fits_5 rfl (Nat.le_of_ble_eq_true rfl) [(2, .int q2.1), (0, .ref a0), (1, .int x1)] rfl ?_
  refine r_iload_n dX7_fits_6 0 rfl ?_
  refine r_if_eq (tgt := 16) dX7_fits_7 (by decide) (fun c4 => ?_) (fun c4 => ?_)
  · rw [if_pos c4] at h
    refine r_iconst (v := 0) dX7_fits_16 (by decide) ?_
    refine r_istore_n dX7_fits_17 rfl (Nat.le_of_ble_eq_true rfl) [(3, .int 0), (2, .int q2.1), (0, .ref a0), (1, .int x1)] rfl ?_
    refine r_iconst (v := 0) dX7_fits_18 (by decide) ?_
    refine r_istore dX7_fits_19 (Nat.le_of_ble_eq_true rfl) [(4, .int 0), (3, .int 0), (2, .int q2.1), (0, .ref a0), (1, .int x1)] rfl ?_
    refine r_sub [3, 4, 1, 0] [(0, .ref a0), (1, .int x1), (3, .int 0), (4, .int 0)] rfl ?_
    exact okX7_fits_L21 h hk
  · rw [if_neg c4] at h
    refine r_aload_n dX7_fits_10 1 rfl ?_
    refine r_iload_n dX7_fits_11 0 rfl ?_
    obtain ⟨h5, h⟩ := chk_some h
    obtain ⟨q6, g7, h⟩ := ob_some h
    refine r_callV (d' := (6, 0, false)) (As := [.int q2.1]) (st := []) mdv_X7_refuse tm_RX7_73 (by decide) rfl rfl (by decide) rfl (Nat.le_refl _) (Nat.le_of_ble_eq_true rfl) rfl dX7_fits_12 h5 (ctX7_refuse g7) (k_I0 ?_)
    rw [← Option.some.inj h] at hk
    exact r_ireturn dX7_fits_15 rfl rfl hk
set_option maxHeartbeats 1000000 in
set_option maxRecDepth 20000 in
theorem ctX7_fits {E : Ev} {a0 : Nat} {x1 : Int32} {w : Wd} {q : Int32 × Wd} (h : fX7_fits a0 x1 w = some q) : CT E mX7_fits (10, 0, false) [.ref a0, .int x1] w (QI q) := CT.of pl_RX7 (Nat.le_of_ble_eq_true rfl) (okX7_fits h ⟨rfl, rfl⟩)
def fX7_isKind (x0 : Int32) (w : Wd) : Option (Int32 × Wd) :=
  ob (fX7_isWithin x0 0 6 w) (fun q1 => chk (q1.1 = 0 ∨ q1.1 = 1) (some (q1.1, q1.2)))
set_option maxHeartbeats 1000000 in
set_option maxRecDepth 20000 in
theorem okX7_isKind {E : Ev} {Q : Option Value → Wd → Prop} {x0 : Int32} {w : Wd} {q : Int32 × Wd} (h : fX7_isKind x0 w = some q) (hk : (fun q : Int32 × Wd => Q (some (.int q.1)) q.2) q) : Runs E mX7_isKind (7, 0, false) Q 0 0 [(0, .int x0)] [] w := by
  unfold fX7_isKind at h
  refine r_iload_n dX7_isKind_0 0 rfl ?_
  refine r_iconst (v := 0) dX7_isKind_1 (by decide) ?_
  refine r_bipush (v := 6) dX7_isKind_2 (by decide) ?_
  obtain ⟨q1, g2, h⟩ := ob_some h
  refine r_callS (d' := (6, 0, false)) (As := [.int x0, .int 0, .int 6]) (st := []) mds_X7_isWithin tm_RX7_77 rfl (by decide) rfl (Nat.le_refl _) (Nat.le_of_ble_eq_true rfl) rfl dX7_isKind_4 (ctX7_isWithin g2) (k_I0 ?_)
  obtain ⟨h3, h⟩ := chk_some h
  rw [← Option.some.inj h] at hk
  exact r_ireturn dX7_isKind_7 rfl (nb h3) hk
set_option maxHeartbeats 1000000 in
set_option maxRecDepth 20000 in
theorem ctX7_isKind {E : Ev} {x0 : Int32} {w : Wd} {q : Int32 × Wd} (h : fX7_isKind x0 w = some q) : CT E mX7_isKind (7, 0, false) [.int x0] w (QI q) := CT.of pl_RX7 (Nat.le_of_ble_eq_true rfl) (okX7_isKind h ⟨rfl, rfl⟩)
def fX7_garment (a0 : Nat) (x1 : Int32) (x2 : Int32) (w : Wd) : Option (Int32 × Wd) :=
  ob (fX7_isKind x1 w) (fun q1 => if q1.1 = 0 then (chk (isO q1.2 a0 7) (ob (fX7_refuse a0 (-1) q1.2) (fun q27 => some (q27.1, q27.2)))) else (ob (fX7_isDigit x2 q1.2) (fun q4 => if q4.1 = 0 then (chk (isO q4.2 a0 7) (ob (fX7_refuse a0 (-6) q4.2) (fun q24 => some (q24.1, q24.2)))) else (chk (isO q4.2 a0 7) (ob (wR q4.2 a0 2) (fun o8 => chk (isO q4.2 o8 0) (ob (fX0_isFullOfGarments o8 q4.2) (fun q11 => if q11.1 = 0 then (chk (isO q11.2 a0 7) (ob (wR q11.2 a0 2) (fun o15 => chk (isO q11.2 o15 0) (ob (fX0_addGarment o15 x1 x2 q11.2) (fun q18 => some (q18.1, q18.2)))))) else (chk (isO q11.2 a0 7) (ob (fX7_refuse a0 (-7) q11.2) (fun q21 => some (q21.1, q21.2))))))))))))
set_option maxHeartbeats 1000000 in
set_option maxRecDepth 20000 in
theorem okX7_garment {E : Ev} {Q : Option Value → Wd → Prop} {a0 : Nat} {x1 : Int32} {x2 : Int32} {w : Wd} {q : Int32 × Wd} (h : fX7_garment a0 x1 x2 w = some q) (hk : (fun q : Int32 × Wd => Q (some (.int q.1)) q.2) q) : Runs E mX7_garment (9, 0, false) Q 0 0 [(0, .ref a0), (1, .int x1), (2, .int x2)] [] w := by
  unfold fX7_garment at h
  refine r_iload_n dX7_garment_0 1 rfl ?_
  obtain ⟨q1, g2, h⟩ := ob_some h
  refine r_callS (d' := (7, 0, false)) (As := [.int x1]) (st := []) mds_X7_isKind tm_RX7_134 rfl (by decide) rfl (Nat.le_refl _) (Nat.le_of_ble_eq_true rfl) rfl dX7_garment_1 (ctX7_isKind g2) (k_I0 ?_)
  refine r_if_ne (tgt := 13) dX7_garment_4 (by decide) (fun c3 => ?_) (fun c3 => ?_)
  · rw [if_neg c3] at h
    refine r_iload_n dX7_garment_13 2 rfl ?_
    obtain ⟨q4, g5, h⟩ := ob_some h
    refine r_callS (d' := (7, 0, false)) (As := [.int x2]) (st := []) mds_X7_isDigit tm_RX7_158 rfl (by decide) rfl (Nat.le_refl _) (Nat.le_of_ble_eq_true rfl) rfl dX7_garment_14 (ctX7_isDigit g5) (k_I0 ?_)
    refine r_if_ne (tgt := 27) dX7_garment_17 (by decide) (fun c6 => ?_) (fun c6 => ?_)
    · rw [if_neg c6] at h
      refine r_aload_n dX7_garment_27 0 rfl ?_
      obtain ⟨h7, h⟩ := chk_some h
      obtain ⟨o8, g9, h⟩ := ob_some h
      refine r_getR (fl_RX7_22 rfl) rfl dX7_garment_28 h7 g9 ?_
      obtain ⟨h10, h⟩ := chk_some h
      obtain ⟨q11, g12, h⟩ := ob_some h
      refine r_callV (d' := (6, 0, false)) (As := []) (st := []) mdv_X0_isFullOfGarments tm_RX7_167 (by decide) rfl rfl (by decide) rfl (Nat.le_refl _) (Nat.le_of_ble_eq_true rfl) rfl dX7_garment_31 h10 (ctX0_isFullOfGarments g12) (k_I0 ?_)
      refine r_if_eq (tgt := 44) dX7_garment_34 (by decide) (fun c13 => ?_) (fun c13 => ?_)
      · rw [if_pos c13] at h
        refine r_aload_n dX7_garment_44 0 rfl ?_
        obtain ⟨h14, h⟩ := chk_some h
        obtain ⟨o15, g16, h⟩ := ob_some h
        refine r_getR (fl_RX7_22 rfl) rfl dX7_garment_45 h14 g16 ?_
        refine r_iload_n dX7_garment_48 1 rfl ?_
        refine r_iload_n dX7_garment_49 2 rfl ?_
        obtain ⟨h17, h⟩ := chk_some h
        obtain ⟨q18, g19, h⟩ := ob_some h
        refine r_callV (d' := (8, 0, false)) (As := [.int x1, .int x2]) (st := []) mdv_X0_addGarment tm_RX7_170 (by decide) rfl rfl (by decide) rfl (Nat.le_refl _) (Nat.le_of_ble_eq_true rfl) rfl dX7_garment_50 h17 (ctX0_addGarment g19) (k_I0 ?_)
        rw [← Option.some.inj h] at hk
        exact r_ireturn dX7_garment_53 rfl rfl hk
      · rw [if_neg c13] at h
        refine r_aload_n dX7_garment_37 0 rfl ?_
        refine r_bipush (v := (-7)) dX7_garment_38 (by decide) ?_
        obtain ⟨h20, h⟩ := chk_some h
        obtain ⟨q21, g22, h⟩ := ob_some h
        refine r_callV (d' := (6, 0, false)) (As := [.int (-7)]) (st := []) mdv_X7_refuse tm_RX7_73 (by decide) rfl rfl (by decide) rfl (Nat.le_refl _) (Nat.le_of_ble_eq_true rfl) rfl dX7_garment_40 h20 (ctX7_refuse g22) (k_I0 ?_)
        rw [← Option.some.inj h] at hk
        exact r_ireturn dX7_garment_43 rfl rfl hk
    · rw [if_pos c6] at h
      refine r_aload_n dX7_garment_20 0 rfl ?_
      refine r_bipush (v := (-6)) dX7_garment_21 (by decide) ?_
      obtain ⟨h23, h⟩ := chk_some h
      obtain ⟨q24, g25, h⟩ := ob_some h
      refine r_callV (d' := (6, 0, false)) (As := [.int (-6)]) (st := []) mdv_X7_refuse tm_RX7_73 (by decide) rfl rfl (by decide) rfl (Nat.le_refl _) (Nat.le_of_ble_eq_true rfl) rfl dX7_garment_23 h23 (ctX7_refuse g25) (k_I0 ?_)
      rw [← Option.some.inj h] at hk
      exact r_ireturn dX7_garment_26 rfl rfl hk
  · rw [if_pos c3] at h
    refine r_aload_n dX7_garment_7 0 rfl ?_
    refine r_iconst (v := (-1)) dX7_garment_8 (by decide) ?_
    obtain ⟨h26, h⟩ := chk_some h
    obtain ⟨q27, g28, h⟩ := ob_some h
    refine r_callV (d' := (6, 0, false)) (As := [.int (-1)]) (st := []) mdv_X7_refuse tm_RX7_73 (by decide) rfl rfl (by decide) rfl (Nat.le_refl _) (Nat.le_of_ble_eq_true rfl) rfl dX7_garment_9 h26 (ctX7_refuse g28) (k_I0 ?_)
    rw [← Option.some.inj h] at hk
    exact r_ireturn dX7_garment_12 rfl rfl hk
set_option maxHeartbeats 1000000 in
set_option maxRecDepth 20000 in
theorem ctX7_garment {E : Ev} {a0 : Nat} {x1 : Int32} {x2 : Int32} {w : Wd} {q : Int32 × Wd} (h : fX7_garment a0 x1 x2 w = some q) : CT E mX7_garment (9, 0, false) [.ref a0, .int x1, .int x2] w (QI q) := CT.of pl_RX7 (Nat.le_of_ble_eq_true rfl) (okX7_garment h ⟨rfl, rfl⟩)
def fX7_garmentOf (a0 : Nat) (x1 : Int32) (x2 : Int32) (w : Wd) : Option (Int32 × Wd) :=
  chk (isO w a0 7) (ob (wR w a0 2) (fun o2 => chk (isO w o2 0) (ob (fX0_hasGarment o2 x1 w) (fun q5 => if q5.1 = 0 then (chk (isO q5.2 a0 7) (ob (fX7_refuse a0 (-5) q5.2) (fun q53 => some (q53.1, q53.2)))) else (chk (isO q5.2 a0 7) (ob (wR q5.2 a0 2) (fun o9 => chk (isO q5.2 o9 0) (ob (wR q5.2 o9 1) (fun o12 => chk (isA q5.2 o12 2) (chk (inb x1 (wn q5.2 o12)) (ob (wR q5.2 o12 (x1).toNatClampNeg) (fun o16 => if x2 = 0 then (chk (isO q5.2 o16 2) (some ((wI q5.2 o16 2), q5.2))) else (if x2 = 1 then (chk (isO q5.2 o16 2) (some ((wI q5.2 o16 3), q5.2))) else (if x2 = 2 then (chk (isO q5.2 o16 2) (some (((wI q5.2 o16 4) + 1), q5.2))) else (ob (fX7_isWithin x2 10 21 q5.2) (fun q21 => if q21.1 = 0 then (ob (fX7_isWithin x2 30 41 q21.2) (fun q24 => if q24.1 = 0 then (ob (fX7_isWithin x2 50 61 q24.2) (fun q27 => if q27.1 = 0 then (chk (isO q27.2 a0 7) (ob (fX7_refuse a0 (-5) q27.2) (fun q31 => some (q31.1, q31.2)))) else (chk (isO q27.2 a0 7) (ob (wR q27.2 a0 2) (fun o34 => chk (isO q27.2 o34 0) (ob (fX0_pullOf o34 x1 (x2 - 50) q27.2) (fun q37 => some (q37.1, q37.2)))))))) else (chk (isO q24.2 o16 2) (ob (wR q24.2 o16 1) (fun o40 => chk (isA q24.2 o40 0) (chk (inb (x2 - 30) (wn q24.2 o40)) (some ((wI q24.2 o40 ((x2 - 30)).toNatClampNeg), q24.2)))))))) else (chk (isO q21.2 o16 2) (ob (wR q21.2 o16 0) (fun o45 => chk (isA q21.2 o45 0) (chk (inb (x2 - 10) (wn q21.2 o45)) (some ((wI q21.2 o45 ((x2 - 10)).toNatClampNeg), q21.2))))))))))))))))))))))
set_option maxHeartbeats 1000000 in
set_option maxRecDepth 20000 in
theorem okX7_garmentOf {E : Ev} {Q : Option Value → Wd → Prop} {a0 : Nat} {x1 : Int32} {x2 : Int32} {w : Wd} {q : Int32 × Wd} (h : fX7_garmentOf a0 x1 x2 w = some q) (hk : (fun q : Int32 × Wd => Q (some (.int q.1)) q.2) q) : Runs E mX7_garmentOf (8, 0, false) Q 0 0 [(0, .ref a0), (1, .int x1), (2, .int x2)] [] w := by
  unfold fX7_garmentOf at h
  refine r_aload_n dX7_garmentOf_0 0 rfl ?_
  obtain ⟨h1, h⟩ := chk_some h
  obtain ⟨o2, g3, h⟩ := ob_some h
  refine r_getR (fl_RX7_22 rfl) rfl dX7_garmentOf_1 h1 g3 ?_
  refine r_iload_n dX7_garmentOf_4 1 rfl ?_
  obtain ⟨h4, h⟩ := chk_some h
  obtain ⟨q5, g6, h⟩ := ob_some h
  refine r_callV (d' := (7, 0, false)) (As := [.int x1]) (st := []) mdv_X0_hasGarment tm_RX7_121 (by decide) rfl rfl (by decide) rfl (Nat.le_refl _) (Nat.le_of_ble_eq_true rfl) rfl dX7_garmentOf_5 h4 (ctX0_hasGarment g6) (k_I0 ?_)
  refine r_if_ne (tgt := 18) dX7_garmentOf_8 (by decide) (fun c7 => ?_) (fun c7 => ?_)
  · rw [if_neg c7] at h
    refine r_aload_n dX7_garmentOf_18 0 rfl ?_
    obtain ⟨h8, h⟩ := chk_some h
    obtain ⟨o9, g10, h⟩ := ob_some h
    refine r_getR (fl_RX7_22 rfl) rfl dX7_garmentOf_19 h8 g10 ?_
    obtain ⟨h11, h⟩ := chk_some h
    obtain ⟨o12, g13, h⟩ := ob_some h
    refine r_getR (fl_RX7_137 rfl) rfl dX7_garmentOf_22 h11 g13 ?_
    refine r_iload_n dX7_garmentOf_25 1 rfl ?_
    obtain ⟨h14, h⟩ := chk_some h
    obtain ⟨h15, h⟩ := chk_some h
    obtain ⟨o16, g17, h⟩ := ob_some h
    refine r_aaload 2 (by decide) (by decide) dX7_garmentOf_26 h14 h15 g17 ?_
    refine r_astore_n dX7_garmentOf_27 rfl (Nat.le_of_ble_eq_true rfl) [(3, .ref o16), (0, .ref a0), (1, .int x1), (2, .int x2)] rfl ?_
    refine r_iload_n dX7_garmentOf_28 3 rfl ?_
    refine r_if_ne (tgt := 37) dX7_garmentOf_29 (by decide) (fun c18 => ?_) (fun c18 => ?_)
    · rw [if_neg c18] at h
      refine r_iload_n dX7_garmentOf_37 3 rfl ?_
      refine r_iconst (v := 1) dX7_garmentOf_38 (by decide) ?_
      refine r_icmp_ne (tgt := 47) dX7_garmentOf_39 (by decide) (fun c19 => ?_) (fun c19 => ?_)
      · rw [if_neg c19] at h
        refine r_iload_n dX7_garmentOf_47 3 rfl ?_
        refine r_iconst (v := 2) dX7_garmentOf_48 (by decide) ?_
        refine r_icmp_ne (tgt := 59) dX7_garmentOf_49 (by decide) (fun c20 => ?_) (fun c20 => ?_)
        · rw [if_neg c20] at h
          refine r_iload_n dX7_garmentOf_59 3 rfl ?_
          refine r_bipush (v := 10) dX7_garmentOf_60 (by decide) ?_
          refine r_bipush (v := 21) dX7_garmentOf_62 (by decide) ?_
          obtain ⟨q21, g22, h⟩ := ob_some h
          refine r_callS (d' := (6, 0, false)) (As := [.int x2, .int 10, .int 21]) (st := []) mds_X7_isWithin tm_RX7_77 rfl (by decide) rfl (Nat.le_refl _) (Nat.le_of_ble_eq_true rfl) rfl dX7_garmentOf_64 (ctX7_isWithin g22) (k_I0 ?_)
          refine r_if_eq (tgt := 80) dX7_garmentOf_67 (by decide) (fun c23 => ?_) (fun c23 => ?_)
          · rw [if_pos c23] at h
            refine r_iload_n dX7_garmentOf_80 3 rfl ?_
            refine r_bipush (v := 30) dX7_garmentOf_81 (by decide) ?_
            refine r_bipush (v := 41) dX7_garmentOf_83 (by decide) ?_
            obtain ⟨q24, g25, h⟩ := ob_some h
            refine r_callS (d' := (6, 0, false)) (As := [.int x2, .int 30, .int 41]) (st := []) mds_X7_isWithin tm_RX7_77 rfl (by decide) rfl (Nat.le_refl _) (Nat.le_of_ble_eq_true rfl) rfl dX7_garmentOf_85 (ctX7_isWithin g25) (k_I0 ?_)
            refine r_if_eq (tgt := 101) dX7_garmentOf_88 (by decide) (fun c26 => ?_) (fun c26 => ?_)
            · rw [if_pos c26] at h
              refine r_iload_n dX7_garmentOf_101 3 rfl ?_
              refine r_bipush (v := 50) dX7_garmentOf_102 (by decide) ?_
              refine r_bipush (v := 61) dX7_garmentOf_104 (by decide) ?_
              obtain ⟨q27, g28, h⟩ := ob_some h
              refine r_callS (d' := (6, 0, false)) (As := [.int x2, .int 50, .int 61]) (st := []) mds_X7_isWithin tm_RX7_77 rfl (by decide) rfl (Nat.le_refl _) (Nat.le_of_ble_eq_true rfl) rfl dX7_garmentOf_106 (ctX7_isWithin g28) (k_I0 ?_)
              refine r_if_eq (tgt := 125) dX7_garmentOf_109 (by decide) (fun c29 => ?_) (fun c29 => ?_)
              · rw [if_pos c29] at h
                refine r_aload_n dX7_garmentOf_125 1 rfl ?_
                refine r_bipush (v := (-5)) dX7_garmentOf_126 (by decide) ?_
                obtain ⟨h30, h⟩ := chk_some h
                obtain ⟨q31, g32, h⟩ := ob_some h
                refine r_callV (d' := (6, 0, false)) (As := [.int (-5)]) (st := []) mdv_X7_refuse tm_RX7_73 (by decide) rfl rfl (by decide) rfl (Nat.le_refl _) (Nat.le_of_ble_eq_true rfl) rfl dX7_garmentOf_128 h30 (ctX7_refuse g32) (k_I0 ?_)
                rw [← Option.some.inj h] at hk
                exact r_ireturn dX7_garmentOf_131 rfl rfl hk
              · rw [if_neg c29] at h
                refine r_aload_n dX7_garmentOf_112 1 rfl ?_
                obtain ⟨h33, h⟩ := chk_some h
                obtain ⟨o34, g35, h⟩ := ob_some h
                refine r_getR (fl_RX7_22 rfl) rfl dX7_garmentOf_113 h33 g35 ?_
                refine r_iload_n dX7_garmentOf_116 2 rfl ?_
                refine r_iload_n dX7_garmentOf_117 3 rfl ?_
                refine r_bipush (v := 50) dX7_garmentOf_118 (by decide) ?_
                refine r_isub dX7_garmentOf_120 ?_
                obtain ⟨h36, h⟩ := chk_some h
                obtain ⟨q37, g38, h⟩ := ob_some h
                refine r_callV (d' := (6, 0, false)) (As := [.int x1, .int (x2 - 50)]) (st := []) mdv_X0_pullOf tm_RX7_213 (by decide) rfl rfl (by decide) rfl (Nat.le_refl _) (Nat.le_of_ble_eq_true rfl) rfl dX7_garmentOf_121 h36 (ctX0_pullOf g38) (k_I0 ?_)
                rw [← Option.some.inj h] at hk
                exact r_ireturn dX7_garmentOf_124 rfl rfl hk
            · rw [if_neg c26] at h
              refine r_aload_n dX7_garmentOf_91 0 rfl ?_
              obtain ⟨h39, h⟩ := chk_some h
              obtain ⟨o40, g41, h⟩ := ob_some h
              refine r_getR (fl_RX7_210 rfl) rfl dX7_garmentOf_92 h39 g41 ?_
              refine r_iload_n dX7_garmentOf_95 3 rfl ?_
              refine r_bipush (v := 30) dX7_garmentOf_96 (by decide) ?_
              refine r_isub dX7_garmentOf_98 ?_
              obtain ⟨h42, h⟩ := chk_some h
              obtain ⟨h43, h⟩ := chk_some h
              refine r_iaload dX7_garmentOf_99 h42 h43 ?_
              rw [← Option.some.inj h] at hk
              exact r_ireturn dX7_garmentOf_100 rfl rfl hk
          · rw [if_neg c23] at h
            refine r_aload_n dX7_garmentOf_70 0 rfl ?_
            obtain ⟨h44, h⟩ := chk_some h
            obtain ⟨o45, g46, h⟩ := ob_some h
            refine r_getR (fl_RX7_188 rfl) rfl dX7_garmentOf_71 h44 g46 ?_
            refine r_iload_n dX7_garmentOf_74 3 rfl ?_
            refine r_bipush (v := 10) dX7_garmentOf_75 (by decide) ?_
            refine r_isub dX7_garmentOf_77 ?_
            obtain ⟨h47, h⟩ := chk_some h
            obtain ⟨h48, h⟩ := chk_some h
            refine r_iaload dX7_garmentOf_78 h47 h48 ?_
            rw [← Option.some.inj h] at hk
            exact r_ireturn dX7_garmentOf_79 rfl rfl hk
        · rw [if_pos c20] at h
          refine r_aload_n dX7_garmentOf_52 0 rfl ?_
          obtain ⟨h49, h⟩ := chk_some h
          refine r_getI (fl_RX7_198 rfl) rfl dX7_garmentOf_53 h49 ?_
          refine r_iconst (v := 1) dX7_garmentOf_56 (by decide) ?_
          refine r_iadd dX7_garmentOf_57 ?_
          rw [← Option.some.inj h] at hk
          exact r_ireturn dX7_garmentOf_58 rfl rfl hk
      · rw [if_pos c19] at h
        refine r_aload_n dX7_garmentOf_42 0 rfl ?_
        obtain ⟨h50, h⟩ := chk_some h
        refine r_getI (fl_RX7_207 rfl) rfl dX7_garmentOf_43 h50 ?_
        rw [← Option.some.inj h] at hk
        exact r_ireturn dX7_garmentOf_46 rfl rfl hk
    · rw [if_pos c18] at h
      refine r_aload_n dX7_garmentOf_32 0 rfl ?_
      obtain ⟨h51, h⟩ := chk_some h
      refine r_getI (fl_RX7_204 rfl) rfl dX7_garmentOf_33 h51 ?_
      rw [← Option.some.inj h] at hk
      exact r_ireturn dX7_garmentOf_36 rfl rfl hk
  · rw [if_pos c7] at h
    refine r_aload_n dX7_garmentOf_11 0 rfl ?_
    refine r_bipush (v := (-5)) dX7_garmentOf_12 (by decide) ?_
    obtain ⟨h52, h⟩ := chk_some h
    obtain ⟨q53, g54, h⟩ := ob_some h
    refine r_callV (d' := (6, 0, false)) (As := [.int (-5)]) (st := []) mdv_X7_refuse tm_RX7_73 (by decide) rfl rfl (by decide) rfl (Nat.le_refl _) (Nat.le_of_ble_eq_true rfl) rfl dX7_garmentOf_14 h52 (ctX7_refuse g54) (k_I0 ?_)
    rw [← Option.some.inj h] at hk
    exact r_ireturn dX7_garmentOf_17 rfl rfl hk
set_option maxHeartbeats 1000000 in
set_option maxRecDepth 20000 in
theorem ctX7_garmentOf {E : Ev} {a0 : Nat} {x1 : Int32} {x2 : Int32} {w : Wd} {q : Int32 × Wd} (h : fX7_garmentOf a0 x1 x2 w = some q) : CT E mX7_garmentOf (8, 0, false) [.ref a0, .int x1, .int x2] w (QI q) := CT.of pl_RX7 (Nat.le_of_ble_eq_true rfl) (okX7_garmentOf h ⟨rfl, rfl⟩)
def fX7_goes_b68 (s0 : Int32) (w : Wd) : Option (Int32 × Wd) :=
  some (s0, w)
set_option maxHeartbeats 1000000 in
set_option maxRecDepth 20000 in
theorem okX7_goes_b68 {E : Ev} {Q : Option Value → Wd → Prop} {s0 : Int32} {w : Wd} {q : Int32 × Wd} (h : fX7_goes_b68 s0 w = some q) (hk : (fun q : Int32 × Wd => Q (some (.int q.1)) q.2) q) : Runs E mX7_goes (10, 0, false) Q 0 68 [] [.int s0] w := by
  unfold fX7_goes_b68 at h
  rw [← Option.some.inj h] at hk
  exact r_ireturn dX7_goes_68 rfl rfl hk
def fX7_goes (a0 : Nat) (x1 : Int32) (x2 : Int32) (x3 : Int32) (w : Wd) : Option (Int32 × Wd) :=
  chk (isO w a0 7) (ob (wR w a0 2) (fun o2 => chk (isO w o2 0) (ob (fX0_hasGarment o2 x1 w) (fun q5 => if q5.1 = 0 then (chk (isO q5.2 a0 7) (ob (fX7_refuse a0 (-1) q5.2) (fun q40 => some (q40.1, q40.2)))) else (ob (fX7_areDaysAndHour x2 x3 q5.2) (fun q8 => if q8.1 = 0 then (chk (isO q8.2 a0 7) (ob (fX7_refuse a0 (-6) q8.2) (fun q37 => some (q37.1, q37.2)))) else (chk (isO q8.2 a0 7) (ob (fX7_tryDays a0 x2 x3 q8.2) (fun q12 => chk (isO q12 a0 7) (ob (wR q12 a0 3) (fun o15 => chk (isO q12 o15 0) (ob (fX0_isGoing o15 x1 x3 q12) (fun q18 => if q18.1 = 0 then (fX7_goes_b68 0 q18.2) else (chk (isO q18.2 a0 7) (ob (wR q18.2 a0 3) (fun o22 => chk (isO q18.2 o22 0) (ob (wR q18.2 o22 1) (fun o25 => chk (isA q18.2 o25 2) (chk (inb x1 (wn q18.2 o25)) (ob (wR q18.2 o25 (x1).toNatClampNeg) (fun o29 => chk (isO q18.2 o29 2) (ob (wR q18.2 o29 0) (fun o32 => chk (isA q18.2 o32 0) (chk (inb x3 (wn q18.2 o32)) (fX7_goes_b68 (wI q18.2 o32 (x3).toNatClampNeg) q18.2)))))))))))))))))))))))))
set_option maxHeartbeats 1000000 in
set_option maxRecDepth 20000 in
theorem okX7_goes {E : Ev} {Q : Option Value → Wd → Prop} {a0 : Nat} {x1 : Int32} {x2 : Int32} {x3 : Int32} {w : Wd} {q : Int32 × Wd} (h : fX7_goes a0 x1 x2 x3 w = some q) (hk : (fun q : Int32 × Wd => Q (some (.int q.1)) q.2) q) : Runs E mX7_goes (10, 0, false) Q 0 0 [(0, .ref a0), (1, .int x1), (2, .int x2), (3, .int x3)] [] w := by
  unfold fX7_goes at h
  refine r_aload_n dX7_goes_0 0 rfl ?_
  obtain ⟨h1, h⟩ := chk_some h
  obtain ⟨o2, g3, h⟩ := ob_some h
  refine r_getR (fl_RX7_22 rfl) rfl dX7_goes_1 h1 g3 ?_
  refine r_iload_n dX7_goes_4 1 rfl ?_
  obtain ⟨h4, h⟩ := chk_some h
  obtain ⟨q5, g6, h⟩ := ob_some h
  refine r_callV (d' := (7, 0, false)) (As := [.int x1]) (st := []) mdv_X0_hasGarment tm_RX7_121 (by decide) rfl rfl (by decide) rfl (Nat.le_refl _) (Nat.le_of_ble_eq_true rfl) rfl dX7_goes_5 h4 (ctX0_hasGarment g6) (k_I0 ?_)
  refine r_if_ne (tgt := 17) dX7_goes_8 (by decide) (fun c7 => ?_) (fun c7 => ?_)
  · rw [if_neg c7] at h
    refine r_iload_n dX7_goes_17 2 rfl ?_
    refine r_iload_n dX7_goes_18 3 rfl ?_
    obtain ⟨q8, g9, h⟩ := ob_some h
    refine r_callS (d' := (8, 0, false)) (As := [.int x2, .int x3]) (st := []) mds_X7_areDaysAndHour tm_RX7_230 rfl (by decide) rfl (Nat.le_refl _) (Nat.le_of_ble_eq_true rfl) rfl dX7_goes_19 (ctX7_areDaysAndHour g9) (k_I0 ?_)
    refine r_if_ne (tgt := 32) dX7_goes_22 (by decide) (fun c10 => ?_) (fun c10 => ?_)
    · rw [if_neg c10] at h
      refine r_aload_n dX7_goes_32 0 rfl ?_
      refine r_iload_n dX7_goes_33 2 rfl ?_
      refine r_iload_n dX7_goes_34 3 rfl ?_
      obtain ⟨h11, h⟩ := chk_some h
      obtain ⟨q12, g13, h⟩ := ob_some h
      refine r_callV (d' := (9, 0, false)) (As := [.int x2, .int x3]) (st := []) mdv_X7_tryDays tm_RX7_233 (by decide) rfl rfl (by decide) rfl (Nat.le_refl _) (Nat.le_of_ble_eq_true rfl) rfl dX7_goes_35 h11 (ctX7_tryDays g13) (k_V0 ?_)
      refine r_aload_n dX7_goes_38 0 rfl ?_
      obtain ⟨h14, h⟩ := chk_some h
      obtain ⟨o15, g16, h⟩ := ob_some h
      refine r_getR (fl_RX7_26 rfl) rfl dX7_goes_39 h14 g16 ?_
      refine r_iload_n dX7_goes_42 1 rfl ?_
      refine r_iload_n dX7_goes_43 3 rfl ?_
      obtain ⟨h17, h⟩ := chk_some h
      obtain ⟨q18, g19, h⟩ := ob_some h
      refine r_callV (d' := (8, 0, false)) (As := [.int x1, .int x3]) (st := []) mdv_X0_isGoing tm_RX7_239 (by decide) rfl rfl (by decide) rfl (Nat.le_refl _) (Nat.le_of_ble_eq_true rfl) rfl dX7_goes_44 h17 (ctX0_isGoing g19) (k_I0 ?_)
      refine r_if_eq (tgt := 67) dX7_goes_47 (by decide) (fun c20 => ?_) (fun c20 => ?_)
      · rw [if_pos c20] at h
        refine r_iconst (v := 0) dX7_goes_67 (by decide) ?_
        refine r_sub [] [] rfl ?_
        exact okX7_goes_b68 h hk
      · rw [if_neg c20] at h
        refine r_aload_n dX7_goes_50 0 rfl ?_
        obtain ⟨h21, h⟩ := chk_some h
        obtain ⟨o22, g23, h⟩ := ob_some h
        refine r_getR (fl_RX7_26 rfl) rfl dX7_goes_51 h21 g23 ?_
        obtain ⟨h24, h⟩ := chk_some h
        obtain ⟨o25, g26, h⟩ := ob_some h
        refine r_getR (fl_RX7_137 rfl) rfl dX7_goes_54 h24 g26 ?_
        refine r_iload_n dX7_goes_57 1 rfl ?_
        obtain ⟨h27, h⟩ := chk_some h
        obtain ⟨h28, h⟩ := chk_some h
        obtain ⟨o29, g30, h⟩ := ob_some h
        refine r_aaload 2 (by decide) (by decide) dX7_goes_58 h27 h28 g30 ?_
        obtain ⟨h31, h⟩ := chk_some h
        obtain ⟨o32, g33, h⟩ := ob_some h
        refine r_getR (fl_RX7_188 rfl) rfl dX7_goes_59 h31 g33 ?_
        refine r_iload_n dX7_goes_62 3 rfl ?_
        obtain ⟨h34, h⟩ := chk_some h
        obtain ⟨h35, h⟩ := chk_some h
        refine r_iaload dX7_goes_63 h34 h35 ?_
        refine r_goto (tgt := 68) dX7_goes_64 (by decide) ?_
        refine r_sub [] [] rfl ?_
        exact okX7_goes_b68 h hk
    · rw [if_pos c10] at h
      refine r_aload_n dX7_goes_25 0 rfl ?_
      refine r_bipush (v := (-6)) dX7_goes_26 (by decide) ?_
      obtain ⟨h36, h⟩ := chk_some h
      obtain ⟨q37, g38, h⟩ := ob_some h
      refine r_callV (d' := (6, 0, false)) (As := [.int (-6)]) (st := []) mdv_X7_refuse tm_RX7_73 (by decide) rfl rfl (by decide) rfl (Nat.le_refl _) (Nat.le_of_ble_eq_true rfl) rfl dX7_goes_28 h36 (ctX7_refuse g38) (k_I0 ?_)
      rw [← Option.some.inj h] at hk
      exact r_ireturn dX7_goes_31 rfl rfl hk
  · rw [if_pos c7] at h
    refine r_aload_n dX7_goes_11 0 rfl ?_
    refine r_iconst (v := (-1)) dX7_goes_12 (by decide) ?_
    obtain ⟨h39, h⟩ := chk_some h
    obtain ⟨q40, g41, h⟩ := ob_some h
    refine r_callV (d' := (6, 0, false)) (As := [.int (-1)]) (st := []) mdv_X7_refuse tm_RX7_73 (by decide) rfl rfl (by decide) rfl (Nat.le_refl _) (Nat.le_of_ble_eq_true rfl) rfl dX7_goes_13 h39 (ctX7_refuse g41) (k_I0 ?_)
    rw [← Option.some.inj h] at hk
    exact r_ireturn dX7_goes_16 rfl rfl hk
set_option maxHeartbeats 1000000 in
set_option maxRecDepth 20000 in
theorem ctX7_goes {E : Ev} {a0 : Nat} {x1 : Int32} {x2 : Int32} {x3 : Int32} {w : Wd} {q : Int32 × Wd} (h : fX7_goes a0 x1 x2 x3 w = some q) : CT E mX7_goes (10, 0, false) [.ref a0, .int x1, .int x2, .int x3] w (QI q) := CT.of pl_RX7 (Nat.le_of_ble_eq_true rfl) (okX7_goes h ⟨rfl, rfl⟩)
def fX7_habit_b61 (a0 : Nat) (w : Wd) : Option (Int32 × Wd) :=
  chk (isO w a0 7) (ob (fX7_refuse a0 (-6) w) (fun q2 => some (q2.1, q2.2)))
set_option maxHeartbeats 1000000 in
set_option maxRecDepth 20000 in
theorem okX7_habit_b61 {E : Ev} {Q : Option Value → Wd → Prop} {a0 : Nat} {w : Wd} {q : Int32 × Wd} (h : fX7_habit_b61 a0 w = some q) (hk : (fun q : Int32 × Wd => Q (some (.int q.1)) q.2) q) : Runs E mX7_habit (8, 0, false) Q 0 61 [(0, .ref a0)] [] w := by
  unfold fX7_habit_b61 at h
  refine r_aload_n dX7_habit_61 0 rfl ?_
  refine r_bipush (v := (-6)) dX7_habit_62 (by decide) ?_
  obtain ⟨h1, h⟩ := chk_some h
  obtain ⟨q2, g3, h⟩ := ob_some h
  refine r_callV (d' := (6, 0, false)) (As := [.int (-6)]) (st := []) mdv_X7_refuse tm_RX7_73 (by decide) rfl rfl (by decide) rfl (Nat.le_refl _) (Nat.le_of_ble_eq_true rfl) rfl dX7_habit_64 h1 (ctX7_refuse g3) (k_I0 ?_)
  rw [← Option.some.inj h] at hk
  exact r_ireturn dX7_habit_67 rfl rfl hk
def fX7_habit_b58 (a0 : Nat) (x1 : Int32) (x2 : Int32) (x3 : Int32) (x4 : Int32) (s0 : Int32) (s1 : Int32) (w : Wd) : Option (Int32 × Wd) :=
  if s1 = s0 then (chk (isO w a0 7) (ob (wR w a0 2) (fun o3 => chk (isO w o3 0) (ob (wR w o3 1) (fun o6 => chk (isA w o6 2) (chk (inb x1 (wn w o6)) (ob (wR w o6 (x1).toNatClampNeg) (fun o10 => chk (isO w o10 2) (ob (wR w o10 0) (fun o13 => chk (isA w o13 0) (chk (inb x2 (wn w o13)) (bnd (wI w o13 (x2).toNatClampNeg) (fun u17 => ob (fX2_accustom o10 x2 x3 x4 w) (fun q19 => some (u17, q19))))))))))))))) else (fX7_habit_b61 a0 w)
set_option maxHeartbeats 1000000 in
set_option maxRecDepth 20000 in
theorem okX7_habit_b58 {E : Ev} {Q : Option Value → Wd → Prop} {a0 : Nat} {x1 : Int32} {x2 : Int32} {x3 : Int32} {x4 : Int32} {s0 : Int32} {s1 : Int32} {w : Wd} {q : Int32 × Wd} (h : fX7_habit_b58 a0 x1 x2 x3 x4 s0 s1 w = some q) (hk : (fun q : Int32 × Wd => Q (some (.int q.1)) q.2) q) : Runs E mX7_habit (8, 0, false) Q 0 58 [(0, .ref a0), (1, .int x1), (2, .int x2), (3, .int x3), (4, .int x4)] [.int s0, .int s1] w := by
  unfold fX7_habit_b58 at h
  refine r_icmp_eq (tgt := 68) dX7_habit_58 (by decide) (fun c1 => ?_) (fun c1 => ?_)
  · rw [if_pos c1] at h
    refine r_aload_n dX7_habit_68 0 rfl ?_
    obtain ⟨h2, h⟩ := chk_some h
    obtain ⟨o3, g4, h⟩ := ob_some h
    refine r_getR (fl_RX7_22 rfl) rfl dX7_habit_69 h2 g4 ?_
    obtain ⟨h5, h⟩ := chk_some h
    obtain ⟨o6, g7, h⟩ := ob_some h
    refine r_getR (fl_RX7_137 rfl) rfl dX7_habit_72 h5 g7 ?_
    refine r_iload_n dX7_habit_75 1 rfl ?_
    obtain ⟨h8, h⟩ := chk_some h
    obtain ⟨h9, h⟩ := chk_some h
    obtain ⟨o10, g11, h⟩ := ob_some h
    refine r_aaload 2 (by decide) (by decide) dX7_habit_76 h8 h9 g11 ?_
    obtain ⟨h12, h⟩ := chk_some h
    obtain ⟨o13, g14, h⟩ := ob_some h
    refine r_getR (fl_RX7_188 rfl) rfl dX7_habit_77 h12 g14 ?_
    refine r_iload_n dX7_habit_80 2 rfl ?_
    obtain ⟨h15, h⟩ := chk_some h
    obtain ⟨h16, h⟩ := chk_some h
    refine r_iaload dX7_habit_81 h15 h16 ?_
    obtain ⟨u17, e18, h⟩ := bnd_some h
    refine r_eqI e18 ?_
    refine r_istore dX7_habit_82 (Nat.le_of_ble_eq_true rfl) [(5, .int u17), (0, .ref a0), (1, .int x1), (2, .int x2), (3, .int x3), (4, .int x4)] rfl ?_
    refine r_aload_n dX7_habit_84 1 rfl ?_
    refine r_getR (fl_RX7_22 rfl) rfl dX7_habit_85 h2 g4 ?_
    refine r_getR (fl_RX7_137 rfl) rfl dX7_habit_88 h5 g7 ?_
    refine r_iload_n dX7_habit_91 2 rfl ?_
    refine r_aaload 2 (by decide) (by decide) dX7_habit_92 h8 h9 g11 ?_
    refine r_iload_n dX7_habit_93 3 rfl ?_
    refine r_iload_n dX7_habit_94 4 rfl ?_
    refine r_iload dX7_habit_95 5 rfl ?_
    obtain ⟨q19, g20, h⟩ := ob_some h
    refine r_callV (d' := (6, 0, false)) (As := [.int x2, .int x3, .int x4]) (st := []) mdv_X2_accustom tm_RX7_191 (by decide) rfl rfl (by decide) rfl (Nat.le_refl _) (Nat.le_of_ble_eq_true rfl) rfl dX7_habit_97 h12 (ctX2_accustom g20) (k_V0 ?_)
    refine r_iload dX7_habit_100 0 rfl ?_
    rw [← Option.some.inj h] at hk
    exact r_ireturn dX7_habit_102 rfl rfl hk
  · rw [if_neg c1] at h
    refine r_sub [0] [(0, .ref a0)] rfl ?_
    exact okX7_habit_b61 h hk
def fX7_habit_b48 (a0 : Nat) (x1 : Int32) (x2 : Int32) (x3 : Int32) (x4 : Int32) (s0 : Int32) (w : Wd) : Option (Int32 × Wd) :=
  if x4 = 0 then (fX7_habit_b58 a0 x1 x2 x3 x4 1 s0 w) else (fX7_habit_b58 a0 x1 x2 x3 x4 0 s0 w)
set_option maxHeartbeats 1000000 in
set_option maxRecDepth 20000 in
theorem okX7_habit_b48 {E : Ev} {Q : Option Value → Wd → Prop} {a0 : Nat} {x1 : Int32} {x2 : Int32} {x3 : Int32} {x4 : Int32} {s0 : Int32} {w : Wd} {q : Int32 × Wd} (h : fX7_habit_b48 a0 x1 x2 x3 x4 s0 w = some q) (hk : (fun q : Int32 × Wd => Q (some (.int q.1)) q.2) q) : Runs E mX7_habit (8, 0, false) Q 0 48 [(0, .ref a0), (1, .int x1), (2, .int x2), (3, .int x3), (4, .int x4)] [.int s0] w := by
  unfold fX7_habit_b48 at h
  refine r_iload dX7_habit_48 4 rfl ?_
  refine r_if_ne (tgt := 57) dX7_habit_50 (by decide) (fun c1 => ?_) (fun c1 => ?_)
  · rw [if_neg c1] at h
    refine r_iconst (v := 0) dX7_habit_57 (by decide) ?_
    refine r_sub [0, 1, 2, 3, 4] [(0, .ref a0), (1, .int x1), (2, .int x2), (3, .int x3), (4, .int x4)] rfl ?_
    exact okX7_habit_b58 h hk
  · rw [if_pos c1] at h
    refine r_iconst (v := 1) dX7_habit_53 (by decide) ?_
    refine r_goto (tgt := 58) dX7_habit_54 (by decide) ?_
    refine r_sub [0, 1, 2, 3, 4] [(0, .ref a0), (1, .int x1), (2, .int x2), (3, .int x3), (4, .int x4)] rfl ?_
    exact okX7_habit_b58 h hk
def fX7_habit (a0 : Nat) (x1 : Int32) (x2 : Int32) (x3 : Int32) (x4 : Int32) (w : Wd) : Option (Int32 × Wd) :=
  chk (isO w a0 7) (ob (wR w a0 2) (fun o2 => chk (isO w o2 0) (ob (fX0_hasGarment o2 x1 w) (fun q5 => if q5.1 = 0 then (chk (isO q5.2 a0 7) (ob (fX7_refuse a0 (-1) q5.2) (fun q19 => some (q19.1, q19.2)))) else (ob (fX7_isHour x2 q5.2) (fun q8 => if q8.1 = 0 then (fX7_habit_b61 a0 q8.2) else (ob (fX7_isDigit x3 q8.2) (fun q11 => if q11.1 = 0 then (fX7_habit_b61 a0 q11.2) else (ob (fX7_isDigit x4 q11.2) (fun q14 => if q14.1 = 0 then (fX7_habit_b61 a0 q14.2) else (if x3 = 0 then (fX7_habit_b48 a0 x1 x2 x3 x4 1 q14.2) else (fX7_habit_b48 a0 x1 x2 x3 x4 0 q14.2))))))))))))
set_option maxHeartbeats 1000000 in
set_option maxRecDepth 20000 in
theorem okX7_habit {E : Ev} {Q : Option Value → Wd → Prop} {a0 : Nat} {x1 : Int32} {x2 : Int32} {x3 : Int32} {x4 : Int32} {w : Wd} {q : Int32 × Wd} (h : fX7_habit a0 x1 x2 x3 x4 w = some q) (hk : (fun q : Int32 × Wd => Q (some (.int q.1)) q.2) q) : Runs E mX7_habit (8, 0, false) Q 0 0 [(0, .ref a0), (1, .int x1), (2, .int x2), (3, .int x3), (4, .int x4)] [] w := by
  unfold fX7_habit at h
  refine r_aload_n dX7_habit_0 0 rfl ?_
  obtain ⟨h1, h⟩ := chk_some h
  obtain ⟨o2, g3, h⟩ := ob_some h
  refine r_getR (fl_RX7_22 rfl) rfl dX7_habit_1 h1 g3 ?_
  refine r_iload_n dX7_habit_4 1 rfl ?_
  obtain ⟨h4, h⟩ := chk_some h
  obtain ⟨q5, g6, h⟩ := ob_some h
  refine r_callV (d' := (7, 0, false)) (As := [.int x1]) (st := []) mdv_X0_hasGarment tm_RX7_121 (by decide) rfl rfl (by decide) rfl (Nat.le_refl _) (Nat.le_of_ble_eq_true rfl) rfl dX7_habit_5 h4 (ctX0_hasGarment g6) (k_I0 ?_)
  refine r_if_ne (tgt := 17) dX7_habit_8 (by decide) (fun c7 => ?_) (fun c7 => ?_)
  · rw [if_neg c7] at h
    refine r_iload_n dX7_habit_17 2 rfl ?_
    obtain ⟨q8, g9, h⟩ := ob_some h
    refine r_callS (d' := (7, 0, false)) (As := [.int x2]) (st := []) mds_X7_isHour tm_RX7_176 rfl (by decide) rfl (Nat.le_refl _) (Nat.le_of_ble_eq_true rfl) rfl dX7_habit_18 (ctX7_isHour g9) (k_I0 ?_)
    refine r_if_eq (tgt := 61) dX7_habit_21 (by decide) (fun c10 => ?_) (fun c10 => ?_)
    · rw [if_pos c10] at h
      refine r_sub [0] [(0, .ref a0)] rfl ?_
      exact okX7_habit_b61 h hk
    · rw [if_neg c10] at h
      refine r_iload_n dX7_habit_24 3 rfl ?_
      obtain ⟨q11, g12, h⟩ := ob_some h
      refine r_callS (d' := (7, 0, false)) (As := [.int x3]) (st := []) mds_X7_isDigit tm_RX7_158 rfl (by decide) rfl (Nat.le_refl _) (Nat.le_of_ble_eq_true rfl) rfl dX7_habit_25 (ctX7_isDigit g12) (k_I0 ?_)
      refine r_if_eq (tgt := 61) dX7_habit_28 (by decide) (fun c13 => ?_) (fun c13 => ?_)
      · rw [if_pos c13] at h
        refine r_sub [0] [(0, .ref a0)] rfl ?_
        exact okX7_habit_b61 h hk
      · rw [if_neg c13] at h
        refine r_iload dX7_habit_31 4 rfl ?_
        obtain ⟨q14, g15, h⟩ := ob_some h
        refine r_callS (d' := (7, 0, false)) (As := [.int x4]) (st := []) mds_X7_isDigit tm_RX7_158 rfl (by decide) rfl (Nat.le_refl _) (Nat.le_of_ble_eq_true rfl) rfl dX7_habit_33 (ctX7_isDigit g15) (k_I0 ?_)
        refine r_if_eq (tgt := 61) dX7_habit_36 (by decide) (fun c16 => ?_) (fun c16 => ?_)
        · rw [if_pos c16] at h
          refine r_sub [0] [(0, .ref a0)] rfl ?_
          exact okX7_habit_b61 h hk
        · rw [if_neg c16] at h
          refine r_iload_n dX7_habit_39 3 rfl ?_
          refine r_if_ne (tgt := 47) dX7_habit_40 (by decide) (fun c17 => ?_) (fun c17 => ?_)
          · rw [if_neg c17] at h
            refine r_iconst (v := 0) dX7_habit_47 (by decide) ?_
            refine r_sub [0, 1, 2, 3, 4] [(0, .ref a0), (1, .int x1), (2, .int x2), (3, .int x3), (4, .int x4)] rfl ?_
            exact okX7_habit_b48 h hk
          · rw [if_pos c17] at h
            refine r_iconst (v := 1) dX7_habit_43 (by decide) ?_
            refine r_goto (tgt := 48) dX7_habit_44 (by decide) ?_
            refine r_sub [0, 1, 2, 3, 4] [(0, .ref a0), (1, .int x1), (2, .int x2), (3, .int x3), (4, .int x4)] rfl ?_
            exact okX7_habit_b48 h hk
  · rw [if_pos c7] at h
    refine r_aload_n dX7_habit_11 0 rfl ?_
    refine r_iconst (v := (-1)) dX7_habit_12 (by decide) ?_
    obtain ⟨h18, h⟩ := chk_some h
    obtain ⟨q19, g20, h⟩ := ob_some h
    refine r_callV (d' := (6, 0, false)) (As := [.int (-1)]) (st := []) mdv_X7_refuse tm_RX7_73 (by decide) rfl rfl (by decide) rfl (Nat.le_refl _) (Nat.le_of_ble_eq_true rfl) rfl dX7_habit_13 h18 (ctX7_refuse g20) (k_I0 ?_)
    rw [← Option.some.inj h] at hk
    exact r_ireturn dX7_habit_16 rfl rfl hk
set_option maxHeartbeats 1000000 in
set_option maxRecDepth 20000 in
theorem ctX7_habit {E : Ev} {a0 : Nat} {x1 : Int32} {x2 : Int32} {x3 : Int32} {x4 : Int32} {w : Wd} {q : Int32 × Wd} (h : fX7_habit a0 x1 x2 x3 x4 w = some q) : CT E mX7_habit (8, 0, false) [.ref a0, .int x1, .int x2, .int x3, .int x4] w (QI q) := CT.of pl_RX7 (Nat.le_of_ble_eq_true rfl) (okX7_habit h ⟨rfl, rfl⟩)
def fX7_holds_b20 (s0 : Int32) (w : Wd) : Option (Int32 × Wd) :=
  some (s0, w)
set_option maxHeartbeats 1000000 in
set_option maxRecDepth 20000 in
theorem okX7_holds_b20 {E : Ev} {Q : Option Value → Wd → Prop} {s0 : Int32} {w : Wd} {q : Int32 × Wd} (h : fX7_holds_b20 s0 w = some q) (hk : (fun q : Int32 × Wd => Q (some (.int q.1)) q.2) q) : Runs E mX7_holds (8, 0, false) Q 0 20 [] [.int s0] w := by
  unfold fX7_holds_b20 at h
  rw [← Option.some.inj h] at hk
  exact r_ireturn dX7_holds_20 rfl rfl hk
def fX7_holds (a0 : Nat) (x1 : Int32) (w : Wd) : Option (Int32 × Wd) :=
  ob (fX7_isShelf x1 w) (fun q1 => if q1.1 = 0 then (fX7_holds_b20 (-1) q1.2) else (chk (isO q1.2 a0 7) (ob (wR q1.2 a0 0) (fun o5 => chk (isA q1.2 o5 4) (chk (inb x1 (wn q1.2 o5)) (ob (wR q1.2 o5 (x1).toNatClampNeg) (fun o9 => chk (isO q1.2 o9 6) (fX7_holds_b20 (wI q1.2 o9 2) q1.2))))))))
set_option maxHeartbeats 1000000 in
set_option maxRecDepth 20000 in
theorem okX7_holds {E : Ev} {Q : Option Value → Wd → Prop} {a0 : Nat} {x1 : Int32} {w : Wd} {q : Int32 × Wd} (h : fX7_holds a0 x1 w = some q) (hk : (fun q : Int32 × Wd => Q (some (.int q.1)) q.2) q) : Runs E mX7_holds (8, 0, false) Q 0 0 [(0, .ref a0), (1, .int x1)] [] w := by
  unfold fX7_holds at h
  refine r_iload_n dX7_holds_0 1 rfl ?_
  obtain ⟨q1, g2, h⟩ := ob_some h
  refine r_callS (d' := (7, 0, false)) (As := [.int x1]) (st := []) mds_X7_isShelf tm_RX7_69 rfl (by decide) rfl (Nat.le_refl _) (Nat.le_of_ble_eq_true rfl) rfl dX7_holds_1 (ctX7_isShelf g2) (k_I0 ?_)
  refine r_if_eq (tgt := 19) dX7_holds_4 (by decide) (fun c3 => ?_) (fun c3 => ?_)
  · rw [if_pos c3] at h
    refine r_iconst (v := (-1)) dX7_holds_19 (by decide) ?_
    refine r_sub [] [] rfl ?_
    exact okX7_holds_b20 h hk
  · rw [if_neg c3] at h
    refine r_aload_n dX7_holds_7 0 rfl ?_
    obtain ⟨h4, h⟩ := chk_some h
    obtain ⟨o5, g6, h⟩ := ob_some h
    refine r_getR (fl_RX7_11 rfl) rfl dX7_holds_8 h4 g6 ?_
    refine r_iload_n dX7_holds_11 1 rfl ?_
    obtain ⟨h7, h⟩ := chk_some h
    obtain ⟨h8, h⟩ := chk_some h
    obtain ⟨o9, g10, h⟩ := ob_some h
    refine r_aaload 4 (by decide) (by decide) dX7_holds_12 h7 h8 g10 ?_
    obtain ⟨h11, h⟩ := chk_some h
    refine r_getI (fl_RX7_131 rfl) rfl dX7_holds_13 h11 ?_
    refine r_goto (tgt := 20) dX7_holds_16 (by decide) ?_
    refine r_sub [] [] rfl ?_
    exact okX7_holds_b20 h hk
set_option maxHeartbeats 1000000 in
set_option maxRecDepth 20000 in
theorem ctX7_holds {E : Ev} {a0 : Nat} {x1 : Int32} {w : Wd} {q : Int32 × Wd} (h : fX7_holds a0 x1 w = some q) : CT E mX7_holds (8, 0, false) [.ref a0, .int x1] w (QI q) := CT.of pl_RX7 (Nat.le_of_ble_eq_true rfl) (okX7_holds h ⟨rfl, rfl⟩)
def PX7_home_L35 (E : Ev) (Q : Option Value → Wd → Prop) (a0 : Nat) (x1 : Int32) (x2 : Int32) (s : Int32 × Wd) : Prop := Runs E mX7_home (9, 0, false) Q 0 35 [(0, .ref a0), (1, .int x1), (2, .int x2), (3, .int s.1)] [] s.2
def fX7_home_L35_body (a0 : Nat) (x1 : Int32) (x2 : Int32) (s : Int32 × Wd) : Option ((Int32 × Wd) ⊕ (Int32 × Wd)) :=
  if (12 : Int32) ≤ s.1 then (wr (some ((-1), s.2))) else (chk (isO s.2 a0 7) (ob (wR s.2 a0 2) (fun o4 => chk (isO s.2 o4 0) (ob (fX0_isGoing o4 x1 s.1 s.2) (fun q7 => if q7.1 = 0 then (some (.inl ((s.1 + 1), q7.2))) else (wr (some (((100 * x2) + s.1), q7.2))))))))
set_option maxHeartbeats 1000000 in
set_option maxRecDepth 20000 in
theorem okX7_home_L35_body {E : Ev} {Q : Option Value → Wd → Prop} {a0 : Nat} {x1 : Int32} {x2 : Int32} {s : Int32 × Wd} {r : (Int32 × Wd) ⊕ (Int32 × Wd)} (h : fX7_home_L35_body a0 x1 x2 s = some r) (hk : (Sum.elim (PX7_home_L35 E Q a0 x1 x2) (fun q : Int32 × Wd => Q (some (.int q.1)) q.2)) r) : PX7_home_L35 E Q a0 x1 x2 s := by
  unfold fX7_home_L35_body at h
  unfold PX7_home_L35
  refine r_iload_n dX7_home_35 3 rfl ?_
  refine r_bipush (v := 12) dX7_home_36 (by decide) ?_
  refine r_icmp_ge (tgt := 66) dX7_home_38 (by decide) (fun c1 => ?_) (fun c1 => ?_)
  · rw [if_pos c1] at h
    obtain ⟨r2, hr, h⟩ := wr_some h
    rw [hr] at hk
    refine r_iconst (v := (-1)) dX7_home_66 (by decide) ?_
    rw [← Option.some.inj h] at hk
    exact r_ireturn dX7_home_67 rfl rfl hk
  · rw [if_neg c1] at h
    refine r_aload_n dX7_home_41 0 rfl ?_
    obtain ⟨h3, h⟩ := chk_some h
    obtain ⟨o4, g5, h⟩ := ob_some h
    refine r_getR (fl_RX7_22 rfl) rfl dX7_home_42 h3 g5 ?_
    refine r_iload_n dX7_home_45 1 rfl ?_
    refine r_iload_n dX7_home_46 3 rfl ?_
    obtain ⟨h6, h⟩ := chk_some h
    obtain ⟨q7, g8, h⟩ := ob_some h
    refine r_callV (d' := (8, 0, false)) (As := [.int x1, .int s.1]) (st := []) mdv_X0_isGoing tm_RX7_239 (by decide) rfl rfl (by decide) rfl (Nat.le_refl _) (Nat.le_of_ble_eq_true rfl) rfl dX7_home_47 h6 (ctX0_isGoing g8) (k_I0 ?_)
    refine r_if_eq (tgt := 60) dX7_home_50 (by decide) (fun c9 => ?_) (fun c9 => ?_)
    · rw [if_pos c9] at h
      refine r_iinc (v := (s.1 + 1)) dX7_home_60 3 rfl rfl (Nat.le_of_ble_eq_true rfl) [(3, .int (s.1 + 1)), (0, .ref a0), (1, .int x1), (2, .int x2)] rfl ?_
      refine r_goto (tgt := 35) dX7_home_63 (by decide) ?_
      rw [← Option.some.inj h] at hk
      refine r_sub [1, 2, 3, 0] [(0, .ref a0), (1, .int x1), (2, .int x2), (3, .int (s.1 + 1))] rfl ?_
      exact hk
    · rw [if_neg c9] at h
      obtain ⟨r10, hr, h⟩ := wr_some h
      rw [hr] at hk
      refine r_bipush (v := 100) dX7_home_53 (by decide) ?_
      refine r_iload_n dX7_home_55 2 rfl ?_
      refine r_imul dX7_home_56 ?_
      refine r_iload_n dX7_home_57 3 rfl ?_
      refine r_iadd dX7_home_58 ?_
      rw [← Option.some.inj h] at hk
      exact r_ireturn dX7_home_59 rfl rfl hk
def fX7_home_L35 (a0 : Nat) (x1 : Int32) (x2 : Int32) (s : Int32 × Wd) : Option (Int32 × Wd) := it (fX7_home_L35_body a0 x1 x2) FU s
set_option maxHeartbeats 1000000 in
set_option maxRecDepth 20000 in
theorem okX7_home_L35 {E : Ev} {Q : Option Value → Wd → Prop} {a0 : Nat} {x1 : Int32} {x2 : Int32} {s : Int32 × Wd} {r : Int32 × Wd} (h : fX7_home_L35 a0 x1 x2 s = some r) (hk : (fun q : Int32 × Wd => Q (some (.int q.1)) q.2) r) : PX7_home_L35 E Q a0 x1 x2 s := it_runs (fun s r h hk => okX7_home_L35_body h hk) FU s r h hk
def fX7_home (a0 : Nat) (x1 : Int32) (w : Wd) : Option (Int32 × Wd) :=
  chk (isO w a0 7) (ob (wR w a0 2) (fun o2 => chk (isO w o2 0) (ob (fX0_hasGarment o2 x1 w) (fun q5 => if q5.1 = 0 then (chk (isO q5.2 a0 7) (ob (fX7_refuseLower a0 (-1) q5.2) (fun q16 => some (q16.1, q16.2)))) else (chk (isO q5.2 a0 7) (ob (wR q5.2 a0 2) (fun o9 => chk (isO q5.2 o9 0) (ob (fX0_mostLike o9 x1 q5.2) (fun q12 => if q12.1 = (-1) then (some ((-1), q12.2)) else (fX7_home_L35 a0 x1 q12.1 (0, q12.2)))))))))))
set_option maxHeartbeats 1000000 in
set_option maxRecDepth 20000 in
theorem okX7_home {E : Ev} {Q : Option Value → Wd → Prop} {a0 : Nat} {x1 : Int32} {w : Wd} {q : Int32 × Wd} (h : fX7_home a0 x1 w = some q) (hk : (fun q : Int32 × Wd => Q (some (.int q.1)) q.2) q) : Runs E mX7_home (9, 0, false) Q 0 0 [(0, .ref a0), (1, .int x1)] [] w := by
  unfold fX7_home at h
  refine r_aload_n dX7_home_0 0 rfl ?_
  obtain ⟨h1, h⟩ := chk_some h
  obtain ⟨o2, g3, h⟩ := ob_some h
  refine r_getR (fl_RX7_22 rfl) rfl dX7_home_1 h1 g3 ?_
  refine r_iload_n dX7_home_4 1 rfl ?_
  obtain ⟨h4, h⟩ := chk_some h
  obtain ⟨q5, g6, h⟩ := ob_some h
  refine r_callV (d' := (7, 0, false)) (As := [.int x1]) (st := []) mdv_X0_hasGarment tm_RX7_121 (by decide) rfl rfl (by decide) rfl (Nat.le_refl _) (Nat.le_of_ble_eq_true rfl) rfl dX7_home_5 h4 (ctX0_hasGarment g6) (k_I0 ?_)
  refine r_if_ne (tgt := 17) dX7_home_8 (by decide) (fun c7 => ?_) (fun c7 => ?_)
  · rw [if_neg c7] at h
    refine r_aload_n dX7_home_17 0 rfl ?_
    obtain ⟨h8, h⟩ := chk_some h
    obtain ⟨o9, g10, h⟩ := ob_some h
    refine r_getR (fl_RX7_22 rfl) rfl dX7_home_18 h8 g10 ?_
    refine r_iload_n dX7_home_21 1 rfl ?_
    obtain ⟨h11, h⟩ := chk_some h
    obtain ⟨q12, g13, h⟩ := ob_some h
    refine r_callV (d' := (7, 0, false)) (As := [.int x1]) (st := []) mdv_X0_mostLike tm_RX7_256 (by decide) rfl rfl (by decide) rfl (Nat.le_refl _) (Nat.le_of_ble_eq_true rfl) rfl dX7_home_22 h11 (ctX0_mostLike g13) (k_I0 ?_)
    refine r_istore_n dX7_home_25 rfl (Nat.le_of_ble_eq_true rfl) [(2, .int q12.1), (0, .ref a0), (1, .int x1)] rfl ?_
    refine r_iload_n dX7_home_26 0 rfl ?_
    refine r_iconst (v := (-1)) dX7_home_27 (by decide) ?_
    refine r_icmp_ne (tgt := 33) dX7_home_28 (by decide) (fun c14 => ?_) (fun c14 => ?_)
    · rw [if_neg c14] at h
      refine r_iconst (v := 0) dX7_home_33 (by decide) ?_
      refine r_istore_n dX7_home_34 rfl (Nat.le_of_ble_eq_true rfl) [(3, .int 0), (2, .int q12.1), (0, .ref a0), (1, .int x1)] rfl ?_
      refine r_sub [2, 3, 1, 0] [(0, .ref a0), (1, .int x1), (2, .int q12.1), (3, .int 0)] rfl ?_
      exact okX7_home_L35 h hk
    · rw [if_pos c14] at h
      refine r_iconst (v := (-1)) dX7_home_31 (by decide) ?_
      rw [← Option.some.inj h] at hk
      exact r_ireturn dX7_home_32 rfl rfl hk
  · rw [if_pos c7] at h
    refine r_aload_n dX7_home_11 0 rfl ?_
    refine r_iconst (v := (-1)) dX7_home_12 (by decide) ?_
    obtain ⟨h15, h⟩ := chk_some h
    obtain ⟨q16, g17, h⟩ := ob_some h
    refine r_callV (d' := (7, 0, false)) (As := [.int (-1)]) (st := []) mdv_X7_refuseLower tm_RX7_195 (by decide) rfl rfl (by decide) rfl (Nat.le_refl _) (Nat.le_of_ble_eq_true rfl) rfl dX7_home_13 h15 (ctX7_refuseLower g17) (k_I0 ?_)
    rw [← Option.some.inj h] at hk
    exact r_ireturn dX7_home_16 rfl rfl hk
set_option maxHeartbeats 1000000 in
set_option maxRecDepth 20000 in
theorem ctX7_home {E : Ev} {a0 : Nat} {x1 : Int32} {w : Wd} {q : Int32 × Wd} (h : fX7_home a0 x1 w = some q) : CT E mX7_home (9, 0, false) [.ref a0, .int x1] w (QI q) := CT.of pl_RX7 (Nat.le_of_ble_eq_true rfl) (okX7_home h ⟨rfl, rfl⟩)
def fX7_image (a0 : Nat) (w : Wd) : Option (Int32 × Wd) :=
  chk (isO w a0 7) (ob (wR w a0 4) (fun o2 => ob (wR w a0 2) (fun o4 => chk (isO w o2 0) (ob (fX0_take o2 o4 w) (fun q7 => chk (isO q7 a0 7) (bnd (sI q7 a0 9 1) (fun w10 => chk (isO w10 a0 7) (ob (wR w10 a0 2) (fun o13 => chk (isO w10 o13 0) (some ((wI w10 o13 4), w10)))))))))))
set_option maxHeartbeats 1000000 in
set_option maxRecDepth 20000 in
theorem okX7_image {E : Ev} {Q : Option Value → Wd → Prop} {a0 : Nat} {w : Wd} {q : Int32 × Wd} (h : fX7_image a0 w = some q) (hk : (fun q : Int32 × Wd => Q (some (.int q.1)) q.2) q) : Runs E mX7_image (8, 0, false) Q 0 0 [(0, .ref a0)] [] w := by
  unfold fX7_image at h
  refine r_aload_n dX7_image_0 0 rfl ?_
  obtain ⟨h1, h⟩ := chk_some h
  obtain ⟨o2, g3, h⟩ := ob_some h
  refine r_getR (fl_RX7_29 rfl) rfl dX7_image_1 h1 g3 ?_
  refine r_aload_n dX7_image_4 0 rfl ?_
  obtain ⟨o4, g5, h⟩ := ob_some h
  refine r_getR (fl_RX7_22 rfl) rfl dX7_image_5 h1 g5 ?_
  obtain ⟨h6, h⟩ := chk_some h
  obtain ⟨q7, g8, h⟩ := ob_some h
  refine r_callV (d' := (7, 0, false)) (As := [.ref o4]) (st := []) mdv_X0_take tm_RX7_219 (by decide) rfl rfl (by decide) rfl (Nat.le_refl _) (Nat.le_of_ble_eq_true rfl) rfl dX7_image_8 h6 (ctX0_take g8) (k_V0 ?_)
  refine r_aload_n dX7_image_11 0 rfl ?_
  refine r_iconst (v := 1) dX7_image_12 (by decide) ?_
  obtain ⟨h9, h⟩ := chk_some h
  obtain ⟨w10, e11, h⟩ := bnd_some h
  refine r_putI (fl_RX7_60 rfl) rfl rfl (ck_ty (by decide) 9 (by decide)) rfl rfl dX7_image_13 h9 ?_
  refine r_eqW e11 ?_
  refine r_aload_n dX7_image_16 0 rfl ?_
  obtain ⟨h12, h⟩ := chk_some h
  obtain ⟨o13, g14, h⟩ := ob_some h
  refine r_getR (fl_RX7_22 rfl) rfl dX7_image_17 h12 g14 ?_
  obtain ⟨h15, h⟩ := chk_some h
  refine r_getI (fl_RX7_275 rfl) rfl dX7_image_20 h15 ?_
  rw [← Option.some.inj h] at hk
  exact r_ireturn dX7_image_23 rfl rfl hk
set_option maxHeartbeats 1000000 in
set_option maxRecDepth 20000 in
theorem ctX7_image {E : Ev} {a0 : Nat} {w : Wd} {q : Int32 × Wd} (h : fX7_image a0 w = some q) : CT E mX7_image (8, 0, false) [.ref a0] w (QI q) := CT.of pl_RX7 (Nat.le_of_ble_eq_true rfl) (okX7_image h ⟨rfl, rfl⟩)
def fX7_judge_b18 (a0 : Nat) (w : Wd) : Option (Int32 × Wd) :=
  chk (isO w a0 7) (ob (fX7_refuseLower a0 (-1) w) (fun q2 => some (q2.1, q2.2)))
set_option maxHeartbeats 1000000 in
set_option maxRecDepth 20000 in
theorem okX7_judge_b18 {E : Ev} {Q : Option Value → Wd → Prop} {a0 : Nat} {w : Wd} {q : Int32 × Wd} (h : fX7_judge_b18 a0 w = some q) (hk : (fun q : Int32 × Wd => Q (some (.int q.1)) q.2) q) : Runs E mX7_judge (10, 0, false) Q 0 18 [(0, .ref a0)] [] w := by
  unfold fX7_judge_b18 at h
  refine r_aload_n dX7_judge_18 0 rfl ?_
  refine r_iconst (v := (-1)) dX7_judge_19 (by decide) ?_
  obtain ⟨h1, h⟩ := chk_some h
  obtain ⟨q2, g3, h⟩ := ob_some h
  refine r_callV (d' := (7, 0, false)) (As := [.int (-1)]) (st := []) mdv_X7_refuseLower tm_RX7_195 (by decide) rfl rfl (by decide) rfl (Nat.le_refl _) (Nat.le_of_ble_eq_true rfl) rfl dX7_judge_20 h1 (ctX7_refuseLower g3) (k_I0 ?_)
  rw [← Option.some.inj h] at hk
  exact r_ireturn dX7_judge_23 rfl rfl hk
def PX7_judge_L43 (E : Ev) (Q : Option Value → Wd → Prop) (a0 : Nat) (x1 : Int32) (x2 : Int32) (s : Int32 × Wd) : Prop := Runs E mX7_judge (10, 0, false) Q 0 43 [(0, .ref a0), (1, .int x1), (2, .int x2), (4, .int s.1)] [] s.2
def fX7_judge_L43_body (a0 : Nat) (x1 : Int32) (x2 : Int32) (s : Int32 × Wd) : Option ((Int32 × Wd) ⊕ (Int32 × Wd)) :=
  if (12 : Int32) ≤ s.1 then (wr (some ((-1), s.2))) else (chk (isO s.2 a0 7) (ob (wR s.2 a0 0) (fun o4 => chk (isA s.2 o4 4) (chk (inb x1 (wn s.2 o4)) (ob (wR s.2 o4 (x1).toNatClampNeg) (fun o8 => chk (isO s.2 o8 6) (ob (fX6_intAt o8 s.1 s.2) (fun q11 => chk (isO q11.2 a0 7) (ob (wR q11.2 a0 2) (fun o14 => chk (isO q11.2 o14 0) (ob (fX0_deedOf o14 x2 s.1 q11.2) (fun q17 => if q11.1 = q17.1 then (some (.inl ((s.1 + 1), q17.2))) else (wr (some (s.1, q17.2)))))))))))))))
set_option maxHeartbeats 1000000 in
set_option maxRecDepth 20000 in
theorem okX7_judge_L43_body {E : Ev} {Q : Option Value → Wd → Prop} {a0 : Nat} {x1 : Int32} {x2 : Int32} {s : Int32 × Wd} {r : (Int32 × Wd) ⊕ (Int32 × Wd)} (h : fX7_judge_L43_body a0 x1 x2 s = some r) (hk : (Sum.elim (PX7_judge_L43 E Q a0 x1 x2) (fun q : Int32 × Wd => Q (some (.int q.1)) q.2)) r) : PX7_judge_L43 E Q a0 x1 x2 s := by
  unfold fX7_judge_L43_body at h
  unfold PX7_judge_L43
  refine r_iload dX7_judge_43 3 rfl ?_
  refine r_bipush (v := 12) dX7_judge_45 (by decide) ?_
  refine r_icmp_ge (tgt := 83) dX7_judge_47 (by decide) (fun c1 => ?_) (fun c1 => ?_)
  · rw [if_pos c1] at h
    obtain ⟨r2, hr, h⟩ := wr_some h
    rw [hr] at hk
    refine r_iconst (v := (-1)) dX7_judge_83 (by decide) ?_
    rw [← Option.some.inj h] at hk
    exact r_ireturn dX7_judge_84 rfl rfl hk
  · rw [if_neg c1] at h
    refine r_aload_n dX7_judge_50 0 rfl ?_
    obtain ⟨h3, h⟩ := chk_some h
    obtain ⟨o4, g5, h⟩ := ob_some h
    refine r_getR (fl_RX7_11 rfl) rfl dX7_judge_51 h3 g5 ?_
    refine r_iload_n dX7_judge_54 1 rfl ?_
    obtain ⟨h6, h⟩ := chk_some h
    obtain ⟨h7, h⟩ := chk_some h
    obtain ⟨o8, g9, h⟩ := ob_some h
    refine r_aaload 4 (by decide) (by decide) dX7_judge_55 h6 h7 g9 ?_
    refine r_iload dX7_judge_56 3 rfl ?_
    obtain ⟨h10, h⟩ := chk_some h
    obtain ⟨q11, g12, h⟩ := ob_some h
    refine r_callV (d' := (6, 0, false)) (As := [.int s.1]) (st := []) mdv_X6_intAt tm_RX7_269 (by decide) rfl rfl (by decide) rfl (Nat.le_refl _) (Nat.le_of_ble_eq_true rfl) rfl dX7_judge_58 h10 (ctX6_intAt g12) (k_I0 ?_)
    refine r_aload_n dX7_judge_61 0 rfl ?_
    obtain ⟨h13, h⟩ := chk_some h
    obtain ⟨o14, g15, h⟩ := ob_some h
    refine r_getR (fl_RX7_22 rfl) rfl dX7_judge_62 h13 g15 ?_
    refine r_iload_n dX7_judge_65 2 rfl ?_
    refine r_iload dX7_judge_66 3 rfl ?_
    obtain ⟨h16, h⟩ := chk_some h
    obtain ⟨q17, g18, h⟩ := ob_some h
    refine r_callV (d' := (8, 0, false)) (As := [.int x2, .int s.1]) (st := [.int q11.1]) mdv_X0_deedOf tm_RX7_236 (by decide) rfl rfl (by decide) rfl (Nat.le_refl _) (Nat.le_of_ble_eq_true rfl) rfl dX7_judge_68 h16 (ctX0_deedOf g18) (k_I0 ?_)
    refine r_icmp_eq (tgt := 77) dX7_judge_71 (by decide) (fun c19 => ?_) (fun c19 => ?_)
    · rw [if_pos c19] at h
      refine r_iinc (v := (s.1 + 1)) dX7_judge_77 3 rfl rfl (Nat.le_of_ble_eq_true rfl) [(4, .int (s.1 + 1)), (0, .ref a0), (1, .int x1), (2, .int x2)] rfl ?_
      refine r_goto (tgt := 43) dX7_judge_80 (by decide) ?_
      rw [← Option.some.inj h] at hk
      refine r_sub [1, 2, 3, 0] [(0, .ref a0), (1, .int x1), (2, .int x2), (4, .int (s.1 + 1))] rfl ?_
      exact hk
    · rw [if_neg c19] at h
      obtain ⟨r20, hr, h⟩ := wr_some h
      rw [hr] at hk
      refine r_iload dX7_judge_74 3 rfl ?_
      rw [← Option.some.inj h] at hk
      exact r_ireturn dX7_judge_76 rfl rfl hk
def fX7_judge_L43 (a0 : Nat) (x1 : Int32) (x2 : Int32) (s : Int32 × Wd) : Option (Int32 × Wd) := it (fX7_judge_L43_body a0 x1 x2) FU s
set_option maxHeartbeats 1000000 in
set_option maxRecDepth 20000 in
theorem okX7_judge_L43 {E : Ev} {Q : Option Value → Wd → Prop} {a0 : Nat} {x1 : Int32} {x2 : Int32} {s : Int32 × Wd} {r : Int32 × Wd} (h : fX7_judge_L43 a0 x1 x2 s = some r) (hk : (fun q : Int32 × Wd => Q (some (.int q.1)) q.2) r) : PX7_judge_L43 E Q a0 x1 x2 s := it_runs (fun s r h hk => okX7_judge_L43_body h hk) FU s r h hk
def fX7_judge (a0 : Nat) (x1 : Int32) (x2 : Int32) (w : Wd) : Option (Int32 × Wd) :=
  ob (fX7_isShelf x1 w) (fun q1 => if q1.1 = 0 then (fX7_judge_b18 a0 q1.2) else (chk (isO q1.2 a0 7) (ob (wR q1.2 a0 2) (fun o5 => chk (isO q1.2 o5 0) (ob (fX0_hasPerson o5 x2 q1.2) (fun q8 => if q8.1 = 0 then (fX7_judge_b18 a0 q8.2) else (chk (isO q8.2 a0 7) (ob (fX7_toldDayTrouble a0 x1 q8.2) (fun q12 => if q12.1 = 0 then (fX7_judge_L43 a0 x1 x2 (0, q12.2)) else (chk (isO q12.2 a0 7) (ob (fX7_refuseLower a0 q12.1 q12.2) (fun q16 => some (q16.1, q16.2)))))))))))))
set_option maxHeartbeats 1000000 in
set_option maxRecDepth 20000 in
theorem okX7_judge {E : Ev} {Q : Option Value → Wd → Prop} {a0 : Nat} {x1 : Int32} {x2 : Int32} {w : Wd} {q : Int32 × Wd} (h : fX7_judge a0 x1 x2 w = some q) (hk : (fun q : Int32 × Wd => Q (some (.int q.1)) q.2) q) : Runs E mX7_judge (10, 0, false) Q 0 0 [(0, .ref a0), (1, .int x1), (2, .int x2)] [] w := by
  unfold fX7_judge at h
  refine r_iload_n dX7_judge_0 1 rfl ?_
  obtain ⟨q1, g2, h⟩ := ob_some h
  refine r_callS (d' := (7, 0, false)) (As := [.int x1]) (st := []) mds_X7_isShelf tm_RX7_69 rfl (by decide) rfl (Nat.le_refl _) (Nat.le_of_ble_eq_true rfl) rfl dX7_judge_1 (ctX7_isShelf g2) (k_I0 ?_)
  refine r_if_eq (tgt := 18) dX7_judge_4 (by decide) (fun c3 => ?_) (fun c3 => ?_)
  · rw [if_pos c3] at h
    refine r_sub [0] [(0, .ref a0)] rfl ?_
    exact okX7_judge_b18 h hk
  · rw [if_neg c3] at h
    refine r_aload_n dX7_judge_7 0 rfl ?_
    obtain ⟨h4, h⟩ := chk_some h
    obtain ⟨o5, g6, h⟩ := ob_some h
    refine r_getR (fl_RX7_22 rfl) rfl dX7_judge_8 h4 g6 ?_
    refine r_iload_n dX7_judge_11 2 rfl ?_
    obtain ⟨h7, h⟩ := chk_some h
    obtain ⟨q8, g9, h⟩ := ob_some h
    refine r_callV (d' := (7, 0, false)) (As := [.int x2]) (st := []) mdv_X0_hasPerson tm_RX7_173 (by decide) rfl rfl (by decide) rfl (Nat.le_refl _) (Nat.le_of_ble_eq_true rfl) rfl dX7_judge_12 h7 (ctX0_hasPerson g9) (k_I0 ?_)
    refine r_if_ne (tgt := 24) dX7_judge_15 (by decide) (fun c10 => ?_) (fun c10 => ?_)
    · rw [if_neg c10] at h
      refine r_aload_n dX7_judge_24 0 rfl ?_
      refine r_iload_n dX7_judge_25 1 rfl ?_
      obtain ⟨h11, h⟩ := chk_some h
      obtain ⟨q12, g13, h⟩ := ob_some h
      refine r_callV (d' := (9, 0, false)) (As := [.int x1]) (st := []) mdv_X7_toldDayTrouble tm_RX7_259 (by decide) rfl rfl (by decide) rfl (Nat.le_refl _) (Nat.le_of_ble_eq_true rfl) rfl dX7_judge_26 h11 (ctX7_toldDayTrouble g13) (k_I0 ?_)
      refine r_istore_n dX7_judge_29 rfl (Nat.le_of_ble_eq_true rfl) [(3, .int q12.1), (0, .ref a0), (1, .int x1), (2, .int x2)] rfl ?_
      refine r_iload_n dX7_judge_30 0 rfl ?_
      refine r_if_eq (tgt := 40) dX7_judge_31 (by decide) (fun c14 => ?_) (fun c14 => ?_)
      · rw [if_pos c14] at h
        refine r_iconst (v := 0) dX7_judge_40 (by decide) ?_
        refine r_istore dX7_judge_41 (Nat.le_of_ble_eq_true rfl) [(4, .int 0), (3, .int q12.1), (0, .ref a0), (1, .int x1), (2, .int x2)] rfl ?_
        refine r_sub [2, 3, 4, 0] [(0, .ref a0), (1, .int x1), (2, .int x2), (4, .int 0)] rfl ?_
        exact okX7_judge_L43 h hk
      · rw [if_neg c14] at h
        refine r_aload_n dX7_judge_34 1 rfl ?_
        refine r_iload_n dX7_judge_35 0 rfl ?_
        obtain ⟨h15, h⟩ := chk_some h
        obtain ⟨q16, g17, h⟩ := ob_some h
        refine r_callV (d' := (7, 0, false)) (As := [.int q12.1]) (st := []) mdv_X7_refuseLower tm_RX7_195 (by decide) rfl rfl (by decide) rfl (Nat.le_refl _) (Nat.le_of_ble_eq_true rfl) rfl dX7_judge_36 h15 (ctX7_refuseLower g17) (k_I0 ?_)
        rw [← Option.some.inj h] at hk
        exact r_ireturn dX7_judge_39 rfl rfl hk
    · rw [if_pos c10] at h
      refine r_sub [0] [(0, .ref a0)] rfl ?_
      exact okX7_judge_b18 h hk
set_option maxHeartbeats 1000000 in
set_option maxRecDepth 20000 in
theorem ctX7_judge {E : Ev} {a0 : Nat} {x1 : Int32} {x2 : Int32} {w : Wd} {q : Int32 × Wd} (h : fX7_judge a0 x1 x2 w = some q) : CT E mX7_judge (10, 0, false) [.ref a0, .int x1, .int x2] w (QI q) := CT.of pl_RX7 (Nat.le_of_ble_eq_true rfl) (okX7_judge h ⟨rfl, rfl⟩)
def PX7_kept_L52 (E : Ev) (Q : Option Value → Wd → Prop) (a0 : Nat) (x2 : Int32) (s : Int32 × Wd) : Prop := Runs E mX7_kept (8, 0, false) Q 0 52 [(0, .ref a0), (2, .int x2), (3, .int s.1)] [] s.2
def fX7_kept_L52_body (a0 : Nat) (x2 : Int32) (s : Int32 × Wd) : Option ((Int32 × Wd) ⊕ (Int32 × Wd)) :=
  if x2 ≤ s.1 then (wr (chk (isO s.2 a0 7) (ob (wR s.2 a0 5) (fun o4 => chk (isO s.2 o4 2) (ob (fX2_countHabits o4 s.2) (fun q7 => some (q7.1, q7.2))))))) else (chk (isO s.2 a0 7) (ob (wR s.2 a0 5) (fun o10 => chk (isO s.2 o10 2) (ob (fX2_launder o10 s.2) (fun q13 => some (.inl ((s.1 + 1), q13)))))))
set_option maxHeartbeats 1000000 in
set_option maxRecDepth 20000 in
theorem okX7_kept_L52_body {E : Ev} {Q : Option Value → Wd → Prop} {a0 : Nat} {x2 : Int32} {s : Int32 × Wd} {r : (Int32 × Wd) ⊕ (Int32 × Wd)} (h : fX7_kept_L52_body a0 x2 s = some r) (hk : (Sum.elim (PX7_kept_L52 E Q a0 x2) (fun q : Int32 × Wd => Q (some (.int q.1)) q.2)) r) : PX7_kept_L52 E Q a0 x2 s := by
  unfold fX7_kept_L52_body at h
  unfold PX7_kept_L52
  refine r_iload_n dX7_kept_52 2 rfl ?_
  refine r_iload_n dX7_kept_53 1 rfl ?_
  refine r_icmp_ge (tgt := 70) dX7_kept_54 (by decide) (fun c1 => ?_) (fun c1 => ?_)
  · rw [if_pos c1] at h
    obtain ⟨r2, hr, h⟩ := wr_some h
    rw [hr] at hk
    refine r_aload_n dX7_kept_70 0 rfl ?_
    obtain ⟨h3, h⟩ := chk_some h
    obtain ⟨o4, g5, h⟩ := ob_some h
    refine r_getR (fl_RX7_35 rfl) rfl dX7_kept_71 h3 g5 ?_
    obtain ⟨h6, h⟩ := chk_some h
    obtain ⟨q7, g8, h⟩ := ob_some h
    refine r_callV (d' := (6, 0, false)) (As := []) (st := []) mdv_X2_countHabits tm_RX7_155 (by decide) rfl rfl (by decide) rfl (Nat.le_refl _) (Nat.le_of_ble_eq_true rfl) rfl dX7_kept_74 h6 (ctX2_countHabits g8) (k_I0 ?_)
    rw [← Option.some.inj h] at hk
    exact r_ireturn dX7_kept_77 rfl rfl hk
  · rw [if_neg c1] at h
    refine r_aload_n dX7_kept_57 0 rfl ?_
    obtain ⟨h9, h⟩ := chk_some h
    obtain ⟨o10, g11, h⟩ := ob_some h
    refine r_getR (fl_RX7_35 rfl) rfl dX7_kept_58 h9 g11 ?_
    obtain ⟨h12, h⟩ := chk_some h
    obtain ⟨q13, g14, h⟩ := ob_some h
    refine r_callV (d' := (7, 0, false)) (As := []) (st := []) mdv_X2_launder tm_RX7_294 (by decide) rfl rfl (by decide) rfl (Nat.le_refl _) (Nat.le_of_ble_eq_true rfl) rfl dX7_kept_61 h12 (ctX2_launder g14) (k_V0 ?_)
    refine r_iinc (v := (s.1 + 1)) dX7_kept_64 2 rfl rfl (Nat.le_of_ble_eq_true rfl) [(3, .int (s.1 + 1)), (0, .ref a0), (2, .int x2)] rfl ?_
    refine r_goto (tgt := 52) dX7_kept_67 (by decide) ?_
    rw [← Option.some.inj h] at hk
    refine r_sub [1, 2, 0] [(0, .ref a0), (2, .int x2), (3, .int (s.1 + 1))] rfl ?_
    exact hk
def fX7_kept_L52 (a0 : Nat) (x2 : Int32) (s : Int32 × Wd) : Option (Int32 × Wd) := it (fX7_kept_L52_body a0 x2) FU s
set_option maxHeartbeats 1000000 in
set_option maxRecDepth 20000 in
theorem okX7_kept_L52 {E : Ev} {Q : Option Value → Wd → Prop} {a0 : Nat} {x2 : Int32} {s : Int32 × Wd} {r : Int32 × Wd} (h : fX7_kept_L52 a0 x2 s = some r) (hk : (fun q : Int32 × Wd => Q (some (.int q.1)) q.2) r) : PX7_kept_L52 E Q a0 x2 s := it_runs (fun s r h hk => okX7_kept_L52_body h hk) FU s r h hk
def fX7_kept (a0 : Nat) (x1 : Int32) (x2 : Int32) (w : Wd) : Option (Int32 × Wd) :=
  chk (isO w a0 7) (ob (wR w a0 2) (fun o2 => chk (isO w o2 0) (ob (fX0_hasGarment o2 x1 w) (fun q5 => if q5.1 = 0 then (chk (isO q5.2 a0 7) (ob (fX7_refuse a0 (-1) q5.2) (fun q30 => some (q30.1, q30.2)))) else (ob (fX7_isWithin x2 0 9 q5.2) (fun q8 => if q8.1 = 0 then (chk (isO q8.2 a0 7) (ob (fX7_refuse a0 (-6) q8.2) (fun q27 => some (q27.1, q27.2)))) else (chk (isO q8.2 a0 7) (ob (wR q8.2 a0 5) (fun o12 => ob (wR q8.2 a0 2) (fun o14 => chk (isO q8.2 o14 0) (ob (wR q8.2 o14 1) (fun o17 => chk (isA q8.2 o17 2) (chk (inb x1 (wn q8.2 o17)) (ob (wR q8.2 o17 (x1).toNatClampNeg) (fun o21 => chk (isO q8.2 o12 2) (ob (fX2_take o12 o21 q8.2) (fun q24 => fX7_kept_L52 a0 x2 (0, q24))))))))))))))))))
set_option maxHeartbeats 1000000 in
set_option maxRecDepth 20000 in
theorem okX7_kept {E : Ev} {Q : Option Value → Wd → Prop} {a0 : Nat} {x1 : Int32} {x2 : Int32} {w : Wd} {q : Int32 × Wd} (h : fX7_kept a0 x1 x2 w = some q) (hk : (fun q : Int32 × Wd => Q (some (.int q.1)) q.2) q) : Runs E mX7_kept (8, 0, false) Q 0 0 [(0, .ref a0), (1, .int x1), (2, .int x2)] [] w := by
  unfold fX7_kept at h
  refine r_aload_n dX7_kept_0 0 rfl ?_
  obtain ⟨h1, h⟩ := chk_some h
  obtain ⟨o2, g3, h⟩ := ob_some h
  refine r_getR (fl_RX7_22 rfl) rfl dX7_kept_1 h1 g3 ?_
  refine r_iload_n dX7_kept_4 1 rfl ?_
  obtain ⟨h4, h⟩ := chk_some h
  obtain ⟨q5, g6, h⟩ := ob_some h
  refine r_callV (d' := (7, 0, false)) (As := [.int x1]) (st := []) mdv_X0_hasGarment tm_RX7_121 (by decide) rfl rfl (by decide) rfl (Nat.le_refl _) (Nat.le_of_ble_eq_true rfl) rfl dX7_kept_5 h4 (ctX0_hasGarment g6) (k_I0 ?_)
  refine r_if_ne (tgt := 17) dX7_kept_8 (by decide) (fun c7 => ?_) (fun c7 => ?_)
  · rw [if_neg c7] at h
    refine r_iload_n dX7_kept_17 2 rfl ?_
    refine r_iconst (v := 0) dX7_kept_18 (by decide) ?_
    refine r_bipush (v := 9) dX7_kept_19 (by decide) ?_
    obtain ⟨q8, g9, h⟩ := ob_some h
    refine r_callS (d' := (6, 0, false)) (As := [.int x2, .int 0, .int 9]) (st := []) mds_X7_isWithin tm_RX7_77 rfl (by decide) rfl (Nat.le_refl _) (Nat.le_of_ble_eq_true rfl) rfl dX7_kept_21 (ctX7_isWithin g9) (k_I0 ?_)
    refine r_if_ne (tgt := 34) dX7_kept_24 (by decide) (fun c10 => ?_) (fun c10 => ?_)
    · rw [if_neg c10] at h
      refine r_aload_n dX7_kept_34 0 rfl ?_
      obtain ⟨h11, h⟩ := chk_some h
      obtain ⟨o12, g13, h⟩ := ob_some h
      refine r_getR (fl_RX7_35 rfl) rfl dX7_kept_35 h11 g13 ?_
      refine r_aload_n dX7_kept_38 0 rfl ?_
      obtain ⟨o14, g15, h⟩ := ob_some h
      refine r_getR (fl_RX7_22 rfl) rfl dX7_kept_39 h11 g15 ?_
      obtain ⟨h16, h⟩ := chk_some h
      obtain ⟨o17, g18, h⟩ := ob_some h
      refine r_getR (fl_RX7_137 rfl) rfl dX7_kept_42 h16 g18 ?_
      refine r_iload_n dX7_kept_45 1 rfl ?_
      obtain ⟨h19, h⟩ := chk_some h
      obtain ⟨h20, h⟩ := chk_some h
      obtain ⟨o21, g22, h⟩ := ob_some h
      refine r_aaload 2 (by decide) (by decide) dX7_kept_46 h19 h20 g22 ?_
      obtain ⟨h23, h⟩ := chk_some h
      obtain ⟨q24, g25, h⟩ := ob_some h
      refine r_callV (d' := (6, 0, false)) (As := [.ref o21]) (st := []) mdv_X2_take tm_RX7_291 (by decide) rfl rfl (by decide) rfl (Nat.le_refl _) (Nat.le_of_ble_eq_true rfl) rfl dX7_kept_47 h23 (ctX2_take g25) (k_V0 ?_)
      refine r_iconst (v := 0) dX7_kept_50 (by decide) ?_
      refine r_istore_n dX7_kept_51 rfl (Nat.le_of_ble_eq_true rfl) [(3, .int 0), (0, .ref a0), (1, .int x1), (2, .int x2)] rfl ?_
      refine r_sub [1, 3, 0] [(0, .ref a0), (2, .int x2), (3, .int 0)] rfl ?_
      exact okX7_kept_L52 h hk
    · rw [if_pos c10] at h
      refine r_aload_n dX7_kept_27 0 rfl ?_
      refine r_bipush (v := (-6)) dX7_kept_28 (by decide) ?_
      obtain ⟨h26, h⟩ := chk_some h
      obtain ⟨q27, g28, h⟩ := ob_some h
      refine r_callV (d' := (6, 0, false)) (As := [.int (-6)]) (st := []) mdv_X7_refuse tm_RX7_73 (by decide) rfl rfl (by decide) rfl (Nat.le_refl _) (Nat.le_of_ble_eq_true rfl) rfl dX7_kept_30 h26 (ctX7_refuse g28) (k_I0 ?_)
      rw [← Option.some.inj h] at hk
      exact r_ireturn dX7_kept_33 rfl rfl hk
  · rw [if_pos c7] at h
    refine r_aload_n dX7_kept_11 0 rfl ?_
    refine r_iconst (v := (-1)) dX7_kept_12 (by decide) ?_
    obtain ⟨h29, h⟩ := chk_some h
    obtain ⟨q30, g31, h⟩ := ob_some h
    refine r_callV (d' := (6, 0, false)) (As := [.int (-1)]) (st := []) mdv_X7_refuse tm_RX7_73 (by decide) rfl rfl (by decide) rfl (Nat.le_refl _) (Nat.le_of_ble_eq_true rfl) rfl dX7_kept_13 h29 (ctX7_refuse g31) (k_I0 ?_)
    rw [← Option.some.inj h] at hk
    exact r_ireturn dX7_kept_16 rfl rfl hk
set_option maxHeartbeats 1000000 in
set_option maxRecDepth 20000 in
theorem ctX7_kept {E : Ev} {a0 : Nat} {x1 : Int32} {x2 : Int32} {w : Wd} {q : Int32 × Wd} (h : fX7_kept a0 x1 x2 w = some q) : CT E mX7_kept (8, 0, false) [.ref a0, .int x1, .int x2] w (QI q) := CT.of pl_RX7 (Nat.le_of_ble_eq_true rfl) (okX7_kept h ⟨rfl, rfl⟩)
def fX7_like_b22 (a0 : Nat) (w : Wd) : Option (Int32 × Wd) :=
  chk (isO w a0 7) (ob (fX7_refuse a0 (-1) w) (fun q2 => some (q2.1, q2.2)))
set_option maxHeartbeats 1000000 in
set_option maxRecDepth 20000 in
theorem okX7_like_b22 {E : Ev} {Q : Option Value → Wd → Prop} {a0 : Nat} {w : Wd} {q : Int32 × Wd} (h : fX7_like_b22 a0 w = some q) (hk : (fun q : Int32 × Wd => Q (some (.int q.1)) q.2) q) : Runs E mX7_like (8, 0, false) Q 0 22 [(0, .ref a0)] [] w := by
  unfold fX7_like_b22 at h
  refine r_aload_n dX7_like_22 0 rfl ?_
  refine r_iconst (v := (-1)) dX7_like_23 (by decide) ?_
  obtain ⟨h1, h⟩ := chk_some h
  obtain ⟨q2, g3, h⟩ := ob_some h
  refine r_callV (d' := (6, 0, false)) (As := [.int (-1)]) (st := []) mdv_X7_refuse tm_RX7_73 (by decide) rfl rfl (by decide) rfl (Nat.le_refl _) (Nat.le_of_ble_eq_true rfl) rfl dX7_like_24 h1 (ctX7_refuse g3) (k_I0 ?_)
  rw [← Option.some.inj h] at hk
  exact r_ireturn dX7_like_27 rfl rfl hk
def fX7_like (a0 : Nat) (x1 : Int32) (x2 : Int32) (w : Wd) : Option (Int32 × Wd) :=
  chk (isO w a0 7) (ob (wR w a0 2) (fun o2 => chk (isO w o2 0) (ob (fX0_hasGarment o2 x1 w) (fun q5 => if q5.1 = 0 then (fX7_like_b22 a0 q5.2) else (chk (isO q5.2 a0 7) (ob (wR q5.2 a0 2) (fun o9 => chk (isO q5.2 o9 0) (ob (fX0_hasPerson o9 x2 q5.2) (fun q12 => if q12.1 = 0 then (fX7_like_b22 a0 q12.2) else (chk (isO q12.2 a0 7) (ob (wR q12.2 a0 2) (fun o16 => chk (isO q12.2 o16 0) (ob (fX0_likeness o16 x1 x2 q12.2) (fun q19 => some (q19.1, q19.2)))))))))))))))
set_option maxHeartbeats 1000000 in
set_option maxRecDepth 20000 in
theorem okX7_like {E : Ev} {Q : Option Value → Wd → Prop} {a0 : Nat} {x1 : Int32} {x2 : Int32} {w : Wd} {q : Int32 × Wd} (h : fX7_like a0 x1 x2 w = some q) (hk : (fun q : Int32 × Wd => Q (some (.int q.1)) q.2) q) : Runs E mX7_like (8, 0, false) Q 0 0 [(0, .ref a0), (1, .int x1), (2, .int x2)] [] w := by
  unfold fX7_like at h
  refine r_aload_n dX7_like_0 0 rfl ?_
  obtain ⟨h1, h⟩ := chk_some h
  obtain ⟨o2, g3, h⟩ := ob_some h
  refine r_getR (fl_RX7_22 rfl) rfl dX7_like_1 h1 g3 ?_
  refine r_iload_n dX7_like_4 1 rfl ?_
  obtain ⟨h4, h⟩ := chk_some h
  obtain ⟨q5, g6, h⟩ := ob_some h
  refine r_callV (d' := (7, 0, false)) (As := [.int x1]) (st := []) mdv_X0_hasGarment tm_RX7_121 (by decide) rfl rfl (by decide) rfl (Nat.le_refl _) (Nat.le_of_ble_eq_true rfl) rfl dX7_like_5 h4 (ctX0_hasGarment g6) (k_I0 ?_)
  refine r_if_eq (tgt := 22) dX7_like_8 (by decide) (fun c7 => ?_) (fun c7 => ?_)
  · rw [if_pos c7] at h
    refine r_sub [0] [(0, .ref a0)] rfl ?_
    exact okX7_like_b22 h hk
  · rw [if_neg c7] at h
    refine r_aload_n dX7_like_11 0 rfl ?_
    obtain ⟨h8, h⟩ := chk_some h
    obtain ⟨o9, g10, h⟩ := ob_some h
    refine r_getR (fl_RX7_22 rfl) rfl dX7_like_12 h8 g10 ?_
    refine r_iload_n dX7_like_15 2 rfl ?_
    obtain ⟨h11, h⟩ := chk_some h
    obtain ⟨q12, g13, h⟩ := ob_some h
    refine r_callV (d' := (7, 0, false)) (As := [.int x2]) (st := []) mdv_X0_hasPerson tm_RX7_173 (by decide) rfl rfl (by decide) rfl (Nat.le_refl _) (Nat.le_of_ble_eq_true rfl) rfl dX7_like_16 h11 (ctX0_hasPerson g13) (k_I0 ?_)
    refine r_if_ne (tgt := 28) dX7_like_19 (by decide) (fun c14 => ?_) (fun c14 => ?_)
    · rw [if_neg c14] at h
      refine r_aload_n dX7_like_28 0 rfl ?_
      obtain ⟨h15, h⟩ := chk_some h
      obtain ⟨o16, g17, h⟩ := ob_some h
      refine r_getR (fl_RX7_22 rfl) rfl dX7_like_29 h15 g17 ?_
      refine r_iload_n dX7_like_32 1 rfl ?_
      refine r_iload_n dX7_like_33 2 rfl ?_
      obtain ⟨h18, h⟩ := chk_some h
      obtain ⟨q19, g20, h⟩ := ob_some h
      refine r_callV (d' := (6, 0, false)) (As := [.int x1, .int x2]) (st := []) mdv_X0_likeness tm_RX7_253 (by decide) rfl rfl (by decide) rfl (Nat.le_refl _) (Nat.le_of_ble_eq_true rfl) rfl dX7_like_34 h18 (ctX0_likeness g20) (k_I0 ?_)
      rw [← Option.some.inj h] at hk
      exact r_ireturn dX7_like_37 rfl rfl hk
    · rw [if_pos c14] at h
      refine r_sub [0] [(0, .ref a0)] rfl ?_
      exact okX7_like_b22 h hk
set_option maxHeartbeats 1000000 in
set_option maxRecDepth 20000 in
theorem ctX7_like {E : Ev} {a0 : Nat} {x1 : Int32} {x2 : Int32} {w : Wd} {q : Int32 × Wd} (h : fX7_like a0 x1 x2 w = some q) : CT E mX7_like (8, 0, false) [.ref a0, .int x1, .int x2] w (QI q) := CT.of pl_RX7 (Nat.le_of_ble_eq_true rfl) (okX7_like h ⟨rfl, rfl⟩)
def fX7_own_b31 (a0 : Nat) (w : Wd) : Option (Int32 × Wd) :=
  chk (isO w a0 7) (ob (fX7_refuse a0 (-6) w) (fun q2 => some (q2.1, q2.2)))
set_option maxHeartbeats 1000000 in
set_option maxRecDepth 20000 in
theorem okX7_own_b31 {E : Ev} {Q : Option Value → Wd → Prop} {a0 : Nat} {w : Wd} {q : Int32 × Wd} (h : fX7_own_b31 a0 w = some q) (hk : (fun q : Int32 × Wd => Q (some (.int q.1)) q.2) q) : Runs E mX7_own (8, 0, false) Q 0 31 [(0, .ref a0)] [] w := by
  unfold fX7_own_b31 at h
  refine r_aload_n dX7_own_31 0 rfl ?_
  refine r_bipush (v := (-6)) dX7_own_32 (by decide) ?_
  obtain ⟨h1, h⟩ := chk_some h
  obtain ⟨q2, g3, h⟩ := ob_some h
  refine r_callV (d' := (6, 0, false)) (As := [.int (-6)]) (st := []) mdv_X7_refuse tm_RX7_73 (by decide) rfl rfl (by decide) rfl (Nat.le_refl _) (Nat.le_of_ble_eq_true rfl) rfl dX7_own_34 h1 (ctX7_refuse g3) (k_I0 ?_)
  rw [← Option.some.inj h] at hk
  exact r_ireturn dX7_own_37 rfl rfl hk
def fX7_own (a0 : Nat) (x1 : Int32) (x2 : Int32) (x3 : Int32) (w : Wd) : Option (Int32 × Wd) :=
  chk (isO w a0 7) (ob (wR w a0 2) (fun o2 => chk (isO w o2 0) (ob (fX0_hasPerson o2 x1 w) (fun q5 => if q5.1 = 0 then (chk (isO q5.2 a0 7) (ob (fX7_refuse a0 (-1) q5.2) (fun q34 => some (q34.1, q34.2)))) else (ob (fX7_isHour x2 q5.2) (fun q8 => if q8.1 = 0 then (fX7_own_b31 a0 q8.2) else (ob (fX7_isDigit x3 q8.2) (fun q11 => if q11.1 = 0 then (fX7_own_b31 a0 q11.2) else (chk (isO q11.2 a0 7) (ob (wR q11.2 a0 2) (fun o15 => chk (isO q11.2 o15 0) (ob (wR q11.2 o15 0) (fun o18 => chk (isA q11.2 o18 3) (chk (inb x1 (wn q11.2 o18)) (ob (wR q11.2 o18 (x1).toNatClampNeg) (fun o22 => chk (isO q11.2 o22 4) (ob (wR q11.2 o22 0) (fun o25 => chk (isA q11.2 o25 0) (chk (inb x2 (wn q11.2 o25)) (bnd (wI q11.2 o25 (x2).toNatClampNeg) (fun u29 => bnd (sI q11.2 o25 (x2).toNatClampNeg x3) (fun w31 => some (u29, w31)))))))))))))))))))))))
set_option maxHeartbeats 1000000 in
set_option maxRecDepth 20000 in
theorem okX7_own {E : Ev} {Q : Option Value → Wd → Prop} {a0 : Nat} {x1 : Int32} {x2 : Int32} {x3 : Int32} {w : Wd} {q : Int32 × Wd} (h : fX7_own a0 x1 x2 x3 w = some q) (hk : (fun q : Int32 × Wd => Q (some (.int q.1)) q.2) q) : Runs E mX7_own (8, 0, false) Q 0 0 [(0, .ref a0), (1, .int x1), (2, .int x2), (3, .int x3)] [] w := by
  unfold fX7_own at h
  refine r_aload_n dX7_own_0 0 rfl ?_
  obtain ⟨h1, h⟩ := chk_some h
  obtain ⟨o2, g3, h⟩ := ob_some h
  refine r_getR (fl_RX7_22 rfl) rfl dX7_own_1 h1 g3 ?_
  refine r_iload_n dX7_own_4 1 rfl ?_
  obtain ⟨h4, h⟩ := chk_some h
  obtain ⟨q5, g6, h⟩ := ob_some h
  refine r_callV (d' := (7, 0, false)) (As := [.int x1]) (st := []) mdv_X0_hasPerson tm_RX7_173 (by decide) rfl rfl (by decide) rfl (Nat.le_refl _) (Nat.le_of_ble_eq_true rfl) rfl dX7_own_5 h4 (ctX0_hasPerson g6) (k_I0 ?_)
  refine r_if_ne (tgt := 17) dX7_own_8 (by decide) (fun c7 => ?_) (fun c7 => ?_)
  · rw [if_neg c7] at h
    refine r_iload_n dX7_own_17 2 rfl ?_
    obtain ⟨q8, g9, h⟩ := ob_some h
    refine r_callS (d' := (7, 0, false)) (As := [.int x2]) (st := []) mds_X7_isHour tm_RX7_176 rfl (by decide) rfl (Nat.le_refl _) (Nat.le_of_ble_eq_true rfl) rfl dX7_own_18 (ctX7_isHour g9) (k_I0 ?_)
    refine r_if_eq (tgt := 31) dX7_own_21 (by decide) (fun c10 => ?_) (fun c10 => ?_)
    · rw [if_pos c10] at h
      refine r_sub [0] [(0, .ref a0)] rfl ?_
      exact okX7_own_b31 h hk
    · rw [if_neg c10] at h
      refine r_iload_n dX7_own_24 3 rfl ?_
      obtain ⟨q11, g12, h⟩ := ob_some h
      refine r_callS (d' := (7, 0, false)) (As := [.int x3]) (st := []) mds_X7_isDigit tm_RX7_158 rfl (by decide) rfl (Nat.le_refl _) (Nat.le_of_ble_eq_true rfl) rfl dX7_own_25 (ctX7_isDigit g12) (k_I0 ?_)
      refine r_if_ne (tgt := 38) dX7_own_28 (by decide) (fun c13 => ?_) (fun c13 => ?_)
      · rw [if_neg c13] at h
        refine r_aload_n dX7_own_38 0 rfl ?_
        obtain ⟨h14, h⟩ := chk_some h
        obtain ⟨o15, g16, h⟩ := ob_some h
        refine r_getR (fl_RX7_22 rfl) rfl dX7_own_39 h14 g16 ?_
        obtain ⟨h17, h⟩ := chk_some h
        obtain ⟨o18, g19, h⟩ := ob_some h
        refine r_getR (fl_RX7_179 rfl) rfl dX7_own_42 h17 g19 ?_
        refine r_iload_n dX7_own_45 1 rfl ?_
        obtain ⟨h20, h⟩ := chk_some h
        obtain ⟨h21, h⟩ := chk_some h
        obtain ⟨o22, g23, h⟩ := ob_some h
        refine r_aaload 3 (by decide) (by decide) dX7_own_46 h20 h21 g23 ?_
        obtain ⟨h24, h⟩ := chk_some h
        obtain ⟨o25, g26, h⟩ := ob_some h
        refine r_getR (fl_RX7_183 rfl) rfl dX7_own_47 h24 g26 ?_
        refine r_iload_n dX7_own_50 2 rfl ?_
        obtain ⟨h27, h⟩ := chk_some h
        obtain ⟨h28, h⟩ := chk_some h
        refine r_iaload dX7_own_51 h27 h28 ?_
        obtain ⟨u29, e30, h⟩ := bnd_some h
        refine r_eqI e30 ?_
        refine r_istore dX7_own_52 (Nat.le_of_ble_eq_true rfl) [(4, .int u29), (0, .ref a0), (1, .int x1), (2, .int x2), (3, .int x3)] rfl ?_
        refine r_aload_n dX7_own_54 1 rfl ?_
        refine r_getR (fl_RX7_22 rfl) rfl dX7_own_55 h14 g16 ?_
        refine r_getR (fl_RX7_179 rfl) rfl dX7_own_58 h17 g19 ?_
        refine r_iload_n dX7_own_61 2 rfl ?_
        refine r_aaload 3 (by decide) (by decide) dX7_own_62 h20 h21 g23 ?_
        refine r_getR (fl_RX7_183 rfl) rfl dX7_own_63 h24 g26 ?_
        refine r_iload_n dX7_own_66 3 rfl ?_
        refine r_iload_n dX7_own_67 4 rfl ?_
        obtain ⟨w31, e32, h⟩ := bnd_some h
        refine r_iastore dX7_own_68 h27 h28 ?_
        refine r_eqW e32 ?_
        refine r_iload dX7_own_69 0 rfl ?_
        rw [← Option.some.inj h] at hk
        exact r_ireturn dX7_own_71 rfl rfl hk
      · rw [if_pos c13] at h
        refine r_sub [0] [(0, .ref a0)] rfl ?_
        exact okX7_own_b31 h hk
  · rw [if_pos c7] at h
    refine r_aload_n dX7_own_11 0 rfl ?_
    refine r_iconst (v := (-1)) dX7_own_12 (by decide) ?_
    obtain ⟨h33, h⟩ := chk_some h
    obtain ⟨q34, g35, h⟩ := ob_some h
    refine r_callV (d' := (6, 0, false)) (As := [.int (-1)]) (st := []) mdv_X7_refuse tm_RX7_73 (by decide) rfl rfl (by decide) rfl (Nat.le_refl _) (Nat.le_of_ble_eq_true rfl) rfl dX7_own_13 h33 (ctX7_refuse g35) (k_I0 ?_)
    rw [← Option.some.inj h] at hk
    exact r_ireturn dX7_own_16 rfl rfl hk
set_option maxHeartbeats 1000000 in
set_option maxRecDepth 20000 in
theorem ctX7_own {E : Ev} {a0 : Nat} {x1 : Int32} {x2 : Int32} {x3 : Int32} {w : Wd} {q : Int32 × Wd} (h : fX7_own a0 x1 x2 x3 w = some q) : CT E mX7_own (8, 0, false) [.ref a0, .int x1, .int x2, .int x3] w (QI q) := CT.of pl_RX7 (Nat.le_of_ble_eq_true rfl) (okX7_own h ⟨rfl, rfl⟩)
def fX7_person (a0 : Nat) (x1 : Int32) (w : Wd) : Option (Int32 × Wd) :=
  ob (fX7_isDigit x1 w) (fun q1 => if q1.1 = 0 then (chk (isO q1.2 a0 7) (ob (fX7_refuse a0 (-6) q1.2) (fun q21 => some (q21.1, q21.2)))) else (chk (isO q1.2 a0 7) (ob (wR q1.2 a0 2) (fun o5 => chk (isO q1.2 o5 0) (ob (fX0_isFullOfPeople o5 q1.2) (fun q8 => if q8.1 = 0 then (chk (isO q8.2 a0 7) (ob (wR q8.2 a0 2) (fun o12 => chk (isO q8.2 o12 0) (ob (fX0_addPerson o12 x1 q8.2) (fun q15 => some (q15.1, q15.2)))))) else (chk (isO q8.2 a0 7) (ob (fX7_refuse a0 (-7) q8.2) (fun q18 => some (q18.1, q18.2))))))))))
set_option maxHeartbeats 1000000 in
set_option maxRecDepth 20000 in
theorem okX7_person {E : Ev} {Q : Option Value → Wd → Prop} {a0 : Nat} {x1 : Int32} {w : Wd} {q : Int32 × Wd} (h : fX7_person a0 x1 w = some q) (hk : (fun q : Int32 × Wd => Q (some (.int q.1)) q.2) q) : Runs E mX7_person (9, 0, false) Q 0 0 [(0, .ref a0), (1, .int x1)] [] w := by
  unfold fX7_person at h
  refine r_iload_n dX7_person_0 1 rfl ?_
  obtain ⟨q1, g2, h⟩ := ob_some h
  refine r_callS (d' := (7, 0, false)) (As := [.int x1]) (st := []) mds_X7_isDigit tm_RX7_158 rfl (by decide) rfl (Nat.le_refl _) (Nat.le_of_ble_eq_true rfl) rfl dX7_person_1 (ctX7_isDigit g2) (k_I0 ?_)
  refine r_if_ne (tgt := 14) dX7_person_4 (by decide) (fun c3 => ?_) (fun c3 => ?_)
  · rw [if_neg c3] at h
    refine r_aload_n dX7_person_14 0 rfl ?_
    obtain ⟨h4, h⟩ := chk_some h
    obtain ⟨o5, g6, h⟩ := ob_some h
    refine r_getR (fl_RX7_22 rfl) rfl dX7_person_15 h4 g6 ?_
    obtain ⟨h7, h⟩ := chk_some h
    obtain ⟨q8, g9, h⟩ := ob_some h
    refine r_callV (d' := (6, 0, false)) (As := []) (st := []) mdv_X0_isFullOfPeople tm_RX7_161 (by decide) rfl rfl (by decide) rfl (Nat.le_refl _) (Nat.le_of_ble_eq_true rfl) rfl dX7_person_18 h7 (ctX0_isFullOfPeople g9) (k_I0 ?_)
    refine r_if_eq (tgt := 31) dX7_person_21 (by decide) (fun c10 => ?_) (fun c10 => ?_)
    · rw [if_pos c10] at h
      refine r_aload_n dX7_person_31 0 rfl ?_
      obtain ⟨h11, h⟩ := chk_some h
      obtain ⟨o12, g13, h⟩ := ob_some h
      refine r_getR (fl_RX7_22 rfl) rfl dX7_person_32 h11 g13 ?_
      refine r_iload_n dX7_person_35 1 rfl ?_
      obtain ⟨h14, h⟩ := chk_some h
      obtain ⟨q15, g16, h⟩ := ob_some h
      refine r_callV (d' := (8, 0, false)) (As := [.int x1]) (st := []) mdv_X0_addPerson tm_RX7_164 (by decide) rfl rfl (by decide) rfl (Nat.le_refl _) (Nat.le_of_ble_eq_true rfl) rfl dX7_person_36 h14 (ctX0_addPerson g16) (k_I0 ?_)
      rw [← Option.some.inj h] at hk
      exact r_ireturn dX7_person_39 rfl rfl hk
    · rw [if_neg c10] at h
      refine r_aload_n dX7_person_24 0 rfl ?_
      refine r_bipush (v := (-7)) dX7_person_25 (by decide) ?_
      obtain ⟨h17, h⟩ := chk_some h
      obtain ⟨q18, g19, h⟩ := ob_some h
      refine r_callV (d' := (6, 0, false)) (As := [.int (-7)]) (st := []) mdv_X7_refuse tm_RX7_73 (by decide) rfl rfl (by decide) rfl (Nat.le_refl _) (Nat.le_of_ble_eq_true rfl) rfl dX7_person_27 h17 (ctX7_refuse g19) (k_I0 ?_)
      rw [← Option.some.inj h] at hk
      exact r_ireturn dX7_person_30 rfl rfl hk
  · rw [if_pos c3] at h
    refine r_aload_n dX7_person_7 0 rfl ?_
    refine r_bipush (v := (-6)) dX7_person_8 (by decide) ?_
    obtain ⟨h20, h⟩ := chk_some h
    obtain ⟨q21, g22, h⟩ := ob_some h
    refine r_callV (d' := (6, 0, false)) (As := [.int (-6)]) (st := []) mdv_X7_refuse tm_RX7_73 (by decide) rfl rfl (by decide) rfl (Nat.le_refl _) (Nat.le_of_ble_eq_true rfl) rfl dX7_person_10 h20 (ctX7_refuse g22) (k_I0 ?_)
    rw [← Option.some.inj h] at hk
    exact r_ireturn dX7_person_13 rfl rfl hk
set_option maxHeartbeats 1000000 in
set_option maxRecDepth 20000 in
theorem ctX7_person {E : Ev} {a0 : Nat} {x1 : Int32} {w : Wd} {q : Int32 × Wd} (h : fX7_person a0 x1 w = some q) : CT E mX7_person (9, 0, false) [.ref a0, .int x1] w (QI q) := CT.of pl_RX7 (Nat.le_of_ble_eq_true rfl) (okX7_person h ⟨rfl, rfl⟩)
