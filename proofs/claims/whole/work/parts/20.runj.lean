def fJ0_isLatin1_aae02_b18 (s0 : Int32) (w : Wd) : Option (Int32 × Wd) :=
  chk (s0 = 0 ∨ s0 = 1) (some (s0, w))
set_option maxHeartbeats 1000000 in
set_option maxRecDepth 20000 in
theorem okJ0_isLatin1_aae02_b18 {E : Ev} {Q : Option Value → Wd → Prop} {s0 : Int32} {w : Wd} {q : Int32 × Wd} (h : fJ0_isLatin1_aae02_b18 s0 w = some q) (hk : (fun q : Int32 × Wd => Q (some (.int q.1)) q.2) q) : Runs E mJ0_isLatin1_aae02 (6, 0, false) Q 0 18 [] [.int s0] w := by
  unfold fJ0_isLatin1_aae02_b18 at h
  obtain ⟨h1, h⟩ := chk_some h
  rw [← Option.some.inj h] at hk
  exact r_ireturn dJ0_isLatin1_aae02_18 rfl (nb h1) hk
def fJ0_isLatin1_aae02_b17 (w : Wd) : Option (Int32 × Wd) :=
  fJ0_isLatin1_aae02_b18 0 w
set_option maxHeartbeats 1000000 in
set_option maxRecDepth 20000 in
theorem okJ0_isLatin1_aae02_b17 {E : Ev} {Q : Option Value → Wd → Prop} {w : Wd} {q : Int32 × Wd} (h : fJ0_isLatin1_aae02_b17 w = some q) (hk : (fun q : Int32 × Wd => Q (some (.int q.1)) q.2) q) : Runs E mJ0_isLatin1_aae02 (6, 0, false) Q 0 17 [] [] w := by
  unfold fJ0_isLatin1_aae02_b17 at h
  refine r_iconst (v := 0) dJ0_isLatin1_aae02_17 (by decide) ?_
  refine r_sub [] [] rfl ?_
  exact okJ0_isLatin1_aae02_b18 h hk
def fJ0_isLatin1_aae02 (z0 : Nat) (w : Wd) : Option (Int32 × Wd) :=
  if (1 : Int32) = 0 then (fJ0_isLatin1_aae02_b17 w) else (chk (z0 < 16) (if (0 : Int32) = 0 then (fJ0_isLatin1_aae02_b18 1 w) else (fJ0_isLatin1_aae02_b17 w)))
set_option maxHeartbeats 1000000 in
set_option maxRecDepth 20000 in
theorem okJ0_isLatin1_aae02 {E : Ev} {Q : Option Value → Wd → Prop} {z0 : Nat} {w : Wd} {q : Int32 × Wd} (h : fJ0_isLatin1_aae02 z0 w = some q) (hk : (fun q : Int32 × Wd => Q (some (.int q.1)) q.2) q) : Runs E mJ0_isLatin1_aae02 (6, 0, false) Q 0 0 [(0, .ref (1100 + z0))] [] w := by
  unfold fJ0_isLatin1_aae02 at h
  refine r_getsC tf_RJ0_38 dJ0_isLatin1_aae02_0 ?_
  refine r_if_eq (tgt := 17) dJ0_isLatin1_aae02_3 (by decide) (fun c1 => ?_) (fun c1 => ?_)
  · rw [if_pos c1] at h
    refine r_sub [] [] rfl ?_
    exact okJ0_isLatin1_aae02_b17 h hk
  · rw [if_neg c1] at h
    refine r_aload_n dJ0_isLatin1_aae02_6 0 rfl ?_
    obtain ⟨h2, h⟩ := chk_some h
    refine r_strC z0 h2 tf_RJ0_15 dJ0_isLatin1_aae02_7 ?_
    refine r_if_ne (tgt := 17) dJ0_isLatin1_aae02_10 (by decide) (fun c3 => ?_) (fun c3 => ?_)
    · rw [if_neg c3] at h
      refine r_sub [] [] rfl ?_
      exact okJ0_isLatin1_aae02_b17 h hk
    · rw [if_pos c3] at h
      refine r_iconst (v := 1) dJ0_isLatin1_aae02_13 (by decide) ?_
      refine r_goto (tgt := 18) dJ0_isLatin1_aae02_14 (by decide) ?_
      refine r_sub [] [] rfl ?_
      exact okJ0_isLatin1_aae02_b18 h hk
set_option maxHeartbeats 1000000 in
set_option maxRecDepth 20000 in
theorem ctJ0_isLatin1_aae02 {E : Ev} {z0 : Nat} {w : Wd} {q : Int32 × Wd} (h : fJ0_isLatin1_aae02 z0 w = some q) : CT E mJ0_isLatin1_aae02 (6, 0, false) [.ref (1100 + z0)] w (QI q) := CT.of pl_RJ0 (Nat.le_of_ble_eq_true rfl) (okJ0_isLatin1_aae02 h ⟨rfl, rfl⟩)
def fJ3_checkIndex_8e157_b9 (x0 : Int32) (x1 : Int32) (w : Wd) : Option (Int32 × Wd) :=
  none
set_option maxHeartbeats 1000000 in
set_option maxRecDepth 20000 in
theorem okJ3_checkIndex_8e157_b9 {E : Ev} {Q : Option Value → Wd → Prop} {x0 : Int32} {x1 : Int32} {v2 : Value} {w : Wd} {q : Int32 × Wd} (h : fJ3_checkIndex_8e157_b9 x0 x1 w = some q) (hk : (fun q : Int32 × Wd => Q (some (.int q.1)) q.2) q) : Runs E mJ3_checkIndex_8e157 (6, 0, false) Q 0 9 [(0, .int x0), (1, .int x1), (2, v2)] [] w := by
  unfold fJ3_checkIndex_8e157_b9 at h
  cases h
def fJ3_checkIndex_8e157 (x0 : Int32) (x1 : Int32) (w : Wd) : Option (Int32 × Wd) :=
  if x0 < 0 then (fJ3_checkIndex_8e157_b9 x0 x1 w) else (if x0 < x1 then (some (x0, w)) else (fJ3_checkIndex_8e157_b9 x0 x1 w))
set_option maxHeartbeats 1000000 in
set_option maxRecDepth 20000 in
theorem okJ3_checkIndex_8e157 {E : Ev} {Q : Option Value → Wd → Prop} {x0 : Int32} {x1 : Int32} {v2 : Value} {w : Wd} {q : Int32 × Wd} (h : fJ3_checkIndex_8e157 x0 x1 w = some q) (hk : (fun q : Int32 × Wd => Q (some (.int q.1)) q.2) q) : Runs E mJ3_checkIndex_8e157 (6, 0, false) Q 0 0 [(0, .int x0), (1, .int x1), (2, v2)] [] w := by
  unfold fJ3_checkIndex_8e157 at h
  refine r_iload_n dJ3_checkIndex_8e157_0 0 rfl ?_
  refine r_if_lt (tgt := 9) dJ3_checkIndex_8e157_1 (by decide) (fun c1 => ?_) (fun c1 => ?_)
  · rw [if_pos c1] at h
    refine r_sub [0, 1, 2] [(0, .int x0), (1, .int x1), (2, v2)] rfl ?_
    exact okJ3_checkIndex_8e157_b9 h hk
  · rw [if_neg c1] at h
    refine r_iload_n dJ3_checkIndex_8e157_4 0 rfl ?_
    refine r_iload_n dJ3_checkIndex_8e157_5 1 rfl ?_
    refine r_icmp_lt (tgt := 16) dJ3_checkIndex_8e157_6 (by decide) (fun c2 => ?_) (fun c2 => ?_)
    · rw [if_pos c2] at h
      refine r_iload_n dJ3_checkIndex_8e157_16 0 rfl ?_
      rw [← Option.some.inj h] at hk
      exact r_ireturn dJ3_checkIndex_8e157_17 rfl rfl hk
    · rw [if_neg c2] at h
      refine r_sub [0, 1, 2] [(0, .int x0), (1, .int x1), (2, v2)] rfl ?_
      exact okJ3_checkIndex_8e157_b9 h hk
set_option maxHeartbeats 1000000 in
set_option maxRecDepth 20000 in
theorem ctJ3_checkIndex_8e157 {E : Ev} {x0 : Int32} {x1 : Int32} {v2 : Value} (hv : v2.category = 1) {w : Wd} {q : Int32 × Wd} (h : fJ3_checkIndex_8e157 x0 x1 w = some q) : CT E mJ3_checkIndex_8e157 (6, 0, false) [.int x0, .int x1, v2] w (QI q) := CT.of pl_RJ3 (lg3 hv) (okJ3_checkIndex_8e157 h ⟨rfl, rfl⟩)
def fJ0_checkIndex_df160 (x0 : Int32) (x1 : Int32) (w : Wd) : Option (Wd) :=
  ob (fJ3_checkIndex_8e157 x0 x1 w) (fun q2 => some q2.2)
set_option maxHeartbeats 1000000 in
set_option maxRecDepth 20000 in
theorem okJ0_checkIndex_df160 {E : Ev} {Q : Option Value → Wd → Prop} {x0 : Int32} {x1 : Int32} {w : Wd} {q : Wd} (h : fJ0_checkIndex_df160 x0 x1 w = some q) (hk : (fun q : Wd => Q none q) q) : Runs E mJ0_checkIndex_df160 (7, 0, false) Q 0 0 [(0, .int x0), (1, .int x1)] [] w := by
  unfold fJ0_checkIndex_df160 at h
  refine r_iload_n dJ0_checkIndex_df160_0 0 rfl ?_
  refine r_iload_n dJ0_checkIndex_df160_1 1 rfl ?_
  refine r_getsF tf_RJ0_1053 dJ0_checkIndex_df160_2 (fun vv1 hv => ?_)
  have hv : vv1.category = 1 := by rcases hv with rfl | rfl <;> rfl
  obtain ⟨q2, g3, h⟩ := ob_some h
  refine r_callS (d' := (6, 0, false)) (As := [.int x0, .int x1, vv1]) (st := []) mds_J3_checkIndex_8e157 tm_RJ0_1059 rfl (by decide) rfl (Nat.le_refl _) (Nat.le_of_ble_eq_true rfl) rfl dJ0_checkIndex_df160_5 (ctJ3_checkIndex_8e157 hv g3) (k_I0 ?_)
  refine r_pop dJ0_checkIndex_df160_8 rfl ?_
  rw [← Option.some.inj h] at hk
  exact r_return dJ0_checkIndex_df160_9 rfl hk
set_option maxHeartbeats 1000000 in
set_option maxRecDepth 20000 in
theorem ctJ0_checkIndex_df160 {E : Ev} {x0 : Int32} {x1 : Int32} {w : Wd} {q : Wd} (h : fJ0_checkIndex_df160 x0 x1 w = some q) : CT E mJ0_checkIndex_df160 (7, 0, false) [.int x0, .int x1] w (QV q) := CT.of pl_RJ0 (Nat.le_of_ble_eq_true rfl) (okJ0_checkIndex_df160 h ⟨rfl, rfl⟩)
def fJ1_charAt_3b067 (b0 : Nat) (x1 : Int32) (w : Wd) : Option (Int32 × Wd) :=
  chk (b0 < 16) (ob (fJ0_checkIndex_df160 x1 (Int32.ofNat (stB b0).length) w) (fun q2 => chk (inb x1 (stB b0).length) (chk (isC (((((stB b0).getD (x1).toNatClampNeg 0) &&& 255)).toUInt32 % 65536).toInt32) (some ((((((stB b0).getD (x1).toNatClampNeg 0) &&& 255)).toUInt32 % 65536).toInt32, q2)))))
set_option maxHeartbeats 1000000 in
set_option maxRecDepth 20000 in
theorem okJ1_charAt_3b067 {E : Ev} {Q : Option Value → Wd → Prop} {b0 : Nat} {x1 : Int32} {w : Wd} {q : Int32 × Wd} (h : fJ1_charAt_3b067 b0 x1 w = some q) (hk : (fun q : Int32 × Wd => Q (some (.int q.1)) q.2) q) : Runs E mJ1_charAt_3b067 (8, 0, false) Q 0 0 [(0, .ref (1200 + b0)), (1, .int x1)] [] w := by
  unfold fJ1_charAt_3b067 at h
  refine r_iload_n dJ1_charAt_3b067_0 1 rfl ?_
  refine r_aload_n dJ1_charAt_3b067_1 0 rfl ?_
  obtain ⟨h1, h⟩ := chk_some h
  refine r_strL b0 h1 dJ1_charAt_3b067_2 ?_
  obtain ⟨q2, g3, h⟩ := ob_some h
  refine r_callS (d' := (7, 0, false)) (As := [.int x1, .int (Int32.ofNat (stB b0).length)]) (st := []) mds_J0_checkIndex_df160 tm_RJ1_9 rfl (by decide) rfl (Nat.le_refl _) (Nat.le_of_ble_eq_true rfl) rfl dJ1_charAt_3b067_3 (ctJ0_checkIndex_df160 g3) (k_V0 ?_)
  refine r_aload_n dJ1_charAt_3b067_6 0 rfl ?_
  refine r_iload_n dJ1_charAt_3b067_7 1 rfl ?_
  obtain ⟨h4, h⟩ := chk_some h
  refine r_strB b0 h1 dJ1_charAt_3b067_8 h4 ?_
  refine r_sipush (v := 255) dJ1_charAt_3b067_9 (by decide) ?_
  refine r_iand dJ1_charAt_3b067_12 ?_
  refine r_i2c dJ1_charAt_3b067_13 ?_
  obtain ⟨h5, h⟩ := chk_some h
  rw [← Option.some.inj h] at hk
  exact r_ireturn dJ1_charAt_3b067_14 rfl (nc h5) hk
set_option maxHeartbeats 1000000 in
set_option maxRecDepth 20000 in
theorem ctJ1_charAt_3b067 {E : Ev} {b0 : Nat} {x1 : Int32} {w : Wd} {q : Int32 × Wd} (h : fJ1_charAt_3b067 b0 x1 w = some q) : CT E mJ1_charAt_3b067 (8, 0, false) [.ref (1200 + b0), .int x1] w (QI q) := CT.of pl_RJ1 (Nat.le_of_ble_eq_true rfl) (okJ1_charAt_3b067 h ⟨rfl, rfl⟩)
def fJ0_charAt_5068e (z0 : Nat) (x1 : Int32) (w : Wd) : Option (Int32 × Wd) :=
  ob (fJ0_isLatin1_aae02 z0 w) (fun q1 => chk (z0 < 16) (if q1.1 = 0 then (none) else (ob (fJ1_charAt_3b067 z0 x1 q1.2) (fun q5 => chk (isC q5.1) (some (q5.1, q5.2))))))
set_option maxHeartbeats 1000000 in
set_option maxRecDepth 20000 in
theorem okJ0_charAt_5068e {E : Ev} {Q : Option Value → Wd → Prop} {z0 : Nat} {x1 : Int32} {w : Wd} {q : Int32 × Wd} (h : fJ0_charAt_5068e z0 x1 w = some q) (hk : (fun q : Int32 × Wd => Q (some (.int q.1)) q.2) q) : Runs E mJ0_charAt_5068e (9, 0, false) Q 0 0 [(0, .ref (1100 + z0)), (1, .int x1)] [] w := by
  unfold fJ0_charAt_5068e at h
  refine r_aload_n dJ0_charAt_5068e_0 0 rfl ?_
  obtain ⟨q1, g2, h⟩ := ob_some h
  obtain ⟨h3, h⟩ := chk_some h
  refine r_callT (d' := (6, 0, false)) (As := []) (st := []) (i := z0) h3 mdv_J0_isLatin1_aae02 tm_RJ0_492 rfl rfl (by decide) rfl (Nat.le_refl _) (Nat.le_of_ble_eq_true rfl) rfl dJ0_charAt_5068e_1 (ctJ0_isLatin1_aae02 g2) (k_I0 ?_)
  refine r_if_eq (tgt := 16) dJ0_charAt_5068e_4 (by decide) (fun c4 => ?_) (fun c4 => ?_)
  · rw [if_pos c4] at h
    refine r_aload_n dJ0_charAt_5068e_16 0 rfl ?_
    refine r_strV z0 h3 tf_RJ0_9 dJ0_charAt_5068e_17 ?_
    refine r_iload_n dJ0_charAt_5068e_20 1 rfl ?_
    cases h
  · rw [if_neg c4] at h
    refine r_aload_n dJ0_charAt_5068e_7 0 rfl ?_
    refine r_strV z0 h3 tf_RJ0_9 dJ0_charAt_5068e_8 ?_
    refine r_iload_n dJ0_charAt_5068e_11 1 rfl ?_
    obtain ⟨q5, g6, h⟩ := ob_some h
    refine r_callS (d' := (8, 0, false)) (As := [.ref (1200 + z0), .int x1]) (st := []) mds_J1_charAt_3b067 tm_RJ0_495 rfl (by decide) rfl (Nat.le_refl _) (Nat.le_of_ble_eq_true rfl) rfl dJ0_charAt_5068e_12 (ctJ1_charAt_3b067 g6) (k_I0 ?_)
    obtain ⟨h7, h⟩ := chk_some h
    rw [← Option.some.inj h] at hk
    exact r_ireturn dJ0_charAt_5068e_15 rfl (nc h7) hk
set_option maxHeartbeats 1000000 in
set_option maxRecDepth 20000 in
theorem ctJ0_charAt_5068e {E : Ev} {z0 : Nat} {x1 : Int32} {w : Wd} {q : Int32 × Wd} (h : fJ0_charAt_5068e z0 x1 w = some q) : CT E mJ0_charAt_5068e (9, 0, false) [.ref (1100 + z0), .int x1] w (QI q) := CT.of pl_RJ0 (Nat.le_of_ble_eq_true rfl) (okJ0_charAt_5068e h ⟨rfl, rfl⟩)
def fJ0_coder_7d493_b14 (s0 : Int32) (w : Wd) : Option (Int32 × Wd) :=
  chk (isB s0) (some (s0, w))
set_option maxHeartbeats 1000000 in
set_option maxRecDepth 20000 in
theorem okJ0_coder_7d493_b14 {E : Ev} {Q : Option Value → Wd → Prop} {s0 : Int32} {w : Wd} {q : Int32 × Wd} (h : fJ0_coder_7d493_b14 s0 w = some q) (hk : (fun q : Int32 × Wd => Q (some (.int q.1)) q.2) q) : Runs E mJ0_coder_7d493 (6, 0, false) Q 0 14 [] [.int s0] w := by
  unfold fJ0_coder_7d493_b14 at h
  obtain ⟨h1, h⟩ := chk_some h
  rw [← Option.some.inj h] at hk
  exact r_ireturn dJ0_coder_7d493_14 rfl (nby h1) hk
def fJ0_coder_7d493 (z0 : Nat) (w : Wd) : Option (Int32 × Wd) :=
  if (1 : Int32) = 0 then (fJ0_coder_7d493_b14 1 w) else (chk (z0 < 16) (fJ0_coder_7d493_b14 0 w))
set_option maxHeartbeats 1000000 in
set_option maxRecDepth 20000 in
theorem okJ0_coder_7d493 {E : Ev} {Q : Option Value → Wd → Prop} {z0 : Nat} {w : Wd} {q : Int32 × Wd} (h : fJ0_coder_7d493 z0 w = some q) (hk : (fun q : Int32 × Wd => Q (some (.int q.1)) q.2) q) : Runs E mJ0_coder_7d493 (6, 0, false) Q 0 0 [(0, .ref (1100 + z0))] [] w := by
  unfold fJ0_coder_7d493 at h
  refine r_getsC tf_RJ0_38 dJ0_coder_7d493_0 ?_
  refine r_if_eq (tgt := 13) dJ0_coder_7d493_3 (by decide) (fun c1 => ?_) (fun c1 => ?_)
  · rw [if_pos c1] at h
    refine r_iconst (v := 1) dJ0_coder_7d493_13 (by decide) ?_
    refine r_sub [] [] rfl ?_
    exact okJ0_coder_7d493_b14 h hk
  · rw [if_neg c1] at h
    refine r_aload_n dJ0_coder_7d493_6 0 rfl ?_
    obtain ⟨h2, h⟩ := chk_some h
    refine r_strC z0 h2 tf_RJ0_15 dJ0_coder_7d493_7 ?_
    refine r_goto (tgt := 14) dJ0_coder_7d493_10 (by decide) ?_
    refine r_sub [] [] rfl ?_
    exact okJ0_coder_7d493_b14 h hk
set_option maxHeartbeats 1000000 in
set_option maxRecDepth 20000 in
theorem ctJ0_coder_7d493 {E : Ev} {z0 : Nat} {w : Wd} {q : Int32 × Wd} (h : fJ0_coder_7d493 z0 w = some q) : CT E mJ0_coder_7d493 (6, 0, false) [.ref (1100 + z0)] w (QI q) := CT.of pl_RJ0 (Nat.le_of_ble_eq_true rfl) (okJ0_coder_7d493 h ⟨rfl, rfl⟩)
def fJ0_length_8abf5 (z0 : Nat) (w : Wd) : Option (Int32 × Wd) :=
  chk (z0 < 16) (ob (fJ0_coder_7d493 z0 w) (fun q2 => some (((Int32.ofNat (stB z0).length) >>> (q2.1 &&& 31)), q2.2)))
set_option maxHeartbeats 1000000 in
set_option maxRecDepth 20000 in
theorem okJ0_length_8abf5 {E : Ev} {Q : Option Value → Wd → Prop} {z0 : Nat} {w : Wd} {q : Int32 × Wd} (h : fJ0_length_8abf5 z0 w = some q) (hk : (fun q : Int32 × Wd => Q (some (.int q.1)) q.2) q) : Runs E mJ0_length_8abf5 (7, 0, false) Q 0 0 [(0, .ref (1100 + z0))] [] w := by
  unfold fJ0_length_8abf5 at h
  refine r_aload_n dJ0_length_8abf5_0 0 rfl ?_
  obtain ⟨h1, h⟩ := chk_some h
  refine r_strV z0 h1 tf_RJ0_9 dJ0_length_8abf5_1 ?_
  refine r_strL z0 h1 dJ0_length_8abf5_4 ?_
  refine r_aload_n dJ0_length_8abf5_5 0 rfl ?_
  obtain ⟨q2, g3, h⟩ := ob_some h
  refine r_callT (d' := (6, 0, false)) (As := []) (st := [.int (Int32.ofNat (stB z0).length)]) (i := z0) h1 mdv_J0_coder_7d493 tm_RJ0_335 rfl rfl (by decide) rfl (Nat.le_refl _) (Nat.le_of_ble_eq_true rfl) rfl dJ0_length_8abf5_6 (ctJ0_coder_7d493 g3) (k_I0 ?_)
  refine r_ishr dJ0_length_8abf5_9 ?_
  rw [← Option.some.inj h] at hk
  exact r_ireturn dJ0_length_8abf5_10 rfl rfl hk
set_option maxHeartbeats 1000000 in
set_option maxRecDepth 20000 in
theorem ctJ0_length_8abf5 {E : Ev} {z0 : Nat} {w : Wd} {q : Int32 × Wd} (h : fJ0_length_8abf5 z0 w = some q) : CT E mJ0_length_8abf5 (7, 0, false) [.ref (1100 + z0)] w (QI q) := CT.of pl_RJ0 (Nat.le_of_ble_eq_true rfl) (okJ0_length_8abf5 h ⟨rfl, rfl⟩)
def fJ6_bitCount_0f7a4 (x0 : Int32) (w : Wd) : Option (Int32 × Wd) :=
  bnd (x0 - ((((x0).toUInt32 >>> ((1 : Int32).toUInt32 &&& Int32.toUInt32 31)).toInt32) &&& 1431655765)) (fun u1 => bnd ((u1 &&& 858993459) + ((((u1).toUInt32 >>> ((2 : Int32).toUInt32 &&& Int32.toUInt32 31)).toInt32) &&& 858993459)) (fun u3 => bnd ((u3 + (((u3).toUInt32 >>> ((4 : Int32).toUInt32 &&& Int32.toUInt32 31)).toInt32)) &&& 252645135) (fun u5 => bnd (u5 + (((u5).toUInt32 >>> ((8 : Int32).toUInt32 &&& Int32.toUInt32 31)).toInt32)) (fun u7 => bnd (u7 + (((u7).toUInt32 >>> ((16 : Int32).toUInt32 &&& Int32.toUInt32 31)).toInt32)) (fun u9 => some ((u9 &&& 63), w))))))
set_option maxHeartbeats 1000000 in
set_option maxRecDepth 20000 in
theorem okJ6_bitCount_0f7a4 {E : Ev} {Q : Option Value → Wd → Prop} {x0 : Int32} {w : Wd} {q : Int32 × Wd} (h : fJ6_bitCount_0f7a4 x0 w = some q) (hk : (fun q : Int32 × Wd => Q (some (.int q.1)) q.2) q) : Runs E mJ6_bitCount_0f7a4 (6, 0, false) Q 0 0 [(0, .int x0)] [] w := by
  unfold fJ6_bitCount_0f7a4 at h
  refine r_iload_n dJ6_bitCount_0f7a4_0 0 rfl ?_
  refine r_iload_n dJ6_bitCount_0f7a4_1 0 rfl ?_
  refine r_iconst (v := 1) dJ6_bitCount_0f7a4_2 (by decide) ?_
  refine r_iushr dJ6_bitCount_0f7a4_3 ?_
  refine r_ldcw tk_RJ6_265 dJ6_bitCount_0f7a4_4 ?_
  refine r_iand dJ6_bitCount_0f7a4_7 ?_
  refine r_isub dJ6_bitCount_0f7a4_8 ?_
  obtain ⟨u1, e2, h⟩ := bnd_some h
  refine r_eqI e2 ?_
  refine r_istore_n dJ6_bitCount_0f7a4_9 rfl (Nat.le_of_ble_eq_true rfl) [(0, .int u1)] rfl ?_
  refine r_iload_n dJ6_bitCount_0f7a4_10 0 rfl ?_
  refine r_ldcw tk_RJ6_266 dJ6_bitCount_0f7a4_11 ?_
  refine r_iand dJ6_bitCount_0f7a4_14 ?_
  refine r_iload_n dJ6_bitCount_0f7a4_15 0 rfl ?_
  refine r_iconst (v := 2) dJ6_bitCount_0f7a4_16 (by decide) ?_
  refine r_iushr dJ6_bitCount_0f7a4_17 ?_
  refine r_ldcw tk_RJ6_266 dJ6_bitCount_0f7a4_18 ?_
  refine r_iand dJ6_bitCount_0f7a4_21 ?_
  refine r_iadd dJ6_bitCount_0f7a4_22 ?_
  obtain ⟨u3, e4, h⟩ := bnd_some h
  refine r_eqI e4 ?_
  refine r_istore_n dJ6_bitCount_0f7a4_23 rfl (Nat.le_of_ble_eq_true rfl) [(0, .int u3)] rfl ?_
  refine r_iload_n dJ6_bitCount_0f7a4_24 0 rfl ?_
  refine r_iload_n dJ6_bitCount_0f7a4_25 0 rfl ?_
  refine r_iconst (v := 4) dJ6_bitCount_0f7a4_26 (by decide) ?_
  refine r_iushr dJ6_bitCount_0f7a4_27 ?_
  refine r_iadd dJ6_bitCount_0f7a4_28 ?_
  refine r_ldcw tk_RJ6_267 dJ6_bitCount_0f7a4_29 ?_
  refine r_iand dJ6_bitCount_0f7a4_32 ?_
  obtain ⟨u5, e6, h⟩ := bnd_some h
  refine r_eqI e6 ?_
  refine r_istore_n dJ6_bitCount_0f7a4_33 rfl (Nat.le_of_ble_eq_true rfl) [(0, .int u5)] rfl ?_
  refine r_iload_n dJ6_bitCount_0f7a4_34 0 rfl ?_
  refine r_iload_n dJ6_bitCount_0f7a4_35 0 rfl ?_
  refine r_bipush (v := 8) dJ6_bitCount_0f7a4_36 (by decide) ?_
  refine r_iushr dJ6_bitCount_0f7a4_38 ?_
  refine r_iadd dJ6_bitCount_0f7a4_39 ?_
  obtain ⟨u7, e8, h⟩ := bnd_some h
  refine r_eqI e8 ?_
  refine r_istore_n dJ6_bitCount_0f7a4_40 rfl (Nat.le_of_ble_eq_true rfl) [(0, .int u7)] rfl ?_
  refine r_iload_n dJ6_bitCount_0f7a4_41 0 rfl ?_
  refine r_iload_n dJ6_bitCount_0f7a4_42 0 rfl ?_
  refine r_bipush (v := 16) dJ6_bitCount_0f7a4_43 (by decide) ?_
  refine r_iushr dJ6_bitCount_0f7a4_45 ?_
  refine r_iadd dJ6_bitCount_0f7a4_46 ?_
  obtain ⟨u9, e10, h⟩ := bnd_some h
  refine r_eqI e10 ?_
  refine r_istore_n dJ6_bitCount_0f7a4_47 rfl (Nat.le_of_ble_eq_true rfl) [(0, .int u9)] rfl ?_
  refine r_iload_n dJ6_bitCount_0f7a4_48 0 rfl ?_
  refine r_bipush (v := 63) dJ6_bitCount_0f7a4_49 (by decide) ?_
  refine r_iand dJ6_bitCount_0f7a4_51 ?_
  rw [← Option.some.inj h] at hk
  exact r_ireturn dJ6_bitCount_0f7a4_52 rfl rfl hk
set_option maxHeartbeats 1000000 in
set_option maxRecDepth 20000 in
theorem ctJ6_bitCount_0f7a4 {E : Ev} {x0 : Int32} {w : Wd} {q : Int32 × Wd} (h : fJ6_bitCount_0f7a4 x0 w = some q) : CT E mJ6_bitCount_0f7a4 (6, 0, false) [.int x0] w (QI q) := CT.of pl_RJ6 (Nat.le_of_ble_eq_true rfl) (okJ6_bitCount_0f7a4 h ⟨rfl, rfl⟩)
def PJ7_fill_53178_L5 (E : Ev) (Q : Option Value → Wd → Prop) (a0 : Nat) (x1 : Int32) (x3 : Int32) (s : Int32 × Wd) : Prop := Runs E mJ7_fill_53178 (6, 0, false) Q 0 5 [(0, .ref a0), (1, .int x1), (2, .int s.1), (3, .int x3)] [] s.2
def fJ7_fill_53178_L5_body (a0 : Nat) (x1 : Int32) (x3 : Int32) (s : Int32 × Wd) : Option ((Int32 × Wd) ⊕ (Wd)) :=
  if x3 ≤ s.1 then (wr (some s.2)) else (chk (isA s.2 a0 0) (chk (inb s.1 (wn s.2 a0)) (bnd (sI s.2 a0 (s.1).toNatClampNeg x1) (fun w5 => some (.inl ((s.1 + 1), w5))))))
set_option maxHeartbeats 1000000 in
set_option maxRecDepth 20000 in
theorem okJ7_fill_53178_L5_body {E : Ev} {Q : Option Value → Wd → Prop} {a0 : Nat} {x1 : Int32} {x3 : Int32} {s : Int32 × Wd} {r : (Int32 × Wd) ⊕ (Wd)} (h : fJ7_fill_53178_L5_body a0 x1 x3 s = some r) (hk : (Sum.elim (PJ7_fill_53178_L5 E Q a0 x1 x3) (fun q : Wd => Q none q)) r) : PJ7_fill_53178_L5 E Q a0 x1 x3 s := by
  unfold fJ7_fill_53178_L5_body at h
  unfold PJ7_fill_53178_L5
  refine r_iload_n dJ7_fill_53178_5 2 rfl ?_
  refine r_iload_n dJ7_fill_53178_6 3 rfl ?_
  refine r_icmp_ge (tgt := 20) dJ7_fill_53178_7 (by decide) (fun c1 => ?_) (fun c1 => ?_)
  · rw [if_pos c1] at h
    obtain ⟨r2, hr, h⟩ := wr_some h
    rw [hr] at hk
    rw [← Option.some.inj h] at hk
    exact r_return dJ7_fill_53178_20 rfl hk
  · rw [if_neg c1] at h
    refine r_aload_n dJ7_fill_53178_10 0 rfl ?_
    refine r_iload_n dJ7_fill_53178_11 2 rfl ?_
    refine r_iload_n dJ7_fill_53178_12 1 rfl ?_
    obtain ⟨h3, h⟩ := chk_some h
    obtain ⟨h4, h⟩ := chk_some h
    obtain ⟨w5, e6, h⟩ := bnd_some h
    refine r_iastore dJ7_fill_53178_13 h3 h4 ?_
    refine r_eqW e6 ?_
    refine r_iinc (v := (s.1 + 1)) dJ7_fill_53178_14 2 rfl rfl (Nat.le_of_ble_eq_true rfl) [(2, .int (s.1 + 1)), (0, .ref a0), (1, .int x1), (3, .int x3)] rfl ?_
    refine r_goto (tgt := 5) dJ7_fill_53178_17 (by decide) ?_
    rw [← Option.some.inj h] at hk
    refine r_sub [1, 2, 0, 3] [(0, .ref a0), (1, .int x1), (2, .int (s.1 + 1)), (3, .int x3)] rfl ?_
    exact hk
def fJ7_fill_53178_L5 (a0 : Nat) (x1 : Int32) (x3 : Int32) (s : Int32 × Wd) : Option (Wd) := it (fJ7_fill_53178_L5_body a0 x1 x3) FU s
set_option maxHeartbeats 1000000 in
set_option maxRecDepth 20000 in
theorem okJ7_fill_53178_L5 {E : Ev} {Q : Option Value → Wd → Prop} {a0 : Nat} {x1 : Int32} {x3 : Int32} {s : Int32 × Wd} {r : Wd} (h : fJ7_fill_53178_L5 a0 x1 x3 s = some r) (hk : (fun q : Wd => Q none q) r) : PJ7_fill_53178_L5 E Q a0 x1 x3 s := it_runs (fun s r h hk => okJ7_fill_53178_L5_body h hk) FU s r h hk
def fJ7_fill_53178 (a0 : Nat) (x1 : Int32) (w : Wd) : Option (Wd) :=
  chk (isA w a0 0) (bnd (Int32.ofNat (wn w a0)) (fun u2 => fJ7_fill_53178_L5 a0 x1 u2 (0, w)))
set_option maxHeartbeats 1000000 in
set_option maxRecDepth 20000 in
theorem okJ7_fill_53178 {E : Ev} {Q : Option Value → Wd → Prop} {a0 : Nat} {x1 : Int32} {w : Wd} {q : Wd} (h : fJ7_fill_53178 a0 x1 w = some q) (hk : (fun q : Wd => Q none q) q) : Runs E mJ7_fill_53178 (6, 0, false) Q 0 0 [(0, .ref a0), (1, .int x1)] [] w := by
  unfold fJ7_fill_53178 at h
  refine r_iconst (v := 0) dJ7_fill_53178_0 (by decide) ?_
  refine r_istore_n dJ7_fill_53178_1 rfl (Nat.le_of_ble_eq_true rfl) [(2, .int 0), (0, .ref a0), (1, .int x1)] rfl ?_
  refine r_aload_n dJ7_fill_53178_2 1 rfl ?_
  obtain ⟨h1, h⟩ := chk_some h
  refine r_alenI dJ7_fill_53178_3 h1 ?_
  obtain ⟨u2, e3, h⟩ := bnd_some h
  refine r_eqI e3 ?_
  refine r_istore_n dJ7_fill_53178_4 rfl (Nat.le_of_ble_eq_true rfl) [(3, .int u2), (2, .int 0), (0, .ref a0), (1, .int x1)] rfl ?_
  refine r_sub [2, 3, 1, 0] [(0, .ref a0), (1, .int x1), (2, .int 0), (3, .int u2)] rfl ?_
  exact okJ7_fill_53178_L5 h hk
set_option maxHeartbeats 1000000 in
set_option maxRecDepth 20000 in
theorem ctJ7_fill_53178 {E : Ev} {a0 : Nat} {x1 : Int32} {w : Wd} {q : Wd} (h : fJ7_fill_53178 a0 x1 w = some q) : CT E mJ7_fill_53178 (6, 0, false) [.ref a0, .int x1] w (QV q) := CT.of pl_RJ7 (Nat.le_of_ble_eq_true rfl) (okJ7_fill_53178 h ⟨rfl, rfl⟩)
def PJ7_fill_d0a16_L6 (E : Ev) (Q : Option Value → Wd → Prop) (a0 : Nat) (y1 : Int64) (x4 : Int32) (s : Int32 × Wd) : Prop := Runs E mJ7_fill_d0a16 (6, 0, false) Q 0 6 [(0, .ref a0), (1, .long y1), (3, .int s.1), (4, .int x4)] [] s.2
def fJ7_fill_d0a16_L6_body (a0 : Nat) (y1 : Int64) (x4 : Int32) (s : Int32 × Wd) : Option ((Int32 × Wd) ⊕ (Wd)) :=
  if x4 ≤ s.1 then (wr (some s.2)) else (chk (isA s.2 a0 1) (chk (inb s.1 (wn s.2 a0)) (bnd (sL s.2 a0 (s.1).toNatClampNeg y1) (fun w5 => some (.inl ((s.1 + 1), w5))))))
set_option maxHeartbeats 1000000 in
set_option maxRecDepth 20000 in
theorem okJ7_fill_d0a16_L6_body {E : Ev} {Q : Option Value → Wd → Prop} {a0 : Nat} {y1 : Int64} {x4 : Int32} {s : Int32 × Wd} {r : (Int32 × Wd) ⊕ (Wd)} (h : fJ7_fill_d0a16_L6_body a0 y1 x4 s = some r) (hk : (Sum.elim (PJ7_fill_d0a16_L6 E Q a0 y1 x4) (fun q : Wd => Q none q)) r) : PJ7_fill_d0a16_L6 E Q a0 y1 x4 s := by
  unfold fJ7_fill_d0a16_L6_body at h
  unfold PJ7_fill_d0a16_L6
  refine r_iload_n dJ7_fill_d0a16_6 2 rfl ?_
  refine r_iload dJ7_fill_d0a16_7 3 rfl ?_
  refine r_icmp_ge (tgt := 22) dJ7_fill_d0a16_9 (by decide) (fun c1 => ?_) (fun c1 => ?_)
  · rw [if_pos c1] at h
    obtain ⟨r2, hr, h⟩ := wr_some h
    rw [hr] at hk
    rw [← Option.some.inj h] at hk
    exact r_return dJ7_fill_d0a16_22 rfl hk
  · rw [if_neg c1] at h
    refine r_aload_n dJ7_fill_d0a16_12 0 rfl ?_
    refine r_iload_n dJ7_fill_d0a16_13 2 rfl ?_
    refine r_lload_n dJ7_fill_d0a16_14 1 rfl ?_
    obtain ⟨h3, h⟩ := chk_some h
    obtain ⟨h4, h⟩ := chk_some h
    obtain ⟨w5, e6, h⟩ := bnd_some h
    refine r_lastore dJ7_fill_d0a16_15 h3 h4 ?_
    refine r_eqW e6 ?_
    refine r_iinc (v := (s.1 + 1)) dJ7_fill_d0a16_16 2 rfl rfl (Nat.le_of_ble_eq_true rfl) [(3, .int (s.1 + 1)), (0, .ref a0), (1, .long y1), (4, .int x4)] rfl ?_
    refine r_goto (tgt := 6) dJ7_fill_d0a16_19 (by decide) ?_
    rw [← Option.some.inj h] at hk
    refine r_sub [1, 2, 0, 3] [(0, .ref a0), (1, .long y1), (3, .int (s.1 + 1)), (4, .int x4)] rfl ?_
    exact hk
def fJ7_fill_d0a16_L6 (a0 : Nat) (y1 : Int64) (x4 : Int32) (s : Int32 × Wd) : Option (Wd) := it (fJ7_fill_d0a16_L6_body a0 y1 x4) FU s
set_option maxHeartbeats 1000000 in
set_option maxRecDepth 20000 in
theorem okJ7_fill_d0a16_L6 {E : Ev} {Q : Option Value → Wd → Prop} {a0 : Nat} {y1 : Int64} {x4 : Int32} {s : Int32 × Wd} {r : Wd} (h : fJ7_fill_d0a16_L6 a0 y1 x4 s = some r) (hk : (fun q : Wd => Q none q) r) : PJ7_fill_d0a16_L6 E Q a0 y1 x4 s := it_runs (fun s r h hk => okJ7_fill_d0a16_L6_body h hk) FU s r h hk
def fJ7_fill_d0a16 (a0 : Nat) (y1 : Int64) (w : Wd) : Option (Wd) :=
  chk (isA w a0 1) (bnd (Int32.ofNat (wn w a0)) (fun u2 => fJ7_fill_d0a16_L6 a0 y1 u2 (0, w)))
set_option maxHeartbeats 1000000 in
set_option maxRecDepth 20000 in
theorem okJ7_fill_d0a16 {E : Ev} {Q : Option Value → Wd → Prop} {a0 : Nat} {y1 : Int64} {w : Wd} {q : Wd} (h : fJ7_fill_d0a16 a0 y1 w = some q) (hk : (fun q : Wd => Q none q) q) : Runs E mJ7_fill_d0a16 (6, 0, false) Q 0 0 [(0, .ref a0), (1, .long y1)] [] w := by
  unfold fJ7_fill_d0a16 at h
  refine r_iconst (v := 0) dJ7_fill_d0a16_0 (by decide) ?_
  refine r_istore_n dJ7_fill_d0a16_1 rfl (Nat.le_of_ble_eq_true rfl) [(3, .int 0), (0, .ref a0), (1, .long y1)] rfl ?_
  refine r_aload_n dJ7_fill_d0a16_2 1 rfl ?_
  obtain ⟨h1, h⟩ := chk_some h
  refine r_alenL dJ7_fill_d0a16_3 h1 ?_
  obtain ⟨u2, e3, h⟩ := bnd_some h
  refine r_eqI e3 ?_
  refine r_istore dJ7_fill_d0a16_4 (Nat.le_of_ble_eq_true rfl) [(4, .int u2), (3, .int 0), (0, .ref a0), (1, .long y1)] rfl ?_
  refine r_sub [2, 3, 1, 0] [(0, .ref a0), (1, .long y1), (3, .int 0), (4, .int u2)] rfl ?_
  exact okJ7_fill_d0a16_L6 h hk
set_option maxHeartbeats 1000000 in
set_option maxRecDepth 20000 in
theorem ctJ7_fill_d0a16 {E : Ev} {a0 : Nat} {y1 : Int64} {w : Wd} {q : Wd} (h : fJ7_fill_d0a16 a0 y1 w = some q) : CT E mJ7_fill_d0a16 (6, 0, false) [.ref a0, .long y1] w (QV q) := CT.of pl_RJ7 (Nat.le_of_ble_eq_true rfl) (okJ7_fill_d0a16 h ⟨rfl, rfl⟩)
