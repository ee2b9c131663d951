/-! the loop of the law -/
theorem and63 (a : Int32) : ∃ k, k < 64 ∧ a &&& 63 = nI k := by
  refine ⟨(a &&& 63).toBitVec.toNat, ?_, ?_⟩
  · rw [Int32.toBitVec_and, BitVec.toNat_and]
    exact Nat.lt_of_le_of_lt Nat.and_le_right (by decide)
  · apply Int32.toBitVec.inj
    show _ = (Int32.ofNat _).toBitVec
    rw [Int32.toBitVec_ofNat', BitVec.ofNat_toNat, BitVec.setWidth_eq]
theorem sub6 {i L : Nat} (hL : L ≤ 3072) (hi : i ≤ 4000) : (nI L - 6 < nI i) = ¬ (i + 6 ≤ L) := by
  apply propext
  rw [Int32.lt_iff_toInt_lt, Int32.toInt_sub, nI_toInt (by omega), nI_toInt (by omega), show (6 : Int32).toInt = 6 from by decide, Int.bmod_eq_of_le (by omega) (by omega)]
  omega
theorem law_loop {p : Program} {e : Env} {s : State} {m : MethodId} {below : List Frame} {meth : Method} {c : Code} {b L : Nat} {xs : Nat → Int32} {l : Launch} {G : va_G} {cl : Nat → ClassId} {bx bm : Nat} {sa : Nat → Nat} (C : LC p s m meth c b L xs l G cl bx bm sa) : ∀ (n i : Nat), i ≤ L + 6 → L + 12 ≤ n + i → ∀ (H : Heap) (x w : Wd), LI s l G cl bx bm sa H x w → Rel x w → ∀ ls : Array Slot, lv_has ls 4 [(3, .int (nI i)), (2, .ref bm), (1, .ref bx), (0, .ref b)] → W p l e room_1 s m #[Value.ref b] below meth c H [] 170 (170 * 1280) (lw_Z below #[Value.ref b] s) (F0 m 18 ls [])
  | 0, i, h1, h2, _, _, _, _, _, _, _ => absurd h2 (by omega)
  | n + 1, i, h1, h2, H, x, w, hI, hR, ls, hl => by
    obtain ⟨hx, hb, hr, hml, hown, hts, hX, hbl, hlocks, hgv⟩ := id C.1
    have hbA : ¬ oldS s b := Nat.not_le.mpr hbl
    have hS := hI.1.1.2.2.1
    have hL := C.2.2.2.2
    refine lv_iload_n hx hb dL_law_18 rfl (lv_at hl 0 rfl) ?_
    refine lv_aload_n hx hb dL_law_19 rfl (lv_at hl 3 rfl) ?_
    refine va_slen hx hb hX hbl hbA hS dL_law_20 ?_
    refine lv_bipush (v := 6) hx hb dL_law_21 (by decide) ?_
    refine lv_isub hx hb dL_law_23 ?_
    refine lv_icmp_gt (tgt := 1623) hx hb dL_law_24 (by decide) (fun q => ?_) (fun q => ?_)
    · refine lv_iconst (v := 1) hx hb dL_law_1623 (by decide) ?_
      refine W.widen (k := 600000) (n := 7302250) (by omega) (by omega) ?_
      exact lw_ret hx hb hr hlocks dL_law_1624
    · have hi : i + 6 ≤ L := by
        have q : ¬ (nI L - 6 < nI i) := q
        rw [sub6 hL (by omega)] at q
        exact Decidable.not_not.mp q
      have next : ∀ (H1 : Heap) (x1 w1 : Wd), LI s l G cl bx bm sa H1 x1 w1 → Rel x1 w1 → W p l e room_1 s m #[Value.ref b] below meth c H1 [] 170 (170 * 1280) (lw_Z below #[Value.ref b] s) (F0 m 1617 ls []) := fun H1 x1 w1 hI1 hR1 => by
        refine lv_iinc (v := nI (i + 6)) (lv' := [(3, .int (nI (i + 6))), (2, .ref bm), (1, .ref bx), (0, .ref b)]) hx hb dL_law_1617 hl (k := 0) rfl (nI_add i 6) (by decide) rfl (fun ls' hl' => ?_)
        refine lv_goto (tgt := 18) hx hb dL_law_1620 (by decide) ?_
        exact law_loop C n (i + 6) (by omega) (by omega) H1 x1 w1 hI1 hR1 ls' hl'
      refine lv_aload_n hx hb dL_law_27 rfl (lv_at hl 3 rfl) ?_
      refine lv_iload_n hx hb dL_law_28 rfl (lv_at hl 0 rfl) ?_
      refine va_sld hx hb hX hbl hbA hS (inb_nI (show i < L by omega) (by omega)) dL_law_29 ?_
      refine lv_bipush (v := 63) hx hb dL_law_30 (by decide) ?_
      refine lv_iand hx hb dL_law_32 ?_
      obtain ⟨k, hk, ek⟩ := and63 (xs (nI i).toNatClampNeg)
      rw [ek]
      match k, hk with
      | 0, _ => exact lv_tableIn (off := 191) (tgt := 224) hx hb dL_law_33 (by decide) (by decide) rfl (by decide) (lc_0 C hi hI hR hl next)
      | 1, _ => exact lv_tableIn (off := 234) (tgt := 267) hx hb dL_law_33 (by decide) (by decide) rfl (by decide) (lc_1 C hi hI hR hl next)
      | 2, _ => exact lv_tableIn (off := 307) (tgt := 340) hx hb dL_law_33 (by decide) (by decide) rfl (by decide) (lc_2 C hi hI hR hl next)
      | 3, _ => exact lv_tableIn (off := 370) (tgt := 403) hx hb dL_law_33 (by decide) (by decide) rfl (by decide) (lc_3 C hi hI hR hl next)
      | 4, _ => exact lv_tableIn (off := 404) (tgt := 437) hx hb dL_law_33 (by decide) (by decide) rfl (by decide) (lc_4 C hi hI hR hl next)
      | 5, _ => exact lv_tableIn (off := 437) (tgt := 470) hx hb dL_law_33 (by decide) (by decide) rfl (by decide) (lc_5 C hi hI hR hl next)
      | 6, _ => exact lv_tableIn (off := 460) (tgt := 493) hx hb dL_law_33 (by decide) (by decide) rfl (by decide) (lc_6 C hi hI hR hl next)
      | 7, _ => exact lv_tableIn (off := 493) (tgt := 526) hx hb dL_law_33 (by decide) (by decide) rfl (by decide) (lc_7 C hi hI hR hl next)
      | 8, _ => exact lv_tableIn (off := 516) (tgt := 549) hx hb dL_law_33 (by decide) (by decide) rfl (by decide) (lc_8 C hi hI hR hl next)
      | 9, _ => exact lv_tableIn (off := 549) (tgt := 582) hx hb dL_law_33 (by decide) (by decide) rfl (by decide) (lc_9 C hi hI hR hl next)
      | 10, _ => exact lv_tableIn (off := 592) (tgt := 625) hx hb dL_law_33 (by decide) (by decide) rfl (by decide) (lc_10 C hi hI hR hl next)
      | 11, _ => exact lv_tableIn (off := 645) (tgt := 678) hx hb dL_law_33 (by decide) (by decide) rfl (by decide) (lc_11 C hi hI hR hl next)
      | 12, _ => exact lv_tableIn (off := 678) (tgt := 711) hx hb dL_law_33 (by decide) (by decide) rfl (by decide) (lc_12 C hi hI hR hl next)
      | 13, _ => exact lv_tableIn (off := 711) (tgt := 744) hx hb dL_law_33 (by decide) (by decide) rfl (by decide) (lc_13 C hi hI hR hl next)
      | 14, _ => exact lv_tableIn (off := 744) (tgt := 777) hx hb dL_law_33 (by decide) (by decide) rfl (by decide) (lc_14 C hi hI hR hl next)
      | 15, _ => exact lv_tableIn (off := 777) (tgt := 810) hx hb dL_law_33 (by decide) (by decide) rfl (by decide) (lc_15 C hi hI hR hl next)
      | 16, _ => exact lv_tableIn (off := 800) (tgt := 833) hx hb dL_law_33 (by decide) (by decide) rfl (by decide) (lc_16 C hi hI hR hl next)
      | 17, _ => exact lv_tableIn (off := 813) (tgt := 846) hx hb dL_law_33 (by decide) (by decide) rfl (by decide) (lc_17 C hi hI hR hl next)
      | 18, _ => exact lv_tableIn (off := 856) (tgt := 889) hx hb dL_law_33 (by decide) (by decide) rfl (by decide) (lc_18 C hi hI hR hl next)
      | 19, _ => exact lv_tableIn (off := 899) (tgt := 932) hx hb dL_law_33 (by decide) (by decide) rfl (by decide) (lc_19 C hi hI hR hl next)
      | 20, _ => exact lv_tableIn (off := 952) (tgt := 985) hx hb dL_law_33 (by decide) (by decide) rfl (by decide) (lc_20 C hi hI hR hl next)
      | 21, _ => exact lv_tableIn (off := 965) (tgt := 998) hx hb dL_law_33 (by decide) (by decide) rfl (by decide) (lc_21 C hi hI hR hl next)
      | 22, _ => exact lv_tableIn (off := 988) (tgt := 1021) hx hb dL_law_33 (by decide) (by decide) rfl (by decide) (lc_22 C hi hI hR hl next)
      | 23, _ => exact lv_tableIn (off := 1021) (tgt := 1054) hx hb dL_law_33 (by decide) (by decide) rfl (by decide) (lc_23 C hi hI hR hl next)
      | 24, _ => exact lv_tableIn (off := 1044) (tgt := 1077) hx hb dL_law_33 (by decide) (by decide) rfl (by decide) (lc_24 C hi hI hR hl next)
      | 25, _ => exact lv_tableIn (off := 1067) (tgt := 1100) hx hb dL_law_33 (by decide) (by decide) rfl (by decide) (lc_25 C hi hI hR hl next)
      | 26, _ => exact lv_tableIn (off := 1080) (tgt := 1113) hx hb dL_law_33 (by decide) (by decide) rfl (by decide) (lc_26 C hi hI hR hl next)
      | 27, _ => exact lv_tableIn (off := 1123) (tgt := 1156) hx hb dL_law_33 (by decide) (by decide) rfl (by decide) (lc_27 C hi hI hR hl next)
      | 28, _ => exact lv_tableIn (off := 1156) (tgt := 1189) hx hb dL_law_33 (by decide) (by decide) rfl (by decide) (lc_28 C hi hI hR hl next)
      | 29, _ => exact lv_tableIn (off := 1189) (tgt := 1222) hx hb dL_law_33 (by decide) (by decide) rfl (by decide) (lc_29 C hi hI hR hl next)
      | 30, _ => exact lv_tableIn (off := 1232) (tgt := 1265) hx hb dL_law_33 (by decide) (by decide) rfl (by decide) (lc_30 C hi hI hR hl next)
      | 31, _ => exact lv_tableIn (off := 1255) (tgt := 1288) hx hb dL_law_33 (by decide) (by decide) rfl (by decide) (lc_31 C hi hI hR hl next)
      | 32, _ => exact lv_tableIn (off := 1278) (tgt := 1311) hx hb dL_law_33 (by decide) (by decide) rfl (by decide) (lc_32 C hi hI hR hl next)
      | 33, _ => exact lv_tableIn (off := 1311) (tgt := 1344) hx hb dL_law_33 (by decide) (by decide) rfl (by decide) (lc_33 C hi hI hR hl next)
      | 34, _ => exact lv_tableIn (off := 1344) (tgt := 1377) hx hb dL_law_33 (by decide) (by decide) rfl (by decide) (lc_34 C hi hI hR hl next)
      | 35, _ => exact lv_tableIn (off := 1377) (tgt := 1410) hx hb dL_law_33 (by decide) (by decide) rfl (by decide) (lc_35 C hi hI hR hl next)
      | 36, _ => exact lv_tableIn (off := 1400) (tgt := 1433) hx hb dL_law_33 (by decide) (by decide) rfl (by decide) (lc_36 C hi hI hR hl next)
      | 37, _ => exact lv_tableIn (off := 1423) (tgt := 1456) hx hb dL_law_33 (by decide) (by decide) rfl (by decide) (lc_37 C hi hI hR hl next)
      | 38, _ => exact lv_tableIn (off := 1446) (tgt := 1479) hx hb dL_law_33 (by decide) (by decide) rfl (by decide) (lc_38 C hi hI hR hl next)
      | 39, _ => exact lv_tableIn (off := 1469) (tgt := 1502) hx hb dL_law_33 (by decide) (by decide) rfl (by decide) (lc_39 C hi hI hR hl next)
      | 40, _ => exact lv_tableIn (off := 1512) (tgt := 1545) hx hb dL_law_33 (by decide) (by decide) rfl (by decide) (lc_40 C hi hI hR hl next)
      | 41, _ => exact lv_tableIn (off := 1535) (tgt := 1568) hx hb dL_law_33 (by decide) (by decide) rfl (by decide) (lc_41 C hi hI hR hl next)
      | 42, _ => exact lv_tableIn (off := 1548) (tgt := 1581) hx hb dL_law_33 (by decide) (by decide) rfl (by decide) (lc_42 C hi hI hR hl next)
      | 43, _ => exact lv_tableIn (off := 1561) (tgt := 1594) hx hb dL_law_33 (by decide) (by decide) rfl (by decide) (lc_43 C hi hI hR hl next)
      | k + 44, hk => exact lv_tableOut (tgt := 1617) hx hb dL_law_33 (Or.inr (by rw [nI_toInt (by omega)]; omega)) (by decide) (next H x w hI hR)
