/-! the law: its loop, its start -/
theorem dl_0 : decode code 0 = .ok (.new 7, 3) := by decide +kernel
theorem dl_3 : decode code 3 = .ok (.dup, 1) := by decide +kernel
theorem dl_4 : decode code 4 = .ok (.invokespecial 9, 3) := by decide +kernel
theorem dl_7 : decode code 7 = .ok (.astore_n 1, 1) := by decide +kernel
theorem dl_8 : decode code 8 = .ok (.new 10, 3) := by decide +kernel
theorem dl_11 : decode code 11 = .ok (.dup, 1) := by decide +kernel
theorem dl_12 : decode code 12 = .ok (.invokespecial 12, 3) := by decide +kernel
theorem dl_15 : decode code 15 = .ok (.astore_n 2, 1) := by decide +kernel
theorem dl_16 : decode code 16 = .ok (.iconst 0, 1) := by decide +kernel
theorem dl_17 : decode code 17 = .ok (.istore_n 3, 1) := by decide +kernel
theorem dl_18 : decode code 18 = .ok (.iload_n 3, 1) := by decide +kernel
theorem dl_19 : decode code 19 = .ok (.aload_n 0, 1) := by decide +kernel
theorem dl_20 : decode code 20 = .ok (.arraylength, 1) := by decide +kernel
theorem dl_21 : decode code 21 = .ok (.iconst 5, 1) := by decide +kernel
theorem dl_22 : decode code 22 = .ok (.isub, 1) := by decide +kernel
theorem dl_23 : decode code 23 = .ok (.if_icmp .gt 1485, 3) := by decide +kernel
theorem dl_26 : decode code 26 = .ok (.aload_n 0, 1) := by decide +kernel
theorem dl_27 : decode code 27 = .ok (.iload_n 3, 1) := by decide +kernel
theorem dl_28 : decode code 28 = .ok (.iaload, 1) := by decide +kernel
theorem dl_29 : decode code 29 = .ok (.bipush 63, 2) := by decide +kernel
theorem dl_31 : decode code 31 = .ok (.iand, 1) := by decide +kernel
theorem dl_32 : decode code 32 = .ok (.tableswitch 1470 0 35 #[160, 203, 236, 269, 322, 375, 418, 471, 514, 557, 610, 633, 656, 689, 722, 755, 798, 831, 864, 907, 950, 993, 1026, 1059, 1102, 1156, 1189, 1222, 1245, 1268, 1311, 1344, 1387, 1421, 1434, 1447], 160) := by decide +kernel
theorem dl_1502 : decode code 1502 = .ok (.iinc 3 5, 3) := by decide +kernel
theorem dl_1505 : decode code 1505 = .ok (.goto (-1487), 3) := by decide +kernel
theorem dl_1508 : decode code 1508 = .ok (.iconst 1, 1) := by decide +kernel
theorem dl_1509 : decode code 1509 = .ok (.ireturn, 1) := by decide +kernel
set_option maxRecDepth 100000 in
set_option maxHeartbeats 8000000 in
theorem law_loop {p : Program} (l : Launch) {e : Env} {s : State} {m : MethodId} {below : List Frame} {meth : Method} {c : Code} {Q : State → Prop} {G : GG} {B b L : Nat} {xs : Nat → Int32} (C : CX p s m #[Value.ref b] meth c code 4 R_law TL ret) (hX : va_X b L xs s s.heap) (hbl : b < s.heap.size) (hL : L ≤ 2560) (fin : ∀ (H : Heap) (locs : List Loc) (ls : Array Slot) (wx : WX) (wm : Mem), Gd s G (fun q => s.heap.size ≤ q) 153 B (entX G B wx) (pool 28 (B + 153) (entM G (B + 153) wm)) H locs → W p l e room_1 s m #[Value.ref b] below meth c H locs 181 4461 Q (F0 m 1508 ls [])) : ∀ (n i : Nat), L < i + n → i ≤ 2565 → ∀ (H : Heap) (locs : List Loc) (ls : Array Slot) (wx : WX) (wm : Mem), Rel wx wm → Gd s G (fun q => s.heap.size ≤ q) 153 B (entX G B wx) (pool 28 (B + 153) (entM G (B + 153) wm)) H locs → lv_has ls 4 [(0, .ref b), (1, .ref (B + 0)), (2, .ref (B + 153 + 0)), (3, .int (nI i))] → W p l e room_1 s m #[Value.ref b] below meth c H locs 181 4461 Q (F0 m 18 ls []) := by
  intro n
  induction n with
  | zero =>
    intro i hn hi H locs ls wx wm hR hG hl
    have hbA : ¬ (fun q : Nat => s.heap.size ≤ q) b := Nat.not_le.mpr hbl
    refine lv_iload_n C.1 C.2.1 dl_18 rfl (lv_at hl 3 rfl) ?_
    refine lv_aload_n C.1 C.2.1 dl_19 rfl (lv_at hl 0 rfl) ?_
    refine va_slen C.1 C.2.1 hX hbl hbA hG.2.2 dl_20 ?_
    refine lv_iconst (v := nI 5) C.1 C.2.1 dl_21 (by decide) ?_
    refine lv_isub C.1 C.2.1 dl_22 ?_
    have hlt : (Int32.ofNat L - nI 5 < nI i) ↔ L < i + 5 := by
      have e1 : (Int32.ofNat L - nI 5).toInt = (L : Int) - 5 := pk_sub_toInt (a := L) (b := 5) (by omega) (by omega)
      rw [Int32.lt_iff_toInt_lt, e1, nI_toInt (by omega)]
      omega
    refine lv_icmp_gt (tgt := 1508) C.1 C.2.1 dl_23 (by decide) (fun _ => fin H locs ls wx wm hG) (fun q => absurd (hlt.mpr (by omega)) q)
  | succ n ih =>
    intro i hn hi H locs ls wx wm hR hG hl
    have hbA : ¬ (fun q : Nat => s.heap.size ≤ q) b := Nat.not_le.mpr hbl
    refine lv_iload_n C.1 C.2.1 dl_18 rfl (lv_at hl 3 rfl) ?_
    refine lv_aload_n C.1 C.2.1 dl_19 rfl (lv_at hl 0 rfl) ?_
    refine va_slen C.1 C.2.1 hX hbl hbA hG.2.2 dl_20 ?_
    refine lv_iconst (v := nI 5) C.1 C.2.1 dl_21 (by decide) ?_
    refine lv_isub C.1 C.2.1 dl_22 ?_
    have hlt : (Int32.ofNat L - nI 5 < nI i) ↔ L < i + 5 := by
      have e1 : (Int32.ofNat L - nI 5).toInt = (L : Int) - 5 := pk_sub_toInt (a := L) (b := 5) (by omega) (by omega)
      rw [Int32.lt_iff_toInt_lt, e1, nI_toInt (by omega)]
      omega
    refine lv_icmp_gt (tgt := 1508) C.1 C.2.1 dl_23 (by decide) (fun _ => fin H locs ls wx wm hG) (fun q => ?_)
    have hi5 : i + 5 ≤ L := by
      rw [hlt] at q
      omega
    refine lv_aload_n C.1 C.2.1 dl_26 rfl (lv_at hl 0 rfl) ?_
    refine lv_iload_n C.1 C.2.1 dl_27 rfl (lv_at hl 3 rfl) ?_
    refine va_sld C.1 C.2.1 hX hbl hbA hG.2.2 (inb_in (by rw [inb_nI (by omega)]; omega)) dl_28 ?_
    refine lv_bipush (v := nI 63) C.1 C.2.1 dl_29 (by decide) ?_
    refine lv_iand C.1 C.2.1 dl_31 ?_
    obtain ⟨x, hx⟩ : ∃ x, x = xs (nI i).toNatClampNeg &&& nI 63 := ⟨_, rfl⟩
    rw [← hx]
    have kk : ∀ (H : Heap) (locs : List Loc) (wx : WX) (wm : Mem), Rel wx wm → Gd s G (fun q => s.heap.size ≤ q) 153 B (entX G B wx) (pool 28 (B + 153) (entM G (B + 153) wm)) H locs → W p l e room_1 s m #[Value.ref b] below meth c H locs 181 4461 Q (F0 m 1502 ls []) := by
      intro H locs wx wm hR hG
      refine lv_iinc (v := nI (i + 5)) (lv' := [(3, .int (nI (i + 5))), (0, .ref b), (1, .ref (B + 0)), (2, .ref (B + 153 + 0))]) C.1 C.2.1 dl_1502 hl (k := 3) rfl (by rw [show Int32.ofInt 5 = nI 5 from by decide, nI_add]) (by decide) rfl (fun ls hl => ?_)
      refine lv_goto (tgt := 18) C.1 C.2.1 dl_1505 (by decide) ?_
      exact ih (i + 5) (by omega) (by omega) H locs ls wx wm hR hG (lv_sub hl [1, 2, 3, 0] rfl)
    by_cases c0 : x = nI 0
    · refine lv_tableIn (tgt := 192) (off := 160) C.1 C.2.1 dl_32 (by rw [c0]; decide) (by rw [c0]; decide) (by rw [c0]; rfl) (by decide) ?_
      exact lc_0 l C hX hbl hL hi5 hR hG hl kk
    by_cases c1 : x = nI 1
    · refine lv_tableIn (tgt := 235) (off := 203) C.1 C.2.1 dl_32 (by rw [c1]; decide) (by rw [c1]; decide) (by rw [c1]; rfl) (by decide) ?_
      exact lc_1 l C hX hbl hL hi5 hR hG hl kk
    by_cases c2 : x = nI 2
    · refine lv_tableIn (tgt := 268) (off := 236) C.1 C.2.1 dl_32 (by rw [c2]; decide) (by rw [c2]; decide) (by rw [c2]; rfl) (by decide) ?_
      exact lc_2 l C hX hbl hL hi5 hR hG hl kk
    by_cases c3 : x = nI 3
    · refine lv_tableIn (tgt := 301) (off := 269) C.1 C.2.1 dl_32 (by rw [c3]; decide) (by rw [c3]; decide) (by rw [c3]; rfl) (by decide) ?_
      exact lc_3 l C hX hbl hL hi5 hR hG hl kk
    by_cases c4 : x = nI 4
    · refine lv_tableIn (tgt := 354) (off := 322) C.1 C.2.1 dl_32 (by rw [c4]; decide) (by rw [c4]; decide) (by rw [c4]; rfl) (by decide) ?_
      exact lc_4 l C hX hbl hL hi5 hR hG hl kk
    by_cases c5 : x = nI 5
    · refine lv_tableIn (tgt := 407) (off := 375) C.1 C.2.1 dl_32 (by rw [c5]; decide) (by rw [c5]; decide) (by rw [c5]; rfl) (by decide) ?_
      exact lc_5 l C hX hbl hL hi5 hR hG hl kk
    by_cases c6 : x = nI 6
    · refine lv_tableIn (tgt := 450) (off := 418) C.1 C.2.1 dl_32 (by rw [c6]; decide) (by rw [c6]; decide) (by rw [c6]; rfl) (by decide) ?_
      exact lc_6 l C hX hbl hL hi5 hR hG hl kk
    by_cases c7 : x = nI 7
    · refine lv_tableIn (tgt := 503) (off := 471) C.1 C.2.1 dl_32 (by rw [c7]; decide) (by rw [c7]; decide) (by rw [c7]; rfl) (by decide) ?_
      exact lc_7 l C hX hbl hL hi5 hR hG hl kk
    by_cases c8 : x = nI 8
    · refine lv_tableIn (tgt := 546) (off := 514) C.1 C.2.1 dl_32 (by rw [c8]; decide) (by rw [c8]; decide) (by rw [c8]; rfl) (by decide) ?_
      exact lc_8 l C hX hbl hL hi5 hR hG hl kk
    by_cases c9 : x = nI 9
    · refine lv_tableIn (tgt := 589) (off := 557) C.1 C.2.1 dl_32 (by rw [c9]; decide) (by rw [c9]; decide) (by rw [c9]; rfl) (by decide) ?_
      exact lc_9 l C hX hbl hL hi5 hR hG hl kk
    by_cases c10 : x = nI 10
    · refine lv_tableIn (tgt := 642) (off := 610) C.1 C.2.1 dl_32 (by rw [c10]; decide) (by rw [c10]; decide) (by rw [c10]; rfl) (by decide) ?_
      exact lc_10 l C hX hbl hL hi5 hR hG hl kk
    by_cases c11 : x = nI 11
    · refine lv_tableIn (tgt := 665) (off := 633) C.1 C.2.1 dl_32 (by rw [c11]; decide) (by rw [c11]; decide) (by rw [c11]; rfl) (by decide) ?_
      exact lc_11 l C hX hbl hL hi5 hR hG hl kk
    by_cases c12 : x = nI 12
    · refine lv_tableIn (tgt := 688) (off := 656) C.1 C.2.1 dl_32 (by rw [c12]; decide) (by rw [c12]; decide) (by rw [c12]; rfl) (by decide) ?_
      exact lc_12 l C hX hbl hL hi5 hR hG hl kk
    by_cases c13 : x = nI 13
    · refine lv_tableIn (tgt := 721) (off := 689) C.1 C.2.1 dl_32 (by rw [c13]; decide) (by rw [c13]; decide) (by rw [c13]; rfl) (by decide) ?_
      exact lc_13 l C hX hbl hL hi5 hR hG hl kk
    by_cases c14 : x = nI 14
    · refine lv_tableIn (tgt := 754) (off := 722) C.1 C.2.1 dl_32 (by rw [c14]; decide) (by rw [c14]; decide) (by rw [c14]; rfl) (by decide) ?_
      exact lc_14 l C hX hbl hL hi5 hR hG hl kk
    by_cases c15 : x = nI 15
    · refine lv_tableIn (tgt := 787) (off := 755) C.1 C.2.1 dl_32 (by rw [c15]; decide) (by rw [c15]; decide) (by rw [c15]; rfl) (by decide) ?_
      exact lc_15 l C hX hbl hL hi5 hR hG hl kk
    by_cases c16 : x = nI 16
    · refine lv_tableIn (tgt := 830) (off := 798) C.1 C.2.1 dl_32 (by rw [c16]; decide) (by rw [c16]; decide) (by rw [c16]; rfl) (by decide) ?_
      exact lc_16 l C hX hbl hL hi5 hR hG hl kk
    by_cases c17 : x = nI 17
    · refine lv_tableIn (tgt := 863) (off := 831) C.1 C.2.1 dl_32 (by rw [c17]; decide) (by rw [c17]; decide) (by rw [c17]; rfl) (by decide) ?_
      exact lc_17 l C hX hbl hL hi5 hR hG hl kk
    by_cases c18 : x = nI 18
    · refine lv_tableIn (tgt := 896) (off := 864) C.1 C.2.1 dl_32 (by rw [c18]; decide) (by rw [c18]; decide) (by rw [c18]; rfl) (by decide) ?_
      exact lc_18 l C hX hbl hL hi5 hR hG hl kk
    by_cases c19 : x = nI 19
    · refine lv_tableIn (tgt := 939) (off := 907) C.1 C.2.1 dl_32 (by rw [c19]; decide) (by rw [c19]; decide) (by rw [c19]; rfl) (by decide) ?_
      exact lc_19 l C hX hbl hL hi5 hR hG hl kk
    by_cases c20 : x = nI 20
    · refine lv_tableIn (tgt := 982) (off := 950) C.1 C.2.1 dl_32 (by rw [c20]; decide) (by rw [c20]; decide) (by rw [c20]; rfl) (by decide) ?_
      exact lc_20 l C hX hbl hL hi5 hR hG hl kk
    by_cases c21 : x = nI 21
    · refine lv_tableIn (tgt := 1025) (off := 993) C.1 C.2.1 dl_32 (by rw [c21]; decide) (by rw [c21]; decide) (by rw [c21]; rfl) (by decide) ?_
      exact lc_21 l C hX hbl hL hi5 hR hG hl kk
    by_cases c22 : x = nI 22
    · refine lv_tableIn (tgt := 1058) (off := 1026) C.1 C.2.1 dl_32 (by rw [c22]; decide) (by rw [c22]; decide) (by rw [c22]; rfl) (by decide) ?_
      exact lc_22 l C hX hbl hL hi5 hR hG hl kk
    by_cases c23 : x = nI 23
    · refine lv_tableIn (tgt := 1091) (off := 1059) C.1 C.2.1 dl_32 (by rw [c23]; decide) (by rw [c23]; decide) (by rw [c23]; rfl) (by decide) ?_
      exact lc_23 l C hX hbl hL hi5 hR hG hl kk
    by_cases c24 : x = nI 24
    · refine lv_tableIn (tgt := 1134) (off := 1102) C.1 C.2.1 dl_32 (by rw [c24]; decide) (by rw [c24]; decide) (by rw [c24]; rfl) (by decide) ?_
      exact lc_24 l C hX hbl hL hi5 hR hG hl kk
    by_cases c25 : x = nI 25
    · refine lv_tableIn (tgt := 1188) (off := 1156) C.1 C.2.1 dl_32 (by rw [c25]; decide) (by rw [c25]; decide) (by rw [c25]; rfl) (by decide) ?_
      exact lc_25 l C hX hbl hL hi5 hR hG hl kk
    by_cases c26 : x = nI 26
    · refine lv_tableIn (tgt := 1221) (off := 1189) C.1 C.2.1 dl_32 (by rw [c26]; decide) (by rw [c26]; decide) (by rw [c26]; rfl) (by decide) ?_
      exact lc_26 l C hX hbl hL hi5 hR hG hl kk
    by_cases c27 : x = nI 27
    · refine lv_tableIn (tgt := 1254) (off := 1222) C.1 C.2.1 dl_32 (by rw [c27]; decide) (by rw [c27]; decide) (by rw [c27]; rfl) (by decide) ?_
      exact lc_27 l C hX hbl hL hi5 hR hG hl kk
    by_cases c28 : x = nI 28
    · refine lv_tableIn (tgt := 1277) (off := 1245) C.1 C.2.1 dl_32 (by rw [c28]; decide) (by rw [c28]; decide) (by rw [c28]; rfl) (by decide) ?_
      exact lc_28 l C hX hbl hL hi5 hR hG hl kk
    by_cases c29 : x = nI 29
    · refine lv_tableIn (tgt := 1300) (off := 1268) C.1 C.2.1 dl_32 (by rw [c29]; decide) (by rw [c29]; decide) (by rw [c29]; rfl) (by decide) ?_
      exact lc_29 l C hX hbl hL hi5 hR hG hl kk
    by_cases c30 : x = nI 30
    · refine lv_tableIn (tgt := 1343) (off := 1311) C.1 C.2.1 dl_32 (by rw [c30]; decide) (by rw [c30]; decide) (by rw [c30]; rfl) (by decide) ?_
      exact lc_30 l C hX hbl hL hi5 hR hG hl kk
    by_cases c31 : x = nI 31
    · refine lv_tableIn (tgt := 1376) (off := 1344) C.1 C.2.1 dl_32 (by rw [c31]; decide) (by rw [c31]; decide) (by rw [c31]; rfl) (by decide) ?_
      exact lc_31 l C hX hbl hL hi5 hR hG hl kk
    by_cases c32 : x = nI 32
    · refine lv_tableIn (tgt := 1419) (off := 1387) C.1 C.2.1 dl_32 (by rw [c32]; decide) (by rw [c32]; decide) (by rw [c32]; rfl) (by decide) ?_
      exact lc_32 l C hX hbl hL hi5 hR hG hl kk
    by_cases c33 : x = nI 33
    · refine lv_tableIn (tgt := 1453) (off := 1421) C.1 C.2.1 dl_32 (by rw [c33]; decide) (by rw [c33]; decide) (by rw [c33]; rfl) (by decide) ?_
      exact lc_33 l C hX hbl hL hi5 hR hG hl kk
    by_cases c34 : x = nI 34
    · refine lv_tableIn (tgt := 1466) (off := 1434) C.1 C.2.1 dl_32 (by rw [c34]; decide) (by rw [c34]; decide) (by rw [c34]; rfl) (by decide) ?_
      exact lc_34 l C hX hbl hL hi5 hR hG hl kk
    by_cases c35 : x = nI 35
    · refine lv_tableIn (tgt := 1479) (off := 1447) C.1 C.2.1 dl_32 (by rw [c35]; decide) (by rw [c35]; decide) (by rw [c35]; rfl) (by decide) ?_
      exact lc_35 l C hX hbl hL hi5 hR hG hl kk
    refine lv_tableOut (tgt := 1502) C.1 C.2.1 dl_32 (sw_out (n := 36) (by decide) fun k hk => ?_) (by decide) (kk H locs wx wm hR hG)
    rcases (show k = 0 ∨ k = 1 ∨ k = 2 ∨ k = 3 ∨ k = 4 ∨ k = 5 ∨ k = 6 ∨ k = 7 ∨ k = 8 ∨ k = 9 ∨ k = 10 ∨ k = 11 ∨ k = 12 ∨ k = 13 ∨ k = 14 ∨ k = 15 ∨ k = 16 ∨ k = 17 ∨ k = 18 ∨ k = 19 ∨ k = 20 ∨ k = 21 ∨ k = 22 ∨ k = 23 ∨ k = 24 ∨ k = 25 ∨ k = 26 ∨ k = 27 ∨ k = 28 ∨ k = 29 ∨ k = 30 ∨ k = 31 ∨ k = 32 ∨ k = 33 ∨ k = 34 ∨ k = 35 by omega) with rfl | rfl | rfl | rfl | rfl | rfl | rfl | rfl | rfl | rfl | rfl | rfl | rfl | rfl | rfl | rfl | rfl | rfl | rfl | rfl | rfl | rfl | rfl | rfl | rfl | rfl | rfl | rfl | rfl | rfl | rfl | rfl | rfl | rfl | rfl | rfl
    · exact c0
    · exact c1
    · exact c2
    · exact c3
    · exact c4
    · exact c5
    · exact c6
    · exact c7
    · exact c8
    · exact c9
    · exact c10
    · exact c11
    · exact c12
    · exact c13
    · exact c14
    · exact c15
    · exact c16
    · exact c17
    · exact c18
    · exact c19
    · exact c20
    · exact c21
    · exact c22
    · exact c23
    · exact c24
    · exact c25
    · exact c26
    · exact c27
    · exact c28
    · exact c29
    · exact c30
    · exact c31
    · exact c32
    · exact c33
    · exact c34
    · exact c35
set_option maxRecDepth 100000 in
set_option maxHeartbeats 4000000 in
/-- YOUR PART: from the entry, for every script of at most 2560 ints, the law comes to its end with true ('hflags': the launch's flags, for a law that throws: no stack traces) -/
theorem whole_start {p : Program} {e : Env} {s : State} {m : MethodId} {below : List Frame} {meth : Method} {c : Code} (l : Launch) (hflags : l.flags = flags0) {b L : Nat} {xs : Nat → Int32} (hL : L ≤ 2560) (C0 : lw_At p s m meth c b L xs) : W p l e room_1 s m #[Value.ref b] below meth c s.heap [] 0 0 (lw_Z below #[Value.ref b] s) (entryFrame m ([Value.ref b] : List Value).toArray 4) := by
  obtain ⟨hx, hb, hr, hml, hown, hts, hX, hbl, hlocks, hgv⟩ := id C0
  obtain ⟨G, hEv, hO⟩ := st_Ev (p := p) (m := m) (meth := meth) (c := c) (L := L) (xs := xs) hts hgv
  have C : CX p s m #[Value.ref b] meth c code 4 R_law TL ret := ⟨hx, hb, hml, hown, fun w hw => hts w (tg_tbl (by
      rcases List.mem_cons.mp hw with h | h
      · rw [h]
        exact tg_1_0
      · exact h)), hr, hlocks⟩
  have hl := lv_entry ([.ref b]) (n := 4) (Nat.le_of_ble_eq_true rfl)
  rw [lg_entry_eq]
  generalize (lg_sl ([.ref b]) ++ List.replicate (4 - (lg_sl ([.ref b])).length) Slot.unset).toArray = ls at hl ⊢
  have hl : lv_has ls 4 [(0, .ref b)] := hl
  obtain ⟨B, hB⟩ : ∃ B : Nat, B = s.heap.size := ⟨_, rfl⟩
  have hG : Gc s G (fun q => s.heap.size ≤ q) 0 B (fun _ => .inr (8, [.null, .null, .int 0, .null, .null, .null, .int 0, .null, .null, .null, .null, .null, .null])) [] s.heap [] := ⟨⟨⟨hEv, ⟨fun k q h => by simp [pool] at h, fun i j p q h => by simp [pool] at h, fun k q h => by simp [pool] at h⟩, va_S.rf⟩, hO⟩, by omega, fun q hq => by show s.heap.size ≤ q; omega⟩
  refine rc_new C hG (E := fun _ => .inr (8, [.null, .null, .int 0, .null, .null, .null, .int 0, .null, .null, .null, .null, .null, .null])) rfl (Cn := RX8) (T := TX8) (Nk := 13) rfl (fun x hx => List.mem_cons_of_mem _ (uw_X8 x hx)) tyX8 tyX8_ok bl_X8 (List.mem_cons_of_mem _ tg_1_14) (C.2.2.2.2.1 _ (List.mem_cons_of_mem _ tg_1_15)) (List.mem_cons_of_mem _ tg_1_1) (k' := 1) (n' := 13) rfl rfl (Nat.le_of_ble_eq_true rfl) (Nat.le_of_ble_eq_true rfl) dl_0 (fun H hG => ?_)
  refine lv_dup C.1 C.2.1 dl_3 rfl ?_
  refine rc_callI C hG hl.1 (ci_X8 l rfl) (cwI 0 C.2.2.2.2.1 (gd_all tg_1_18) rfl rfl rfl (C.2.2.2.2.1 _ (List.mem_cons_of_mem _ tg_1_1)) (C.2.2.2.2.1 _ (List.mem_cons_of_mem _ tg_1_16)) (C.2.2.2.2.1 _ (List.mem_cons_of_mem _ tg_1_17)) rfl cdI_X8 ⟨Nat.le_of_ble_eq_true rfl, Nat.le_of_ble_eq_true rfl⟩) (k' := 153) (n' := 3019) rfl rfl (Nat.le_of_ble_eq_true rfl) (Nat.le_of_ble_eq_true rfl) (Nat.le_of_ble_eq_true rfl) dl_4 (fun H locs hG => ?_)
  refine lv_astore_n (lv' := [(1, .ref (B + 0)), (0, .ref b)]) C.1 C.2.1 dl_7 rfl hl (by decide) rfl (fun ls hl => ?_)
  have hG : Gc s G (fun q => s.heap.size ≤ q) 0 (B + 153) (fun _ => .inr (9, [.null, .null, .int 0, .int 0, .int 0, .null, .null, .null, .null, .null, .null, .null, .null, .null, .null, .int 0, .null, .int 0, .null, .null, .null, .null, .null, .int 0, .null, .null, .null, .null, .null, .int 0, .null, .null, .int 0, .null, .null])) (pool 153 B (entX G B w0)) H locs := by
    obtain ⟨⟨⟨g1, g2, g3⟩, g4⟩, g5, g6⟩ := hG
    refine ⟨⟨⟨g1, ?_, g3⟩, g4⟩, g5, fun q hq => g6 q (by omega)⟩
    have e : pool 153 B (entX G B w0) ++ [] = pool 0 (B + 153) (fun _ => Sum.inr (9, [.null, .null, .int 0, .int 0, .int 0, .null, .null, .null, .null, .null, .null, .null, .null, .null, .null, .int 0, .null, .int 0, .null, .null, .null, .null, .null, .int 0, .null, .null, .null, .null, .null, .int 0, .null, .null, .int 0, .null, .null])) ++ pool 153 B (entX G B w0) := by
      rw [List.append_nil]
      rfl
    unfold Wd at g2 ⊢
    rw [e] at g2
    exact g2
  refine rc_new C hG (E := fun _ => .inr (9, [.null, .null, .int 0, .int 0, .int 0, .null, .null, .null, .null, .null, .null, .null, .null, .null, .null, .int 0, .null, .int 0, .null, .null, .null, .null, .null, .int 0, .null, .null, .null, .null, .null, .int 0, .null, .null, .int 0, .null, .null])) rfl (Cn := RX9) (T := TX9) (Nk := 35) rfl (fun x hx => List.mem_cons_of_mem _ (uw_X9 x hx)) tyX9 tyX9_ok bl_X9 (List.mem_cons_of_mem _ tg_4_78) (C.2.2.2.2.1 _ (List.mem_cons_of_mem _ tg_4_79)) (List.mem_cons_of_mem _ tg_1_10) (k' := 154) (n' := 3054) rfl rfl (Nat.le_of_ble_eq_true rfl) (Nat.le_of_ble_eq_true rfl) dl_8 (fun H hG => ?_)
  refine lv_dup C.1 C.2.1 dl_11 rfl ?_
  refine rc_callI C hG hl.1 (ci_X9 l rfl) (cwI 0 C.2.2.2.2.1 (gd_all tg_4_82) rfl rfl rfl (C.2.2.2.2.1 _ (List.mem_cons_of_mem _ tg_1_10)) (C.2.2.2.2.1 _ (List.mem_cons_of_mem _ tg_4_80)) (C.2.2.2.2.1 _ (List.mem_cons_of_mem _ tg_4_81)) rfl cdI_X9 ⟨Nat.le_of_ble_eq_true rfl, Nat.le_of_ble_eq_true rfl⟩) (k' := 181) (n' := 4461) rfl rfl (Nat.le_of_ble_eq_true rfl) (Nat.le_of_ble_eq_true rfl) (Nat.le_of_ble_eq_true rfl) dl_12 (fun H locs hG => ?_)
  refine lv_astore_n (lv' := [(2, .ref (B + 153 + 0)), (1, .ref (B + 0)), (0, .ref b)]) C.1 C.2.1 dl_15 rfl hl (by decide) rfl (fun ls hl => ?_)
  refine lv_iconst (v := nI 0) C.1 C.2.1 dl_16 (by decide) ?_
  refine lv_istore_n (lv' := [(3, .int (nI 0)), (2, .ref (B + 153 + 0)), (1, .ref (B + 0)), (0, .ref b)]) C.1 C.2.1 dl_17 rfl hl (by decide) rfl (fun ls hl => ?_)
  refine law_loop l C hX hbl hL ?_ (L + 1) 0 (by omega) (by omega) H locs ls w0 w0M rel_0 hG.1.1.swap (lv_sub hl [3, 2, 1, 0] rfl)
  intro H locs ls wx wm hG
  refine lv_iconst (v := 1) C.1 C.2.1 dl_1508 (by decide) ?_
  refine va_forget (fun q hq => hG.2.2.2.2 q hq) ?_
  refine W.widen (k := 600000) (n := 7302249) (Nat.le_of_ble_eq_true rfl) (Nat.le_of_ble_eq_true rfl) ?_
  exact lw_ret hx hb hr hlocks dl_1509
