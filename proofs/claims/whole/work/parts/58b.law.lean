/-! the law: cases 9 to 17 -/
theorem dl_589 : decode code 589 = .ok (.aload_n 1, 1) := by decide +kernel
theorem dl_590 : decode code 590 = .ok (.aload_n 0, 1) := by decide +kernel
theorem dl_591 : decode code 591 = .ok (.iload_n 3, 1) := by decide +kernel
theorem dl_592 : decode code 592 = .ok (.iconst 1, 1) := by decide +kernel
theorem dl_593 : decode code 593 = .ok (.iadd, 1) := by decide +kernel
theorem dl_594 : decode code 594 = .ok (.iaload, 1) := by decide +kernel
theorem dl_595 : decode code 595 = .ok (.aload_n 0, 1) := by decide +kernel
theorem dl_596 : decode code 596 = .ok (.iload_n 3, 1) := by decide +kernel
theorem dl_597 : decode code 597 = .ok (.iconst 2, 1) := by decide +kernel
theorem dl_598 : decode code 598 = .ok (.iadd, 1) := by decide +kernel
theorem dl_599 : decode code 599 = .ok (.iaload, 1) := by decide +kernel
theorem dl_600 : decode code 600 = .ok (.aload_n 0, 1) := by decide +kernel
theorem dl_601 : decode code 601 = .ok (.iload_n 3, 1) := by decide +kernel
theorem dl_602 : decode code 602 = .ok (.iconst 3, 1) := by decide +kernel
theorem dl_603 : decode code 603 = .ok (.iadd, 1) := by decide +kernel
theorem dl_604 : decode code 604 = .ok (.iaload, 1) := by decide +kernel
theorem dl_605 : decode code 605 = .ok (.aload_n 0, 1) := by decide +kernel
theorem dl_606 : decode code 606 = .ok (.iload_n 3, 1) := by decide +kernel
theorem dl_607 : decode code 607 = .ok (.iconst 4, 1) := by decide +kernel
theorem dl_608 : decode code 608 = .ok (.iadd, 1) := by decide +kernel
theorem dl_609 : decode code 609 = .ok (.iaload, 1) := by decide +kernel
theorem dl_610 : decode code 610 = .ok (.invokevirtual 52, 3) := by decide +kernel
theorem dl_613 : decode code 613 = .ok (.aload_n 2, 1) := by decide +kernel
theorem dl_614 : decode code 614 = .ok (.aload_n 0, 1) := by decide +kernel
theorem dl_615 : decode code 615 = .ok (.iload_n 3, 1) := by decide +kernel
theorem dl_616 : decode code 616 = .ok (.iconst 1, 1) := by decide +kernel
theorem dl_617 : decode code 617 = .ok (.iadd, 1) := by decide +kernel
theorem dl_618 : decode code 618 = .ok (.iaload, 1) := by decide +kernel
theorem dl_619 : decode code 619 = .ok (.aload_n 0, 1) := by decide +kernel
theorem dl_620 : decode code 620 = .ok (.iload_n 3, 1) := by decide +kernel
theorem dl_621 : decode code 621 = .ok (.iconst 2, 1) := by decide +kernel
theorem dl_622 : decode code 622 = .ok (.iadd, 1) := by decide +kernel
theorem dl_623 : decode code 623 = .ok (.iaload, 1) := by decide +kernel
theorem dl_624 : decode code 624 = .ok (.aload_n 0, 1) := by decide +kernel
theorem dl_625 : decode code 625 = .ok (.iload_n 3, 1) := by decide +kernel
theorem dl_626 : decode code 626 = .ok (.iconst 3, 1) := by decide +kernel
theorem dl_627 : decode code 627 = .ok (.iadd, 1) := by decide +kernel
theorem dl_628 : decode code 628 = .ok (.iaload, 1) := by decide +kernel
theorem dl_629 : decode code 629 = .ok (.aload_n 0, 1) := by decide +kernel
theorem dl_630 : decode code 630 = .ok (.iload_n 3, 1) := by decide +kernel
theorem dl_631 : decode code 631 = .ok (.iconst 4, 1) := by decide +kernel
theorem dl_632 : decode code 632 = .ok (.iadd, 1) := by decide +kernel
theorem dl_633 : decode code 633 = .ok (.iaload, 1) := by decide +kernel
theorem dl_634 : decode code 634 = .ok (.invokevirtual 55, 3) := by decide +kernel
theorem dl_637 : decode code 637 = .ok (.if_icmp .eq 865, 3) := by decide +kernel
theorem dl_640 : decode code 640 = .ok (.iconst 0, 1) := by decide +kernel
theorem dl_641 : decode code 641 = .ok (.ireturn, 1) := by decide +kernel
set_option maxRecDepth 100000 in
set_option maxHeartbeats 2000000 in
theorem lc_9 {p : Program} (l : Launch) {e : Env} {s : State} {m : MethodId} {below : List Frame} {meth : Method} {c : Code} {H : Heap} {locs : List Loc} {Q : State → Prop} {ls : Array Slot} {G : GG} {B b L i : Nat} {xs : Nat → Int32} {wx : WX} {wm : Mem} (C : CX p s m #[Value.ref b] meth c code 4 R_law TL ret) (hX : va_X b L xs s s.heap) (hbl : b < s.heap.size) (hL : L ≤ 2560) (hi : i + 5 ≤ L) (hR : Rel wx wm) (hG : Gd s G (fun q => s.heap.size ≤ q) 153 B (entX G B wx) (pool 28 (B + 153) (entM G (B + 153) wm)) H locs) (hl : lv_has ls 4 [(0, .ref b), (1, .ref (B + 0)), (2, .ref (B + 153 + 0)), (3, .int (nI i))]) (kk : ∀ (H : Heap) (locs : List Loc) (wx : WX) (wm : Mem), Rel wx wm → Gd s G (fun q => s.heap.size ≤ q) 153 B (entX G B wx) (pool 28 (B + 153) (entM G (B + 153) wm)) H locs → W p l e room_1 s m #[Value.ref b] below meth c H locs 181 4461 Q (F0 m 1502 ls [])) : W p l e room_1 s m #[Value.ref b] below meth c H locs 181 4461 Q (F0 m 589 ls []) := by
  obtain ⟨⟨v, wx'⟩, hv, ⟨u, wm'⟩, hu, heq, hR'⟩ := c_were (xs (i + 1)) (xs (i + 2)) (xs (i + 3)) (xs (i + 4)) hR
  have hbA : ¬ (fun q : Nat => s.heap.size ≤ q) b := Nat.not_le.mpr hbl
  refine lv_aload_n C.1 C.2.1 dl_589 rfl (lv_at hl 1 rfl) ?_
  refine rl_arg C hX hbl hbA hG.2.2 (i := i) (j := 1) hL (by omega) hl (by decide) dl_590 dl_591 dl_592 dl_593 dl_594 ?_
  refine rl_arg C hX hbl hbA hG.2.2 (i := i) (j := 2) hL (by omega) hl (by decide) dl_595 dl_596 dl_597 dl_598 dl_599 ?_
  refine rl_arg C hX hbl hbA hG.2.2 (i := i) (j := 3) hL (by omega) hl (by decide) dl_600 dl_601 dl_602 dl_603 dl_604 ?_
  refine rl_arg C hX hbl hbA hG.2.2 (i := i) (j := 4) hL (by omega) hl (by decide) dl_605 dl_606 dl_607 dl_608 dl_609 ?_
  refine rl_callV C hG hl.1 (c0 := 0) (As := [.int (xs (i + 1)), .int (xs (i + 2)), .int (xs (i + 3)), .int (xs (i + 4))]) (by decide) (entX_O8 (n := 13) rfl) rfl (mt_X8_were l hv) (cwV 4 C.2.2.2.2.1 (gd_V tg_2_179 tg_2_180 tg_2_181 tg_1_1 tg_2_182) rfl rfl rfl cd_X8_were ⟨Nat.le_of_ble_eq_true rfl, Nat.le_of_ble_eq_true rfl⟩) (Nat.le_of_ble_eq_true rfl) (Nat.le_of_ble_eq_true rfl) rfl rfl (Nat.le_of_ble_eq_true rfl) dl_610 (fun H locs hG => ?_)
  have hG := hG.swap
  refine lv_aload_n C.1 C.2.1 dl_613 rfl (lv_at hl 2 rfl) ?_
  refine rl_arg C hX hbl hbA hG.2.2 (i := i) (j := 1) hL (by omega) hl (by decide) dl_614 dl_615 dl_616 dl_617 dl_618 ?_
  refine rl_arg C hX hbl hbA hG.2.2 (i := i) (j := 2) hL (by omega) hl (by decide) dl_619 dl_620 dl_621 dl_622 dl_623 ?_
  refine rl_arg C hX hbl hbA hG.2.2 (i := i) (j := 3) hL (by omega) hl (by decide) dl_624 dl_625 dl_626 dl_627 dl_628 ?_
  refine rl_arg C hX hbl hbA hG.2.2 (i := i) (j := 4) hL (by omega) hl (by decide) dl_629 dl_630 dl_631 dl_632 dl_633 ?_
  refine rl_callV C hG hl.1 (c0 := 0) (As := [.int (xs (i + 1)), .int (xs (i + 2)), .int (xs (i + 3)), .int (xs (i + 4))]) (by decide) (entM_O (n := 35) rfl) rfl (mt_X9_were l hu) (cwV 4 C.2.2.2.2.1 (gd_V tg_5_51 tg_5_52 tg_5_53 tg_1_10 tg_5_54) rfl rfl rfl cd_X9_were ⟨Nat.le_of_ble_eq_true rfl, Nat.le_of_ble_eq_true rfl⟩) (Nat.le_of_ble_eq_true rfl) (Nat.le_of_ble_eq_true rfl) rfl rfl (Nat.le_of_ble_eq_true rfl) dl_634 (fun H locs hG => ?_)
  have hG := hG.swap
  refine lv_icmp_eq (tgt := 1502) C.1 C.2.1 dl_637 (by decide) (fun _ => ?_) (fun q => absurd heq q)
  exact kk H locs _ _ hR' hG
theorem dl_642 : decode code 642 = .ok (.aload_n 1, 1) := by decide +kernel
theorem dl_643 : decode code 643 = .ok (.aload_n 0, 1) := by decide +kernel
theorem dl_644 : decode code 644 = .ok (.iload_n 3, 1) := by decide +kernel
theorem dl_645 : decode code 645 = .ok (.iconst 1, 1) := by decide +kernel
theorem dl_646 : decode code 646 = .ok (.iadd, 1) := by decide +kernel
theorem dl_647 : decode code 647 = .ok (.iaload, 1) := by decide +kernel
theorem dl_648 : decode code 648 = .ok (.invokevirtual 56, 3) := by decide +kernel
theorem dl_651 : decode code 651 = .ok (.aload_n 2, 1) := by decide +kernel
theorem dl_652 : decode code 652 = .ok (.aload_n 0, 1) := by decide +kernel
theorem dl_653 : decode code 653 = .ok (.iload_n 3, 1) := by decide +kernel
theorem dl_654 : decode code 654 = .ok (.iconst 1, 1) := by decide +kernel
theorem dl_655 : decode code 655 = .ok (.iadd, 1) := by decide +kernel
theorem dl_656 : decode code 656 = .ok (.iaload, 1) := by decide +kernel
theorem dl_657 : decode code 657 = .ok (.invokevirtual 60, 3) := by decide +kernel
theorem dl_660 : decode code 660 = .ok (.if_icmp .eq 842, 3) := by decide +kernel
theorem dl_663 : decode code 663 = .ok (.iconst 0, 1) := by decide +kernel
theorem dl_664 : decode code 664 = .ok (.ireturn, 1) := by decide +kernel
set_option maxRecDepth 100000 in
set_option maxHeartbeats 2000000 in
theorem lc_10 {p : Program} (l : Launch) {e : Env} {s : State} {m : MethodId} {below : List Frame} {meth : Method} {c : Code} {H : Heap} {locs : List Loc} {Q : State → Prop} {ls : Array Slot} {G : GG} {B b L i : Nat} {xs : Nat → Int32} {wx : WX} {wm : Mem} (C : CX p s m #[Value.ref b] meth c code 4 R_law TL ret) (hX : va_X b L xs s s.heap) (hbl : b < s.heap.size) (hL : L ≤ 2560) (hi : i + 5 ≤ L) (hR : Rel wx wm) (hG : Gd s G (fun q => s.heap.size ≤ q) 153 B (entX G B wx) (pool 28 (B + 153) (entM G (B + 153) wm)) H locs) (hl : lv_has ls 4 [(0, .ref b), (1, .ref (B + 0)), (2, .ref (B + 153 + 0)), (3, .int (nI i))]) (kk : ∀ (H : Heap) (locs : List Loc) (wx : WX) (wm : Mem), Rel wx wm → Gd s G (fun q => s.heap.size ≤ q) 153 B (entX G B wx) (pool 28 (B + 153) (entM G (B + 153) wm)) H locs → W p l e room_1 s m #[Value.ref b] below meth c H locs 181 4461 Q (F0 m 1502 ls [])) : W p l e room_1 s m #[Value.ref b] below meth c H locs 181 4461 Q (F0 m 642 ls []) := by
  obtain ⟨⟨v, wx'⟩, hv, ⟨u, wm'⟩, hu, heq, hR'⟩ := c_feed (xs (i + 1)) hR
  have hbA : ¬ (fun q : Nat => s.heap.size ≤ q) b := Nat.not_le.mpr hbl
  refine lv_aload_n C.1 C.2.1 dl_642 rfl (lv_at hl 1 rfl) ?_
  refine rl_arg C hX hbl hbA hG.2.2 (i := i) (j := 1) hL (by omega) hl (by decide) dl_643 dl_644 dl_645 dl_646 dl_647 ?_
  refine rl_callV C hG hl.1 (c0 := 0) (As := [.int (xs (i + 1))]) (by decide) (entX_O8 (n := 13) rfl) rfl (mt_X8_feed l hv) (cwV 1 C.2.2.2.2.1 (gd_V tg_2_183 tg_2_184 tg_2_185 tg_1_1 tg_2_186) rfl rfl rfl cd_X8_feed ⟨Nat.le_of_ble_eq_true rfl, Nat.le_of_ble_eq_true rfl⟩) (Nat.le_of_ble_eq_true rfl) (Nat.le_of_ble_eq_true rfl) rfl rfl (Nat.le_of_ble_eq_true rfl) dl_648 (fun H locs hG => ?_)
  have hG := hG.swap
  refine lv_aload_n C.1 C.2.1 dl_651 rfl (lv_at hl 2 rfl) ?_
  refine rl_arg C hX hbl hbA hG.2.2 (i := i) (j := 1) hL (by omega) hl (by decide) dl_652 dl_653 dl_654 dl_655 dl_656 ?_
  refine rl_callV C hG hl.1 (c0 := 0) (As := [.int (xs (i + 1))]) (by decide) (entM_O (n := 35) rfl) rfl (mt_X9_feed l hu) (cwV 1 C.2.2.2.2.1 (gd_V tg_5_55 tg_5_56 tg_5_57 tg_1_10 tg_5_58) rfl rfl rfl cd_X9_feed ⟨Nat.le_of_ble_eq_true rfl, Nat.le_of_ble_eq_true rfl⟩) (Nat.le_of_ble_eq_true rfl) (Nat.le_of_ble_eq_true rfl) rfl rfl (Nat.le_of_ble_eq_true rfl) dl_657 (fun H locs hG => ?_)
  have hG := hG.swap
  refine lv_icmp_eq (tgt := 1502) C.1 C.2.1 dl_660 (by decide) (fun _ => ?_) (fun q => absurd heq q)
  exact kk H locs _ _ hR' hG
theorem dl_665 : decode code 665 = .ok (.aload_n 1, 1) := by decide +kernel
theorem dl_666 : decode code 666 = .ok (.aload_n 0, 1) := by decide +kernel
theorem dl_667 : decode code 667 = .ok (.iload_n 3, 1) := by decide +kernel
theorem dl_668 : decode code 668 = .ok (.iconst 1, 1) := by decide +kernel
theorem dl_669 : decode code 669 = .ok (.iadd, 1) := by decide +kernel
theorem dl_670 : decode code 670 = .ok (.iaload, 1) := by decide +kernel
theorem dl_671 : decode code 671 = .ok (.invokevirtual 61, 3) := by decide +kernel
theorem dl_674 : decode code 674 = .ok (.aload_n 2, 1) := by decide +kernel
theorem dl_675 : decode code 675 = .ok (.aload_n 0, 1) := by decide +kernel
theorem dl_676 : decode code 676 = .ok (.iload_n 3, 1) := by decide +kernel
theorem dl_677 : decode code 677 = .ok (.iconst 1, 1) := by decide +kernel
theorem dl_678 : decode code 678 = .ok (.iadd, 1) := by decide +kernel
theorem dl_679 : decode code 679 = .ok (.iaload, 1) := by decide +kernel
theorem dl_680 : decode code 680 = .ok (.invokevirtual 64, 3) := by decide +kernel
theorem dl_683 : decode code 683 = .ok (.if_icmp .eq 819, 3) := by decide +kernel
theorem dl_686 : decode code 686 = .ok (.iconst 0, 1) := by decide +kernel
theorem dl_687 : decode code 687 = .ok (.ireturn, 1) := by decide +kernel
set_option maxRecDepth 100000 in
set_option maxHeartbeats 2000000 in
theorem lc_11 {p : Program} (l : Launch) {e : Env} {s : State} {m : MethodId} {below : List Frame} {meth : Method} {c : Code} {H : Heap} {locs : List Loc} {Q : State → Prop} {ls : Array Slot} {G : GG} {B b L i : Nat} {xs : Nat → Int32} {wx : WX} {wm : Mem} (C : CX p s m #[Value.ref b] meth c code 4 R_law TL ret) (hX : va_X b L xs s s.heap) (hbl : b < s.heap.size) (hL : L ≤ 2560) (hi : i + 5 ≤ L) (hR : Rel wx wm) (hG : Gd s G (fun q => s.heap.size ≤ q) 153 B (entX G B wx) (pool 28 (B + 153) (entM G (B + 153) wm)) H locs) (hl : lv_has ls 4 [(0, .ref b), (1, .ref (B + 0)), (2, .ref (B + 153 + 0)), (3, .int (nI i))]) (kk : ∀ (H : Heap) (locs : List Loc) (wx : WX) (wm : Mem), Rel wx wm → Gd s G (fun q => s.heap.size ≤ q) 153 B (entX G B wx) (pool 28 (B + 153) (entM G (B + 153) wm)) H locs → W p l e room_1 s m #[Value.ref b] below meth c H locs 181 4461 Q (F0 m 1502 ls [])) : W p l e room_1 s m #[Value.ref b] below meth c H locs 181 4461 Q (F0 m 665 ls []) := by
  obtain ⟨⟨v, wx'⟩, hv, ⟨u, wm'⟩, hu, heq, hR'⟩ := c_surface (xs (i + 1)) hR
  have hbA : ¬ (fun q : Nat => s.heap.size ≤ q) b := Nat.not_le.mpr hbl
  refine lv_aload_n C.1 C.2.1 dl_665 rfl (lv_at hl 1 rfl) ?_
  refine rl_arg C hX hbl hbA hG.2.2 (i := i) (j := 1) hL (by omega) hl (by decide) dl_666 dl_667 dl_668 dl_669 dl_670 ?_
  refine rl_callV C hG hl.1 (c0 := 0) (As := [.int (xs (i + 1))]) (by decide) (entX_O8 (n := 13) rfl) rfl (mt_X8_surface l hv) (cwV 1 C.2.2.2.2.1 (gd_V tg_2_191 tg_2_192 tg_2_193 tg_1_1 tg_2_194) rfl rfl rfl cd_X8_surface ⟨Nat.le_of_ble_eq_true rfl, Nat.le_of_ble_eq_true rfl⟩) (Nat.le_of_ble_eq_true rfl) (Nat.le_of_ble_eq_true rfl) rfl rfl (Nat.le_of_ble_eq_true rfl) dl_671 (fun H locs hG => ?_)
  have hG := hG.swap
  refine lv_aload_n C.1 C.2.1 dl_674 rfl (lv_at hl 2 rfl) ?_
  refine rl_arg C hX hbl hbA hG.2.2 (i := i) (j := 1) hL (by omega) hl (by decide) dl_675 dl_676 dl_677 dl_678 dl_679 ?_
  refine rl_callV C hG hl.1 (c0 := 0) (As := [.int (xs (i + 1))]) (by decide) (entM_O (n := 35) rfl) rfl (mt_X9_surface l hu) (cwV 1 C.2.2.2.2.1 (gd_V tg_5_60 tg_5_61 tg_5_62 tg_1_10 tg_5_63) rfl rfl rfl cd_X9_surface ⟨Nat.le_of_ble_eq_true rfl, Nat.le_of_ble_eq_true rfl⟩) (Nat.le_of_ble_eq_true rfl) (Nat.le_of_ble_eq_true rfl) rfl rfl (Nat.le_of_ble_eq_true rfl) dl_680 (fun H locs hG => ?_)
  have hG := hG.swap
  refine lv_icmp_eq (tgt := 1502) C.1 C.2.1 dl_683 (by decide) (fun _ => ?_) (fun q => absurd heq q)
  exact kk H locs _ _ hR' hG
theorem dl_688 : decode code 688 = .ok (.aload_n 1, 1) := by decide +kernel
theorem dl_689 : decode code 689 = .ok (.aload_n 0, 1) := by decide +kernel
theorem dl_690 : decode code 690 = .ok (.iload_n 3, 1) := by decide +kernel
theorem dl_691 : decode code 691 = .ok (.iconst 1, 1) := by decide +kernel
theorem dl_692 : decode code 692 = .ok (.iadd, 1) := by decide +kernel
theorem dl_693 : decode code 693 = .ok (.iaload, 1) := by decide +kernel
theorem dl_694 : decode code 694 = .ok (.aload_n 0, 1) := by decide +kernel
theorem dl_695 : decode code 695 = .ok (.iload_n 3, 1) := by decide +kernel
theorem dl_696 : decode code 696 = .ok (.iconst 2, 1) := by decide +kernel
theorem dl_697 : decode code 697 = .ok (.iadd, 1) := by decide +kernel
theorem dl_698 : decode code 698 = .ok (.iaload, 1) := by decide +kernel
theorem dl_699 : decode code 699 = .ok (.invokevirtual 65, 3) := by decide +kernel
theorem dl_702 : decode code 702 = .ok (.aload_n 2, 1) := by decide +kernel
theorem dl_703 : decode code 703 = .ok (.aload_n 0, 1) := by decide +kernel
theorem dl_704 : decode code 704 = .ok (.iload_n 3, 1) := by decide +kernel
theorem dl_705 : decode code 705 = .ok (.iconst 1, 1) := by decide +kernel
theorem dl_706 : decode code 706 = .ok (.iadd, 1) := by decide +kernel
theorem dl_707 : decode code 707 = .ok (.iaload, 1) := by decide +kernel
theorem dl_708 : decode code 708 = .ok (.aload_n 0, 1) := by decide +kernel
theorem dl_709 : decode code 709 = .ok (.iload_n 3, 1) := by decide +kernel
theorem dl_710 : decode code 710 = .ok (.iconst 2, 1) := by decide +kernel
theorem dl_711 : decode code 711 = .ok (.iadd, 1) := by decide +kernel
theorem dl_712 : decode code 712 = .ok (.iaload, 1) := by decide +kernel
theorem dl_713 : decode code 713 = .ok (.invokevirtual 68, 3) := by decide +kernel
theorem dl_716 : decode code 716 = .ok (.if_icmp .eq 786, 3) := by decide +kernel
theorem dl_719 : decode code 719 = .ok (.iconst 0, 1) := by decide +kernel
theorem dl_720 : decode code 720 = .ok (.ireturn, 1) := by decide +kernel
set_option maxRecDepth 100000 in
set_option maxHeartbeats 2000000 in
theorem lc_12 {p : Program} (l : Launch) {e : Env} {s : State} {m : MethodId} {below : List Frame} {meth : Method} {c : Code} {H : Heap} {locs : List Loc} {Q : State → Prop} {ls : Array Slot} {G : GG} {B b L i : Nat} {xs : Nat → Int32} {wx : WX} {wm : Mem} (C : CX p s m #[Value.ref b] meth c code 4 R_law TL ret) (hX : va_X b L xs s s.heap) (hbl : b < s.heap.size) (hL : L ≤ 2560) (hi : i + 5 ≤ L) (hR : Rel wx wm) (hG : Gd s G (fun q => s.heap.size ≤ q) 153 B (entX G B wx) (pool 28 (B + 153) (entM G (B + 153) wm)) H locs) (hl : lv_has ls 4 [(0, .ref b), (1, .ref (B + 0)), (2, .ref (B + 153 + 0)), (3, .int (nI i))]) (kk : ∀ (H : Heap) (locs : List Loc) (wx : WX) (wm : Mem), Rel wx wm → Gd s G (fun q => s.heap.size ≤ q) 153 B (entX G B wx) (pool 28 (B + 153) (entM G (B + 153) wm)) H locs → W p l e room_1 s m #[Value.ref b] below meth c H locs 181 4461 Q (F0 m 1502 ls [])) : W p l e room_1 s m #[Value.ref b] below meth c H locs 181 4461 Q (F0 m 688 ls []) := by
  obtain ⟨⟨v, wx'⟩, hv, ⟨u, wm'⟩, hu, heq, hR'⟩ := c_piece (xs (i + 1)) (xs (i + 2)) hR
  have hbA : ¬ (fun q : Nat => s.heap.size ≤ q) b := Nat.not_le.mpr hbl
  refine lv_aload_n C.1 C.2.1 dl_688 rfl (lv_at hl 1 rfl) ?_
  refine rl_arg C hX hbl hbA hG.2.2 (i := i) (j := 1) hL (by omega) hl (by decide) dl_689 dl_690 dl_691 dl_692 dl_693 ?_
  refine rl_arg C hX hbl hbA hG.2.2 (i := i) (j := 2) hL (by omega) hl (by decide) dl_694 dl_695 dl_696 dl_697 dl_698 ?_
  refine rl_callV C hG hl.1 (c0 := 0) (As := [.int (xs (i + 1)), .int (xs (i + 2))]) (by decide) (entX_O8 (n := 13) rfl) rfl (mt_X8_piece l hv) (cwV 2 C.2.2.2.2.1 (gd_V tg_3_3 tg_3_4 tg_3_5 tg_1_1 tg_3_6) rfl rfl rfl cd_X8_piece ⟨Nat.le_of_ble_eq_true rfl, Nat.le_of_ble_eq_true rfl⟩) (Nat.le_of_ble_eq_true rfl) (Nat.le_of_ble_eq_true rfl) rfl rfl (Nat.le_of_ble_eq_true rfl) dl_699 (fun H locs hG => ?_)
  have hG := hG.swap
  refine lv_aload_n C.1 C.2.1 dl_702 rfl (lv_at hl 2 rfl) ?_
  refine rl_arg C hX hbl hbA hG.2.2 (i := i) (j := 1) hL (by omega) hl (by decide) dl_703 dl_704 dl_705 dl_706 dl_707 ?_
  refine rl_arg C hX hbl hbA hG.2.2 (i := i) (j := 2) hL (by omega) hl (by decide) dl_708 dl_709 dl_710 dl_711 dl_712 ?_
  refine rl_callV C hG hl.1 (c0 := 0) (As := [.int (xs (i + 1)), .int (xs (i + 2))]) (by decide) (entM_O (n := 35) rfl) rfl (mt_X9_piece l hu) (cwV 2 C.2.2.2.2.1 (gd_V tg_5_103 tg_5_104 tg_5_105 tg_1_10 tg_5_106) rfl rfl rfl cd_X9_piece ⟨Nat.le_of_ble_eq_true rfl, Nat.le_of_ble_eq_true rfl⟩) (Nat.le_of_ble_eq_true rfl) (Nat.le_of_ble_eq_true rfl) rfl rfl (Nat.le_of_ble_eq_true rfl) dl_713 (fun H locs hG => ?_)
  have hG := hG.swap
  refine lv_icmp_eq (tgt := 1502) C.1 C.2.1 dl_716 (by decide) (fun _ => ?_) (fun q => absurd heq q)
  exact kk H locs _ _ hR' hG
theorem dl_721 : decode code 721 = .ok (.aload_n 1, 1) := by decide +kernel
theorem dl_722 : decode code 722 = .ok (.aload_n 0, 1) := by decide +kernel
theorem dl_723 : decode code 723 = .ok (.iload_n 3, 1) := by decide +kernel
theorem dl_724 : decode code 724 = .ok (.iconst 1, 1) := by decide +kernel
theorem dl_725 : decode code 725 = .ok (.iadd, 1) := by decide +kernel
theorem dl_726 : decode code 726 = .ok (.iaload, 1) := by decide +kernel
theorem dl_727 : decode code 727 = .ok (.aload_n 0, 1) := by decide +kernel
theorem dl_728 : decode code 728 = .ok (.iload_n 3, 1) := by decide +kernel
theorem dl_729 : decode code 729 = .ok (.iconst 2, 1) := by decide +kernel
theorem dl_730 : decode code 730 = .ok (.iadd, 1) := by decide +kernel
theorem dl_731 : decode code 731 = .ok (.iaload, 1) := by decide +kernel
theorem dl_732 : decode code 732 = .ok (.invokevirtual 69, 3) := by decide +kernel
theorem dl_735 : decode code 735 = .ok (.aload_n 2, 1) := by decide +kernel
theorem dl_736 : decode code 736 = .ok (.aload_n 0, 1) := by decide +kernel
theorem dl_737 : decode code 737 = .ok (.iload_n 3, 1) := by decide +kernel
theorem dl_738 : decode code 738 = .ok (.iconst 1, 1) := by decide +kernel
theorem dl_739 : decode code 739 = .ok (.iadd, 1) := by decide +kernel
theorem dl_740 : decode code 740 = .ok (.iaload, 1) := by decide +kernel
theorem dl_741 : decode code 741 = .ok (.aload_n 0, 1) := by decide +kernel
theorem dl_742 : decode code 742 = .ok (.iload_n 3, 1) := by decide +kernel
theorem dl_743 : decode code 743 = .ok (.iconst 2, 1) := by decide +kernel
theorem dl_744 : decode code 744 = .ok (.iadd, 1) := by decide +kernel
theorem dl_745 : decode code 745 = .ok (.iaload, 1) := by decide +kernel
theorem dl_746 : decode code 746 = .ok (.invokevirtual 72, 3) := by decide +kernel
theorem dl_749 : decode code 749 = .ok (.if_icmp .eq 753, 3) := by decide +kernel
theorem dl_752 : decode code 752 = .ok (.iconst 0, 1) := by decide +kernel
theorem dl_753 : decode code 753 = .ok (.ireturn, 1) := by decide +kernel
set_option maxRecDepth 100000 in
set_option maxHeartbeats 2000000 in
theorem lc_13 {p : Program} (l : Launch) {e : Env} {s : State} {m : MethodId} {below : List Frame} {meth : Method} {c : Code} {H : Heap} {locs : List Loc} {Q : State → Prop} {ls : Array Slot} {G : GG} {B b L i : Nat} {xs : Nat → Int32} {wx : WX} {wm : Mem} (C : CX p s m #[Value.ref b] meth c code 4 R_law TL ret) (hX : va_X b L xs s s.heap) (hbl : b < s.heap.size) (hL : L ≤ 2560) (hi : i + 5 ≤ L) (hR : Rel wx wm) (hG : Gd s G (fun q => s.heap.size ≤ q) 153 B (entX G B wx) (pool 28 (B + 153) (entM G (B + 153) wm)) H locs) (hl : lv_has ls 4 [(0, .ref b), (1, .ref (B + 0)), (2, .ref (B + 153 + 0)), (3, .int (nI i))]) (kk : ∀ (H : Heap) (locs : List Loc) (wx : WX) (wm : Mem), Rel wx wm → Gd s G (fun q => s.heap.size ≤ q) 153 B (entX G B wx) (pool 28 (B + 153) (entM G (B + 153) wm)) H locs → W p l e room_1 s m #[Value.ref b] below meth c H locs 181 4461 Q (F0 m 1502 ls [])) : W p l e room_1 s m #[Value.ref b] below meth c H locs 181 4461 Q (F0 m 721 ls []) := by
  obtain ⟨v, hv, hu⟩ := c_pieceOf (xs (i + 1)) (xs (i + 2)) hR
  have hbA : ¬ (fun q : Nat => s.heap.size ≤ q) b := Nat.not_le.mpr hbl
  refine lv_aload_n C.1 C.2.1 dl_721 rfl (lv_at hl 1 rfl) ?_
  refine rl_arg C hX hbl hbA hG.2.2 (i := i) (j := 1) hL (by omega) hl (by decide) dl_722 dl_723 dl_724 dl_725 dl_726 ?_
  refine rl_arg C hX hbl hbA hG.2.2 (i := i) (j := 2) hL (by omega) hl (by decide) dl_727 dl_728 dl_729 dl_730 dl_731 ?_
  refine rl_callV C hG hl.1 (c0 := 0) (As := [.int (xs (i + 1)), .int (xs (i + 2))]) (by decide) (entX_O8 (n := 13) rfl) rfl (mt_X8_pieceOf l hv) (cwV 2 C.2.2.2.2.1 (gd_V tg_3_9 tg_3_10 tg_3_11 tg_1_1 tg_3_12) rfl rfl rfl cd_X8_pieceOf ⟨Nat.le_of_ble_eq_true rfl, Nat.le_of_ble_eq_true rfl⟩) (Nat.le_of_ble_eq_true rfl) (Nat.le_of_ble_eq_true rfl) rfl rfl (Nat.le_of_ble_eq_true rfl) dl_732 (fun H locs hG => ?_)
  have hG := hG.swap
  refine lv_aload_n C.1 C.2.1 dl_735 rfl (lv_at hl 2 rfl) ?_
  refine rl_arg C hX hbl hbA hG.2.2 (i := i) (j := 1) hL (by omega) hl (by decide) dl_736 dl_737 dl_738 dl_739 dl_740 ?_
  refine rl_arg C hX hbl hbA hG.2.2 (i := i) (j := 2) hL (by omega) hl (by decide) dl_741 dl_742 dl_743 dl_744 dl_745 ?_
  refine rl_callV C hG hl.1 (c0 := 0) (As := [.int (xs (i + 1)), .int (xs (i + 2))]) (by decide) (entM_O (n := 35) rfl) rfl (mt_X9_pieceOf l hu) (cwV 2 C.2.2.2.2.1 (gd_V tg_5_111 tg_5_112 tg_5_113 tg_1_10 tg_5_114) rfl rfl rfl cd_X9_pieceOf ⟨Nat.le_of_ble_eq_true rfl, Nat.le_of_ble_eq_true rfl⟩) (Nat.le_of_ble_eq_true rfl) (Nat.le_of_ble_eq_true rfl) rfl rfl (Nat.le_of_ble_eq_true rfl) dl_746 (fun H locs hG => ?_)
  have hG := hG.swap
  refine lv_icmp_eq (tgt := 1502) C.1 C.2.1 dl_749 (by decide) (fun _ => ?_) (fun q => absurd rfl q)
  exact kk H locs _ _ hR hG
theorem dl_754 : decode code 754 = .ok (.aload_n 1, 1) := by decide +kernel
theorem dl_755 : decode code 755 = .ok (.aload_n 0, 1) := by decide +kernel
theorem dl_756 : decode code 756 = .ok (.iload_n 3, 1) := by decide +kernel
theorem dl_757 : decode code 757 = .ok (.iconst 1, 1) := by decide +kernel
theorem dl_758 : decode code 758 = .ok (.iadd, 1) := by decide +kernel
theorem dl_759 : decode code 759 = .ok (.iaload, 1) := by decide +kernel
theorem dl_760 : decode code 760 = .ok (.aload_n 0, 1) := by decide +kernel
theorem dl_761 : decode code 761 = .ok (.iload_n 3, 1) := by decide +kernel
theorem dl_762 : decode code 762 = .ok (.iconst 2, 1) := by decide +kernel
theorem dl_763 : decode code 763 = .ok (.iadd, 1) := by decide +kernel
theorem dl_764 : decode code 764 = .ok (.iaload, 1) := by decide +kernel
theorem dl_765 : decode code 765 = .ok (.invokevirtual 73, 3) := by decide +kernel
theorem dl_768 : decode code 768 = .ok (.aload_n 2, 1) := by decide +kernel
theorem dl_769 : decode code 769 = .ok (.aload_n 0, 1) := by decide +kernel
theorem dl_770 : decode code 770 = .ok (.iload_n 3, 1) := by decide +kernel
theorem dl_771 : decode code 771 = .ok (.iconst 1, 1) := by decide +kernel
theorem dl_772 : decode code 772 = .ok (.iadd, 1) := by decide +kernel
theorem dl_773 : decode code 773 = .ok (.iaload, 1) := by decide +kernel
theorem dl_774 : decode code 774 = .ok (.aload_n 0, 1) := by decide +kernel
theorem dl_775 : decode code 775 = .ok (.iload_n 3, 1) := by decide +kernel
theorem dl_776 : decode code 776 = .ok (.iconst 2, 1) := by decide +kernel
theorem dl_777 : decode code 777 = .ok (.iadd, 1) := by decide +kernel
theorem dl_778 : decode code 778 = .ok (.iaload, 1) := by decide +kernel
theorem dl_779 : decode code 779 = .ok (.invokevirtual 76, 3) := by decide +kernel
theorem dl_782 : decode code 782 = .ok (.if_icmp .eq 720, 3) := by decide +kernel
theorem dl_785 : decode code 785 = .ok (.iconst 0, 1) := by decide +kernel
theorem dl_786 : decode code 786 = .ok (.ireturn, 1) := by decide +kernel
set_option maxRecDepth 100000 in
set_option maxHeartbeats 2000000 in
theorem lc_14 {p : Program} (l : Launch) {e : Env} {s : State} {m : MethodId} {below : List Frame} {meth : Method} {c : Code} {H : Heap} {locs : List Loc} {Q : State → Prop} {ls : Array Slot} {G : GG} {B b L i : Nat} {xs : Nat → Int32} {wx : WX} {wm : Mem} (C : CX p s m #[Value.ref b] meth c code 4 R_law TL ret) (hX : va_X b L xs s s.heap) (hbl : b < s.heap.size) (hL : L ≤ 2560) (hi : i + 5 ≤ L) (hR : Rel wx wm) (hG : Gd s G (fun q => s.heap.size ≤ q) 153 B (entX G B wx) (pool 28 (B + 153) (entM G (B + 153) wm)) H locs) (hl : lv_has ls 4 [(0, .ref b), (1, .ref (B + 0)), (2, .ref (B + 153 + 0)), (3, .int (nI i))]) (kk : ∀ (H : Heap) (locs : List Loc) (wx : WX) (wm : Mem), Rel wx wm → Gd s G (fun q => s.heap.size ≤ q) 153 B (entX G B wx) (pool 28 (B + 153) (entM G (B + 153) wm)) H locs → W p l e room_1 s m #[Value.ref b] below meth c H locs 181 4461 Q (F0 m 1502 ls [])) : W p l e room_1 s m #[Value.ref b] below meth c H locs 181 4461 Q (F0 m 754 ls []) := by
  obtain ⟨⟨v, wx'⟩, hv, ⟨u, wm'⟩, hu, heq, hR'⟩ := c_shape (xs (i + 1)) (xs (i + 2)) hR
  have hbA : ¬ (fun q : Nat => s.heap.size ≤ q) b := Nat.not_le.mpr hbl
  refine lv_aload_n C.1 C.2.1 dl_754 rfl (lv_at hl 1 rfl) ?_
  refine rl_arg C hX hbl hbA hG.2.2 (i := i) (j := 1) hL (by omega) hl (by decide) dl_755 dl_756 dl_757 dl_758 dl_759 ?_
  refine rl_arg C hX hbl hbA hG.2.2 (i := i) (j := 2) hL (by omega) hl (by decide) dl_760 dl_761 dl_762 dl_763 dl_764 ?_
  refine rl_callV C hG hl.1 (c0 := 0) (As := [.int (xs (i + 1)), .int (xs (i + 2))]) (by decide) (entX_O8 (n := 13) rfl) rfl (mt_X8_shape l hv) (cwV 2 C.2.2.2.2.1 (gd_V tg_3_13 tg_3_14 tg_3_15 tg_1_1 tg_3_16) rfl rfl rfl cd_X8_shape ⟨Nat.le_of_ble_eq_true rfl, Nat.le_of_ble_eq_true rfl⟩) (Nat.le_of_ble_eq_true rfl) (Nat.le_of_ble_eq_true rfl) rfl rfl (Nat.le_of_ble_eq_true rfl) dl_765 (fun H locs hG => ?_)
  have hG := hG.swap
  refine lv_aload_n C.1 C.2.1 dl_768 rfl (lv_at hl 2 rfl) ?_
  refine rl_arg C hX hbl hbA hG.2.2 (i := i) (j := 1) hL (by omega) hl (by decide) dl_769 dl_770 dl_771 dl_772 dl_773 ?_
  refine rl_arg C hX hbl hbA hG.2.2 (i := i) (j := 2) hL (by omega) hl (by decide) dl_774 dl_775 dl_776 dl_777 dl_778 ?_
  refine rl_callV C hG hl.1 (c0 := 0) (As := [.int (xs (i + 1)), .int (xs (i + 2))]) (by decide) (entM_O (n := 35) rfl) rfl (mt_X9_shape l hu) (cwV 2 C.2.2.2.2.1 (gd_V tg_5_115 tg_5_116 tg_5_117 tg_1_10 tg_5_118) rfl rfl rfl cd_X9_shape ⟨Nat.le_of_ble_eq_true rfl, Nat.le_of_ble_eq_true rfl⟩) (Nat.le_of_ble_eq_true rfl) (Nat.le_of_ble_eq_true rfl) rfl rfl (Nat.le_of_ble_eq_true rfl) dl_779 (fun H locs hG => ?_)
  have hG := hG.swap
  refine lv_icmp_eq (tgt := 1502) C.1 C.2.1 dl_782 (by decide) (fun _ => ?_) (fun q => absurd heq q)
  exact kk H locs _ _ hR' hG
theorem dl_787 : decode code 787 = .ok (.aload_n 1, 1) := by decide +kernel
theorem dl_788 : decode code 788 = .ok (.aload_n 0, 1) := by decide +kernel
theorem dl_789 : decode code 789 = .ok (.iload_n 3, 1) := by decide +kernel
theorem dl_790 : decode code 790 = .ok (.iconst 1, 1) := by decide +kernel
theorem dl_791 : decode code 791 = .ok (.iadd, 1) := by decide +kernel
theorem dl_792 : decode code 792 = .ok (.iaload, 1) := by decide +kernel
theorem dl_793 : decode code 793 = .ok (.aload_n 0, 1) := by decide +kernel
theorem dl_794 : decode code 794 = .ok (.iload_n 3, 1) := by decide +kernel
theorem dl_795 : decode code 795 = .ok (.iconst 2, 1) := by decide +kernel
theorem dl_796 : decode code 796 = .ok (.iadd, 1) := by decide +kernel
theorem dl_797 : decode code 797 = .ok (.iaload, 1) := by decide +kernel
theorem dl_798 : decode code 798 = .ok (.aload_n 0, 1) := by decide +kernel
theorem dl_799 : decode code 799 = .ok (.iload_n 3, 1) := by decide +kernel
theorem dl_800 : decode code 800 = .ok (.iconst 3, 1) := by decide +kernel
theorem dl_801 : decode code 801 = .ok (.iadd, 1) := by decide +kernel
theorem dl_802 : decode code 802 = .ok (.iaload, 1) := by decide +kernel
theorem dl_803 : decode code 803 = .ok (.invokevirtual 77, 3) := by decide +kernel
theorem dl_806 : decode code 806 = .ok (.aload_n 2, 1) := by decide +kernel
theorem dl_807 : decode code 807 = .ok (.aload_n 0, 1) := by decide +kernel
theorem dl_808 : decode code 808 = .ok (.iload_n 3, 1) := by decide +kernel
theorem dl_809 : decode code 809 = .ok (.iconst 1, 1) := by decide +kernel
theorem dl_810 : decode code 810 = .ok (.iadd, 1) := by decide +kernel
theorem dl_811 : decode code 811 = .ok (.iaload, 1) := by decide +kernel
theorem dl_812 : decode code 812 = .ok (.aload_n 0, 1) := by decide +kernel
theorem dl_813 : decode code 813 = .ok (.iload_n 3, 1) := by decide +kernel
theorem dl_814 : decode code 814 = .ok (.iconst 2, 1) := by decide +kernel
theorem dl_815 : decode code 815 = .ok (.iadd, 1) := by decide +kernel
theorem dl_816 : decode code 816 = .ok (.iaload, 1) := by decide +kernel
theorem dl_817 : decode code 817 = .ok (.aload_n 0, 1) := by decide +kernel
theorem dl_818 : decode code 818 = .ok (.iload_n 3, 1) := by decide +kernel
theorem dl_819 : decode code 819 = .ok (.iconst 3, 1) := by decide +kernel
theorem dl_820 : decode code 820 = .ok (.iadd, 1) := by decide +kernel
theorem dl_821 : decode code 821 = .ok (.iaload, 1) := by decide +kernel
theorem dl_822 : decode code 822 = .ok (.invokevirtual 80, 3) := by decide +kernel
theorem dl_825 : decode code 825 = .ok (.if_icmp .eq 677, 3) := by decide +kernel
theorem dl_828 : decode code 828 = .ok (.iconst 0, 1) := by decide +kernel
theorem dl_829 : decode code 829 = .ok (.ireturn, 1) := by decide +kernel
set_option maxRecDepth 100000 in
set_option maxHeartbeats 2000000 in
theorem lc_15 {p : Program} (l : Launch) {e : Env} {s : State} {m : MethodId} {below : List Frame} {meth : Method} {c : Code} {H : Heap} {locs : List Loc} {Q : State → Prop} {ls : Array Slot} {G : GG} {B b L i : Nat} {xs : Nat → Int32} {wx : WX} {wm : Mem} (C : CX p s m #[Value.ref b] meth c code 4 R_law TL ret) (hX : va_X b L xs s s.heap) (hbl : b < s.heap.size) (hL : L ≤ 2560) (hi : i + 5 ≤ L) (hR : Rel wx wm) (hG : Gd s G (fun q => s.heap.size ≤ q) 153 B (entX G B wx) (pool 28 (B + 153) (entM G (B + 153) wm)) H locs) (hl : lv_has ls 4 [(0, .ref b), (1, .ref (B + 0)), (2, .ref (B + 153 + 0)), (3, .int (nI i))]) (kk : ∀ (H : Heap) (locs : List Loc) (wx : WX) (wm : Mem), Rel wx wm → Gd s G (fun q => s.heap.size ≤ q) 153 B (entX G B wx) (pool 28 (B + 153) (entM G (B + 153) wm)) H locs → W p l e room_1 s m #[Value.ref b] below meth c H locs 181 4461 Q (F0 m 1502 ls [])) : W p l e room_1 s m #[Value.ref b] below meth c H locs 181 4461 Q (F0 m 787 ls []) := by
  obtain ⟨⟨v, wx'⟩, hv, ⟨u, wm'⟩, hu, heq, hR'⟩ := c_part (xs (i + 1)) (xs (i + 2)) (xs (i + 3)) hR
  have hbA : ¬ (fun q : Nat => s.heap.size ≤ q) b := Nat.not_le.mpr hbl
  refine lv_aload_n C.1 C.2.1 dl_787 rfl (lv_at hl 1 rfl) ?_
  refine rl_arg C hX hbl hbA hG.2.2 (i := i) (j := 1) hL (by omega) hl (by decide) dl_788 dl_789 dl_790 dl_791 dl_792 ?_
  refine rl_arg C hX hbl hbA hG.2.2 (i := i) (j := 2) hL (by omega) hl (by decide) dl_793 dl_794 dl_795 dl_796 dl_797 ?_
  refine rl_arg C hX hbl hbA hG.2.2 (i := i) (j := 3) hL (by omega) hl (by decide) dl_798 dl_799 dl_800 dl_801 dl_802 ?_
  refine rl_callV C hG hl.1 (c0 := 0) (As := [.int (xs (i + 1)), .int (xs (i + 2)), .int (xs (i + 3))]) (by decide) (entX_O8 (n := 13) rfl) rfl (mt_X8_part l hv) (cwV 3 C.2.2.2.2.1 (gd_V tg_3_71 tg_3_72 tg_3_73 tg_1_1 tg_3_74) rfl rfl rfl cd_X8_part ⟨Nat.le_of_ble_eq_true rfl, Nat.le_of_ble_eq_true rfl⟩) (Nat.le_of_ble_eq_true rfl) (Nat.le_of_ble_eq_true rfl) rfl rfl (Nat.le_of_ble_eq_true rfl) dl_803 (fun H locs hG => ?_)
  have hG := hG.swap
  refine lv_aload_n C.1 C.2.1 dl_806 rfl (lv_at hl 2 rfl) ?_
  refine rl_arg C hX hbl hbA hG.2.2 (i := i) (j := 1) hL (by omega) hl (by decide) dl_807 dl_808 dl_809 dl_810 dl_811 ?_
  refine rl_arg C hX hbl hbA hG.2.2 (i := i) (j := 2) hL (by omega) hl (by decide) dl_812 dl_813 dl_814 dl_815 dl_816 ?_
  refine rl_arg C hX hbl hbA hG.2.2 (i := i) (j := 3) hL (by omega) hl (by decide) dl_817 dl_818 dl_819 dl_820 dl_821 ?_
  refine rl_callV C hG hl.1 (c0 := 0) (As := [.int (xs (i + 1)), .int (xs (i + 2)), .int (xs (i + 3))]) (by decide) (entM_O (n := 35) rfl) rfl (mt_X9_part l hu) (cwV 3 C.2.2.2.2.1 (gd_V tg_5_149 tg_5_150 tg_5_151 tg_1_10 tg_5_152) rfl rfl rfl cd_X9_part ⟨Nat.le_of_ble_eq_true rfl, Nat.le_of_ble_eq_true rfl⟩) (Nat.le_of_ble_eq_true rfl) (Nat.le_of_ble_eq_true rfl) rfl rfl (Nat.le_of_ble_eq_true rfl) dl_822 (fun H locs hG => ?_)
  have hG := hG.swap
  refine lv_icmp_eq (tgt := 1502) C.1 C.2.1 dl_825 (by decide) (fun _ => ?_) (fun q => absurd heq q)
  exact kk H locs _ _ hR' hG
theorem dl_830 : decode code 830 = .ok (.aload_n 1, 1) := by decide +kernel
theorem dl_831 : decode code 831 = .ok (.aload_n 0, 1) := by decide +kernel
theorem dl_832 : decode code 832 = .ok (.iload_n 3, 1) := by decide +kernel
theorem dl_833 : decode code 833 = .ok (.iconst 1, 1) := by decide +kernel
theorem dl_834 : decode code 834 = .ok (.iadd, 1) := by decide +kernel
theorem dl_835 : decode code 835 = .ok (.iaload, 1) := by decide +kernel
theorem dl_836 : decode code 836 = .ok (.aload_n 0, 1) := by decide +kernel
theorem dl_837 : decode code 837 = .ok (.iload_n 3, 1) := by decide +kernel
theorem dl_838 : decode code 838 = .ok (.iconst 2, 1) := by decide +kernel
theorem dl_839 : decode code 839 = .ok (.iadd, 1) := by decide +kernel
theorem dl_840 : decode code 840 = .ok (.iaload, 1) := by decide +kernel
theorem dl_841 : decode code 841 = .ok (.invokevirtual 81, 3) := by decide +kernel
theorem dl_844 : decode code 844 = .ok (.aload_n 2, 1) := by decide +kernel
theorem dl_845 : decode code 845 = .ok (.aload_n 0, 1) := by decide +kernel
theorem dl_846 : decode code 846 = .ok (.iload_n 3, 1) := by decide +kernel
theorem dl_847 : decode code 847 = .ok (.iconst 1, 1) := by decide +kernel
theorem dl_848 : decode code 848 = .ok (.iadd, 1) := by decide +kernel
theorem dl_849 : decode code 849 = .ok (.iaload, 1) := by decide +kernel
theorem dl_850 : decode code 850 = .ok (.aload_n 0, 1) := by decide +kernel
theorem dl_851 : decode code 851 = .ok (.iload_n 3, 1) := by decide +kernel
theorem dl_852 : decode code 852 = .ok (.iconst 2, 1) := by decide +kernel
theorem dl_853 : decode code 853 = .ok (.iadd, 1) := by decide +kernel
theorem dl_854 : decode code 854 = .ok (.iaload, 1) := by decide +kernel
theorem dl_855 : decode code 855 = .ok (.invokevirtual 84, 3) := by decide +kernel
theorem dl_858 : decode code 858 = .ok (.if_icmp .eq 644, 3) := by decide +kernel
theorem dl_861 : decode code 861 = .ok (.iconst 0, 1) := by decide +kernel
theorem dl_862 : decode code 862 = .ok (.ireturn, 1) := by decide +kernel
set_option maxRecDepth 100000 in
set_option maxHeartbeats 2000000 in
theorem lc_16 {p : Program} (l : Launch) {e : Env} {s : State} {m : MethodId} {below : List Frame} {meth : Method} {c : Code} {H : Heap} {locs : List Loc} {Q : State → Prop} {ls : Array Slot} {G : GG} {B b L i : Nat} {xs : Nat → Int32} {wx : WX} {wm : Mem} (C : CX p s m #[Value.ref b] meth c code 4 R_law TL ret) (hX : va_X b L xs s s.heap) (hbl : b < s.heap.size) (hL : L ≤ 2560) (hi : i + 5 ≤ L) (hR : Rel wx wm) (hG : Gd s G (fun q => s.heap.size ≤ q) 153 B (entX G B wx) (pool 28 (B + 153) (entM G (B + 153) wm)) H locs) (hl : lv_has ls 4 [(0, .ref b), (1, .ref (B + 0)), (2, .ref (B + 153 + 0)), (3, .int (nI i))]) (kk : ∀ (H : Heap) (locs : List Loc) (wx : WX) (wm : Mem), Rel wx wm → Gd s G (fun q => s.heap.size ≤ q) 153 B (entX G B wx) (pool 28 (B + 153) (entM G (B + 153) wm)) H locs → W p l e room_1 s m #[Value.ref b] below meth c H locs 181 4461 Q (F0 m 1502 ls [])) : W p l e room_1 s m #[Value.ref b] below meth c H locs 181 4461 Q (F0 m 830 ls []) := by
  obtain ⟨⟨v, wx'⟩, hv, ⟨u, wm'⟩, hu, heq, hR'⟩ := c_rim (xs (i + 1)) (xs (i + 2)) hR
  have hbA : ¬ (fun q : Nat => s.heap.size ≤ q) b := Nat.not_le.mpr hbl
  refine lv_aload_n C.1 C.2.1 dl_830 rfl (lv_at hl 1 rfl) ?_
  refine rl_arg C hX hbl hbA hG.2.2 (i := i) (j := 1) hL (by omega) hl (by decide) dl_831 dl_832 dl_833 dl_834 dl_835 ?_
  refine rl_arg C hX hbl hbA hG.2.2 (i := i) (j := 2) hL (by omega) hl (by decide) dl_836 dl_837 dl_838 dl_839 dl_840 ?_
  refine rl_callV C hG hl.1 (c0 := 0) (As := [.int (xs (i + 1)), .int (xs (i + 2))]) (by decide) (entX_O8 (n := 13) rfl) rfl (mt_X8_rim l hv) (cwV 2 C.2.2.2.2.1 (gd_V tg_3_79 tg_3_80 tg_3_81 tg_1_1 tg_3_82) rfl rfl rfl cd_X8_rim ⟨Nat.le_of_ble_eq_true rfl, Nat.le_of_ble_eq_true rfl⟩) (Nat.le_of_ble_eq_true rfl) (Nat.le_of_ble_eq_true rfl) rfl rfl (Nat.le_of_ble_eq_true rfl) dl_841 (fun H locs hG => ?_)
  have hG := hG.swap
  refine lv_aload_n C.1 C.2.1 dl_844 rfl (lv_at hl 2 rfl) ?_
  refine rl_arg C hX hbl hbA hG.2.2 (i := i) (j := 1) hL (by omega) hl (by decide) dl_845 dl_846 dl_847 dl_848 dl_849 ?_
  refine rl_arg C hX hbl hbA hG.2.2 (i := i) (j := 2) hL (by omega) hl (by decide) dl_850 dl_851 dl_852 dl_853 dl_854 ?_
  refine rl_callV C hG hl.1 (c0 := 0) (As := [.int (xs (i + 1)), .int (xs (i + 2))]) (by decide) (entM_O (n := 35) rfl) rfl (mt_X9_rim l hu) (cwV 2 C.2.2.2.2.1 (gd_V tg_5_157 tg_5_158 tg_5_159 tg_1_10 tg_5_160) rfl rfl rfl cd_X9_rim ⟨Nat.le_of_ble_eq_true rfl, Nat.le_of_ble_eq_true rfl⟩) (Nat.le_of_ble_eq_true rfl) (Nat.le_of_ble_eq_true rfl) rfl rfl (Nat.le_of_ble_eq_true rfl) dl_855 (fun H locs hG => ?_)
  have hG := hG.swap
  refine lv_icmp_eq (tgt := 1502) C.1 C.2.1 dl_858 (by decide) (fun _ => ?_) (fun q => absurd heq q)
  exact kk H locs _ _ hR' hG
theorem dl_863 : decode code 863 = .ok (.aload_n 1, 1) := by decide +kernel
theorem dl_864 : decode code 864 = .ok (.aload_n 0, 1) := by decide +kernel
theorem dl_865 : decode code 865 = .ok (.iload_n 3, 1) := by decide +kernel
theorem dl_866 : decode code 866 = .ok (.iconst 1, 1) := by decide +kernel
theorem dl_867 : decode code 867 = .ok (.iadd, 1) := by decide +kernel
theorem dl_868 : decode code 868 = .ok (.iaload, 1) := by decide +kernel
theorem dl_869 : decode code 869 = .ok (.aload_n 0, 1) := by decide +kernel
theorem dl_870 : decode code 870 = .ok (.iload_n 3, 1) := by decide +kernel
theorem dl_871 : decode code 871 = .ok (.iconst 2, 1) := by decide +kernel
theorem dl_872 : decode code 872 = .ok (.iadd, 1) := by decide +kernel
theorem dl_873 : decode code 873 = .ok (.iaload, 1) := by decide +kernel
theorem dl_874 : decode code 874 = .ok (.invokevirtual 85, 3) := by decide +kernel
theorem dl_877 : decode code 877 = .ok (.aload_n 2, 1) := by decide +kernel
theorem dl_878 : decode code 878 = .ok (.aload_n 0, 1) := by decide +kernel
theorem dl_879 : decode code 879 = .ok (.iload_n 3, 1) := by decide +kernel
theorem dl_880 : decode code 880 = .ok (.iconst 1, 1) := by decide +kernel
theorem dl_881 : decode code 881 = .ok (.iadd, 1) := by decide +kernel
theorem dl_882 : decode code 882 = .ok (.iaload, 1) := by decide +kernel
theorem dl_883 : decode code 883 = .ok (.aload_n 0, 1) := by decide +kernel
theorem dl_884 : decode code 884 = .ok (.iload_n 3, 1) := by decide +kernel
theorem dl_885 : decode code 885 = .ok (.iconst 2, 1) := by decide +kernel
theorem dl_886 : decode code 886 = .ok (.iadd, 1) := by decide +kernel
theorem dl_887 : decode code 887 = .ok (.iaload, 1) := by decide +kernel
theorem dl_888 : decode code 888 = .ok (.invokevirtual 88, 3) := by decide +kernel
theorem dl_891 : decode code 891 = .ok (.if_icmp .eq 611, 3) := by decide +kernel
theorem dl_894 : decode code 894 = .ok (.iconst 0, 1) := by decide +kernel
theorem dl_895 : decode code 895 = .ok (.ireturn, 1) := by decide +kernel
set_option maxRecDepth 100000 in
set_option maxHeartbeats 2000000 in
theorem lc_17 {p : Program} (l : Launch) {e : Env} {s : State} {m : MethodId} {below : List Frame} {meth : Method} {c : Code} {H : Heap} {locs : List Loc} {Q : State → Prop} {ls : Array Slot} {G : GG} {B b L i : Nat} {xs : Nat → Int32} {wx : WX} {wm : Mem} (C : CX p s m #[Value.ref b] meth c code 4 R_law TL ret) (hX : va_X b L xs s s.heap) (hbl : b < s.heap.size) (hL : L ≤ 2560) (hi : i + 5 ≤ L) (hR : Rel wx wm) (hG : Gd s G (fun q => s.heap.size ≤ q) 153 B (entX G B wx) (pool 28 (B + 153) (entM G (B + 153) wm)) H locs) (hl : lv_has ls 4 [(0, .ref b), (1, .ref (B + 0)), (2, .ref (B + 153 + 0)), (3, .int (nI i))]) (kk : ∀ (H : Heap) (locs : List Loc) (wx : WX) (wm : Mem), Rel wx wm → Gd s G (fun q => s.heap.size ≤ q) 153 B (entX G B wx) (pool 28 (B + 153) (entM G (B + 153) wm)) H locs → W p l e room_1 s m #[Value.ref b] below meth c H locs 181 4461 Q (F0 m 1502 ls [])) : W p l e room_1 s m #[Value.ref b] below meth c H locs 181 4461 Q (F0 m 863 ls []) := by
  obtain ⟨⟨v, wx'⟩, hv, ⟨u, wm'⟩, hu, heq, hR'⟩ := c_match (xs (i + 1)) (xs (i + 2)) hR
  have hbA : ¬ (fun q : Nat => s.heap.size ≤ q) b := Nat.not_le.mpr hbl
  refine lv_aload_n C.1 C.2.1 dl_863 rfl (lv_at hl 1 rfl) ?_
  refine rl_arg C hX hbl hbA hG.2.2 (i := i) (j := 1) hL (by omega) hl (by decide) dl_864 dl_865 dl_866 dl_867 dl_868 ?_
  refine rl_arg C hX hbl hbA hG.2.2 (i := i) (j := 2) hL (by omega) hl (by decide) dl_869 dl_870 dl_871 dl_872 dl_873 ?_
  refine rl_callV C hG hl.1 (c0 := 0) (As := [.int (xs (i + 1)), .int (xs (i + 2))]) (by decide) (entX_O8 (n := 13) rfl) rfl (mt_X8_match l hv) (cwV 2 C.2.2.2.2.1 (gd_V tg_3_83 tg_3_84 tg_3_85 tg_1_1 tg_3_86) rfl rfl rfl cd_X8_match ⟨Nat.le_of_ble_eq_true rfl, Nat.le_of_ble_eq_true rfl⟩) (Nat.le_of_ble_eq_true rfl) (Nat.le_of_ble_eq_true rfl) rfl rfl (Nat.le_of_ble_eq_true rfl) dl_874 (fun H locs hG => ?_)
  have hG := hG.swap
  refine lv_aload_n C.1 C.2.1 dl_877 rfl (lv_at hl 2 rfl) ?_
  refine rl_arg C hX hbl hbA hG.2.2 (i := i) (j := 1) hL (by omega) hl (by decide) dl_878 dl_879 dl_880 dl_881 dl_882 ?_
  refine rl_arg C hX hbl hbA hG.2.2 (i := i) (j := 2) hL (by omega) hl (by decide) dl_883 dl_884 dl_885 dl_886 dl_887 ?_
  refine rl_callV C hG hl.1 (c0 := 0) (As := [.int (xs (i + 1)), .int (xs (i + 2))]) (by decide) (entM_O (n := 35) rfl) rfl (mt_X9_match l hu) (cwV 2 C.2.2.2.2.1 (gd_V tg_5_161 tg_5_162 tg_5_163 tg_1_10 tg_5_164) rfl rfl rfl cd_X9_match ⟨Nat.le_of_ble_eq_true rfl, Nat.le_of_ble_eq_true rfl⟩) (Nat.le_of_ble_eq_true rfl) (Nat.le_of_ble_eq_true rfl) rfl rfl (Nat.le_of_ble_eq_true rfl) dl_888 (fun H locs hG => ?_)
  have hG := hG.swap
  refine lv_icmp_eq (tgt := 1502) C.1 C.2.1 dl_891 (by decide) (fun _ => ?_) (fun q => absurd heq q)
  exact kk H locs _ _ hR' hG
