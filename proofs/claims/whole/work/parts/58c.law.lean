/-! the law: cases 18 to 26 -/
theorem dl_896 : decode code 896 = .ok (.aload_n 1, 1) := by decide +kernel
theorem dl_897 : decode code 897 = .ok (.aload_n 0, 1) := by decide +kernel
theorem dl_898 : decode code 898 = .ok (.iload_n 3, 1) := by decide +kernel
theorem dl_899 : decode code 899 = .ok (.iconst 1, 1) := by decide +kernel
theorem dl_900 : decode code 900 = .ok (.iadd, 1) := by decide +kernel
theorem dl_901 : decode code 901 = .ok (.iaload, 1) := by decide +kernel
theorem dl_902 : decode code 902 = .ok (.aload_n 0, 1) := by decide +kernel
theorem dl_903 : decode code 903 = .ok (.iload_n 3, 1) := by decide +kernel
theorem dl_904 : decode code 904 = .ok (.iconst 2, 1) := by decide +kernel
theorem dl_905 : decode code 905 = .ok (.iadd, 1) := by decide +kernel
theorem dl_906 : decode code 906 = .ok (.iaload, 1) := by decide +kernel
theorem dl_907 : decode code 907 = .ok (.aload_n 0, 1) := by decide +kernel
theorem dl_908 : decode code 908 = .ok (.iload_n 3, 1) := by decide +kernel
theorem dl_909 : decode code 909 = .ok (.iconst 3, 1) := by decide +kernel
theorem dl_910 : decode code 910 = .ok (.iadd, 1) := by decide +kernel
theorem dl_911 : decode code 911 = .ok (.iaload, 1) := by decide +kernel
theorem dl_912 : decode code 912 = .ok (.invokevirtual 89, 3) := by decide +kernel
theorem dl_915 : decode code 915 = .ok (.aload_n 2, 1) := by decide +kernel
theorem dl_916 : decode code 916 = .ok (.aload_n 0, 1) := by decide +kernel
theorem dl_917 : decode code 917 = .ok (.iload_n 3, 1) := by decide +kernel
theorem dl_918 : decode code 918 = .ok (.iconst 1, 1) := by decide +kernel
theorem dl_919 : decode code 919 = .ok (.iadd, 1) := by decide +kernel
theorem dl_920 : decode code 920 = .ok (.iaload, 1) := by decide +kernel
theorem dl_921 : decode code 921 = .ok (.aload_n 0, 1) := by decide +kernel
theorem dl_922 : decode code 922 = .ok (.iload_n 3, 1) := by decide +kernel
theorem dl_923 : decode code 923 = .ok (.iconst 2, 1) := by decide +kernel
theorem dl_924 : decode code 924 = .ok (.iadd, 1) := by decide +kernel
theorem dl_925 : decode code 925 = .ok (.iaload, 1) := by decide +kernel
theorem dl_926 : decode code 926 = .ok (.aload_n 0, 1) := by decide +kernel
theorem dl_927 : decode code 927 = .ok (.iload_n 3, 1) := by decide +kernel
theorem dl_928 : decode code 928 = .ok (.iconst 3, 1) := by decide +kernel
theorem dl_929 : decode code 929 = .ok (.iadd, 1) := by decide +kernel
theorem dl_930 : decode code 930 = .ok (.iaload, 1) := by decide +kernel
theorem dl_931 : decode code 931 = .ok (.invokevirtual 92, 3) := by decide +kernel
theorem dl_934 : decode code 934 = .ok (.if_icmp .eq 568, 3) := by decide +kernel
theorem dl_937 : decode code 937 = .ok (.iconst 0, 1) := by decide +kernel
theorem dl_938 : decode code 938 = .ok (.ireturn, 1) := by decide +kernel
set_option maxRecDepth 100000 in
set_option maxHeartbeats 2000000 in
theorem lc_18 {p : Program} (l : Launch) {e : Env} {s : State} {m : MethodId} {below : List Frame} {meth : Method} {c : Code} {H : Heap} {locs : List Loc} {Q : State → Prop} {ls : Array Slot} {G : GG} {B b L i : Nat} {xs : Nat → Int32} {wx : WX} {wm : Mem} (C : CX p s m #[Value.ref b] meth c code 4 R_law TL ret) (hX : va_X b L xs s s.heap) (hbl : b < s.heap.size) (hL : L ≤ 2560) (hi : i + 5 ≤ L) (hR : Rel wx wm) (hG : Gd s G (fun q => s.heap.size ≤ q) 153 B (entX G B wx) (pool 28 (B + 153) (entM G (B + 153) wm)) H locs) (hl : lv_has ls 4 [(0, .ref b), (1, .ref (B + 0)), (2, .ref (B + 153 + 0)), (3, .int (nI i))]) (kk : ∀ (H : Heap) (locs : List Loc) (wx : WX) (wm : Mem), Rel wx wm → Gd s G (fun q => s.heap.size ≤ q) 153 B (entX G B wx) (pool 28 (B + 153) (entM G (B + 153) wm)) H locs → W p l e room_1 s m #[Value.ref b] below meth c H locs 181 4461 Q (F0 m 1502 ls [])) : W p l e room_1 s m #[Value.ref b] below meth c H locs 181 4461 Q (F0 m 896 ls []) := by
  obtain ⟨⟨v, wx'⟩, hv, ⟨u, wm'⟩, hu, heq, hR'⟩ := c_sum (xs (i + 1)) (xs (i + 2)) (xs (i + 3)) hR
  have hbA : ¬ (fun q : Nat => s.heap.size ≤ q) b := Nat.not_le.mpr hbl
  refine lv_aload_n C.1 C.2.1 dl_896 rfl (lv_at hl 1 rfl) ?_
  refine rl_arg C hX hbl hbA hG.2.2 (i := i) (j := 1) hL (by omega) hl (by decide) dl_897 dl_898 dl_899 dl_900 dl_901 ?_
  refine rl_arg C hX hbl hbA hG.2.2 (i := i) (j := 2) hL (by omega) hl (by decide) dl_902 dl_903 dl_904 dl_905 dl_906 ?_
  refine rl_arg C hX hbl hbA hG.2.2 (i := i) (j := 3) hL (by omega) hl (by decide) dl_907 dl_908 dl_909 dl_910 dl_911 ?_
  refine rl_callV C hG hl.1 (c0 := 0) (As := [.int (xs (i + 1)), .int (xs (i + 2)), .int (xs (i + 3))]) (by decide) (entX_O8 (n := 13) rfl) rfl (mt_X8_sum l hv) (cwV 3 C.2.2.2.2.1 (gd_V tg_3_91 tg_3_92 tg_3_93 tg_1_1 tg_3_94) rfl rfl rfl cd_X8_sum ⟨Nat.le_of_ble_eq_true rfl, Nat.le_of_ble_eq_true rfl⟩) (Nat.le_of_ble_eq_true rfl) (Nat.le_of_ble_eq_true rfl) rfl rfl (Nat.le_of_ble_eq_true rfl) dl_912 (fun H locs hG => ?_)
  have hG := hG.swap
  refine lv_aload_n C.1 C.2.1 dl_915 rfl (lv_at hl 2 rfl) ?_
  refine rl_arg C hX hbl hbA hG.2.2 (i := i) (j := 1) hL (by omega) hl (by decide) dl_916 dl_917 dl_918 dl_919 dl_920 ?_
  refine rl_arg C hX hbl hbA hG.2.2 (i := i) (j := 2) hL (by omega) hl (by decide) dl_921 dl_922 dl_923 dl_924 dl_925 ?_
  refine rl_arg C hX hbl hbA hG.2.2 (i := i) (j := 3) hL (by omega) hl (by decide) dl_926 dl_927 dl_928 dl_929 dl_930 ?_
  refine rl_callV C hG hl.1 (c0 := 0) (As := [.int (xs (i + 1)), .int (xs (i + 2)), .int (xs (i + 3))]) (by decide) (entM_O (n := 35) rfl) rfl (mt_X9_sum l hu) (cwV 3 C.2.2.2.2.1 (gd_V tg_5_165 tg_5_166 tg_5_167 tg_1_10 tg_5_168) rfl rfl rfl cd_X9_sum ⟨Nat.le_of_ble_eq_true rfl, Nat.le_of_ble_eq_true rfl⟩) (Nat.le_of_ble_eq_true rfl) (Nat.le_of_ble_eq_true rfl) rfl rfl (Nat.le_of_ble_eq_true rfl) dl_931 (fun H locs hG => ?_)
  have hG := hG.swap
  refine lv_icmp_eq (tgt := 1502) C.1 C.2.1 dl_934 (by decide) (fun _ => ?_) (fun q => absurd heq q)
  exact kk H locs _ _ hR' hG
theorem dl_939 : decode code 939 = .ok (.aload_n 1, 1) := by decide +kernel
theorem dl_940 : decode code 940 = .ok (.aload_n 0, 1) := by decide +kernel
theorem dl_941 : decode code 941 = .ok (.iload_n 3, 1) := by decide +kernel
theorem dl_942 : decode code 942 = .ok (.iconst 1, 1) := by decide +kernel
theorem dl_943 : decode code 943 = .ok (.iadd, 1) := by decide +kernel
theorem dl_944 : decode code 944 = .ok (.iaload, 1) := by decide +kernel
theorem dl_945 : decode code 945 = .ok (.aload_n 0, 1) := by decide +kernel
theorem dl_946 : decode code 946 = .ok (.iload_n 3, 1) := by decide +kernel
theorem dl_947 : decode code 947 = .ok (.iconst 2, 1) := by decide +kernel
theorem dl_948 : decode code 948 = .ok (.iadd, 1) := by decide +kernel
theorem dl_949 : decode code 949 = .ok (.iaload, 1) := by decide +kernel
theorem dl_950 : decode code 950 = .ok (.aload_n 0, 1) := by decide +kernel
theorem dl_951 : decode code 951 = .ok (.iload_n 3, 1) := by decide +kernel
theorem dl_952 : decode code 952 = .ok (.iconst 3, 1) := by decide +kernel
theorem dl_953 : decode code 953 = .ok (.iadd, 1) := by decide +kernel
theorem dl_954 : decode code 954 = .ok (.iaload, 1) := by decide +kernel
theorem dl_955 : decode code 955 = .ok (.invokevirtual 93, 3) := by decide +kernel
theorem dl_958 : decode code 958 = .ok (.aload_n 2, 1) := by decide +kernel
theorem dl_959 : decode code 959 = .ok (.aload_n 0, 1) := by decide +kernel
theorem dl_960 : decode code 960 = .ok (.iload_n 3, 1) := by decide +kernel
theorem dl_961 : decode code 961 = .ok (.iconst 1, 1) := by decide +kernel
theorem dl_962 : decode code 962 = .ok (.iadd, 1) := by decide +kernel
theorem dl_963 : decode code 963 = .ok (.iaload, 1) := by decide +kernel
theorem dl_964 : decode code 964 = .ok (.aload_n 0, 1) := by decide +kernel
theorem dl_965 : decode code 965 = .ok (.iload_n 3, 1) := by decide +kernel
theorem dl_966 : decode code 966 = .ok (.iconst 2, 1) := by decide +kernel
theorem dl_967 : decode code 967 = .ok (.iadd, 1) := by decide +kernel
theorem dl_968 : decode code 968 = .ok (.iaload, 1) := by decide +kernel
theorem dl_969 : decode code 969 = .ok (.aload_n 0, 1) := by decide +kernel
theorem dl_970 : decode code 970 = .ok (.iload_n 3, 1) := by decide +kernel
theorem dl_971 : decode code 971 = .ok (.iconst 3, 1) := by decide +kernel
theorem dl_972 : decode code 972 = .ok (.iadd, 1) := by decide +kernel
theorem dl_973 : decode code 973 = .ok (.iaload, 1) := by decide +kernel
theorem dl_974 : decode code 974 = .ok (.invokevirtual 96, 3) := by decide +kernel
theorem dl_977 : decode code 977 = .ok (.if_icmp .eq 525, 3) := by decide +kernel
theorem dl_980 : decode code 980 = .ok (.iconst 0, 1) := by decide +kernel
theorem dl_981 : decode code 981 = .ok (.ireturn, 1) := by decide +kernel
set_option maxRecDepth 100000 in
set_option maxHeartbeats 2000000 in
theorem lc_19 {p : Program} (l : Launch) {e : Env} {s : State} {m : MethodId} {below : List Frame} {meth : Method} {c : Code} {H : Heap} {locs : List Loc} {Q : State → Prop} {ls : Array Slot} {G : GG} {B b L i : Nat} {xs : Nat → Int32} {wx : WX} {wm : Mem} (C : CX p s m #[Value.ref b] meth c code 4 R_law TL ret) (hX : va_X b L xs s s.heap) (hbl : b < s.heap.size) (hL : L ≤ 2560) (hi : i + 5 ≤ L) (hR : Rel wx wm) (hG : Gd s G (fun q => s.heap.size ≤ q) 153 B (entX G B wx) (pool 28 (B + 153) (entM G (B + 153) wm)) H locs) (hl : lv_has ls 4 [(0, .ref b), (1, .ref (B + 0)), (2, .ref (B + 153 + 0)), (3, .int (nI i))]) (kk : ∀ (H : Heap) (locs : List Loc) (wx : WX) (wm : Mem), Rel wx wm → Gd s G (fun q => s.heap.size ≤ q) 153 B (entX G B wx) (pool 28 (B + 153) (entM G (B + 153) wm)) H locs → W p l e room_1 s m #[Value.ref b] below meth c H locs 181 4461 Q (F0 m 1502 ls [])) : W p l e room_1 s m #[Value.ref b] below meth c H locs 181 4461 Q (F0 m 939 ls []) := by
  obtain ⟨⟨v, wx'⟩, hv, ⟨u, wm'⟩, hu, heq, hR'⟩ := c_total (xs (i + 1)) (xs (i + 2)) (xs (i + 3)) hR
  have hbA : ¬ (fun q : Nat => s.heap.size ≤ q) b := Nat.not_le.mpr hbl
  refine lv_aload_n C.1 C.2.1 dl_939 rfl (lv_at hl 1 rfl) ?_
  refine rl_arg C hX hbl hbA hG.2.2 (i := i) (j := 1) hL (by omega) hl (by decide) dl_940 dl_941 dl_942 dl_943 dl_944 ?_
  refine rl_arg C hX hbl hbA hG.2.2 (i := i) (j := 2) hL (by omega) hl (by decide) dl_945 dl_946 dl_947 dl_948 dl_949 ?_
  refine rl_arg C hX hbl hbA hG.2.2 (i := i) (j := 3) hL (by omega) hl (by decide) dl_950 dl_951 dl_952 dl_953 dl_954 ?_
  refine rl_callV C hG hl.1 (c0 := 0) (As := [.int (xs (i + 1)), .int (xs (i + 2)), .int (xs (i + 3))]) (by decide) (entX_O8 (n := 13) rfl) rfl (mt_X8_total l hv) (cwV 3 C.2.2.2.2.1 (gd_V tg_3_152 tg_3_153 tg_3_154 tg_1_1 tg_3_155) rfl rfl rfl cd_X8_total ⟨Nat.le_of_ble_eq_true rfl, Nat.le_of_ble_eq_true rfl⟩) (Nat.le_of_ble_eq_true rfl) (Nat.le_of_ble_eq_true rfl) rfl rfl (Nat.le_of_ble_eq_true rfl) dl_955 (fun H locs hG => ?_)
  have hG := hG.swap
  refine lv_aload_n C.1 C.2.1 dl_958 rfl (lv_at hl 2 rfl) ?_
  refine rl_arg C hX hbl hbA hG.2.2 (i := i) (j := 1) hL (by omega) hl (by decide) dl_959 dl_960 dl_961 dl_962 dl_963 ?_
  refine rl_arg C hX hbl hbA hG.2.2 (i := i) (j := 2) hL (by omega) hl (by decide) dl_964 dl_965 dl_966 dl_967 dl_968 ?_
  refine rl_arg C hX hbl hbA hG.2.2 (i := i) (j := 3) hL (by omega) hl (by decide) dl_969 dl_970 dl_971 dl_972 dl_973 ?_
  refine rl_callV C hG hl.1 (c0 := 0) (As := [.int (xs (i + 1)), .int (xs (i + 2)), .int (xs (i + 3))]) (by decide) (entM_O (n := 35) rfl) rfl (mt_X9_total l hu) (cwV 3 C.2.2.2.2.1 (gd_V tg_5_197 tg_5_198 tg_5_199 tg_1_10 tg_5_200) rfl rfl rfl cd_X9_total ⟨Nat.le_of_ble_eq_true rfl, Nat.le_of_ble_eq_true rfl⟩) (Nat.le_of_ble_eq_true rfl) (Nat.le_of_ble_eq_true rfl) rfl rfl (Nat.le_of_ble_eq_true rfl) dl_974 (fun H locs hG => ?_)
  have hG := hG.swap
  refine lv_icmp_eq (tgt := 1502) C.1 C.2.1 dl_977 (by decide) (fun _ => ?_) (fun q => absurd heq q)
  exact kk H locs _ _ hR' hG
theorem dl_982 : decode code 982 = .ok (.aload_n 1, 1) := by decide +kernel
theorem dl_983 : decode code 983 = .ok (.aload_n 0, 1) := by decide +kernel
theorem dl_984 : decode code 984 = .ok (.iload_n 3, 1) := by decide +kernel
theorem dl_985 : decode code 985 = .ok (.iconst 1, 1) := by decide +kernel
theorem dl_986 : decode code 986 = .ok (.iadd, 1) := by decide +kernel
theorem dl_987 : decode code 987 = .ok (.iaload, 1) := by decide +kernel
theorem dl_988 : decode code 988 = .ok (.aload_n 0, 1) := by decide +kernel
theorem dl_989 : decode code 989 = .ok (.iload_n 3, 1) := by decide +kernel
theorem dl_990 : decode code 990 = .ok (.iconst 2, 1) := by decide +kernel
theorem dl_991 : decode code 991 = .ok (.iadd, 1) := by decide +kernel
theorem dl_992 : decode code 992 = .ok (.iaload, 1) := by decide +kernel
theorem dl_993 : decode code 993 = .ok (.aload_n 0, 1) := by decide +kernel
theorem dl_994 : decode code 994 = .ok (.iload_n 3, 1) := by decide +kernel
theorem dl_995 : decode code 995 = .ok (.iconst 3, 1) := by decide +kernel
theorem dl_996 : decode code 996 = .ok (.iadd, 1) := by decide +kernel
theorem dl_997 : decode code 997 = .ok (.iaload, 1) := by decide +kernel
theorem dl_998 : decode code 998 = .ok (.invokevirtual 97, 3) := by decide +kernel
theorem dl_1001 : decode code 1001 = .ok (.aload_n 2, 1) := by decide +kernel
theorem dl_1002 : decode code 1002 = .ok (.aload_n 0, 1) := by decide +kernel
theorem dl_1003 : decode code 1003 = .ok (.iload_n 3, 1) := by decide +kernel
theorem dl_1004 : decode code 1004 = .ok (.iconst 1, 1) := by decide +kernel
theorem dl_1005 : decode code 1005 = .ok (.iadd, 1) := by decide +kernel
theorem dl_1006 : decode code 1006 = .ok (.iaload, 1) := by decide +kernel
theorem dl_1007 : decode code 1007 = .ok (.aload_n 0, 1) := by decide +kernel
theorem dl_1008 : decode code 1008 = .ok (.iload_n 3, 1) := by decide +kernel
theorem dl_1009 : decode code 1009 = .ok (.iconst 2, 1) := by decide +kernel
theorem dl_1010 : decode code 1010 = .ok (.iadd, 1) := by decide +kernel
theorem dl_1011 : decode code 1011 = .ok (.iaload, 1) := by decide +kernel
theorem dl_1012 : decode code 1012 = .ok (.aload_n 0, 1) := by decide +kernel
theorem dl_1013 : decode code 1013 = .ok (.iload_n 3, 1) := by decide +kernel
theorem dl_1014 : decode code 1014 = .ok (.iconst 3, 1) := by decide +kernel
theorem dl_1015 : decode code 1015 = .ok (.iadd, 1) := by decide +kernel
theorem dl_1016 : decode code 1016 = .ok (.iaload, 1) := by decide +kernel
theorem dl_1017 : decode code 1017 = .ok (.invokevirtual 100, 3) := by decide +kernel
theorem dl_1020 : decode code 1020 = .ok (.if_icmp .eq 482, 3) := by decide +kernel
theorem dl_1023 : decode code 1023 = .ok (.iconst 0, 1) := by decide +kernel
theorem dl_1024 : decode code 1024 = .ok (.ireturn, 1) := by decide +kernel
set_option maxRecDepth 100000 in
set_option maxHeartbeats 2000000 in
theorem lc_20 {p : Program} (l : Launch) {e : Env} {s : State} {m : MethodId} {below : List Frame} {meth : Method} {c : Code} {H : Heap} {locs : List Loc} {Q : State → Prop} {ls : Array Slot} {G : GG} {B b L i : Nat} {xs : Nat → Int32} {wx : WX} {wm : Mem} (C : CX p s m #[Value.ref b] meth c code 4 R_law TL ret) (hX : va_X b L xs s s.heap) (hbl : b < s.heap.size) (hL : L ≤ 2560) (hi : i + 5 ≤ L) (hR : Rel wx wm) (hG : Gd s G (fun q => s.heap.size ≤ q) 153 B (entX G B wx) (pool 28 (B + 153) (entM G (B + 153) wm)) H locs) (hl : lv_has ls 4 [(0, .ref b), (1, .ref (B + 0)), (2, .ref (B + 153 + 0)), (3, .int (nI i))]) (kk : ∀ (H : Heap) (locs : List Loc) (wx : WX) (wm : Mem), Rel wx wm → Gd s G (fun q => s.heap.size ≤ q) 153 B (entX G B wx) (pool 28 (B + 153) (entM G (B + 153) wm)) H locs → W p l e room_1 s m #[Value.ref b] below meth c H locs 181 4461 Q (F0 m 1502 ls [])) : W p l e room_1 s m #[Value.ref b] below meth c H locs 181 4461 Q (F0 m 982 ls []) := by
  obtain ⟨⟨v, wx'⟩, hv, ⟨u, wm'⟩, hu, heq, hR'⟩ := c_alike (xs (i + 1)) (xs (i + 2)) (xs (i + 3)) hR
  have hbA : ¬ (fun q : Nat => s.heap.size ≤ q) b := Nat.not_le.mpr hbl
  refine lv_aload_n C.1 C.2.1 dl_982 rfl (lv_at hl 1 rfl) ?_
  refine rl_arg C hX hbl hbA hG.2.2 (i := i) (j := 1) hL (by omega) hl (by decide) dl_983 dl_984 dl_985 dl_986 dl_987 ?_
  refine rl_arg C hX hbl hbA hG.2.2 (i := i) (j := 2) hL (by omega) hl (by decide) dl_988 dl_989 dl_990 dl_991 dl_992 ?_
  refine rl_arg C hX hbl hbA hG.2.2 (i := i) (j := 3) hL (by omega) hl (by decide) dl_993 dl_994 dl_995 dl_996 dl_997 ?_
  refine rl_callV C hG hl.1 (c0 := 0) (As := [.int (xs (i + 1)), .int (xs (i + 2)), .int (xs (i + 3))]) (by decide) (entX_O8 (n := 13) rfl) rfl (mt_X8_alike l hv) (cwV 3 C.2.2.2.2.1 (gd_V tg_3_169 tg_3_170 tg_3_171 tg_1_1 tg_3_172) rfl rfl rfl cd_X8_alike ⟨Nat.le_of_ble_eq_true rfl, Nat.le_of_ble_eq_true rfl⟩) (Nat.le_of_ble_eq_true rfl) (Nat.le_of_ble_eq_true rfl) rfl rfl (Nat.le_of_ble_eq_true rfl) dl_998 (fun H locs hG => ?_)
  have hG := hG.swap
  refine lv_aload_n C.1 C.2.1 dl_1001 rfl (lv_at hl 2 rfl) ?_
  refine rl_arg C hX hbl hbA hG.2.2 (i := i) (j := 1) hL (by omega) hl (by decide) dl_1002 dl_1003 dl_1004 dl_1005 dl_1006 ?_
  refine rl_arg C hX hbl hbA hG.2.2 (i := i) (j := 2) hL (by omega) hl (by decide) dl_1007 dl_1008 dl_1009 dl_1010 dl_1011 ?_
  refine rl_arg C hX hbl hbA hG.2.2 (i := i) (j := 3) hL (by omega) hl (by decide) dl_1012 dl_1013 dl_1014 dl_1015 dl_1016 ?_
  refine rl_callV C hG hl.1 (c0 := 0) (As := [.int (xs (i + 1)), .int (xs (i + 2)), .int (xs (i + 3))]) (by decide) (entM_O (n := 35) rfl) rfl (mt_X9_alike l hu) (cwV 3 C.2.2.2.2.1 (gd_V tg_5_205 tg_5_206 tg_5_207 tg_1_10 tg_5_208) rfl rfl rfl cd_X9_alike ⟨Nat.le_of_ble_eq_true rfl, Nat.le_of_ble_eq_true rfl⟩) (Nat.le_of_ble_eq_true rfl) (Nat.le_of_ble_eq_true rfl) rfl rfl (Nat.le_of_ble_eq_true rfl) dl_1017 (fun H locs hG => ?_)
  have hG := hG.swap
  refine lv_icmp_eq (tgt := 1502) C.1 C.2.1 dl_1020 (by decide) (fun _ => ?_) (fun q => absurd heq q)
  exact kk H locs _ _ hR' hG
theorem dl_1025 : decode code 1025 = .ok (.aload_n 1, 1) := by decide +kernel
theorem dl_1026 : decode code 1026 = .ok (.aload_n 0, 1) := by decide +kernel
theorem dl_1027 : decode code 1027 = .ok (.iload_n 3, 1) := by decide +kernel
theorem dl_1028 : decode code 1028 = .ok (.iconst 1, 1) := by decide +kernel
theorem dl_1029 : decode code 1029 = .ok (.iadd, 1) := by decide +kernel
theorem dl_1030 : decode code 1030 = .ok (.iaload, 1) := by decide +kernel
theorem dl_1031 : decode code 1031 = .ok (.aload_n 0, 1) := by decide +kernel
theorem dl_1032 : decode code 1032 = .ok (.iload_n 3, 1) := by decide +kernel
theorem dl_1033 : decode code 1033 = .ok (.iconst 2, 1) := by decide +kernel
theorem dl_1034 : decode code 1034 = .ok (.iadd, 1) := by decide +kernel
theorem dl_1035 : decode code 1035 = .ok (.iaload, 1) := by decide +kernel
theorem dl_1036 : decode code 1036 = .ok (.invokevirtual 101, 3) := by decide +kernel
theorem dl_1039 : decode code 1039 = .ok (.aload_n 2, 1) := by decide +kernel
theorem dl_1040 : decode code 1040 = .ok (.aload_n 0, 1) := by decide +kernel
theorem dl_1041 : decode code 1041 = .ok (.iload_n 3, 1) := by decide +kernel
theorem dl_1042 : decode code 1042 = .ok (.iconst 1, 1) := by decide +kernel
theorem dl_1043 : decode code 1043 = .ok (.iadd, 1) := by decide +kernel
theorem dl_1044 : decode code 1044 = .ok (.iaload, 1) := by decide +kernel
theorem dl_1045 : decode code 1045 = .ok (.aload_n 0, 1) := by decide +kernel
theorem dl_1046 : decode code 1046 = .ok (.iload_n 3, 1) := by decide +kernel
theorem dl_1047 : decode code 1047 = .ok (.iconst 2, 1) := by decide +kernel
theorem dl_1048 : decode code 1048 = .ok (.iadd, 1) := by decide +kernel
theorem dl_1049 : decode code 1049 = .ok (.iaload, 1) := by decide +kernel
theorem dl_1050 : decode code 1050 = .ok (.invokevirtual 104, 3) := by decide +kernel
theorem dl_1053 : decode code 1053 = .ok (.if_icmp .eq 449, 3) := by decide +kernel
theorem dl_1056 : decode code 1056 = .ok (.iconst 0, 1) := by decide +kernel
theorem dl_1057 : decode code 1057 = .ok (.ireturn, 1) := by decide +kernel
set_option maxRecDepth 100000 in
set_option maxHeartbeats 2000000 in
theorem lc_21 {p : Program} (l : Launch) {e : Env} {s : State} {m : MethodId} {below : List Frame} {meth : Method} {c : Code} {H : Heap} {locs : List Loc} {Q : State → Prop} {ls : Array Slot} {G : GG} {B b L i : Nat} {xs : Nat → Int32} {wx : WX} {wm : Mem} (C : CX p s m #[Value.ref b] meth c code 4 R_law TL ret) (hX : va_X b L xs s s.heap) (hbl : b < s.heap.size) (hL : L ≤ 2560) (hi : i + 5 ≤ L) (hR : Rel wx wm) (hG : Gd s G (fun q => s.heap.size ≤ q) 153 B (entX G B wx) (pool 28 (B + 153) (entM G (B + 153) wm)) H locs) (hl : lv_has ls 4 [(0, .ref b), (1, .ref (B + 0)), (2, .ref (B + 153 + 0)), (3, .int (nI i))]) (kk : ∀ (H : Heap) (locs : List Loc) (wx : WX) (wm : Mem), Rel wx wm → Gd s G (fun q => s.heap.size ≤ q) 153 B (entX G B wx) (pool 28 (B + 153) (entM G (B + 153) wm)) H locs → W p l e room_1 s m #[Value.ref b] below meth c H locs 181 4461 Q (F0 m 1502 ls [])) : W p l e room_1 s m #[Value.ref b] below meth c H locs 181 4461 Q (F0 m 1025 ls []) := by
  obtain ⟨⟨v, wx'⟩, hv, ⟨u, wm'⟩, hu, heq, hR'⟩ := c_glue (xs (i + 1)) (xs (i + 2)) hR
  have hbA : ¬ (fun q : Nat => s.heap.size ≤ q) b := Nat.not_le.mpr hbl
  refine lv_aload_n C.1 C.2.1 dl_1025 rfl (lv_at hl 1 rfl) ?_
  refine rl_arg C hX hbl hbA hG.2.2 (i := i) (j := 1) hL (by omega) hl (by decide) dl_1026 dl_1027 dl_1028 dl_1029 dl_1030 ?_
  refine rl_arg C hX hbl hbA hG.2.2 (i := i) (j := 2) hL (by omega) hl (by decide) dl_1031 dl_1032 dl_1033 dl_1034 dl_1035 ?_
  refine rl_callV C hG hl.1 (c0 := 0) (As := [.int (xs (i + 1)), .int (xs (i + 2))]) (by decide) (entX_O8 (n := 13) rfl) rfl (mt_X8_glue l hv) (cwV 2 C.2.2.2.2.1 (gd_V tg_3_177 tg_3_178 tg_3_179 tg_1_1 tg_3_180) rfl rfl rfl cd_X8_glue ⟨Nat.le_of_ble_eq_true rfl, Nat.le_of_ble_eq_true rfl⟩) (Nat.le_of_ble_eq_true rfl) (Nat.le_of_ble_eq_true rfl) rfl rfl (Nat.le_of_ble_eq_true rfl) dl_1036 (fun H locs hG => ?_)
  have hG := hG.swap
  refine lv_aload_n C.1 C.2.1 dl_1039 rfl (lv_at hl 2 rfl) ?_
  refine rl_arg C hX hbl hbA hG.2.2 (i := i) (j := 1) hL (by omega) hl (by decide) dl_1040 dl_1041 dl_1042 dl_1043 dl_1044 ?_
  refine rl_arg C hX hbl hbA hG.2.2 (i := i) (j := 2) hL (by omega) hl (by decide) dl_1045 dl_1046 dl_1047 dl_1048 dl_1049 ?_
  refine rl_callV C hG hl.1 (c0 := 0) (As := [.int (xs (i + 1)), .int (xs (i + 2))]) (by decide) (entM_O (n := 35) rfl) rfl (mt_X9_glue l hu) (cwV 2 C.2.2.2.2.1 (gd_V tg_5_209 tg_5_210 tg_5_211 tg_1_10 tg_5_212) rfl rfl rfl cd_X9_glue ⟨Nat.le_of_ble_eq_true rfl, Nat.le_of_ble_eq_true rfl⟩) (Nat.le_of_ble_eq_true rfl) (Nat.le_of_ble_eq_true rfl) rfl rfl (Nat.le_of_ble_eq_true rfl) dl_1050 (fun H locs hG => ?_)
  have hG := hG.swap
  refine lv_icmp_eq (tgt := 1502) C.1 C.2.1 dl_1053 (by decide) (fun _ => ?_) (fun q => absurd heq q)
  exact kk H locs _ _ hR' hG
theorem dl_1058 : decode code 1058 = .ok (.aload_n 1, 1) := by decide +kernel
theorem dl_1059 : decode code 1059 = .ok (.aload_n 0, 1) := by decide +kernel
theorem dl_1060 : decode code 1060 = .ok (.iload_n 3, 1) := by decide +kernel
theorem dl_1061 : decode code 1061 = .ok (.iconst 1, 1) := by decide +kernel
theorem dl_1062 : decode code 1062 = .ok (.iadd, 1) := by decide +kernel
theorem dl_1063 : decode code 1063 = .ok (.iaload, 1) := by decide +kernel
theorem dl_1064 : decode code 1064 = .ok (.aload_n 0, 1) := by decide +kernel
theorem dl_1065 : decode code 1065 = .ok (.iload_n 3, 1) := by decide +kernel
theorem dl_1066 : decode code 1066 = .ok (.iconst 2, 1) := by decide +kernel
theorem dl_1067 : decode code 1067 = .ok (.iadd, 1) := by decide +kernel
theorem dl_1068 : decode code 1068 = .ok (.iaload, 1) := by decide +kernel
theorem dl_1069 : decode code 1069 = .ok (.invokevirtual 105, 3) := by decide +kernel
theorem dl_1072 : decode code 1072 = .ok (.aload_n 2, 1) := by decide +kernel
theorem dl_1073 : decode code 1073 = .ok (.aload_n 0, 1) := by decide +kernel
theorem dl_1074 : decode code 1074 = .ok (.iload_n 3, 1) := by decide +kernel
theorem dl_1075 : decode code 1075 = .ok (.iconst 1, 1) := by decide +kernel
theorem dl_1076 : decode code 1076 = .ok (.iadd, 1) := by decide +kernel
theorem dl_1077 : decode code 1077 = .ok (.iaload, 1) := by decide +kernel
theorem dl_1078 : decode code 1078 = .ok (.aload_n 0, 1) := by decide +kernel
theorem dl_1079 : decode code 1079 = .ok (.iload_n 3, 1) := by decide +kernel
theorem dl_1080 : decode code 1080 = .ok (.iconst 2, 1) := by decide +kernel
theorem dl_1081 : decode code 1081 = .ok (.iadd, 1) := by decide +kernel
theorem dl_1082 : decode code 1082 = .ok (.iaload, 1) := by decide +kernel
theorem dl_1083 : decode code 1083 = .ok (.invokevirtual 108, 3) := by decide +kernel
theorem dl_1086 : decode code 1086 = .ok (.if_icmp .eq 416, 3) := by decide +kernel
theorem dl_1089 : decode code 1089 = .ok (.iconst 0, 1) := by decide +kernel
theorem dl_1090 : decode code 1090 = .ok (.ireturn, 1) := by decide +kernel
set_option maxRecDepth 100000 in
set_option maxHeartbeats 2000000 in
theorem lc_22 {p : Program} (l : Launch) {e : Env} {s : State} {m : MethodId} {below : List Frame} {meth : Method} {c : Code} {H : Heap} {locs : List Loc} {Q : State → Prop} {ls : Array Slot} {G : GG} {B b L i : Nat} {xs : Nat → Int32} {wx : WX} {wm : Mem} (C : CX p s m #[Value.ref b] meth c code 4 R_law TL ret) (hX : va_X b L xs s s.heap) (hbl : b < s.heap.size) (hL : L ≤ 2560) (hi : i + 5 ≤ L) (hR : Rel wx wm) (hG : Gd s G (fun q => s.heap.size ≤ q) 153 B (entX G B wx) (pool 28 (B + 153) (entM G (B + 153) wm)) H locs) (hl : lv_has ls 4 [(0, .ref b), (1, .ref (B + 0)), (2, .ref (B + 153 + 0)), (3, .int (nI i))]) (kk : ∀ (H : Heap) (locs : List Loc) (wx : WX) (wm : Mem), Rel wx wm → Gd s G (fun q => s.heap.size ≤ q) 153 B (entX G B wx) (pool 28 (B + 153) (entM G (B + 153) wm)) H locs → W p l e room_1 s m #[Value.ref b] below meth c H locs 181 4461 Q (F0 m 1502 ls [])) : W p l e room_1 s m #[Value.ref b] below meth c H locs 181 4461 Q (F0 m 1058 ls []) := by
  obtain ⟨⟨v, wx'⟩, hv, ⟨u, wm'⟩, hu, heq, hR'⟩ := c_cut (xs (i + 1)) (xs (i + 2)) hR
  have hbA : ¬ (fun q : Nat => s.heap.size ≤ q) b := Nat.not_le.mpr hbl
  refine lv_aload_n C.1 C.2.1 dl_1058 rfl (lv_at hl 1 rfl) ?_
  refine rl_arg C hX hbl hbA hG.2.2 (i := i) (j := 1) hL (by omega) hl (by decide) dl_1059 dl_1060 dl_1061 dl_1062 dl_1063 ?_
  refine rl_arg C hX hbl hbA hG.2.2 (i := i) (j := 2) hL (by omega) hl (by decide) dl_1064 dl_1065 dl_1066 dl_1067 dl_1068 ?_
  refine rl_callV C hG hl.1 (c0 := 0) (As := [.int (xs (i + 1)), .int (xs (i + 2))]) (by decide) (entX_O8 (n := 13) rfl) rfl (mt_X8_cut l hv) (cwV 2 C.2.2.2.2.1 (gd_V tg_3_194 tg_3_195 tg_3_196 tg_1_1 tg_3_197) rfl rfl rfl cd_X8_cut ⟨Nat.le_of_ble_eq_true rfl, Nat.le_of_ble_eq_true rfl⟩) (Nat.le_of_ble_eq_true rfl) (Nat.le_of_ble_eq_true rfl) rfl rfl (Nat.le_of_ble_eq_true rfl) dl_1069 (fun H locs hG => ?_)
  have hG := hG.swap
  refine lv_aload_n C.1 C.2.1 dl_1072 rfl (lv_at hl 2 rfl) ?_
  refine rl_arg C hX hbl hbA hG.2.2 (i := i) (j := 1) hL (by omega) hl (by decide) dl_1073 dl_1074 dl_1075 dl_1076 dl_1077 ?_
  refine rl_arg C hX hbl hbA hG.2.2 (i := i) (j := 2) hL (by omega) hl (by decide) dl_1078 dl_1079 dl_1080 dl_1081 dl_1082 ?_
  refine rl_callV C hG hl.1 (c0 := 0) (As := [.int (xs (i + 1)), .int (xs (i + 2))]) (by decide) (entM_O (n := 35) rfl) rfl (mt_X9_cut l hu) (cwV 2 C.2.2.2.2.1 (gd_V tg_5_221 tg_5_222 tg_5_223 tg_1_10 tg_5_224) rfl rfl rfl cd_X9_cut ⟨Nat.le_of_ble_eq_true rfl, Nat.le_of_ble_eq_true rfl⟩) (Nat.le_of_ble_eq_true rfl) (Nat.le_of_ble_eq_true rfl) rfl rfl (Nat.le_of_ble_eq_true rfl) dl_1083 (fun H locs hG => ?_)
  have hG := hG.swap
  refine lv_icmp_eq (tgt := 1502) C.1 C.2.1 dl_1086 (by decide) (fun _ => ?_) (fun q => absurd heq q)
  exact kk H locs _ _ hR' hG
theorem dl_1091 : decode code 1091 = .ok (.aload_n 1, 1) := by decide +kernel
theorem dl_1092 : decode code 1092 = .ok (.aload_n 0, 1) := by decide +kernel
theorem dl_1093 : decode code 1093 = .ok (.iload_n 3, 1) := by decide +kernel
theorem dl_1094 : decode code 1094 = .ok (.iconst 1, 1) := by decide +kernel
theorem dl_1095 : decode code 1095 = .ok (.iadd, 1) := by decide +kernel
theorem dl_1096 : decode code 1096 = .ok (.iaload, 1) := by decide +kernel
theorem dl_1097 : decode code 1097 = .ok (.aload_n 0, 1) := by decide +kernel
theorem dl_1098 : decode code 1098 = .ok (.iload_n 3, 1) := by decide +kernel
theorem dl_1099 : decode code 1099 = .ok (.iconst 2, 1) := by decide +kernel
theorem dl_1100 : decode code 1100 = .ok (.iadd, 1) := by decide +kernel
theorem dl_1101 : decode code 1101 = .ok (.iaload, 1) := by decide +kernel
theorem dl_1102 : decode code 1102 = .ok (.aload_n 0, 1) := by decide +kernel
theorem dl_1103 : decode code 1103 = .ok (.iload_n 3, 1) := by decide +kernel
theorem dl_1104 : decode code 1104 = .ok (.iconst 3, 1) := by decide +kernel
theorem dl_1105 : decode code 1105 = .ok (.iadd, 1) := by decide +kernel
theorem dl_1106 : decode code 1106 = .ok (.iaload, 1) := by decide +kernel
theorem dl_1107 : decode code 1107 = .ok (.invokevirtual 109, 3) := by decide +kernel
theorem dl_1110 : decode code 1110 = .ok (.aload_n 2, 1) := by decide +kernel
theorem dl_1111 : decode code 1111 = .ok (.aload_n 0, 1) := by decide +kernel
theorem dl_1112 : decode code 1112 = .ok (.iload_n 3, 1) := by decide +kernel
theorem dl_1113 : decode code 1113 = .ok (.iconst 1, 1) := by decide +kernel
theorem dl_1114 : decode code 1114 = .ok (.iadd, 1) := by decide +kernel
theorem dl_1115 : decode code 1115 = .ok (.iaload, 1) := by decide +kernel
theorem dl_1116 : decode code 1116 = .ok (.aload_n 0, 1) := by decide +kernel
theorem dl_1117 : decode code 1117 = .ok (.iload_n 3, 1) := by decide +kernel
theorem dl_1118 : decode code 1118 = .ok (.iconst 2, 1) := by decide +kernel
theorem dl_1119 : decode code 1119 = .ok (.iadd, 1) := by decide +kernel
theorem dl_1120 : decode code 1120 = .ok (.iaload, 1) := by decide +kernel
theorem dl_1121 : decode code 1121 = .ok (.aload_n 0, 1) := by decide +kernel
theorem dl_1122 : decode code 1122 = .ok (.iload_n 3, 1) := by decide +kernel
theorem dl_1123 : decode code 1123 = .ok (.iconst 3, 1) := by decide +kernel
theorem dl_1124 : decode code 1124 = .ok (.iadd, 1) := by decide +kernel
theorem dl_1125 : decode code 1125 = .ok (.iaload, 1) := by decide +kernel
theorem dl_1126 : decode code 1126 = .ok (.invokevirtual 112, 3) := by decide +kernel
theorem dl_1129 : decode code 1129 = .ok (.if_icmp .eq 373, 3) := by decide +kernel
theorem dl_1132 : decode code 1132 = .ok (.iconst 0, 1) := by decide +kernel
theorem dl_1133 : decode code 1133 = .ok (.ireturn, 1) := by decide +kernel
set_option maxRecDepth 100000 in
set_option maxHeartbeats 2000000 in
theorem lc_23 {p : Program} (l : Launch) {e : Env} {s : State} {m : MethodId} {below : List Frame} {meth : Method} {c : Code} {H : Heap} {locs : List Loc} {Q : State → Prop} {ls : Array Slot} {G : GG} {B b L i : Nat} {xs : Nat → Int32} {wx : WX} {wm : Mem} (C : CX p s m #[Value.ref b] meth c code 4 R_law TL ret) (hX : va_X b L xs s s.heap) (hbl : b < s.heap.size) (hL : L ≤ 2560) (hi : i + 5 ≤ L) (hR : Rel wx wm) (hG : Gd s G (fun q => s.heap.size ≤ q) 153 B (entX G B wx) (pool 28 (B + 153) (entM G (B + 153) wm)) H locs) (hl : lv_has ls 4 [(0, .ref b), (1, .ref (B + 0)), (2, .ref (B + 153 + 0)), (3, .int (nI i))]) (kk : ∀ (H : Heap) (locs : List Loc) (wx : WX) (wm : Mem), Rel wx wm → Gd s G (fun q => s.heap.size ≤ q) 153 B (entX G B wx) (pool 28 (B + 153) (entM G (B + 153) wm)) H locs → W p l e room_1 s m #[Value.ref b] below meth c H locs 181 4461 Q (F0 m 1502 ls [])) : W p l e room_1 s m #[Value.ref b] below meth c H locs 181 4461 Q (F0 m 1091 ls []) := by
  obtain ⟨⟨v, wx'⟩, hv, ⟨u, wm'⟩, hu, heq, hR'⟩ := c_draws (xs (i + 1)) (xs (i + 2)) (xs (i + 3)) hR
  have hbA : ¬ (fun q : Nat => s.heap.size ≤ q) b := Nat.not_le.mpr hbl
  refine lv_aload_n C.1 C.2.1 dl_1091 rfl (lv_at hl 1 rfl) ?_
  refine rl_arg C hX hbl hbA hG.2.2 (i := i) (j := 1) hL (by omega) hl (by decide) dl_1092 dl_1093 dl_1094 dl_1095 dl_1096 ?_
  refine rl_arg C hX hbl hbA hG.2.2 (i := i) (j := 2) hL (by omega) hl (by decide) dl_1097 dl_1098 dl_1099 dl_1100 dl_1101 ?_
  refine rl_arg C hX hbl hbA hG.2.2 (i := i) (j := 3) hL (by omega) hl (by decide) dl_1102 dl_1103 dl_1104 dl_1105 dl_1106 ?_
  refine rl_callV C hG hl.1 (c0 := 0) (As := [.int (xs (i + 1)), .int (xs (i + 2)), .int (xs (i + 3))]) (by decide) (entX_O8 (n := 13) rfl) rfl (mt_X8_draws l hv) (cwV 3 C.2.2.2.2.1 (gd_V tg_3_199 tg_3_200 tg_3_201 tg_1_1 tg_3_202) rfl rfl rfl cd_X8_draws ⟨Nat.le_of_ble_eq_true rfl, Nat.le_of_ble_eq_true rfl⟩) (Nat.le_of_ble_eq_true rfl) (Nat.le_of_ble_eq_true rfl) rfl rfl (Nat.le_of_ble_eq_true rfl) dl_1107 (fun H locs hG => ?_)
  have hG := hG.swap
  refine lv_aload_n C.1 C.2.1 dl_1110 rfl (lv_at hl 2 rfl) ?_
  refine rl_arg C hX hbl hbA hG.2.2 (i := i) (j := 1) hL (by omega) hl (by decide) dl_1111 dl_1112 dl_1113 dl_1114 dl_1115 ?_
  refine rl_arg C hX hbl hbA hG.2.2 (i := i) (j := 2) hL (by omega) hl (by decide) dl_1116 dl_1117 dl_1118 dl_1119 dl_1120 ?_
  refine rl_arg C hX hbl hbA hG.2.2 (i := i) (j := 3) hL (by omega) hl (by decide) dl_1121 dl_1122 dl_1123 dl_1124 dl_1125 ?_
  refine rl_callV C hG hl.1 (c0 := 0) (As := [.int (xs (i + 1)), .int (xs (i + 2)), .int (xs (i + 3))]) (by decide) (entM_O (n := 35) rfl) rfl (mt_X9_draws_ l hu) (cwV 3 C.2.2.2.2.1 (gd_V tg_5_225 tg_5_226 tg_5_227 tg_1_10 tg_5_228) rfl rfl rfl cd_X9_draws_ ⟨Nat.le_of_ble_eq_true rfl, Nat.le_of_ble_eq_true rfl⟩) (Nat.le_of_ble_eq_true rfl) (Nat.le_of_ble_eq_true rfl) rfl rfl (Nat.le_of_ble_eq_true rfl) dl_1126 (fun H locs hG => ?_)
  have hG := hG.swap
  refine lv_icmp_eq (tgt := 1502) C.1 C.2.1 dl_1129 (by decide) (fun _ => ?_) (fun q => absurd heq q)
  exact kk H locs _ _ hR' hG
theorem dl_1134 : decode code 1134 = .ok (.aload_n 1, 1) := by decide +kernel
theorem dl_1135 : decode code 1135 = .ok (.aload_n 0, 1) := by decide +kernel
theorem dl_1136 : decode code 1136 = .ok (.iload_n 3, 1) := by decide +kernel
theorem dl_1137 : decode code 1137 = .ok (.iconst 1, 1) := by decide +kernel
theorem dl_1138 : decode code 1138 = .ok (.iadd, 1) := by decide +kernel
theorem dl_1139 : decode code 1139 = .ok (.iaload, 1) := by decide +kernel
theorem dl_1140 : decode code 1140 = .ok (.aload_n 0, 1) := by decide +kernel
theorem dl_1141 : decode code 1141 = .ok (.iload_n 3, 1) := by decide +kernel
theorem dl_1142 : decode code 1142 = .ok (.iconst 2, 1) := by decide +kernel
theorem dl_1143 : decode code 1143 = .ok (.iadd, 1) := by decide +kernel
theorem dl_1144 : decode code 1144 = .ok (.iaload, 1) := by decide +kernel
theorem dl_1145 : decode code 1145 = .ok (.aload_n 0, 1) := by decide +kernel
theorem dl_1146 : decode code 1146 = .ok (.iload_n 3, 1) := by decide +kernel
theorem dl_1147 : decode code 1147 = .ok (.iconst 3, 1) := by decide +kernel
theorem dl_1148 : decode code 1148 = .ok (.iadd, 1) := by decide +kernel
theorem dl_1149 : decode code 1149 = .ok (.iaload, 1) := by decide +kernel
theorem dl_1150 : decode code 1150 = .ok (.aload_n 0, 1) := by decide +kernel
theorem dl_1151 : decode code 1151 = .ok (.iload_n 3, 1) := by decide +kernel
theorem dl_1152 : decode code 1152 = .ok (.iconst 4, 1) := by decide +kernel
theorem dl_1153 : decode code 1153 = .ok (.iadd, 1) := by decide +kernel
theorem dl_1154 : decode code 1154 = .ok (.iaload, 1) := by decide +kernel
theorem dl_1155 : decode code 1155 = .ok (.invokevirtual 113, 3) := by decide +kernel
theorem dl_1158 : decode code 1158 = .ok (.aload_n 2, 1) := by decide +kernel
theorem dl_1159 : decode code 1159 = .ok (.aload_n 0, 1) := by decide +kernel
theorem dl_1160 : decode code 1160 = .ok (.iload_n 3, 1) := by decide +kernel
theorem dl_1161 : decode code 1161 = .ok (.iconst 1, 1) := by decide +kernel
theorem dl_1162 : decode code 1162 = .ok (.iadd, 1) := by decide +kernel
theorem dl_1163 : decode code 1163 = .ok (.iaload, 1) := by decide +kernel
theorem dl_1164 : decode code 1164 = .ok (.aload_n 0, 1) := by decide +kernel
theorem dl_1165 : decode code 1165 = .ok (.iload_n 3, 1) := by decide +kernel
theorem dl_1166 : decode code 1166 = .ok (.iconst 2, 1) := by decide +kernel
theorem dl_1167 : decode code 1167 = .ok (.iadd, 1) := by decide +kernel
theorem dl_1168 : decode code 1168 = .ok (.iaload, 1) := by decide +kernel
theorem dl_1169 : decode code 1169 = .ok (.aload_n 0, 1) := by decide +kernel
theorem dl_1170 : decode code 1170 = .ok (.iload_n 3, 1) := by decide +kernel
theorem dl_1171 : decode code 1171 = .ok (.iconst 3, 1) := by decide +kernel
theorem dl_1172 : decode code 1172 = .ok (.iadd, 1) := by decide +kernel
theorem dl_1173 : decode code 1173 = .ok (.iaload, 1) := by decide +kernel
theorem dl_1174 : decode code 1174 = .ok (.aload_n 0, 1) := by decide +kernel
theorem dl_1175 : decode code 1175 = .ok (.iload_n 3, 1) := by decide +kernel
theorem dl_1176 : decode code 1176 = .ok (.iconst 4, 1) := by decide +kernel
theorem dl_1177 : decode code 1177 = .ok (.iadd, 1) := by decide +kernel
theorem dl_1178 : decode code 1178 = .ok (.iaload, 1) := by decide +kernel
theorem dl_1179 : decode code 1179 = .ok (.invokevirtual 117, 3) := by decide +kernel
theorem dl_1182 : decode code 1182 = .ok (.lcmp, 1) := by decide +kernel
theorem dl_1183 : decode code 1183 = .ok (.ifCond .eq 319, 3) := by decide +kernel
theorem dl_1186 : decode code 1186 = .ok (.iconst 0, 1) := by decide +kernel
theorem dl_1187 : decode code 1187 = .ok (.ireturn, 1) := by decide +kernel
set_option maxRecDepth 100000 in
set_option maxHeartbeats 2000000 in
theorem lc_24 {p : Program} (l : Launch) {e : Env} {s : State} {m : MethodId} {below : List Frame} {meth : Method} {c : Code} {H : Heap} {locs : List Loc} {Q : State → Prop} {ls : Array Slot} {G : GG} {B b L i : Nat} {xs : Nat → Int32} {wx : WX} {wm : Mem} (C : CX p s m #[Value.ref b] meth c code 4 R_law TL ret) (hX : va_X b L xs s s.heap) (hbl : b < s.heap.size) (hL : L ≤ 2560) (hi : i + 5 ≤ L) (hR : Rel wx wm) (hG : Gd s G (fun q => s.heap.size ≤ q) 153 B (entX G B wx) (pool 28 (B + 153) (entM G (B + 153) wm)) H locs) (hl : lv_has ls 4 [(0, .ref b), (1, .ref (B + 0)), (2, .ref (B + 153 + 0)), (3, .int (nI i))]) (kk : ∀ (H : Heap) (locs : List Loc) (wx : WX) (wm : Mem), Rel wx wm → Gd s G (fun q => s.heap.size ≤ q) 153 B (entX G B wx) (pool 28 (B + 153) (entM G (B + 153) wm)) H locs → W p l e room_1 s m #[Value.ref b] below meth c H locs 181 4461 Q (F0 m 1502 ls [])) : W p l e room_1 s m #[Value.ref b] below meth c H locs 181 4461 Q (F0 m 1134 ls []) := by
  obtain ⟨⟨v, wx'⟩, hv, ⟨u, wm'⟩, hu, heq, hR'⟩ := c_odds (xs (i + 1)) (xs (i + 2)) (xs (i + 3)) (xs (i + 4)) hR
  have hbA : ¬ (fun q : Nat => s.heap.size ≤ q) b := Nat.not_le.mpr hbl
  refine lv_aload_n C.1 C.2.1 dl_1134 rfl (lv_at hl 1 rfl) ?_
  refine rl_arg C hX hbl hbA hG.2.2 (i := i) (j := 1) hL (by omega) hl (by decide) dl_1135 dl_1136 dl_1137 dl_1138 dl_1139 ?_
  refine rl_arg C hX hbl hbA hG.2.2 (i := i) (j := 2) hL (by omega) hl (by decide) dl_1140 dl_1141 dl_1142 dl_1143 dl_1144 ?_
  refine rl_arg C hX hbl hbA hG.2.2 (i := i) (j := 3) hL (by omega) hl (by decide) dl_1145 dl_1146 dl_1147 dl_1148 dl_1149 ?_
  refine rl_arg C hX hbl hbA hG.2.2 (i := i) (j := 4) hL (by omega) hl (by decide) dl_1150 dl_1151 dl_1152 dl_1153 dl_1154 ?_
  refine rl_callV C hG hl.1 (c0 := 0) (As := [.int (xs (i + 1)), .int (xs (i + 2)), .int (xs (i + 3)), .int (xs (i + 4))]) (by decide) (entX_O8 (n := 13) rfl) rfl (mt_X8_odds l hv) (cwV 4 C.2.2.2.2.1 (gd_V tg_3_208 tg_3_209 tg_3_210 tg_1_1 tg_3_211) rfl rfl rfl cd_X8_odds ⟨Nat.le_of_ble_eq_true rfl, Nat.le_of_ble_eq_true rfl⟩) (Nat.le_of_ble_eq_true rfl) (Nat.le_of_ble_eq_true rfl) rfl rfl (Nat.le_of_ble_eq_true rfl) dl_1155 (fun H locs hG => ?_)
  have hG := hG.swap
  refine lv_aload_n C.1 C.2.1 dl_1158 rfl (lv_at hl 2 rfl) ?_
  refine rl_arg C hX hbl hbA hG.2.2 (i := i) (j := 1) hL (by omega) hl (by decide) dl_1159 dl_1160 dl_1161 dl_1162 dl_1163 ?_
  refine rl_arg C hX hbl hbA hG.2.2 (i := i) (j := 2) hL (by omega) hl (by decide) dl_1164 dl_1165 dl_1166 dl_1167 dl_1168 ?_
  refine rl_arg C hX hbl hbA hG.2.2 (i := i) (j := 3) hL (by omega) hl (by decide) dl_1169 dl_1170 dl_1171 dl_1172 dl_1173 ?_
  refine rl_arg C hX hbl hbA hG.2.2 (i := i) (j := 4) hL (by omega) hl (by decide) dl_1174 dl_1175 dl_1176 dl_1177 dl_1178 ?_
  refine rl_callV C hG hl.1 (c0 := 0) (As := [.int (xs (i + 1)), .int (xs (i + 2)), .int (xs (i + 3)), .int (xs (i + 4))]) (by decide) (entM_O (n := 35) rfl) rfl (mt_X9_odds l hu) (cwV 4 C.2.2.2.2.1 (gd_V tg_5_235 tg_5_236 tg_5_237 tg_1_10 tg_5_238) rfl rfl rfl cd_X9_odds ⟨Nat.le_of_ble_eq_true rfl, Nat.le_of_ble_eq_true rfl⟩) (Nat.le_of_ble_eq_true rfl) (Nat.le_of_ble_eq_true rfl) rfl rfl (Nat.le_of_ble_eq_true rfl) dl_1179 (fun H locs hG => ?_)
  have hG := hG.swap
  refine W.lcmp C.1 C.2.1 dl_1182 ?_
  refine lv_if_eq (tgt := 1502) C.1 C.2.1 dl_1183 (by decide) (fun _ => ?_) (fun q => absurd (by have heq : v = u := heq; rw [heq]; exact lg_same) q)
  exact kk H locs _ _ hR' hG
theorem dl_1188 : decode code 1188 = .ok (.aload_n 1, 1) := by decide +kernel
theorem dl_1189 : decode code 1189 = .ok (.aload_n 0, 1) := by decide +kernel
theorem dl_1190 : decode code 1190 = .ok (.iload_n 3, 1) := by decide +kernel
theorem dl_1191 : decode code 1191 = .ok (.iconst 1, 1) := by decide +kernel
theorem dl_1192 : decode code 1192 = .ok (.iadd, 1) := by decide +kernel
theorem dl_1193 : decode code 1193 = .ok (.iaload, 1) := by decide +kernel
theorem dl_1194 : decode code 1194 = .ok (.aload_n 0, 1) := by decide +kernel
theorem dl_1195 : decode code 1195 = .ok (.iload_n 3, 1) := by decide +kernel
theorem dl_1196 : decode code 1196 = .ok (.iconst 2, 1) := by decide +kernel
theorem dl_1197 : decode code 1197 = .ok (.iadd, 1) := by decide +kernel
theorem dl_1198 : decode code 1198 = .ok (.iaload, 1) := by decide +kernel
theorem dl_1199 : decode code 1199 = .ok (.invokevirtual 118, 3) := by decide +kernel
theorem dl_1202 : decode code 1202 = .ok (.aload_n 2, 1) := by decide +kernel
theorem dl_1203 : decode code 1203 = .ok (.aload_n 0, 1) := by decide +kernel
theorem dl_1204 : decode code 1204 = .ok (.iload_n 3, 1) := by decide +kernel
theorem dl_1205 : decode code 1205 = .ok (.iconst 1, 1) := by decide +kernel
theorem dl_1206 : decode code 1206 = .ok (.iadd, 1) := by decide +kernel
theorem dl_1207 : decode code 1207 = .ok (.iaload, 1) := by decide +kernel
theorem dl_1208 : decode code 1208 = .ok (.aload_n 0, 1) := by decide +kernel
theorem dl_1209 : decode code 1209 = .ok (.iload_n 3, 1) := by decide +kernel
theorem dl_1210 : decode code 1210 = .ok (.iconst 2, 1) := by decide +kernel
theorem dl_1211 : decode code 1211 = .ok (.iadd, 1) := by decide +kernel
theorem dl_1212 : decode code 1212 = .ok (.iaload, 1) := by decide +kernel
theorem dl_1213 : decode code 1213 = .ok (.invokevirtual 121, 3) := by decide +kernel
theorem dl_1216 : decode code 1216 = .ok (.if_icmp .eq 286, 3) := by decide +kernel
theorem dl_1219 : decode code 1219 = .ok (.iconst 0, 1) := by decide +kernel
theorem dl_1220 : decode code 1220 = .ok (.ireturn, 1) := by decide +kernel
set_option maxRecDepth 100000 in
set_option maxHeartbeats 2000000 in
theorem lc_25 {p : Program} (l : Launch) {e : Env} {s : State} {m : MethodId} {below : List Frame} {meth : Method} {c : Code} {H : Heap} {locs : List Loc} {Q : State → Prop} {ls : Array Slot} {G : GG} {B b L i : Nat} {xs : Nat → Int32} {wx : WX} {wm : Mem} (C : CX p s m #[Value.ref b] meth c code 4 R_law TL ret) (hX : va_X b L xs s s.heap) (hbl : b < s.heap.size) (hL : L ≤ 2560) (hi : i + 5 ≤ L) (hR : Rel wx wm) (hG : Gd s G (fun q => s.heap.size ≤ q) 153 B (entX G B wx) (pool 28 (B + 153) (entM G (B + 153) wm)) H locs) (hl : lv_has ls 4 [(0, .ref b), (1, .ref (B + 0)), (2, .ref (B + 153 + 0)), (3, .int (nI i))]) (kk : ∀ (H : Heap) (locs : List Loc) (wx : WX) (wm : Mem), Rel wx wm → Gd s G (fun q => s.heap.size ≤ q) 153 B (entX G B wx) (pool 28 (B + 153) (entM G (B + 153) wm)) H locs → W p l e room_1 s m #[Value.ref b] below meth c H locs 181 4461 Q (F0 m 1502 ls [])) : W p l e room_1 s m #[Value.ref b] below meth c H locs 181 4461 Q (F0 m 1188 ls []) := by
  obtain ⟨⟨v, wx'⟩, hv, ⟨u, wm'⟩, hu, heq, hR'⟩ := c_plan (xs (i + 1)) (xs (i + 2)) hR
  have hbA : ¬ (fun q : Nat => s.heap.size ≤ q) b := Nat.not_le.mpr hbl
  refine lv_aload_n C.1 C.2.1 dl_1188 rfl (lv_at hl 1 rfl) ?_
  refine rl_arg C hX hbl hbA hG.2.2 (i := i) (j := 1) hL (by omega) hl (by decide) dl_1189 dl_1190 dl_1191 dl_1192 dl_1193 ?_
  refine rl_arg C hX hbl hbA hG.2.2 (i := i) (j := 2) hL (by omega) hl (by decide) dl_1194 dl_1195 dl_1196 dl_1197 dl_1198 ?_
  refine rl_callV C hG hl.1 (c0 := 0) (As := [.int (xs (i + 1)), .int (xs (i + 2))]) (by decide) (entX_O8 (n := 13) rfl) rfl (mt_X8_plan l hv) (cwV 2 C.2.2.2.2.1 (gd_V tg_3_216 tg_3_217 tg_3_218 tg_1_1 tg_3_219) rfl rfl rfl cd_X8_plan ⟨Nat.le_of_ble_eq_true rfl, Nat.le_of_ble_eq_true rfl⟩) (Nat.le_of_ble_eq_true rfl) (Nat.le_of_ble_eq_true rfl) rfl rfl (Nat.le_of_ble_eq_true rfl) dl_1199 (fun H locs hG => ?_)
  have hG := hG.swap
  refine lv_aload_n C.1 C.2.1 dl_1202 rfl (lv_at hl 2 rfl) ?_
  refine rl_arg C hX hbl hbA hG.2.2 (i := i) (j := 1) hL (by omega) hl (by decide) dl_1203 dl_1204 dl_1205 dl_1206 dl_1207 ?_
  refine rl_arg C hX hbl hbA hG.2.2 (i := i) (j := 2) hL (by omega) hl (by decide) dl_1208 dl_1209 dl_1210 dl_1211 dl_1212 ?_
  refine rl_callV C hG hl.1 (c0 := 0) (As := [.int (xs (i + 1)), .int (xs (i + 2))]) (by decide) (entM_O (n := 35) rfl) rfl (mt_X9_plan l hu) (cwV 2 C.2.2.2.2.1 (gd_V tg_6_4 tg_6_5 tg_6_6 tg_1_10 tg_6_7) rfl rfl rfl cd_X9_plan ⟨Nat.le_of_ble_eq_true rfl, Nat.le_of_ble_eq_true rfl⟩) (Nat.le_of_ble_eq_true rfl) (Nat.le_of_ble_eq_true rfl) rfl rfl (Nat.le_of_ble_eq_true rfl) dl_1213 (fun H locs hG => ?_)
  have hG := hG.swap
  refine lv_icmp_eq (tgt := 1502) C.1 C.2.1 dl_1216 (by decide) (fun _ => ?_) (fun q => absurd heq q)
  exact kk H locs _ _ hR' hG
theorem dl_1221 : decode code 1221 = .ok (.aload_n 1, 1) := by decide +kernel
theorem dl_1222 : decode code 1222 = .ok (.aload_n 0, 1) := by decide +kernel
theorem dl_1223 : decode code 1223 = .ok (.iload_n 3, 1) := by decide +kernel
theorem dl_1224 : decode code 1224 = .ok (.iconst 1, 1) := by decide +kernel
theorem dl_1225 : decode code 1225 = .ok (.iadd, 1) := by decide +kernel
theorem dl_1226 : decode code 1226 = .ok (.iaload, 1) := by decide +kernel
theorem dl_1227 : decode code 1227 = .ok (.aload_n 0, 1) := by decide +kernel
theorem dl_1228 : decode code 1228 = .ok (.iload_n 3, 1) := by decide +kernel
theorem dl_1229 : decode code 1229 = .ok (.iconst 2, 1) := by decide +kernel
theorem dl_1230 : decode code 1230 = .ok (.iadd, 1) := by decide +kernel
theorem dl_1231 : decode code 1231 = .ok (.iaload, 1) := by decide +kernel
theorem dl_1232 : decode code 1232 = .ok (.invokevirtual 122, 3) := by decide +kernel
theorem dl_1235 : decode code 1235 = .ok (.aload_n 2, 1) := by decide +kernel
theorem dl_1236 : decode code 1236 = .ok (.aload_n 0, 1) := by decide +kernel
theorem dl_1237 : decode code 1237 = .ok (.iload_n 3, 1) := by decide +kernel
theorem dl_1238 : decode code 1238 = .ok (.iconst 1, 1) := by decide +kernel
theorem dl_1239 : decode code 1239 = .ok (.iadd, 1) := by decide +kernel
theorem dl_1240 : decode code 1240 = .ok (.iaload, 1) := by decide +kernel
theorem dl_1241 : decode code 1241 = .ok (.aload_n 0, 1) := by decide +kernel
theorem dl_1242 : decode code 1242 = .ok (.iload_n 3, 1) := by decide +kernel
theorem dl_1243 : decode code 1243 = .ok (.iconst 2, 1) := by decide +kernel
theorem dl_1244 : decode code 1244 = .ok (.iadd, 1) := by decide +kernel
theorem dl_1245 : decode code 1245 = .ok (.iaload, 1) := by decide +kernel
theorem dl_1246 : decode code 1246 = .ok (.invokevirtual 125, 3) := by decide +kernel
theorem dl_1249 : decode code 1249 = .ok (.if_icmp .eq 253, 3) := by decide +kernel
theorem dl_1252 : decode code 1252 = .ok (.iconst 0, 1) := by decide +kernel
theorem dl_1253 : decode code 1253 = .ok (.ireturn, 1) := by decide +kernel
set_option maxRecDepth 100000 in
set_option maxHeartbeats 2000000 in
theorem lc_26 {p : Program} (l : Launch) {e : Env} {s : State} {m : MethodId} {below : List Frame} {meth : Method} {c : Code} {H : Heap} {locs : List Loc} {Q : State → Prop} {ls : Array Slot} {G : GG} {B b L i : Nat} {xs : Nat → Int32} {wx : WX} {wm : Mem} (C : CX p s m #[Value.ref b] meth c code 4 R_law TL ret) (hX : va_X b L xs s s.heap) (hbl : b < s.heap.size) (hL : L ≤ 2560) (hi : i + 5 ≤ L) (hR : Rel wx wm) (hG : Gd s G (fun q => s.heap.size ≤ q) 153 B (entX G B wx) (pool 28 (B + 153) (entM G (B + 153) wm)) H locs) (hl : lv_has ls 4 [(0, .ref b), (1, .ref (B + 0)), (2, .ref (B + 153 + 0)), (3, .int (nI i))]) (kk : ∀ (H : Heap) (locs : List Loc) (wx : WX) (wm : Mem), Rel wx wm → Gd s G (fun q => s.heap.size ≤ q) 153 B (entX G B wx) (pool 28 (B + 153) (entM G (B + 153) wm)) H locs → W p l e room_1 s m #[Value.ref b] below meth c H locs 181 4461 Q (F0 m 1502 ls [])) : W p l e room_1 s m #[Value.ref b] below meth c H locs 181 4461 Q (F0 m 1221 ls []) := by
  obtain ⟨⟨v, wx'⟩, hv, ⟨u, wm'⟩, hu, heq, hR'⟩ := c_behind (xs (i + 1)) (xs (i + 2)) hR
  have hbA : ¬ (fun q : Nat => s.heap.size ≤ q) b := Nat.not_le.mpr hbl
  refine lv_aload_n C.1 C.2.1 dl_1221 rfl (lv_at hl 1 rfl) ?_
  refine rl_arg C hX hbl hbA hG.2.2 (i := i) (j := 1) hL (by omega) hl (by decide) dl_1222 dl_1223 dl_1224 dl_1225 dl_1226 ?_
  refine rl_arg C hX hbl hbA hG.2.2 (i := i) (j := 2) hL (by omega) hl (by decide) dl_1227 dl_1228 dl_1229 dl_1230 dl_1231 ?_
  refine rl_callV C hG hl.1 (c0 := 0) (As := [.int (xs (i + 1)), .int (xs (i + 2))]) (by decide) (entX_O8 (n := 13) rfl) rfl (mt_X8_behind l hv) (cwV 2 C.2.2.2.2.1 (gd_V tg_3_227 tg_3_228 tg_3_229 tg_1_1 tg_3_230) rfl rfl rfl cd_X8_behind ⟨Nat.le_of_ble_eq_true rfl, Nat.le_of_ble_eq_true rfl⟩) (Nat.le_of_ble_eq_true rfl) (Nat.le_of_ble_eq_true rfl) rfl rfl (Nat.le_of_ble_eq_true rfl) dl_1232 (fun H locs hG => ?_)
  have hG := hG.swap
  refine lv_aload_n C.1 C.2.1 dl_1235 rfl (lv_at hl 2 rfl) ?_
  refine rl_arg C hX hbl hbA hG.2.2 (i := i) (j := 1) hL (by omega) hl (by decide) dl_1236 dl_1237 dl_1238 dl_1239 dl_1240 ?_
  refine rl_arg C hX hbl hbA hG.2.2 (i := i) (j := 2) hL (by omega) hl (by decide) dl_1241 dl_1242 dl_1243 dl_1244 dl_1245 ?_
  refine rl_callV C hG hl.1 (c0 := 0) (As := [.int (xs (i + 1)), .int (xs (i + 2))]) (by decide) (entM_O (n := 35) rfl) rfl (mt_X9_behind_ l hu) (cwV 2 C.2.2.2.2.1 (gd_V tg_6_8 tg_6_9 tg_6_10 tg_1_10 tg_6_11) rfl rfl rfl cd_X9_behind_ ⟨Nat.le_of_ble_eq_true rfl, Nat.le_of_ble_eq_true rfl⟩) (Nat.le_of_ble_eq_true rfl) (Nat.le_of_ble_eq_true rfl) rfl rfl (Nat.le_of_ble_eq_true rfl) dl_1246 (fun H locs hG => ?_)
  have hG := hG.swap
  refine lv_icmp_eq (tgt := 1502) C.1 C.2.1 dl_1249 (by decide) (fun _ => ?_) (fun q => absurd heq q)
  exact kk H locs _ _ hR' hG
