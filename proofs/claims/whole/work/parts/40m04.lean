section
variable {p : Program} {l : Launch} {e : Env} {s : State} {m : MethodId} {args : Array Value} {below : List Frame} {meth : Method} {c : Code} {Q : State → Prop} {G : GG} {A : Nat → Prop} {N B : Nat} {E : Nat → va_E} {X : va_W}
abbrev wc_X9_joins : List Cond := Cond.code yX9_joins cX9_joins 10 none :: TG
abbrev rm_X9_joins : Room := { frames := 3, cells := 0, slots := 0, locals := 123 }
theorem cd_X9_joins : yX9_joins.cls = RX9 ∧ yX9_joins.cls ≠ "java/lang/invoke/MethodHandle" ∧ yX9_joins.cls ≠ "java/lang/invoke/VarHandle" ∧ (parseMethodDescriptor yX9_joins.desc).map (fun d => d.parameters.length) = some 3 := by decide +kernel
theorem dX9_joins_0 : decode cX9_joins 0 = .ok (.aload_n 0, 1) := by decide +kernel
theorem dX9_joins_1 : decode cX9_joins 1 = .ok (.getfield 75, 3) := by decide +kernel
theorem dX9_joins_4 : decode cX9_joins 4 = .ok (.iload_n 2, 1) := by decide +kernel
theorem dX9_joins_5 : decode cX9_joins 5 = .ok (.iaload, 1) := by decide +kernel
theorem dX9_joins_6 : decode cX9_joins 6 = .ok (.i2l, 1) := by decide +kernel
theorem dX9_joins_7 : decode cX9_joins 7 = .ok (.lstore 4, 2) := by decide +kernel
theorem dX9_joins_9 : decode cX9_joins 9 = .ok (.iload_n 2, 1) := by decide +kernel
theorem dX9_joins_10 : decode cX9_joins 10 = .ok (.iload_n 3, 1) := by decide +kernel
theorem dX9_joins_11 : decode cX9_joins 11 = .ok (.aload_n 0, 1) := by decide +kernel
theorem dX9_joins_12 : decode cX9_joins 12 = .ok (.getfield 117, 3) := by decide +kernel
theorem dX9_joins_15 : decode cX9_joins 15 = .ok (.imul, 1) := by decide +kernel
theorem dX9_joins_16 : decode cX9_joins 16 = .ok (.idiv, 1) := by decide +kernel
theorem dX9_joins_17 : decode cX9_joins 17 = .ok (.istore 6, 2) := by decide +kernel
theorem dX9_joins_19 : decode cX9_joins 19 = .ok (.iload_n 2, 1) := by decide +kernel
theorem dX9_joins_20 : decode cX9_joins 20 = .ok (.iload_n 3, 1) := by decide +kernel
theorem dX9_joins_21 : decode cX9_joins 21 = .ok (.idiv, 1) := by decide +kernel
theorem dX9_joins_22 : decode cX9_joins 22 = .ok (.aload_n 0, 1) := by decide +kernel
theorem dX9_joins_23 : decode cX9_joins 23 = .ok (.getfield 117, 3) := by decide +kernel
theorem dX9_joins_26 : decode cX9_joins 26 = .ok (.irem, 1) := by decide +kernel
theorem dX9_joins_27 : decode cX9_joins 27 = .ok (.istore 7, 2) := by decide +kernel
theorem dX9_joins_29 : decode cX9_joins 29 = .ok (.iload_n 2, 1) := by decide +kernel
theorem dX9_joins_30 : decode cX9_joins 30 = .ok (.iload_n 3, 1) := by decide +kernel
theorem dX9_joins_31 : decode cX9_joins 31 = .ok (.irem, 1) := by decide +kernel
theorem dX9_joins_32 : decode cX9_joins 32 = .ok (.istore 8, 2) := by decide +kernel
theorem dX9_joins_34 : decode cX9_joins 34 = .ok (.iload_n 1, 1) := by decide +kernel
theorem dX9_joins_35 : decode cX9_joins 35 = .ok (.iconst 1, 1) := by decide +kernel
theorem dX9_joins_36 : decode cX9_joins 36 = .ok (.if_icmp .ne 49, 3) := by decide +kernel
theorem dX9_joins_39 : decode cX9_joins 39 = .ok (.aload_n 0, 1) := by decide +kernel
theorem dX9_joins_40 : decode cX9_joins 40 = .ok (.iload 8, 2) := by decide +kernel
theorem dX9_joins_42 : decode cX9_joins 42 = .ok (.iload_n 3, 1) := by decide +kernel
theorem dX9_joins_43 : decode cX9_joins 43 = .ok (.aload_n 0, 1) := by decide +kernel
theorem dX9_joins_44 : decode cX9_joins 44 = .ok (.getfield 18, 3) := by decide +kernel
theorem dX9_joins_47 : decode cX9_joins 47 = .ok (.aload_n 0, 1) := by decide +kernel
theorem dX9_joins_48 : decode cX9_joins 48 = .ok (.iload 7, 2) := by decide +kernel
theorem dX9_joins_50 : decode cX9_joins 50 = .ok (.iload 6, 2) := by decide +kernel
theorem dX9_joins_52 : decode cX9_joins 52 = .ok (.invokevirtual 128, 3) := by decide +kernel
theorem dX9_joins_55 : decode cX9_joins 55 = .ok (.iaload, 1) := by decide +kernel
theorem dX9_joins_56 : decode cX9_joins 56 = .ok (.imul, 1) := by decide +kernel
theorem dX9_joins_57 : decode cX9_joins 57 = .ok (.iadd, 1) := by decide +kernel
theorem dX9_joins_58 : decode cX9_joins 58 = .ok (.lload 4, 2) := by decide +kernel
theorem dX9_joins_60 : decode cX9_joins 60 = .ok (.aload_n 0, 1) := by decide +kernel
theorem dX9_joins_61 : decode cX9_joins 61 = .ok (.getfield 21, 3) := by decide +kernel
theorem dX9_joins_64 : decode cX9_joins 64 = .ok (.aload_n 0, 1) := by decide +kernel
theorem dX9_joins_65 : decode cX9_joins 65 = .ok (.iload 7, 2) := by decide +kernel
theorem dX9_joins_67 : decode cX9_joins 67 = .ok (.iload 6, 2) := by decide +kernel
theorem dX9_joins_69 : decode cX9_joins 69 = .ok (.invokevirtual 128, 3) := by decide +kernel
theorem dX9_joins_72 : decode cX9_joins 72 = .ok (.iaload, 1) := by decide +kernel
theorem dX9_joins_73 : decode cX9_joins 73 = .ok (.i2l, 1) := by decide +kernel
theorem dX9_joins_74 : decode cX9_joins 74 = .ok (.lmul, 1) := by decide +kernel
theorem dX9_joins_75 : decode cX9_joins 75 = .ok (.ldc2_w 99, 3) := by decide +kernel
theorem dX9_joins_78 : decode cX9_joins 78 = .ok (.lrem, 1) := by decide +kernel
theorem dX9_joins_79 : decode cX9_joins 79 = .ok (.invokevirtual 252, 3) := by decide +kernel
theorem dX9_joins_82 : decode cX9_joins 82 = .ok (.goto 73, 3) := by decide +kernel
theorem dX9_joins_85 : decode cX9_joins 85 = .ok (.aload_n 0, 1) := by decide +kernel
theorem dX9_joins_86 : decode cX9_joins 86 = .ok (.getfield 121, 3) := by decide +kernel
theorem dX9_joins_89 : decode cX9_joins 89 = .ok (.iconst 4, 1) := by decide +kernel
theorem dX9_joins_90 : decode cX9_joins 90 = .ok (.if_icmp .ne 25, 3) := by decide +kernel
theorem dX9_joins_93 : decode cX9_joins 93 = .ok (.iload 7, 2) := by decide +kernel
theorem dX9_joins_95 : decode cX9_joins 95 = .ok (.invokestatic 135, 3) := by decide +kernel
theorem dX9_joins_98 : decode cX9_joins 98 = .ok (.iconst 1, 1) := by decide +kernel
theorem dX9_joins_99 : decode cX9_joins 99 = .ok (.if_icmp .ne 16, 3) := by decide +kernel
theorem dX9_joins_102 : decode cX9_joins 102 = .ok (.iload 6, 2) := by decide +kernel
theorem dX9_joins_104 : decode cX9_joins 104 = .ok (.invokestatic 135, 3) := by decide +kernel
theorem dX9_joins_107 : decode cX9_joins 107 = .ok (.iconst 1, 1) := by decide +kernel
theorem dX9_joins_108 : decode cX9_joins 108 = .ok (.if_icmp .ne 7, 3) := by decide +kernel
theorem dX9_joins_111 : decode cX9_joins 111 = .ok (.iconst 1, 1) := by decide +kernel
theorem dX9_joins_112 : decode cX9_joins 112 = .ok (.goto 4, 3) := by decide +kernel
theorem dX9_joins_115 : decode cX9_joins 115 = .ok (.iconst 0, 1) := by decide +kernel
theorem dX9_joins_116 : decode cX9_joins 116 = .ok (.istore 9, 2) := by decide +kernel
theorem dX9_joins_118 : decode cX9_joins 118 = .ok (.aload_n 0, 1) := by decide +kernel
theorem dX9_joins_119 : decode cX9_joins 119 = .ok (.iload 8, 2) := by decide +kernel
theorem dX9_joins_121 : decode cX9_joins 121 = .ok (.iload_n 3, 1) := by decide +kernel
theorem dX9_joins_122 : decode cX9_joins 122 = .ok (.iload 6, 2) := by decide +kernel
theorem dX9_joins_124 : decode cX9_joins 124 = .ok (.imul, 1) := by decide +kernel
theorem dX9_joins_125 : decode cX9_joins 125 = .ok (.iadd, 1) := by decide +kernel
theorem dX9_joins_126 : decode cX9_joins 126 = .ok (.iload_n 3, 1) := by decide +kernel
theorem dX9_joins_127 : decode cX9_joins 127 = .ok (.aload_n 0, 1) := by decide +kernel
theorem dX9_joins_128 : decode cX9_joins 128 = .ok (.getfield 117, 3) := by decide +kernel
theorem dX9_joins_131 : decode cX9_joins 131 = .ok (.imul, 1) := by decide +kernel
theorem dX9_joins_132 : decode cX9_joins 132 = .ok (.iload 7, 2) := by decide +kernel
theorem dX9_joins_134 : decode cX9_joins 134 = .ok (.imul, 1) := by decide +kernel
theorem dX9_joins_135 : decode cX9_joins 135 = .ok (.iadd, 1) := by decide +kernel
theorem dX9_joins_136 : decode cX9_joins 136 = .ok (.iload 9, 2) := by decide +kernel
theorem dX9_joins_138 : decode cX9_joins 138 = .ok (.ifCond .eq 12, 3) := by decide +kernel
theorem dX9_joins_141 : decode cX9_joins 141 = .ok (.ldc2_w 99, 3) := by decide +kernel
theorem dX9_joins_144 : decode cX9_joins 144 = .ok (.lload 4, 2) := by decide +kernel
theorem dX9_joins_146 : decode cX9_joins 146 = .ok (.lsub, 1) := by decide +kernel
theorem dX9_joins_147 : decode cX9_joins 147 = .ok (.goto 5, 3) := by decide +kernel
theorem dX9_joins_150 : decode cX9_joins 150 = .ok (.lload 4, 2) := by decide +kernel
theorem dX9_joins_152 : decode cX9_joins 152 = .ok (.invokevirtual 252, 3) := by decide +kernel
theorem dX9_joins_155 : decode cX9_joins 155 = .ok (.return_, 1) := by decide +kernel
set_option maxRecDepth 100000 in
set_option maxHeartbeats 4000000 in
theorem kb_X9_joins_152 {s1 : Int32} {s2 : Int64} {w : Mem} {out : Mem} {H : Heap} {locs : List Loc} {ls : Array Slot} (C : CX p s m args meth c cX9_joins 10 RX9 wc_X9_joins none)  (hG : Gd s G A 28 B (entM G B w) X H locs) (hl : lv_has ls 10 []) (hf : sh_X9_joins_j152 s1 s2 w = some out) :
    W p l e rm_X9_joins s m args below meth c H locs 0 0 (MQ below (CPost G A 28 B (entM G B out) X none) args s 0 0 A) (F0 m 152 ls [.long s2, .int s1, .ref (B + 0)]) := by
  obtain ⟨w1, hw1, hf⟩ := of_bind hf
  refine r_callV0 C hG hl.1 (c0 := 0) (As := [.int s1, .long s2]) (by decide) (entM_O (n := 35) rfl) rfl (mt_X9_counts l  hw1) (cwV 2 C.2.2.2.2.1 (gd_V tg_5_181 tg_5_183 tgp_56 tg_1_10 tg_5_184) rfl rfl rfl cd_X9_counts ⟨Nat.le_of_ble_eq_true rfl, Nat.le_of_ble_eq_true rfl⟩) rfl rfl (Nat.le_of_ble_eq_true rfl) dX9_joins_152 (fun H locs hG => ?_)
  obtain rfl := Option.some.inj hf
  exact r_vret C hG dX9_joins_155
set_option maxRecDepth 100000 in
set_option maxHeartbeats 4000000 in
theorem kb_X9_joins_116 {x3 : Int32} {x4 : Int64} {x6 : Int32} {x7 : Int32} {x8 : Int32} {s0 : Int32} {w : Mem} {out : Mem} {H : Heap} {locs : List Loc} {ls : Array Slot} (C : CX p s m args meth c cX9_joins 10 RX9 wc_X9_joins none)  (hG : Gd s G A 28 B (entM G B w) X H locs) (hl : lv_has ls 10 [(0, .ref (B + 0)), (3, .int x3), (4, .long x4), (6, .int x6), (7, .int x7), (8, .int x8)]) (hf : sh_X9_joins_j116 x3 x4 x6 x7 x8 s0 w = some out) :
    W p l e rm_X9_joins s m args below meth c H locs 0 0 (MQ below (CPost G A 28 B (entM G B out) X none) args s 0 0 A) (F0 m 116 ls [.int s0]) := by
  refine lv_istore (lv' := [(9, .int s0), (0, .ref (B + 0)), (3, .int x3), (4, .long x4), (6, .int x6), (7, .int x7), (8, .int x8)]) C.1 C.2.1 dX9_joins_116 hl (by decide) rfl (fun ls hl => ?_)
  refine lv_aload_n C.1 C.2.1 dX9_joins_118 rfl (lv_at hl 1 rfl) ?_
  refine lv_iload C.1 C.2.1 dX9_joins_119 (lv_at hl 6 rfl) ?_
  refine lv_iload_n C.1 C.2.1 dX9_joins_121 rfl (lv_at hl 2 rfl) ?_
  refine lv_iload C.1 C.2.1 dX9_joins_122 (lv_at hl 4 rfl) ?_
  refine lv_imul C.1 C.2.1 dX9_joins_124 ?_
  refine lv_iadd C.1 C.2.1 dX9_joins_125 ?_
  refine lv_iload_n C.1 C.2.1 dX9_joins_126 rfl (lv_at hl 2 rfl) ?_
  refine lv_aload_n C.1 C.2.1 dX9_joins_127 rfl (lv_at hl 1 rfl) ?_
  refine gf_X9_117 C hG rfl dX9_joins_128 ?_
  refine lv_imul C.1 C.2.1 dX9_joins_131 ?_
  refine lv_iload C.1 C.2.1 dX9_joins_132 (lv_at hl 5 rfl) ?_
  refine lv_imul C.1 C.2.1 dX9_joins_134 ?_
  refine lv_iadd C.1 C.2.1 dX9_joins_135 ?_
  refine lv_iload C.1 C.2.1 dX9_joins_136 (lv_at hl 0 rfl) ?_
  rcases of_ite hf with ⟨c1, hf⟩ | ⟨c1, hf⟩
  · refine lv_if_eq (tgt := 150) C.1 C.2.1 dX9_joins_138 (by decide) (fun _ => ?_) (fun q => absurd c1 q)
    refine lv_lload C.1 C.2.1 dX9_joins_150 (lv_at hl 3 rfl) ?_
    exact kb_X9_joins_152 C  hG (lv_sub hl [] rfl) hf
  · refine lv_if_eq (tgt := 150) C.1 C.2.1 dX9_joins_138 (by decide) (fun q => absurd q c1) (fun _ => ?_)
    refine lv_ldc2 (v := lN 9973) C.1 C.2.1 C.2.2.2.1 (C.2.2.2.2.1 _ (List.mem_cons_of_mem _ tg_5_6)) dX9_joins_141 ?_
    refine lv_lload C.1 C.2.1 dX9_joins_144 (lv_at hl 3 rfl) ?_
    refine lv_lsub C.1 C.2.1 dX9_joins_146 ?_
    refine lv_goto (tgt := 152) C.1 C.2.1 dX9_joins_147 (by decide) ?_
    exact kb_X9_joins_152 C  hG (lv_sub hl [] rfl) hf
set_option maxRecDepth 100000 in
set_option maxHeartbeats 4000000 in
theorem kb_X9_joins_115 {x3 : Int32} {x4 : Int64} {x6 : Int32} {x7 : Int32} {x8 : Int32} {w : Mem} {out : Mem} {H : Heap} {locs : List Loc} {ls : Array Slot} (C : CX p s m args meth c cX9_joins 10 RX9 wc_X9_joins none)  (hG : Gd s G A 28 B (entM G B w) X H locs) (hl : lv_has ls 10 [(0, .ref (B + 0)), (3, .int x3), (4, .long x4), (6, .int x6), (7, .int x7), (8, .int x8)]) (hf : sh_X9_joins_j115 x3 x4 x6 x7 x8 w = some out) :
    W p l e rm_X9_joins s m args below meth c H locs 0 0 (MQ below (CPost G A 28 B (entM G B out) X none) args s 0 0 A) (F0 m 115 ls []) := by
  refine lv_iconst (v := nI 0) C.1 C.2.1 dX9_joins_115 (by decide) ?_
  exact kb_X9_joins_116 C  hG hl hf
set_option maxRecDepth 100000 in
set_option maxHeartbeats 4000000 in
theorem kb_X9_joins_0 {x1 : Int32} {x2 : Int32} {x3 : Int32} {w : Mem} {out : Mem} {H : Heap} {locs : List Loc} {ls : Array Slot} (C : CX p s m args meth c cX9_joins 10 RX9 wc_X9_joins none)  (hG : Gd s G A 28 B (entM G B w) X H locs) (hl : lv_has ls 10 [(0, .ref (B + 0)), (1, .int x1), (2, .int x2), (3, .int x3)]) (hf : sh_X9_joins x1 x2 x3 w = some out) :
    W p l e rm_X9_joins s m args below meth c H locs 0 0 (MQ below (CPost G A 28 B (entM G B out) X none) args s 0 0 A) (F0 m 0 ls []) := by
  refine lv_aload_n C.1 C.2.1 dX9_joins_0 rfl (lv_at hl 0 rfl) ?_
  refine gf_X9_75 C hG rfl dX9_joins_1 ?_
  refine lv_iload_n C.1 C.2.1 dX9_joins_4 rfl (lv_at hl 2 rfl) ?_
  obtain ⟨v1, hv1, hf⟩ := of_bind hf
  obtain ⟨bv1, ev1⟩ := of_ldS hv1
  refine r_iald C hG (c0 := 22) (by decide) (entM_I (n := 216) rfl) bv1 dX9_joins_5 ?_
  refine r_top ev1 ?_
  refine lv_i2l C.1 C.2.1 dX9_joins_6 rfl ?_
  refine lv_lstore (lv' := [(4, .long v1.toInt64), (0, .ref (B + 0)), (1, .int x1), (2, .int x2), (3, .int x3)]) C.1 C.2.1 dX9_joins_7 hl (by decide) rfl (fun ls hl => ?_)
  refine lv_iload_n C.1 C.2.1 dX9_joins_9 rfl (lv_at hl 3 rfl) ?_
  refine lv_iload_n C.1 C.2.1 dX9_joins_10 rfl (lv_at hl 4 rfl) ?_
  refine lv_aload_n C.1 C.2.1 dX9_joins_11 rfl (lv_at hl 1 rfl) ?_
  refine gf_X9_117 C hG rfl dX9_joins_12 ?_
  refine lv_imul C.1 C.2.1 dX9_joins_15 ?_
  obtain ⟨c2, hf⟩ := of_grd hf
  refine lv_idiv C.1 C.2.1 dX9_joins_16 c2 ?_
  obtain ⟨v3, ev3, hf⟩ := of_letv hf
  refine r_top ev3 ?_
  refine lv_istore (lv' := [(6, .int v3), (4, .long v1.toInt64), (0, .ref (B + 0)), (1, .int x1), (2, .int x2), (3, .int x3)]) C.1 C.2.1 dX9_joins_17 hl (by decide) rfl (fun ls hl => ?_)
  refine lv_iload_n C.1 C.2.1 dX9_joins_19 rfl (lv_at hl 4 rfl) ?_
  refine lv_iload_n C.1 C.2.1 dX9_joins_20 rfl (lv_at hl 5 rfl) ?_
  obtain ⟨c4, hf⟩ := of_grd hf
  refine lv_idiv C.1 C.2.1 dX9_joins_21 c4 ?_
  refine lv_aload_n C.1 C.2.1 dX9_joins_22 rfl (lv_at hl 2 rfl) ?_
  refine gf_X9_117 C hG rfl dX9_joins_23 ?_
  obtain ⟨c5, hf⟩ := of_grd hf
  refine r_irem C dX9_joins_26 c5 ?_
  obtain ⟨v6, ev6, hf⟩ := of_letv hf
  refine r_top ev6 ?_
  refine lv_istore (lv' := [(7, .int v6), (6, .int v3), (4, .long v1.toInt64), (0, .ref (B + 0)), (1, .int x1), (2, .int x2), (3, .int x3)]) C.1 C.2.1 dX9_joins_27 hl (by decide) rfl (fun ls hl => ?_)
  refine lv_iload_n C.1 C.2.1 dX9_joins_29 rfl (lv_at hl 5 rfl) ?_
  refine lv_iload_n C.1 C.2.1 dX9_joins_30 rfl (lv_at hl 6 rfl) ?_
  obtain ⟨c7, hf⟩ := of_grd hf
  refine r_irem C dX9_joins_31 c7 ?_
  obtain ⟨v8, ev8, hf⟩ := of_letv hf
  refine r_top ev8 ?_
  refine lv_istore (lv' := [(8, .int v8), (7, .int v6), (6, .int v3), (4, .long v1.toInt64), (0, .ref (B + 0)), (1, .int x1), (2, .int x2), (3, .int x3)]) C.1 C.2.1 dX9_joins_32 hl (by decide) rfl (fun ls hl => ?_)
  refine lv_iload_n C.1 C.2.1 dX9_joins_34 rfl (lv_at hl 5 rfl) ?_
  refine lv_iconst (v := nI 1) C.1 C.2.1 dX9_joins_35 (by decide) ?_
  rcases of_ite hf with ⟨c9, hf⟩ | ⟨c9, hf⟩
  · refine lv_icmp_ne (tgt := 85) C.1 C.2.1 dX9_joins_36 (by decide) (fun q => absurd c9 q) (fun _ => ?_)
    refine lv_aload_n C.1 C.2.1 dX9_joins_39 rfl (lv_at hl 4 rfl) ?_
    refine lv_iload C.1 C.2.1 dX9_joins_40 (lv_at hl 0 rfl) ?_
    refine lv_iload_n C.1 C.2.1 dX9_joins_42 rfl (lv_at hl 7 rfl) ?_
    refine lv_aload_n C.1 C.2.1 dX9_joins_43 rfl (lv_at hl 4 rfl) ?_
    refine gf_X9_18 C hG rfl dX9_joins_44 ?_
    refine lv_aload_n C.1 C.2.1 dX9_joins_47 rfl (lv_at hl 4 rfl) ?_
    refine lv_iload C.1 C.2.1 dX9_joins_48 (lv_at hl 1 rfl) ?_
    refine lv_iload C.1 C.2.1 dX9_joins_50 (lv_at hl 2 rfl) ?_
    obtain ⟨v15, hv15, hf⟩ := of_bind hf
    refine r_callV1 C hG hl.1 (c0 := 0) (As := [.int v6, .int v3]) (by decide) (entM_O (n := 35) rfl) rfl (mt_X9_at l  hv15) (cwV 2 C.2.2.2.2.1 (gd_V tg_4_239 tg_5_1 tgp_32 tg_1_10 tg_5_2) rfl rfl rfl cd_X9_at ⟨Nat.le_of_ble_eq_true rfl, Nat.le_of_ble_eq_true rfl⟩) rfl rfl (Nat.le_of_ble_eq_true rfl) dX9_joins_52 (fun H locs hG => ?_)
    obtain ⟨v16, hv16, hf⟩ := of_bind hf
    obtain ⟨bv16, ev16⟩ := of_ldS hv16
    refine r_iald C hG (c0 := 3) (by decide) (entM_I (n := 36) rfl) bv16 dX9_joins_55 ?_
    refine r_top ev16 ?_
    refine lv_imul C.1 C.2.1 dX9_joins_56 ?_
    refine lv_iadd C.1 C.2.1 dX9_joins_57 ?_
    refine lv_lload C.1 C.2.1 dX9_joins_58 (lv_at hl 3 rfl) ?_
    refine lv_aload_n C.1 C.2.1 dX9_joins_60 rfl (lv_at hl 4 rfl) ?_
    refine gf_X9_21 C hG rfl dX9_joins_61 ?_
    refine lv_aload_n C.1 C.2.1 dX9_joins_64 rfl (lv_at hl 4 rfl) ?_
    refine lv_iload C.1 C.2.1 dX9_joins_65 (lv_at hl 1 rfl) ?_
    refine lv_iload C.1 C.2.1 dX9_joins_67 (lv_at hl 2 rfl) ?_
    obtain ⟨v17, hv17, hf⟩ := of_bind hf
    refine r_callV1 C hG hl.1 (c0 := 0) (As := [.int v6, .int v3]) (by decide) (entM_O (n := 35) rfl) rfl (mt_X9_at l  hv17) (cwV 2 C.2.2.2.2.1 (gd_V tg_4_239 tg_5_1 tgp_32 tg_1_10 tg_5_2) rfl rfl rfl cd_X9_at ⟨Nat.le_of_ble_eq_true rfl, Nat.le_of_ble_eq_true rfl⟩) rfl rfl (Nat.le_of_ble_eq_true rfl) dX9_joins_69 (fun H locs hG => ?_)
    obtain ⟨v18, hv18, hf⟩ := of_bind hf
    obtain ⟨bv18, ev18⟩ := of_ldS hv18
    refine r_iald C hG (c0 := 4) (by decide) (entM_I (n := 36) rfl) bv18 dX9_joins_72 ?_
    refine r_top ev18 ?_
    refine lv_i2l C.1 C.2.1 dX9_joins_73 rfl ?_
    refine lv_lmul C.1 C.2.1 dX9_joins_74 ?_
    refine lv_ldc2 (v := lN 9973) C.1 C.2.1 C.2.2.2.1 (C.2.2.2.2.1 _ (List.mem_cons_of_mem _ tg_5_6)) dX9_joins_75 ?_
    refine r_lrem C dX9_joins_78 (by decide) ?_
    obtain ⟨w19, hw19, hf⟩ := of_bind hf
    refine r_callV0 C hG hl.1 (c0 := 0) (As := [.int (v8 + (x3 * v16)), .long (remL (v1.toInt64 * v18.toInt64) (lN 9973))]) (by decide) (entM_O (n := 35) rfl) rfl (mt_X9_counts l  hw19) (cwV 2 C.2.2.2.2.1 (gd_V tg_5_181 tg_5_183 tgp_56 tg_1_10 tg_5_184) rfl rfl rfl cd_X9_counts ⟨Nat.le_of_ble_eq_true rfl, Nat.le_of_ble_eq_true rfl⟩) rfl rfl (Nat.le_of_ble_eq_true rfl) dX9_joins_79 (fun H locs hG => ?_)
    refine lv_goto (tgt := 155) C.1 C.2.1 dX9_joins_82 (by decide) ?_
    obtain rfl := Option.some.inj hf
    exact r_vret C hG dX9_joins_155
  · refine lv_icmp_ne (tgt := 85) C.1 C.2.1 dX9_joins_36 (by decide) (fun _ => ?_) (fun q => absurd q c9)
    refine lv_aload_n C.1 C.2.1 dX9_joins_85 rfl (lv_at hl 4 rfl) ?_
    refine gf_X9_121 C hG rfl dX9_joins_86 ?_
    refine lv_iconst (v := nI 4) C.1 C.2.1 dX9_joins_89 (by decide) ?_
    rcases of_ite hf with ⟨c10, hf⟩ | ⟨c10, hf⟩
    · refine lv_icmp_ne (tgt := 115) C.1 C.2.1 dX9_joins_90 (by decide) (fun q => absurd c10 q) (fun _ => ?_)
      refine lv_iload C.1 C.2.1 dX9_joins_93 (lv_at hl 1 rfl) ?_
      obtain ⟨v11, hv11, hf⟩ := of_bind hf
      refine r_callS1 C hG hl.1 (As := [.int v6]) (mt_X9_odd l  hv11) (va_cwS 1 C.2.2.2.2.1 (gd_S tg_4_236 tg_4_237 tg_1_10 tg_4_238) rfl rfl rfl cd_X9_odd.2 ⟨Nat.le_of_ble_eq_true rfl, Nat.le_of_ble_eq_true rfl⟩) rfl rfl (Nat.le_of_ble_eq_true rfl) dX9_joins_95 (fun H locs hG => ?_)
      refine lv_iconst (v := nI 1) C.1 C.2.1 dX9_joins_98 (by decide) ?_
      rcases of_ite hf with ⟨c12, hf⟩ | ⟨c12, hf⟩
      · refine lv_icmp_ne (tgt := 115) C.1 C.2.1 dX9_joins_99 (by decide) (fun q => absurd c12 q) (fun _ => ?_)
        refine lv_iload C.1 C.2.1 dX9_joins_102 (lv_at hl 2 rfl) ?_
        obtain ⟨v13, hv13, hf⟩ := of_bind hf
        refine r_callS1 C hG hl.1 (As := [.int v3]) (mt_X9_odd l  hv13) (va_cwS 1 C.2.2.2.2.1 (gd_S tg_4_236 tg_4_237 tg_1_10 tg_4_238) rfl rfl rfl cd_X9_odd.2 ⟨Nat.le_of_ble_eq_true rfl, Nat.le_of_ble_eq_true rfl⟩) rfl rfl (Nat.le_of_ble_eq_true rfl) dX9_joins_104 (fun H locs hG => ?_)
        refine lv_iconst (v := nI 1) C.1 C.2.1 dX9_joins_107 (by decide) ?_
        rcases of_ite hf with ⟨c14, hf⟩ | ⟨c14, hf⟩
        · refine lv_icmp_ne (tgt := 115) C.1 C.2.1 dX9_joins_108 (by decide) (fun q => absurd c14 q) (fun _ => ?_)
          refine lv_iconst (v := nI 1) C.1 C.2.1 dX9_joins_111 (by decide) ?_
          refine lv_goto (tgt := 116) C.1 C.2.1 dX9_joins_112 (by decide) ?_
          exact kb_X9_joins_116 C  hG (lv_sub hl [4, 7, 3, 2, 1, 0] rfl) hf
        · refine lv_icmp_ne (tgt := 115) C.1 C.2.1 dX9_joins_108 (by decide) (fun _ => ?_) (fun q => absurd q c14)
          exact kb_X9_joins_115 C  hG (lv_sub hl [4, 7, 3, 2, 1, 0] rfl) hf
      · refine lv_icmp_ne (tgt := 115) C.1 C.2.1 dX9_joins_99 (by decide) (fun _ => ?_) (fun q => absurd q c12)
        exact kb_X9_joins_115 C  hG (lv_sub hl [4, 7, 3, 2, 1, 0] rfl) hf
    · refine lv_icmp_ne (tgt := 115) C.1 C.2.1 dX9_joins_90 (by decide) (fun _ => ?_) (fun q => absurd q c10)
      exact kb_X9_joins_115 C  hG (lv_sub hl [4, 7, 3, 2, 1, 0] rfl) hf
set_option maxRecDepth 100000 in
set_option maxHeartbeats 4000000 in
theorem mt_X9_joins (l : Launch) {G : GG} {A : Nat → Prop} {B : Nat} {X : va_W} {x1 : Int32} {x2 : Int32} {x3 : Int32} {w : Mem} {out : Mem}  (hf : sh_X9_joins x1 x2 x3 w = some out) : MetW l yX9_joins wc_X9_joins rm_X9_joins G A 28 B (entM G B w) X [.ref (B + 0), .int x1, .int x2, .int x3] none (entM G B out) := by
  refine Met.ofW (cc := cX9_joins) (maxL := 10) (ret := none) (by decide) rfl ?_
  intro p e s m args below meth c s₁ B0 hml hv
  obtain ⟨rfl, hEv, hWd⟩ := hv
  have C : CX p s m _ meth c cX9_joins 10 RX9 wc_X9_joins none := ⟨B0.exec, B0.bytes, hml, findClass_of_methodNamed B0.named, atoms_spec (ws := wc_X9_joins) B0.pre, B0.returns, B0.notSynchronized⟩
  have hl := lv_entry [.ref (B + 0), .int x1, .int x2, .int x3] (n := 10) (Nat.le_of_ble_eq_true rfl)
  rw [lg_entry_eq]
  generalize (lg_sl [.ref (B + 0), .int x1, .int x2, .int x3] ++ List.replicate (10 - (lg_sl [.ref (B + 0), .int x1, .int x2, .int x3]).length) Slot.unset).toArray = ls at hl ⊢
  have hl : lv_has ls 10 [(0, .ref (B + 0)), (1, .int x1), (2, .int x2), (3, .int x3)] := hl
  exact kb_X9_joins_0 C  ⟨hEv, hWd, va_S.rf⟩ hl hf
abbrev wc_X9_does : List Cond := Cond.code yX9_does cX9_does 5 none :: TG
abbrev rm_X9_does : Room := { frames := 5, cells := 0, slots := 0, locals := 176 }
theorem cd_X9_does : yX9_does.cls = RX9 ∧ yX9_does.cls ≠ "java/lang/invoke/MethodHandle" ∧ yX9_does.cls ≠ "java/lang/invoke/VarHandle" ∧ (parseMethodDescriptor yX9_does.desc).map (fun d => d.parameters.length) = some 2 := by decide +kernel
theorem dX9_does_0 : decode cX9_does 0 = .ok (.iconst 0, 1) := by decide +kernel
theorem dX9_does_1 : decode cX9_does 1 = .ok (.istore_n 3, 1) := by decide +kernel
theorem dX9_does_2 : decode cX9_does 2 = .ok (.iload_n 3, 1) := by decide +kernel
theorem dX9_does_3 : decode cX9_does 3 = .ok (.sipush 216, 3) := by decide +kernel
theorem dX9_does_6 : decode cX9_does 6 = .ok (.if_icmp .ge 16, 3) := by decide +kernel
theorem dX9_does_9 : decode cX9_does 9 = .ok (.aload_n 0, 1) := by decide +kernel
theorem dX9_does_10 : decode cX9_does 10 = .ok (.getfield 78, 3) := by decide +kernel
theorem dX9_does_13 : decode cX9_does 13 = .ok (.iload_n 3, 1) := by decide +kernel
theorem dX9_does_14 : decode cX9_does 14 = .ok (.iconst 0, 1) := by decide +kernel
theorem dX9_does_15 : decode cX9_does 15 = .ok (.iastore, 1) := by decide +kernel
theorem dX9_does_16 : decode cX9_does 16 = .ok (.iinc 3 1, 3) := by decide +kernel
theorem dX9_does_19 : decode cX9_does 19 = .ok (.goto (-17), 3) := by decide +kernel
theorem dX9_does_22 : decode cX9_does 22 = .ok (.iconst 0, 1) := by decide +kernel
theorem dX9_does_23 : decode cX9_does 23 = .ok (.istore_n 3, 1) := by decide +kernel
theorem dX9_does_24 : decode cX9_does 24 = .ok (.iload_n 3, 1) := by decide +kernel
theorem dX9_does_25 : decode cX9_does 25 = .ok (.aload_n 0, 1) := by decide +kernel
theorem dX9_does_26 : decode cX9_does 26 = .ok (.getfield 256, 3) := by decide +kernel
theorem dX9_does_29 : decode cX9_does 29 = .ok (.if_icmp .ge 102, 3) := by decide +kernel
theorem dX9_does_32 : decode cX9_does 32 = .ok (.iload_n 1, 1) := by decide +kernel
theorem dX9_does_33 : decode cX9_does 33 = .ok (.ifCond .ne 53, 3) := by decide +kernel
theorem dX9_does_36 : decode cX9_does 36 = .ok (.iconst 0, 1) := by decide +kernel
theorem dX9_does_37 : decode cX9_does 37 = .ok (.istore 4, 2) := by decide +kernel
theorem dX9_does_39 : decode cX9_does 39 = .ok (.iload 4, 2) := by decide +kernel
theorem dX9_does_41 : decode cX9_does 41 = .ok (.aload_n 0, 1) := by decide +kernel
theorem dX9_does_42 : decode cX9_does 42 = .ok (.getfield 117, 3) := by decide +kernel
theorem dX9_does_45 : decode cX9_does 45 = .ok (.if_icmp .ge 38, 3) := by decide +kernel
theorem dX9_does_48 : decode cX9_does 48 = .ok (.aload_n 0, 1) := by decide +kernel
theorem dX9_does_49 : decode cX9_does 49 = .ok (.iload_n 3, 1) := by decide +kernel
theorem dX9_does_50 : decode cX9_does 50 = .ok (.aload_n 0, 1) := by decide +kernel
theorem dX9_does_51 : decode cX9_does 51 = .ok (.getfield 256, 3) := by decide +kernel
theorem dX9_does_54 : decode cX9_does 54 = .ok (.iload 4, 2) := by decide +kernel
theorem dX9_does_56 : decode cX9_does 56 = .ok (.imul, 1) := by decide +kernel
theorem dX9_does_57 : decode cX9_does 57 = .ok (.iadd, 1) := by decide +kernel
theorem dX9_does_58 : decode cX9_does 58 = .ok (.aload_n 0, 1) := by decide +kernel
theorem dX9_does_59 : decode cX9_does 59 = .ok (.getfield 75, 3) := by decide +kernel
theorem dX9_does_62 : decode cX9_does 62 = .ok (.iload_n 3, 1) := by decide +kernel
theorem dX9_does_63 : decode cX9_does 63 = .ok (.iaload, 1) := by decide +kernel
theorem dX9_does_64 : decode cX9_does 64 = .ok (.i2l, 1) := by decide +kernel
theorem dX9_does_65 : decode cX9_does 65 = .ok (.aload_n 0, 1) := by decide +kernel
theorem dX9_does_66 : decode cX9_does 66 = .ok (.getfield 27, 3) := by decide +kernel
theorem dX9_does_69 : decode cX9_does 69 = .ok (.iload 4, 2) := by decide +kernel
theorem dX9_does_71 : decode cX9_does 71 = .ok (.iaload, 1) := by decide +kernel
theorem dX9_does_72 : decode cX9_does 72 = .ok (.i2l, 1) := by decide +kernel
theorem dX9_does_73 : decode cX9_does 73 = .ok (.lmul, 1) := by decide +kernel
theorem dX9_does_74 : decode cX9_does 74 = .ok (.invokevirtual 252, 3) := by decide +kernel
theorem dX9_does_77 : decode cX9_does 77 = .ok (.iinc 4 1, 3) := by decide +kernel
theorem dX9_does_80 : decode cX9_does 80 = .ok (.goto (-41), 3) := by decide +kernel
theorem dX9_does_83 : decode cX9_does 83 = .ok (.goto 42, 3) := by decide +kernel
theorem dX9_does_86 : decode cX9_does 86 = .ok (.iload_n 1, 1) := by decide +kernel
theorem dX9_does_87 : decode cX9_does 87 = .ok (.iconst 1, 1) := by decide +kernel
theorem dX9_does_88 : decode cX9_does 88 = .ok (.if_icmp .eq 8, 3) := by decide +kernel
theorem dX9_does_91 : decode cX9_does 91 = .ok (.iload_n 1, 1) := by decide +kernel
theorem dX9_does_92 : decode cX9_does 92 = .ok (.iconst 4, 1) := by decide +kernel
theorem dX9_does_93 : decode cX9_does 93 = .ok (.if_icmp .ne 19, 3) := by decide +kernel
theorem dX9_does_96 : decode cX9_does 96 = .ok (.aload_n 0, 1) := by decide +kernel
theorem dX9_does_97 : decode cX9_does 97 = .ok (.iload_n 1, 1) := by decide +kernel
theorem dX9_does_98 : decode cX9_does 98 = .ok (.iload_n 3, 1) := by decide +kernel
theorem dX9_does_99 : decode cX9_does 99 = .ok (.aload_n 0, 1) := by decide +kernel
theorem dX9_does_100 : decode cX9_does 100 = .ok (.iload_n 2, 1) := by decide +kernel
theorem dX9_does_101 : decode cX9_does 101 = .ok (.iconst 2, 1) := by decide +kernel
theorem dX9_does_102 : decode cX9_does 102 = .ok (.isub, 1) := by decide +kernel
theorem dX9_does_103 : decode cX9_does 103 = .ok (.invokevirtual 259, 3) := by decide +kernel
theorem dX9_does_106 : decode cX9_does 106 = .ok (.invokevirtual 262, 3) := by decide +kernel
theorem dX9_does_109 : decode cX9_does 109 = .ok (.goto 16, 3) := by decide +kernel
theorem dX9_does_112 : decode cX9_does 112 = .ok (.aload_n 0, 1) := by decide +kernel
theorem dX9_does_113 : decode cX9_does 113 = .ok (.iload_n 1, 1) := by decide +kernel
theorem dX9_does_114 : decode cX9_does 114 = .ok (.iload_n 3, 1) := by decide +kernel
theorem dX9_does_115 : decode cX9_does 115 = .ok (.aload_n 0, 1) := by decide +kernel
theorem dX9_does_116 : decode cX9_does 116 = .ok (.iload_n 2, 1) := by decide +kernel
theorem dX9_does_117 : decode cX9_does 117 = .ok (.iconst 1, 1) := by decide +kernel
theorem dX9_does_118 : decode cX9_does 118 = .ok (.isub, 1) := by decide +kernel
theorem dX9_does_119 : decode cX9_does 119 = .ok (.invokevirtual 259, 3) := by decide +kernel
theorem dX9_does_122 : decode cX9_does 122 = .ok (.invokevirtual 266, 3) := by decide +kernel
theorem dX9_does_125 : decode cX9_does 125 = .ok (.iinc 3 1, 3) := by decide +kernel
theorem dX9_does_128 : decode cX9_does 128 = .ok (.goto (-104), 3) := by decide +kernel
theorem dX9_does_131 : decode cX9_does 131 = .ok (.iconst 0, 1) := by decide +kernel
theorem dX9_does_132 : decode cX9_does 132 = .ok (.istore_n 3, 1) := by decide +kernel
theorem dX9_does_133 : decode cX9_does 133 = .ok (.iload_n 3, 1) := by decide +kernel
theorem dX9_does_134 : decode cX9_does 134 = .ok (.sipush 216, 3) := by decide +kernel
theorem dX9_does_137 : decode cX9_does 137 = .ok (.if_icmp .ge 21, 3) := by decide +kernel
theorem dX9_does_140 : decode cX9_does 140 = .ok (.aload_n 0, 1) := by decide +kernel
theorem dX9_does_141 : decode cX9_does 141 = .ok (.getfield 75, 3) := by decide +kernel
theorem dX9_does_144 : decode cX9_does 144 = .ok (.iload_n 3, 1) := by decide +kernel
theorem dX9_does_145 : decode cX9_does 145 = .ok (.aload_n 0, 1) := by decide +kernel
theorem dX9_does_146 : decode cX9_does 146 = .ok (.getfield 78, 3) := by decide +kernel
theorem dX9_does_149 : decode cX9_does 149 = .ok (.iload_n 3, 1) := by decide +kernel
theorem dX9_does_150 : decode cX9_does 150 = .ok (.iaload, 1) := by decide +kernel
theorem dX9_does_151 : decode cX9_does 151 = .ok (.iastore, 1) := by decide +kernel
theorem dX9_does_152 : decode cX9_does 152 = .ok (.iinc 3 1, 3) := by decide +kernel
theorem dX9_does_155 : decode cX9_does 155 = .ok (.goto (-22), 3) := by decide +kernel
theorem dX9_does_158 : decode cX9_does 158 = .ok (.return_, 1) := by decide +kernel
set_option maxRecDepth 100000 in
set_option maxHeartbeats 4000000 in
theorem kb_X9_does_2 {x1 : Int32} {x2 : Int32} {st : Int32 × Mem} {r : (Int32 × Mem) ⊕ ((Mem))} {H : Heap} {locs : List Loc} {ls : Array Slot} (C : CX p s m args meth c cX9_does 5 RX9 wc_X9_does none)  (hG : Gd s G A 28 B (entM G B st.2) X H locs) (hl : lv_has ls 5 [(0, .ref (B + 0)), (1, .int x1), (2, .int x2), (3, .int st.1)]) (hf : sh_X9_does_s2 x1 x2 st = some r)
    (kL : ∀ st' : Int32 × Mem, r = Sum.inl st' → ∀ (H : Heap) (locs : List Loc) (ls : Array Slot), Gd s G A 28 B (entM G B st'.2) X H locs → lv_has ls 5 [(0, .ref (B + 0)), (1, .int x1), (2, .int x2), (3, .int st'.1)] → W p l e rm_X9_does s m args below meth c H locs 0 0 Q (F0 m 2 ls []))
    (kX0 : ∀ y' : Mem, r = Sum.inr y' → ∀ (H : Heap) (locs : List Loc) (ls : Array Slot), Gd s G A 28 B (entM G B y') X H locs → lv_has ls 5 [(0, .ref (B + 0)), (1, .int x1), (2, .int x2)] → W p l e rm_X9_does s m args below meth c H locs 0 0 Q (F0 m 22 ls [])) :
    W p l e rm_X9_does s m args below meth c H locs 0 0 Q (F0 m 2 ls []) := by
  refine lv_iload_n C.1 C.2.1 dX9_does_2 rfl (lv_at hl 3 rfl) ?_
  refine lv_sipush (v := nI 216) C.1 C.2.1 dX9_does_3 (by decide) ?_
  rcases of_ite hf with ⟨c1, hf⟩ | ⟨c1, hf⟩
  · refine lv_icmp_ge (tgt := 22) C.1 C.2.1 dX9_does_6 (by decide) (fun _ => ?_) (fun q => absurd c1 q)
    obtain rfl := Option.some.inj hf
    exact kX0 _ rfl _ _ _ hG (lv_sub hl [0, 1, 2] rfl)
  · refine lv_icmp_ge (tgt := 22) C.1 C.2.1 dX9_does_6 (by decide) (fun q => absurd q c1) (fun _ => ?_)
    refine lv_aload_n C.1 C.2.1 dX9_does_9 rfl (lv_at hl 0 rfl) ?_
    refine gf_X9_78 C hG rfl dX9_does_10 ?_
    refine lv_iload_n C.1 C.2.1 dX9_does_13 rfl (lv_at hl 3 rfl) ?_
    refine lv_iconst (v := nI 0) C.1 C.2.1 dX9_does_14 (by decide) ?_
    obtain ⟨w2, hw2, hf⟩ := of_bind hf
    obtain ⟨bw2, ew2⟩ := of_stM hw2
    refine r_iast C hG (c0 := 23) (by decide) (entM_I (n := 216) rfl) bw2 (E' := (entM G B w2)) (by rw [ew2]; exact upM_I (n := 216) rfl) dX9_does_15 (fun H locs hG => ?_)
    obtain ⟨v3, ev3, hf⟩ := of_letv hf
    refine lv_iinc (v := v3) (lv' := [(3, .int v3), (0, .ref (B + 0)), (1, .int x1), (2, .int x2)]) C.1 C.2.1 dX9_does_16 hl (k := 3) rfl (by rw [ev3, show Int32.ofInt (1) = nI 1 from by decide]) (by decide) rfl (fun ls hl => ?_)
    refine lv_goto (tgt := 2) C.1 C.2.1 dX9_does_19 (by decide) ?_
    obtain rfl := Option.some.inj hf
    exact kL _ rfl _ _ _ hG (lv_sub hl [1, 2, 3, 0] rfl)
set_option maxRecDepth 100000 in
set_option maxHeartbeats 4000000 in
theorem kl_X9_does_2 {x1 : Int32} {x2 : Int32} (C : CX p s m args meth c cX9_does 5 RX9 wc_X9_does none)  : ∀ (n : Nat) (st : Int32 × Mem) (x : (Mem)) (H : Heap) (locs : List Loc) (ls : Array Slot), Gd s G A 28 B (entM G B st.2) X H locs → lv_has ls 5 [(0, .ref (B + 0)), (1, .int x1), (2, .int x2), (3, .int st.1)] → lpw (sh_X9_does_s2 x1 x2) n st = some x →
    (∀ y' : Mem, x = y' → ∀ (H : Heap) (locs : List Loc) (ls : Array Slot), Gd s G A 28 B (entM G B y') X H locs → lv_has ls 5 [(0, .ref (B + 0)), (1, .int x1), (2, .int x2)] → W p l e rm_X9_does s m args below meth c H locs 0 0 Q (F0 m 22 ls [])) → W p l e rm_X9_does s m args below meth c H locs 0 0 Q (F0 m 2 ls []) := by
  intro n
  induction n with
  | zero =>
    intro st x H locs ls hG hl hf
    cases hf
  | succ n ih =>
    intro st x H locs ls hG hl hf kX0
    obtain ⟨r, hr, hh⟩ := of_lpw hf
    refine kb_X9_does_2 C  hG hl hr (fun st2 e1 H locs ls hG hl => ?_) (fun y2 e1 H locs ls hG hl => ?_)
    · rcases hh with ⟨s3, e2, hh⟩ | e2
      · rw [e2] at e1
        cases e1
        exact ih _ _ _ _ _ hG hl hh kX0
      · rw [e2] at e1
        cases e1
    · rcases hh with ⟨s3, e2, hh⟩ | e2
      · rw [e2] at e1
        cases e1
      · rw [e2] at e1
        cases e1
        exact kX0 _ rfl _ _ _ hG hl
set_option maxRecDepth 100000 in
set_option maxHeartbeats 4000000 in
theorem kb_X9_does_96 {x1 : Int32} {x2 : Int32} {x3 : Int32} {w : Mem} {r : (Int32 × Mem) ⊕ ((Mem))} {H : Heap} {locs : List Loc} {ls : Array Slot} (C : CX p s m args meth c cX9_does 5 RX9 wc_X9_does none)  (hG : Gd s G A 28 B (entM G B w) X H locs) (hl : lv_has ls 5 [(0, .ref (B + 0)), (1, .int x1), (2, .int x2), (3, .int x3)]) (hf : sh_X9_does_j96 x1 x2 x3 w = some r)
    (kL : ∀ st' : Int32 × Mem, r = Sum.inl st' → ∀ (H : Heap) (locs : List Loc) (ls : Array Slot), Gd s G A 28 B (entM G B st'.2) X H locs → lv_has ls 5 [(0, .ref (B + 0)), (1, .int x1), (2, .int x2), (3, .int st'.1)] → W p l e rm_X9_does s m args below meth c H locs 0 0 Q (F0 m 24 ls []))
    (kX0 : ∀ y' : Mem, r = Sum.inr y' → ∀ (H : Heap) (locs : List Loc) (ls : Array Slot), Gd s G A 28 B (entM G B y') X H locs → lv_has ls 5 [(0, .ref (B + 0))] → W p l e rm_X9_does s m args below meth c H locs 0 0 Q (F0 m 131 ls [])) :
    W p l e rm_X9_does s m args below meth c H locs 0 0 Q (F0 m 96 ls []) := by
  refine lv_aload_n C.1 C.2.1 dX9_does_96 rfl (lv_at hl 0 rfl) ?_
  refine lv_iload_n C.1 C.2.1 dX9_does_97 rfl (lv_at hl 1 rfl) ?_
  refine lv_iload_n C.1 C.2.1 dX9_does_98 rfl (lv_at hl 3 rfl) ?_
  refine lv_aload_n C.1 C.2.1 dX9_does_99 rfl (lv_at hl 0 rfl) ?_
  refine lv_iload_n C.1 C.2.1 dX9_does_100 rfl (lv_at hl 2 rfl) ?_
  refine lv_iconst (v := nI 2) C.1 C.2.1 dX9_does_101 (by decide) ?_
  refine lv_isub C.1 C.2.1 dX9_does_102 ?_
  obtain ⟨v1, hv1, hf⟩ := of_bind hf
  refine r_callV1 C hG hl.1 (c0 := 0) (As := [.int (x2 - (nI 2))]) (by decide) (entM_O (n := 35) rfl) rfl (mt_X9_power l  hv1) (cwV 1 C.2.2.2.2.1 (gd_V tg_5_185 tg_5_187 tgp_57 tg_1_10 tg_5_188) rfl rfl rfl cd_X9_power ⟨Nat.le_of_ble_eq_true rfl, Nat.le_of_ble_eq_true rfl⟩) rfl rfl (Nat.le_of_ble_eq_true rfl) dX9_does_103 (fun H locs hG => ?_)
  obtain ⟨w2, hw2, hf⟩ := of_bind hf
  refine r_callV0 C hG hl.1 (c0 := 0) (As := [.int x1, .int x3, .int v1]) (by decide) (entM_O (n := 35) rfl) rfl (mt_X9_joins l  hw2) (cwV 3 C.2.2.2.2.1 (gd_V tg_5_189 tg_5_191 tgp_58 tg_1_10 tg_5_192) rfl rfl rfl cd_X9_joins ⟨Nat.le_of_ble_eq_true rfl, Nat.le_of_ble_eq_true rfl⟩) rfl rfl (Nat.le_of_ble_eq_true rfl) dX9_does_106 (fun H locs hG => ?_)
  refine lv_goto (tgt := 125) C.1 C.2.1 dX9_does_109 (by decide) ?_
  obtain ⟨v3, ev3, hf⟩ := of_letv hf
  refine lv_iinc (v := v3) (lv' := [(3, .int v3), (0, .ref (B + 0)), (1, .int x1), (2, .int x2)]) C.1 C.2.1 dX9_does_125 hl (k := 3) rfl (by rw [ev3, show Int32.ofInt (1) = nI 1 from by decide]) (by decide) rfl (fun ls hl => ?_)
  refine lv_goto (tgt := 24) C.1 C.2.1 dX9_does_128 (by decide) ?_
  obtain rfl := Option.some.inj hf
  exact kL _ rfl _ _ _ hG (lv_sub hl [1, 2, 3, 0] rfl)
set_option maxRecDepth 100000 in
set_option maxHeartbeats 4000000 in
theorem kb_X9_does_39 {x1 : Int32} {x2 : Int32} {x3 : Int32} {st : Int32 × Mem} {r : (Int32 × Mem) ⊕ ((Mem))} {H : Heap} {locs : List Loc} {ls : Array Slot} (C : CX p s m args meth c cX9_does 5 RX9 wc_X9_does none)  (hG : Gd s G A 28 B (entM G B st.2) X H locs) (hl : lv_has ls 5 [(0, .ref (B + 0)), (1, .int x1), (2, .int x2), (3, .int x3), (4, .int st.1)]) (hf : sh_X9_does_s39 x1 x2 x3 st = some r)
    (kL : ∀ st' : Int32 × Mem, r = Sum.inl st' → ∀ (H : Heap) (locs : List Loc) (ls : Array Slot), Gd s G A 28 B (entM G B st'.2) X H locs → lv_has ls 5 [(0, .ref (B + 0)), (1, .int x1), (2, .int x2), (3, .int x3), (4, .int st'.1)] → W p l e rm_X9_does s m args below meth c H locs 0 0 Q (F0 m 39 ls []))
    (kX0 : ∀ y' : Mem, r = Sum.inr y' → ∀ (H : Heap) (locs : List Loc) (ls : Array Slot), Gd s G A 28 B (entM G B y') X H locs → lv_has ls 5 [(0, .ref (B + 0)), (1, .int x1), (2, .int x2), (3, .int x3)] → W p l e rm_X9_does s m args below meth c H locs 0 0 Q (F0 m 83 ls [])) :
    W p l e rm_X9_does s m args below meth c H locs 0 0 Q (F0 m 39 ls []) := by
  refine lv_iload C.1 C.2.1 dX9_does_39 (lv_at hl 4 rfl) ?_
  refine lv_aload_n C.1 C.2.1 dX9_does_41 rfl (lv_at hl 0 rfl) ?_
  refine gf_X9_117 C hG rfl dX9_does_42 ?_
  rcases of_ite hf with ⟨c1, hf⟩ | ⟨c1, hf⟩
  · refine lv_icmp_ge (tgt := 83) C.1 C.2.1 dX9_does_45 (by decide) (fun _ => ?_) (fun q => absurd c1 q)
    obtain rfl := Option.some.inj hf
    exact kX0 _ rfl _ _ _ hG (lv_sub hl [0, 1, 2, 3] rfl)
  · refine lv_icmp_ge (tgt := 83) C.1 C.2.1 dX9_does_45 (by decide) (fun q => absurd q c1) (fun _ => ?_)
    refine lv_aload_n C.1 C.2.1 dX9_does_48 rfl (lv_at hl 0 rfl) ?_
    refine lv_iload_n C.1 C.2.1 dX9_does_49 rfl (lv_at hl 3 rfl) ?_
    refine lv_aload_n C.1 C.2.1 dX9_does_50 rfl (lv_at hl 0 rfl) ?_
    refine gf_X9_256 C hG rfl dX9_does_51 ?_
    refine lv_iload C.1 C.2.1 dX9_does_54 (lv_at hl 4 rfl) ?_
    refine lv_imul C.1 C.2.1 dX9_does_56 ?_
    refine lv_iadd C.1 C.2.1 dX9_does_57 ?_
    refine lv_aload_n C.1 C.2.1 dX9_does_58 rfl (lv_at hl 0 rfl) ?_
    refine gf_X9_75 C hG rfl dX9_does_59 ?_
    refine lv_iload_n C.1 C.2.1 dX9_does_62 rfl (lv_at hl 3 rfl) ?_
    obtain ⟨v2, hv2, hf⟩ := of_bind hf
    obtain ⟨bv2, ev2⟩ := of_ldS hv2
    refine r_iald C hG (c0 := 22) (by decide) (entM_I (n := 216) rfl) bv2 dX9_does_63 ?_
    refine r_top ev2 ?_
    refine lv_i2l C.1 C.2.1 dX9_does_64 rfl ?_
    refine lv_aload_n C.1 C.2.1 dX9_does_65 rfl (lv_at hl 0 rfl) ?_
    refine gf_X9_27 C hG rfl dX9_does_66 ?_
    refine lv_iload C.1 C.2.1 dX9_does_69 (lv_at hl 4 rfl) ?_
    obtain ⟨v3, hv3, hf⟩ := of_bind hf
    obtain ⟨bv3, ev3⟩ := of_ldS hv3
    refine r_iald C hG (c0 := 6) (by decide) (entM_I (n := 6) rfl) bv3 dX9_does_71 ?_
    refine r_top ev3 ?_
    refine lv_i2l C.1 C.2.1 dX9_does_72 rfl ?_
    refine lv_lmul C.1 C.2.1 dX9_does_73 ?_
    obtain ⟨w4, hw4, hf⟩ := of_bind hf
    refine r_callV0 C hG hl.1 (c0 := 0) (As := [.int (x3 + ((st.2 0 29) * st.1)), .long (v2.toInt64 * v3.toInt64)]) (by decide) (entM_O (n := 35) rfl) rfl (mt_X9_counts l  hw4) (cwV 2 C.2.2.2.2.1 (gd_V tg_5_181 tg_5_183 tgp_56 tg_1_10 tg_5_184) rfl rfl rfl cd_X9_counts ⟨Nat.le_of_ble_eq_true rfl, Nat.le_of_ble_eq_true rfl⟩) rfl rfl (Nat.le_of_ble_eq_true rfl) dX9_does_74 (fun H locs hG => ?_)
    obtain ⟨v5, ev5, hf⟩ := of_letv hf
    refine lv_iinc (v := v5) (lv' := [(4, .int v5), (0, .ref (B + 0)), (1, .int x1), (2, .int x2), (3, .int x3)]) C.1 C.2.1 dX9_does_77 hl (k := 4) rfl (by rw [ev5, show Int32.ofInt (1) = nI 1 from by decide]) (by decide) rfl (fun ls hl => ?_)
    refine lv_goto (tgt := 39) C.1 C.2.1 dX9_does_80 (by decide) ?_
    obtain rfl := Option.some.inj hf
    exact kL _ rfl _ _ _ hG (lv_sub hl [1, 2, 3, 4, 0] rfl)
set_option maxRecDepth 100000 in
set_option maxHeartbeats 4000000 in
theorem kl_X9_does_39 {x1 : Int32} {x2 : Int32} {x3 : Int32} (C : CX p s m args meth c cX9_does 5 RX9 wc_X9_does none)  : ∀ (n : Nat) (st : Int32 × Mem) (x : (Mem)) (H : Heap) (locs : List Loc) (ls : Array Slot), Gd s G A 28 B (entM G B st.2) X H locs → lv_has ls 5 [(0, .ref (B + 0)), (1, .int x1), (2, .int x2), (3, .int x3), (4, .int st.1)] → lpw (sh_X9_does_s39 x1 x2 x3) n st = some x →
    (∀ y' : Mem, x = y' → ∀ (H : Heap) (locs : List Loc) (ls : Array Slot), Gd s G A 28 B (entM G B y') X H locs → lv_has ls 5 [(0, .ref (B + 0)), (1, .int x1), (2, .int x2), (3, .int x3)] → W p l e rm_X9_does s m args below meth c H locs 0 0 Q (F0 m 83 ls [])) → W p l e rm_X9_does s m args below meth c H locs 0 0 Q (F0 m 39 ls []) := by
  intro n
  induction n with
  | zero =>
    intro st x H locs ls hG hl hf
    cases hf
  | succ n ih =>
    intro st x H locs ls hG hl hf kX0
    obtain ⟨r, hr, hh⟩ := of_lpw hf
    refine kb_X9_does_39 C  hG hl hr (fun st2 e1 H locs ls hG hl => ?_) (fun y2 e1 H locs ls hG hl => ?_)
    · rcases hh with ⟨s3, e2, hh⟩ | e2
      · rw [e2] at e1
        cases e1
        exact ih _ _ _ _ _ hG hl hh kX0
      · rw [e2] at e1
        cases e1
    · rcases hh with ⟨s3, e2, hh⟩ | e2
      · rw [e2] at e1
        cases e1
      · rw [e2] at e1
        cases e1
        exact kX0 _ rfl _ _ _ hG hl
set_option maxRecDepth 100000 in
set_option maxHeartbeats 4000000 in
theorem kb_X9_does_24 {x1 : Int32} {x2 : Int32} {st : Int32 × Mem} {r : (Int32 × Mem) ⊕ ((Mem))} {H : Heap} {locs : List Loc} {ls : Array Slot} (C : CX p s m args meth c cX9_does 5 RX9 wc_X9_does none)  (hG : Gd s G A 28 B (entM G B st.2) X H locs) (hl : lv_has ls 5 [(0, .ref (B + 0)), (1, .int x1), (2, .int x2), (3, .int st.1)]) (hf : sh_X9_does_s24 x1 x2 st = some r)
    (kL : ∀ st' : Int32 × Mem, r = Sum.inl st' → ∀ (H : Heap) (locs : List Loc) (ls : Array Slot), Gd s G A 28 B (entM G B st'.2) X H locs → lv_has ls 5 [(0, .ref (B + 0)), (1, .int x1), (2, .int x2), (3, .int st'.1)] → W p l e rm_X9_does s m args below meth c H locs 0 0 Q (F0 m 24 ls []))
    (kX0 : ∀ y' : Mem, r = Sum.inr y' → ∀ (H : Heap) (locs : List Loc) (ls : Array Slot), Gd s G A 28 B (entM G B y') X H locs → lv_has ls 5 [(0, .ref (B + 0))] → W p l e rm_X9_does s m args below meth c H locs 0 0 Q (F0 m 131 ls [])) :
    W p l e rm_X9_does s m args below meth c H locs 0 0 Q (F0 m 24 ls []) := by
  refine lv_iload_n C.1 C.2.1 dX9_does_24 rfl (lv_at hl 3 rfl) ?_
  refine lv_aload_n C.1 C.2.1 dX9_does_25 rfl (lv_at hl 0 rfl) ?_
  refine gf_X9_256 C hG rfl dX9_does_26 ?_
  rcases of_ite hf with ⟨c1, hf⟩ | ⟨c1, hf⟩
  · refine lv_icmp_ge (tgt := 131) C.1 C.2.1 dX9_does_29 (by decide) (fun _ => ?_) (fun q => absurd c1 q)
    obtain rfl := Option.some.inj hf
    exact kX0 _ rfl _ _ _ hG (lv_sub hl [0] rfl)
  · refine lv_icmp_ge (tgt := 131) C.1 C.2.1 dX9_does_29 (by decide) (fun q => absurd q c1) (fun _ => ?_)
    refine lv_iload_n C.1 C.2.1 dX9_does_32 rfl (lv_at hl 1 rfl) ?_
    rcases of_ite hf with ⟨c2, hf⟩ | ⟨c2, hf⟩
    · refine lv_if_ne (tgt := 86) C.1 C.2.1 dX9_does_33 (by decide) (fun q => absurd c2 q) (fun _ => ?_)
      refine lv_iconst (v := nI 0) C.1 C.2.1 dX9_does_36 (by decide) ?_
      refine lv_istore (lv' := [(4, .int (nI 0)), (0, .ref (B + 0)), (1, .int x1), (2, .int x2), (3, .int st.1)]) C.1 C.2.1 dX9_does_37 hl (by decide) rfl (fun ls hl => ?_)
      obtain ⟨ex8, hex8, hf⟩ := of_bind hf
      refine kl_X9_does_39 C  FU (nI 0, st.2) ex8 _ _ _ hG (lv_sub hl [1, 2, 3, 4, 0] rfl) hex8 (fun y e0 H locs ls hG hl => ?_)
      subst e0
      refine lv_goto (tgt := 125) C.1 C.2.1 dX9_does_83 (by decide) ?_
      obtain ⟨v9, ev9, hf⟩ := of_letv hf
      refine lv_iinc (v := v9) (lv' := [(3, .int v9), (0, .ref (B + 0)), (1, .int x1), (2, .int x2)]) C.1 C.2.1 dX9_does_125 hl (k := 3) rfl (by rw [ev9, show Int32.ofInt (1) = nI 1 from by decide]) (by decide) rfl (fun ls hl => ?_)
      refine lv_goto (tgt := 24) C.1 C.2.1 dX9_does_128 (by decide) ?_
      obtain rfl := Option.some.inj hf
      exact kL _ rfl _ _ _ hG (lv_sub hl [1, 2, 3, 0] rfl)
    · refine lv_if_ne (tgt := 86) C.1 C.2.1 dX9_does_33 (by decide) (fun _ => ?_) (fun q => absurd q c2)
      refine lv_iload_n C.1 C.2.1 dX9_does_86 rfl (lv_at hl 1 rfl) ?_
      refine lv_iconst (v := nI 1) C.1 C.2.1 dX9_does_87 (by decide) ?_
      rcases of_ite hf with ⟨c3, hf⟩ | ⟨c3, hf⟩
      · refine lv_icmp_eq (tgt := 96) C.1 C.2.1 dX9_does_88 (by decide) (fun _ => ?_) (fun q => absurd c3 q)
        exact kb_X9_does_96 C  hG hl hf kL kX0
      · refine lv_icmp_eq (tgt := 96) C.1 C.2.1 dX9_does_88 (by decide) (fun q => absurd q c3) (fun _ => ?_)
        refine lv_iload_n C.1 C.2.1 dX9_does_91 rfl (lv_at hl 1 rfl) ?_
        refine lv_iconst (v := nI 4) C.1 C.2.1 dX9_does_92 (by decide) ?_
        rcases of_ite hf with ⟨c4, hf⟩ | ⟨c4, hf⟩
        · refine lv_icmp_ne (tgt := 112) C.1 C.2.1 dX9_does_93 (by decide) (fun q => absurd c4 q) (fun _ => ?_)
          exact kb_X9_does_96 C  hG hl hf kL kX0
        · refine lv_icmp_ne (tgt := 112) C.1 C.2.1 dX9_does_93 (by decide) (fun _ => ?_) (fun q => absurd q c4)
          refine lv_aload_n C.1 C.2.1 dX9_does_112 rfl (lv_at hl 0 rfl) ?_
          refine lv_iload_n C.1 C.2.1 dX9_does_113 rfl (lv_at hl 1 rfl) ?_
          refine lv_iload_n C.1 C.2.1 dX9_does_114 rfl (lv_at hl 3 rfl) ?_
          refine lv_aload_n C.1 C.2.1 dX9_does_115 rfl (lv_at hl 0 rfl) ?_
          refine lv_iload_n C.1 C.2.1 dX9_does_116 rfl (lv_at hl 2 rfl) ?_
          refine lv_iconst (v := nI 1) C.1 C.2.1 dX9_does_117 (by decide) ?_
          refine lv_isub C.1 C.2.1 dX9_does_118 ?_
          obtain ⟨v5, hv5, hf⟩ := of_bind hf
          refine r_callV1 C hG hl.1 (c0 := 0) (As := [.int (x2 - (nI 1))]) (by decide) (entM_O (n := 35) rfl) rfl (mt_X9_power l  hv5) (cwV 1 C.2.2.2.2.1 (gd_V tg_5_185 tg_5_187 tgp_57 tg_1_10 tg_5_188) rfl rfl rfl cd_X9_power ⟨Nat.le_of_ble_eq_true rfl, Nat.le_of_ble_eq_true rfl⟩) rfl rfl (Nat.le_of_ble_eq_true rfl) dX9_does_119 (fun H locs hG => ?_)
          obtain ⟨w6, hw6, hf⟩ := of_bind hf
          refine r_callV0 C hG hl.1 (c0 := 0) (As := [.int x1, .int st.1, .int v5]) (by decide) (entM_O (n := 35) rfl) rfl (mt_X9_turns l  hw6) (cwV 3 C.2.2.2.2.1 (gd_V tg_5_193 tg_5_195 tgp_59 tg_1_10 tg_5_196) rfl rfl rfl cd_X9_turns ⟨Nat.le_of_ble_eq_true rfl, Nat.le_of_ble_eq_true rfl⟩) rfl rfl (Nat.le_of_ble_eq_true rfl) dX9_does_122 (fun H locs hG => ?_)
          obtain ⟨v7, ev7, hf⟩ := of_letv hf
          refine lv_iinc (v := v7) (lv' := [(3, .int v7), (0, .ref (B + 0)), (1, .int x1), (2, .int x2)]) C.1 C.2.1 dX9_does_125 hl (k := 3) rfl (by rw [ev7, show Int32.ofInt (1) = nI 1 from by decide]) (by decide) rfl (fun ls hl => ?_)
          refine lv_goto (tgt := 24) C.1 C.2.1 dX9_does_128 (by decide) ?_
          obtain rfl := Option.some.inj hf
          exact kL _ rfl _ _ _ hG (lv_sub hl [1, 2, 3, 0] rfl)
set_option maxRecDepth 100000 in
set_option maxHeartbeats 4000000 in
theorem kl_X9_does_24 {x1 : Int32} {x2 : Int32} (C : CX p s m args meth c cX9_does 5 RX9 wc_X9_does none)  : ∀ (n : Nat) (st : Int32 × Mem) (x : (Mem)) (H : Heap) (locs : List Loc) (ls : Array Slot), Gd s G A 28 B (entM G B st.2) X H locs → lv_has ls 5 [(0, .ref (B + 0)), (1, .int x1), (2, .int x2), (3, .int st.1)] → lpw (sh_X9_does_s24 x1 x2) n st = some x →
    (∀ y' : Mem, x = y' → ∀ (H : Heap) (locs : List Loc) (ls : Array Slot), Gd s G A 28 B (entM G B y') X H locs → lv_has ls 5 [(0, .ref (B + 0))] → W p l e rm_X9_does s m args below meth c H locs 0 0 Q (F0 m 131 ls [])) → W p l e rm_X9_does s m args below meth c H locs 0 0 Q (F0 m 24 ls []) := by
  intro n
  induction n with
  | zero =>
    intro st x H locs ls hG hl hf
    cases hf
  | succ n ih =>
    intro st x H locs ls hG hl hf kX0
    obtain ⟨r, hr, hh⟩ := of_lpw hf
    refine kb_X9_does_24 C  hG hl hr (fun st2 e1 H locs ls hG hl => ?_) (fun y2 e1 H locs ls hG hl => ?_)
    · rcases hh with ⟨s3, e2, hh⟩ | e2
      · rw [e2] at e1
        cases e1
        exact ih _ _ _ _ _ hG hl hh kX0
      · rw [e2] at e1
        cases e1
    · rcases hh with ⟨s3, e2, hh⟩ | e2
      · rw [e2] at e1
        cases e1
      · rw [e2] at e1
        cases e1
        exact kX0 _ rfl _ _ _ hG hl
set_option maxRecDepth 100000 in
set_option maxHeartbeats 4000000 in
theorem kb_X9_does_133  {st : Int32 × Mem} {r : (Int32 × Mem) ⊕ ((Mem))} {H : Heap} {locs : List Loc} {ls : Array Slot} (C : CX p s m args meth c cX9_does 5 RX9 wc_X9_does none)  (hG : Gd s G A 28 B (entM G B st.2) X H locs) (hl : lv_has ls 5 [(0, .ref (B + 0)), (3, .int st.1)]) (hf : sh_X9_does_s133  st = some r)
    (kL : ∀ st' : Int32 × Mem, r = Sum.inl st' → ∀ (H : Heap) (locs : List Loc) (ls : Array Slot), Gd s G A 28 B (entM G B st'.2) X H locs → lv_has ls 5 [(0, .ref (B + 0)), (3, .int st'.1)] → W p l e rm_X9_does s m args below meth c H locs 0 0 Q (F0 m 133 ls []))
    (kX0 : ∀ y' : Mem, r = Sum.inr y' → ∀ (H : Heap) (locs : List Loc) (ls : Array Slot), Gd s G A 28 B (entM G B y') X H locs → lv_has ls 5 [] → W p l e rm_X9_does s m args below meth c H locs 0 0 Q (F0 m 158 ls [])) :
    W p l e rm_X9_does s m args below meth c H locs 0 0 Q (F0 m 133 ls []) := by
  refine lv_iload_n C.1 C.2.1 dX9_does_133 rfl (lv_at hl 1 rfl) ?_
  refine lv_sipush (v := nI 216) C.1 C.2.1 dX9_does_134 (by decide) ?_
  rcases of_ite hf with ⟨c1, hf⟩ | ⟨c1, hf⟩
  · refine lv_icmp_ge (tgt := 158) C.1 C.2.1 dX9_does_137 (by decide) (fun _ => ?_) (fun q => absurd c1 q)
    obtain rfl := Option.some.inj hf
    exact kX0 _ rfl _ _ _ hG (lv_sub hl [] rfl)
  · refine lv_icmp_ge (tgt := 158) C.1 C.2.1 dX9_does_137 (by decide) (fun q => absurd q c1) (fun _ => ?_)
    refine lv_aload_n C.1 C.2.1 dX9_does_140 rfl (lv_at hl 0 rfl) ?_
    refine gf_X9_75 C hG rfl dX9_does_141 ?_
    refine lv_iload_n C.1 C.2.1 dX9_does_144 rfl (lv_at hl 1 rfl) ?_
    refine lv_aload_n C.1 C.2.1 dX9_does_145 rfl (lv_at hl 0 rfl) ?_
    refine gf_X9_78 C hG rfl dX9_does_146 ?_
    refine lv_iload_n C.1 C.2.1 dX9_does_149 rfl (lv_at hl 1 rfl) ?_
    obtain ⟨v2, hv2, hf⟩ := of_bind hf
    obtain ⟨bv2, ev2⟩ := of_ldS hv2
    refine r_iald C hG (c0 := 23) (by decide) (entM_I (n := 216) rfl) bv2 dX9_does_150 ?_
    refine r_top ev2 ?_
    obtain ⟨w3, hw3, hf⟩ := of_bind hf
    obtain ⟨bw3, ew3⟩ := of_stM hw3
    refine r_iast C hG (c0 := 22) (by decide) (entM_I (n := 216) rfl) bw3 (E' := (entM G B w3)) (by rw [ew3]; exact upM_I (n := 216) rfl) dX9_does_151 (fun H locs hG => ?_)
    obtain ⟨v4, ev4, hf⟩ := of_letv hf
    refine lv_iinc (v := v4) (lv' := [(3, .int v4), (0, .ref (B + 0))]) C.1 C.2.1 dX9_does_152 hl (k := 1) rfl (by rw [ev4, show Int32.ofInt (1) = nI 1 from by decide]) (by decide) rfl (fun ls hl => ?_)
    refine lv_goto (tgt := 133) C.1 C.2.1 dX9_does_155 (by decide) ?_
    obtain rfl := Option.some.inj hf
    exact kL _ rfl _ _ _ hG (lv_sub hl [1, 0] rfl)
set_option maxRecDepth 100000 in
set_option maxHeartbeats 4000000 in
theorem kl_X9_does_133  (C : CX p s m args meth c cX9_does 5 RX9 wc_X9_does none)  : ∀ (n : Nat) (st : Int32 × Mem) (x : (Mem)) (H : Heap) (locs : List Loc) (ls : Array Slot), Gd s G A 28 B (entM G B st.2) X H locs → lv_has ls 5 [(0, .ref (B + 0)), (3, .int st.1)] → lpw (sh_X9_does_s133 ) n st = some x →
    (∀ y' : Mem, x = y' → ∀ (H : Heap) (locs : List Loc) (ls : Array Slot), Gd s G A 28 B (entM G B y') X H locs → lv_has ls 5 [] → W p l e rm_X9_does s m args below meth c H locs 0 0 Q (F0 m 158 ls [])) → W p l e rm_X9_does s m args below meth c H locs 0 0 Q (F0 m 133 ls []) := by
  intro n
  induction n with
  | zero =>
    intro st x H locs ls hG hl hf
    cases hf
  | succ n ih =>
    intro st x H locs ls hG hl hf kX0
    obtain ⟨r, hr, hh⟩ := of_lpw hf
    refine kb_X9_does_133 C  hG hl hr (fun st2 e1 H locs ls hG hl => ?_) (fun y2 e1 H locs ls hG hl => ?_)
    · rcases hh with ⟨s3, e2, hh⟩ | e2
      · rw [e2] at e1
        cases e1
        exact ih _ _ _ _ _ hG hl hh kX0
      · rw [e2] at e1
        cases e1
    · rcases hh with ⟨s3, e2, hh⟩ | e2
      · rw [e2] at e1
        cases e1
      · rw [e2] at e1
        cases e1
        exact kX0 _ rfl _ _ _ hG hl
set_option maxRecDepth 100000 in
set_option maxHeartbeats 4000000 in
theorem kb_X9_does_0 {x1 : Int32} {x2 : Int32} {w : Mem} {out : Mem} {H : Heap} {locs : List Loc} {ls : Array Slot} (C : CX p s m args meth c cX9_does 5 RX9 wc_X9_does none)  (hG : Gd s G A 28 B (entM G B w) X H locs) (hl : lv_has ls 5 [(0, .ref (B + 0)), (1, .int x1), (2, .int x2)]) (hf : sh_X9_does x1 x2 w = some out) :
    W p l e rm_X9_does s m args below meth c H locs 0 0 (MQ below (CPost G A 28 B (entM G B out) X none) args s 0 0 A) (F0 m 0 ls []) := by
  refine lv_iconst (v := nI 0) C.1 C.2.1 dX9_does_0 (by decide) ?_
  refine lv_istore_n (lv' := [(3, .int (nI 0)), (0, .ref (B + 0)), (1, .int x1), (2, .int x2)]) C.1 C.2.1 dX9_does_1 rfl hl (by decide) rfl (fun ls hl => ?_)
  obtain ⟨ex1, hex1, hf⟩ := of_bind hf
  refine kl_X9_does_2 C  FU (nI 0, w) ex1 _ _ _ hG (lv_sub hl [1, 2, 3, 0] rfl) hex1 (fun y e0 H locs ls hG hl => ?_)
  subst e0
  refine lv_iconst (v := nI 0) C.1 C.2.1 dX9_does_22 (by decide) ?_
  refine lv_istore_n (lv' := [(3, .int (nI 0)), (0, .ref (B + 0)), (1, .int x1), (2, .int x2)]) C.1 C.2.1 dX9_does_23 rfl hl (by decide) rfl (fun ls hl => ?_)
  obtain ⟨ex2, hex2, hf⟩ := of_bind hf
  refine kl_X9_does_24 C  FU (nI 0, ex1) ex2 _ _ _ hG (lv_sub hl [1, 2, 3, 0] rfl) hex2 (fun y e0 H locs ls hG hl => ?_)
  subst e0
  refine lv_iconst (v := nI 0) C.1 C.2.1 dX9_does_131 (by decide) ?_
  refine lv_istore_n (lv' := [(3, .int (nI 0)), (0, .ref (B + 0))]) C.1 C.2.1 dX9_does_132 rfl hl (by decide) rfl (fun ls hl => ?_)
  obtain ⟨ex3, hex3, hf⟩ := of_bind hf
  refine kl_X9_does_133 C  FU (nI 0, ex2) ex3 _ _ _ hG (lv_sub hl [1, 0] rfl) hex3 (fun y e0 H locs ls hG hl => ?_)
  subst e0
  obtain rfl := Option.some.inj hf
  exact r_vret C hG dX9_does_158
set_option maxRecDepth 100000 in
set_option maxHeartbeats 4000000 in
theorem mt_X9_does (l : Launch) {G : GG} {A : Nat → Prop} {B : Nat} {X : va_W} {x1 : Int32} {x2 : Int32} {w : Mem} {out : Mem}  (hf : sh_X9_does x1 x2 w = some out) : MetW l yX9_does wc_X9_does rm_X9_does G A 28 B (entM G B w) X [.ref (B + 0), .int x1, .int x2] none (entM G B out) := by
  refine Met.ofW (cc := cX9_does) (maxL := 5) (ret := none) (by decide) rfl ?_
  intro p e s m args below meth c s₁ B0 hml hv
  obtain ⟨rfl, hEv, hWd⟩ := hv
  have C : CX p s m _ meth c cX9_does 5 RX9 wc_X9_does none := ⟨B0.exec, B0.bytes, hml, findClass_of_methodNamed B0.named, atoms_spec (ws := wc_X9_does) B0.pre, B0.returns, B0.notSynchronized⟩
  have hl := lv_entry [.ref (B + 0), .int x1, .int x2] (n := 5) (Nat.le_of_ble_eq_true rfl)
  rw [lg_entry_eq]
  generalize (lg_sl [.ref (B + 0), .int x1, .int x2] ++ List.replicate (5 - (lg_sl [.ref (B + 0), .int x1, .int x2]).length) Slot.unset).toArray = ls at hl ⊢
  have hl : lv_has ls 5 [(0, .ref (B + 0)), (1, .int x1), (2, .int x2)] := hl
  exact kb_X9_does_0 C  ⟨hEv, hWd, va_S.rf⟩ hl hf
abbrev wc_X9_sums : List Cond := Cond.code yX9_sums cX9_sums 3 none :: TG
abbrev rm_X9_sums : Room := { frames := 6, cells := 0, slots := 0, locals := 200 }
theorem cd_X9_sums : yX9_sums.cls = RX9 ∧ yX9_sums.cls ≠ "java/lang/invoke/MethodHandle" ∧ yX9_sums.cls ≠ "java/lang/invoke/VarHandle" ∧ (parseMethodDescriptor yX9_sums.desc).map (fun d => d.parameters.length) = some 0 := by decide +kernel
theorem dX9_sums_0 : decode cX9_sums 0 = .ok (.iconst 0, 1) := by decide +kernel
theorem dX9_sums_1 : decode cX9_sums 1 = .ok (.istore_n 1, 1) := by decide +kernel
theorem dX9_sums_2 : decode cX9_sums 2 = .ok (.iload_n 1, 1) := by decide +kernel
theorem dX9_sums_3 : decode cX9_sums 3 = .ok (.sipush 216, 3) := by decide +kernel
theorem dX9_sums_6 : decode cX9_sums 6 = .ok (.if_icmp .ge 24, 3) := by decide +kernel
theorem dX9_sums_9 : decode cX9_sums 9 = .ok (.aload_n 0, 1) := by decide +kernel
theorem dX9_sums_10 : decode cX9_sums 10 = .ok (.getfield 75, 3) := by decide +kernel
theorem dX9_sums_13 : decode cX9_sums 13 = .ok (.iload_n 1, 1) := by decide +kernel
theorem dX9_sums_14 : decode cX9_sums 14 = .ok (.iload_n 1, 1) := by decide +kernel
theorem dX9_sums_15 : decode cX9_sums 15 = .ok (.ifCond .ne 7, 3) := by decide +kernel
theorem dX9_sums_18 : decode cX9_sums 18 = .ok (.iconst 1, 1) := by decide +kernel
theorem dX9_sums_19 : decode cX9_sums 19 = .ok (.goto 4, 3) := by decide +kernel
theorem dX9_sums_22 : decode cX9_sums 22 = .ok (.iconst 0, 1) := by decide +kernel
theorem dX9_sums_23 : decode cX9_sums 23 = .ok (.iastore, 1) := by decide +kernel
theorem dX9_sums_24 : decode cX9_sums 24 = .ok (.iinc 1 1, 3) := by decide +kernel
theorem dX9_sums_27 : decode cX9_sums 27 = .ok (.goto (-25), 3) := by decide +kernel
theorem dX9_sums_30 : decode cX9_sums 30 = .ok (.aload_n 0, 1) := by decide +kernel
theorem dX9_sums_31 : decode cX9_sums 31 = .ok (.iconst 1, 1) := by decide +kernel
theorem dX9_sums_32 : decode cX9_sums 32 = .ok (.putfield 256, 3) := by decide +kernel
theorem dX9_sums_35 : decode cX9_sums 35 = .ok (.iconst 0, 1) := by decide +kernel
theorem dX9_sums_36 : decode cX9_sums 36 = .ok (.istore_n 1, 1) := by decide +kernel
theorem dX9_sums_37 : decode cX9_sums 37 = .ok (.iconst 0, 1) := by decide +kernel
theorem dX9_sums_38 : decode cX9_sums 38 = .ok (.istore_n 2, 1) := by decide +kernel
theorem dX9_sums_39 : decode cX9_sums 39 = .ok (.iload_n 2, 1) := by decide +kernel
theorem dX9_sums_40 : decode cX9_sums 40 = .ok (.aload_n 0, 1) := by decide +kernel
theorem dX9_sums_41 : decode cX9_sums 41 = .ok (.getfield 170, 3) := by decide +kernel
theorem dX9_sums_44 : decode cX9_sums 44 = .ok (.if_icmp .ge 41, 3) := by decide +kernel
theorem dX9_sums_47 : decode cX9_sums 47 = .ok (.aload_n 0, 1) := by decide +kernel
theorem dX9_sums_48 : decode cX9_sums 48 = .ok (.aload_n 0, 1) := by decide +kernel
theorem dX9_sums_49 : decode cX9_sums 49 = .ok (.getfield 45, 3) := by decide +kernel
theorem dX9_sums_52 : decode cX9_sums 52 = .ok (.iload_n 2, 1) := by decide +kernel
theorem dX9_sums_53 : decode cX9_sums 53 = .ok (.iaload, 1) := by decide +kernel
theorem dX9_sums_54 : decode cX9_sums 54 = .ok (.iload_n 1, 1) := by decide +kernel
theorem dX9_sums_55 : decode cX9_sums 55 = .ok (.invokevirtual 269, 3) := by decide +kernel
theorem dX9_sums_58 : decode cX9_sums 58 = .ok (.iload_n 1, 1) := by decide +kernel
theorem dX9_sums_59 : decode cX9_sums 59 = .ok (.aload_n 0, 1) := by decide +kernel
theorem dX9_sums_60 : decode cX9_sums 60 = .ok (.getfield 45, 3) := by decide +kernel
theorem dX9_sums_63 : decode cX9_sums 63 = .ok (.iload_n 2, 1) := by decide +kernel
theorem dX9_sums_64 : decode cX9_sums 64 = .ok (.iaload, 1) := by decide +kernel
theorem dX9_sums_65 : decode cX9_sums 65 = .ok (.iconst 3, 1) := by decide +kernel
theorem dX9_sums_66 : decode cX9_sums 66 = .ok (.invokestatic 173, 3) := by decide +kernel
theorem dX9_sums_69 : decode cX9_sums 69 = .ok (.istore_n 1, 1) := by decide +kernel
theorem dX9_sums_70 : decode cX9_sums 70 = .ok (.aload_n 0, 1) := by decide +kernel
theorem dX9_sums_71 : decode cX9_sums 71 = .ok (.aload_n 0, 1) := by decide +kernel
theorem dX9_sums_72 : decode cX9_sums 72 = .ok (.iload_n 1, 1) := by decide +kernel
theorem dX9_sums_73 : decode cX9_sums 73 = .ok (.invokevirtual 259, 3) := by decide +kernel
theorem dX9_sums_76 : decode cX9_sums 76 = .ok (.putfield 256, 3) := by decide +kernel
theorem dX9_sums_79 : decode cX9_sums 79 = .ok (.iinc 2 1, 3) := by decide +kernel
theorem dX9_sums_82 : decode cX9_sums 82 = .ok (.goto (-43), 3) := by decide +kernel
theorem dX9_sums_85 : decode cX9_sums 85 = .ok (.return_, 1) := by decide +kernel
set_option maxRecDepth 100000 in
set_option maxHeartbeats 4000000 in
theorem kb_X9_sums_23 {x1 : Int32} {s0 : Nat} {s1 : Int32} {s2 : Int32} {w : Mem} {r : (Int32 × Mem) ⊕ ((Mem))} {H : Heap} {locs : List Loc} {ls : Array Slot} (C : CX p s m args meth c cX9_sums 3 RX9 wc_X9_sums none) (hs0 : KDm s0 = (10, 216)) (hG : Gd s G A 28 B (entM G B w) X H locs) (hl : lv_has ls 3 [(0, .ref (B + 0)), (1, .int x1)]) (hf : sh_X9_sums_j23 x1 s0 s1 s2 w = some r)
    (kL : ∀ st' : Int32 × Mem, r = Sum.inl st' → ∀ (H : Heap) (locs : List Loc) (ls : Array Slot), Gd s G A 28 B (entM G B st'.2) X H locs → lv_has ls 3 [(0, .ref (B + 0)), (1, .int st'.1)] → W p l e rm_X9_sums s m args below meth c H locs 0 0 Q (F0 m 2 ls []))
    (kX0 : ∀ y' : Mem, r = Sum.inr y' → ∀ (H : Heap) (locs : List Loc) (ls : Array Slot), Gd s G A 28 B (entM G B y') X H locs → lv_has ls 3 [(0, .ref (B + 0))] → W p l e rm_X9_sums s m args below meth c H locs 0 0 Q (F0 m 30 ls [])) :
    W p l e rm_X9_sums s m args below meth c H locs 0 0 Q (F0 m 23 ls [.int s2, .int s1, .ref (B + s0)]) := by
  obtain ⟨w1, hw1, hf⟩ := of_bind hf
  obtain ⟨bw1, ew1⟩ := of_stM hw1
  refine r_iast C hG (c0 := s0) (kdm_lt hs0 (by decide)) (entM_I hs0) bw1 (E' := (entM G B w1)) (by rw [ew1]; exact upM_I hs0) dX9_sums_23 (fun H locs hG => ?_)
  obtain ⟨v2, ev2, hf⟩ := of_letv hf
  refine lv_iinc (v := v2) (lv' := [(1, .int v2), (0, .ref (B + 0))]) C.1 C.2.1 dX9_sums_24 hl (k := 1) rfl (by rw [ev2, show Int32.ofInt (1) = nI 1 from by decide]) (by decide) rfl (fun ls hl => ?_)
  refine lv_goto (tgt := 2) C.1 C.2.1 dX9_sums_27 (by decide) ?_
  obtain rfl := Option.some.inj hf
  exact kL _ rfl _ _ _ hG (lv_sub hl [1, 0] rfl)
set_option maxRecDepth 100000 in
set_option maxHeartbeats 4000000 in
theorem kb_X9_sums_2  {st : Int32 × Mem} {r : (Int32 × Mem) ⊕ ((Mem))} {H : Heap} {locs : List Loc} {ls : Array Slot} (C : CX p s m args meth c cX9_sums 3 RX9 wc_X9_sums none)  (hG : Gd s G A 28 B (entM G B st.2) X H locs) (hl : lv_has ls 3 [(0, .ref (B + 0)), (1, .int st.1)]) (hf : sh_X9_sums_s2  st = some r)
    (kL : ∀ st' : Int32 × Mem, r = Sum.inl st' → ∀ (H : Heap) (locs : List Loc) (ls : Array Slot), Gd s G A 28 B (entM G B st'.2) X H locs → lv_has ls 3 [(0, .ref (B + 0)), (1, .int st'.1)] → W p l e rm_X9_sums s m args below meth c H locs 0 0 Q (F0 m 2 ls []))
    (kX0 : ∀ y' : Mem, r = Sum.inr y' → ∀ (H : Heap) (locs : List Loc) (ls : Array Slot), Gd s G A 28 B (entM G B y') X H locs → lv_has ls 3 [(0, .ref (B + 0))] → W p l e rm_X9_sums s m args below meth c H locs 0 0 Q (F0 m 30 ls [])) :
    W p l e rm_X9_sums s m args below meth c H locs 0 0 Q (F0 m 2 ls []) := by
  refine lv_iload_n C.1 C.2.1 dX9_sums_2 rfl (lv_at hl 1 rfl) ?_
  refine lv_sipush (v := nI 216) C.1 C.2.1 dX9_sums_3 (by decide) ?_
  rcases of_ite hf with ⟨c1, hf⟩ | ⟨c1, hf⟩
  · refine lv_icmp_ge (tgt := 30) C.1 C.2.1 dX9_sums_6 (by decide) (fun _ => ?_) (fun q => absurd c1 q)
    obtain rfl := Option.some.inj hf
    exact kX0 _ rfl _ _ _ hG (lv_sub hl [0] rfl)
  · refine lv_icmp_ge (tgt := 30) C.1 C.2.1 dX9_sums_6 (by decide) (fun q => absurd q c1) (fun _ => ?_)
    refine lv_aload_n C.1 C.2.1 dX9_sums_9 rfl (lv_at hl 0 rfl) ?_
    refine gf_X9_75 C hG rfl dX9_sums_10 ?_
    refine lv_iload_n C.1 C.2.1 dX9_sums_13 rfl (lv_at hl 1 rfl) ?_
    refine lv_iload_n C.1 C.2.1 dX9_sums_14 rfl (lv_at hl 1 rfl) ?_
    rcases of_ite hf with ⟨c2, hf⟩ | ⟨c2, hf⟩
    · refine lv_if_ne (tgt := 22) C.1 C.2.1 dX9_sums_15 (by decide) (fun q => absurd c2 q) (fun _ => ?_)
      refine lv_iconst (v := nI 1) C.1 C.2.1 dX9_sums_18 (by decide) ?_
      refine lv_goto (tgt := 23) C.1 C.2.1 dX9_sums_19 (by decide) ?_
      exact kb_X9_sums_23 C rfl hG hl hf kL kX0
    · refine lv_if_ne (tgt := 22) C.1 C.2.1 dX9_sums_15 (by decide) (fun _ => ?_) (fun q => absurd q c2)
      refine lv_iconst (v := nI 0) C.1 C.2.1 dX9_sums_22 (by decide) ?_
      exact kb_X9_sums_23 C rfl hG hl hf kL kX0
set_option maxRecDepth 100000 in
set_option maxHeartbeats 4000000 in
theorem kl_X9_sums_2  (C : CX p s m args meth c cX9_sums 3 RX9 wc_X9_sums none)  : ∀ (n : Nat) (st : Int32 × Mem) (x : (Mem)) (H : Heap) (locs : List Loc) (ls : Array Slot), Gd s G A 28 B (entM G B st.2) X H locs → lv_has ls 3 [(0, .ref (B + 0)), (1, .int st.1)] → lpw (sh_X9_sums_s2 ) n st = some x →
    (∀ y' : Mem, x = y' → ∀ (H : Heap) (locs : List Loc) (ls : Array Slot), Gd s G A 28 B (entM G B y') X H locs → lv_has ls 3 [(0, .ref (B + 0))] → W p l e rm_X9_sums s m args below meth c H locs 0 0 Q (F0 m 30 ls [])) → W p l e rm_X9_sums s m args below meth c H locs 0 0 Q (F0 m 2 ls []) := by
  intro n
  induction n with
  | zero =>
    intro st x H locs ls hG hl hf
    cases hf
  | succ n ih =>
    intro st x H locs ls hG hl hf kX0
    obtain ⟨r, hr, hh⟩ := of_lpw hf
    refine kb_X9_sums_2 C  hG hl hr (fun st2 e1 H locs ls hG hl => ?_) (fun y2 e1 H locs ls hG hl => ?_)
    · rcases hh with ⟨s3, e2, hh⟩ | e2
      · rw [e2] at e1
        cases e1
        exact ih _ _ _ _ _ hG hl hh kX0
      · rw [e2] at e1
        cases e1
    · rcases hh with ⟨s3, e2, hh⟩ | e2
      · rw [e2] at e1
        cases e1
      · rw [e2] at e1
        cases e1
        exact kX0 _ rfl _ _ _ hG hl
set_option maxRecDepth 100000 in
set_option maxHeartbeats 4000000 in
theorem kb_X9_sums_39  {st : Int32 × Int32 × Mem} {r : (Int32 × Int32 × Mem) ⊕ ((Mem))} {H : Heap} {locs : List Loc} {ls : Array Slot} (C : CX p s m args meth c cX9_sums 3 RX9 wc_X9_sums none)  (hG : Gd s G A 28 B (entM G B st.2.2) X H locs) (hl : lv_has ls 3 [(0, .ref (B + 0)), (1, .int st.1), (2, .int st.2.1)]) (hf : sh_X9_sums_s39  st = some r)
    (kL : ∀ st' : Int32 × Int32 × Mem, r = Sum.inl st' → ∀ (H : Heap) (locs : List Loc) (ls : Array Slot), Gd s G A 28 B (entM G B st'.2.2) X H locs → lv_has ls 3 [(0, .ref (B + 0)), (1, .int st'.1), (2, .int st'.2.1)] → W p l e rm_X9_sums s m args below meth c H locs 0 0 Q (F0 m 39 ls []))
    (kX0 : ∀ y' : Mem, r = Sum.inr y' → ∀ (H : Heap) (locs : List Loc) (ls : Array Slot), Gd s G A 28 B (entM G B y') X H locs → lv_has ls 3 [] → W p l e rm_X9_sums s m args below meth c H locs 0 0 Q (F0 m 85 ls [])) :
    W p l e rm_X9_sums s m args below meth c H locs 0 0 Q (F0 m 39 ls []) := by
  refine lv_iload_n C.1 C.2.1 dX9_sums_39 rfl (lv_at hl 2 rfl) ?_
  refine lv_aload_n C.1 C.2.1 dX9_sums_40 rfl (lv_at hl 0 rfl) ?_
  refine gf_X9_170 C hG rfl dX9_sums_41 ?_
  rcases of_ite hf with ⟨c1, hf⟩ | ⟨c1, hf⟩
  · refine lv_icmp_ge (tgt := 85) C.1 C.2.1 dX9_sums_44 (by decide) (fun _ => ?_) (fun q => absurd c1 q)
    obtain rfl := Option.some.inj hf
    exact kX0 _ rfl _ _ _ hG (lv_sub hl [] rfl)
  · refine lv_icmp_ge (tgt := 85) C.1 C.2.1 dX9_sums_44 (by decide) (fun q => absurd q c1) (fun _ => ?_)
    refine lv_aload_n C.1 C.2.1 dX9_sums_47 rfl (lv_at hl 0 rfl) ?_
    refine lv_aload_n C.1 C.2.1 dX9_sums_48 rfl (lv_at hl 0 rfl) ?_
    refine gf_X9_45 C hG rfl dX9_sums_49 ?_
    refine lv_iload_n C.1 C.2.1 dX9_sums_52 rfl (lv_at hl 2 rfl) ?_
    obtain ⟨v2, hv2, hf⟩ := of_bind hf
    obtain ⟨bv2, ev2⟩ := of_ldS hv2
    refine r_iald C hG (c0 := 12) (by decide) (entM_I (n := 48) rfl) bv2 dX9_sums_53 ?_
    refine r_top ev2 ?_
    refine lv_iload_n C.1 C.2.1 dX9_sums_54 rfl (lv_at hl 1 rfl) ?_
    obtain ⟨w3, hw3, hf⟩ := of_bind hf
    refine r_callV0 C hG hl.1 (c0 := 0) (As := [.int v2, .int st.1]) (by decide) (entM_O (n := 35) rfl) rfl (mt_X9_does l  hw3) (cwV 2 C.2.2.2.2.1 (gd_V tg_5_177 tg_5_179 tgp_55 tg_1_10 tg_5_180) rfl rfl rfl cd_X9_does ⟨Nat.le_of_ble_eq_true rfl, Nat.le_of_ble_eq_true rfl⟩) rfl rfl (Nat.le_of_ble_eq_true rfl) dX9_sums_55 (fun H locs hG => ?_)
    refine lv_iload_n C.1 C.2.1 dX9_sums_58 rfl (lv_at hl 1 rfl) ?_
    refine lv_aload_n C.1 C.2.1 dX9_sums_59 rfl (lv_at hl 0 rfl) ?_
    refine gf_X9_45 C hG rfl dX9_sums_60 ?_
    refine lv_iload_n C.1 C.2.1 dX9_sums_63 rfl (lv_at hl 2 rfl) ?_
    obtain ⟨v4, hv4, hf⟩ := of_bind hf
    obtain ⟨bv4, ev4⟩ := of_ldS hv4
    refine r_iald C hG (c0 := 12) (by decide) (entM_I (n := 48) rfl) bv4 dX9_sums_64 ?_
    refine r_top ev4 ?_
    refine lv_iconst (v := nI 3) C.1 C.2.1 dX9_sums_65 (by decide) ?_
    obtain ⟨v5, hv5, hf⟩ := of_bind hf
    refine r_callS1 C hG hl.1 (As := [.int st.1, .int v4, .int (nI 3)]) (mt_X9_behind l  hv5) (va_cwS 3 C.2.2.2.2.1 (gd_S tg_5_92 tg_5_93 tg_1_10 tg_5_94) rfl rfl rfl cd_X9_behind.2 ⟨Nat.le_of_ble_eq_true rfl, Nat.le_of_ble_eq_true rfl⟩) rfl rfl (Nat.le_of_ble_eq_true rfl) dX9_sums_66 (fun H locs hG => ?_)
    refine lv_istore_n (lv' := [(1, .int v5), (0, .ref (B + 0)), (2, .int st.2.1)]) C.1 C.2.1 dX9_sums_69 rfl hl (by decide) rfl (fun ls hl => ?_)
    refine lv_aload_n C.1 C.2.1 dX9_sums_70 rfl (lv_at hl 1 rfl) ?_
    refine lv_aload_n C.1 C.2.1 dX9_sums_71 rfl (lv_at hl 1 rfl) ?_
    refine lv_iload_n C.1 C.2.1 dX9_sums_72 rfl (lv_at hl 0 rfl) ?_
    obtain ⟨v6, hv6, hf⟩ := of_bind hf
    refine r_callV1 C hG hl.1 (c0 := 0) (As := [.int v5]) (by decide) (entM_O (n := 35) rfl) rfl (mt_X9_power l  hv6) (cwV 1 C.2.2.2.2.1 (gd_V tg_5_185 tg_5_187 tgp_57 tg_1_10 tg_5_188) rfl rfl rfl cd_X9_power ⟨Nat.le_of_ble_eq_true rfl, Nat.le_of_ble_eq_true rfl⟩) rfl rfl (Nat.le_of_ble_eq_true rfl) dX9_sums_73 (fun H locs hG => ?_)
    obtain ⟨w7, ew7, hf⟩ := of_letv hf
    refine pf_X9_256 C hG rfl dX9_sums_76 (fun H locs hG => ?_)
    rw [← ew7] at hG
    obtain ⟨v8, ev8, hf⟩ := of_letv hf
    refine lv_iinc (v := v8) (lv' := [(2, .int v8), (1, .int v5), (0, .ref (B + 0))]) C.1 C.2.1 dX9_sums_79 hl (k := 2) rfl (by rw [ev8, show Int32.ofInt (1) = nI 1 from by decide]) (by decide) rfl (fun ls hl => ?_)
    refine lv_goto (tgt := 39) C.1 C.2.1 dX9_sums_82 (by decide) ?_
    obtain rfl := Option.some.inj hf
    exact kL _ rfl _ _ _ hG (lv_sub hl [2, 1, 0] rfl)
set_option maxRecDepth 100000 in
set_option maxHeartbeats 4000000 in
theorem kl_X9_sums_39  (C : CX p s m args meth c cX9_sums 3 RX9 wc_X9_sums none)  : ∀ (n : Nat) (st : Int32 × Int32 × Mem) (x : (Mem)) (H : Heap) (locs : List Loc) (ls : Array Slot), Gd s G A 28 B (entM G B st.2.2) X H locs → lv_has ls 3 [(0, .ref (B + 0)), (1, .int st.1), (2, .int st.2.1)] → lpw (sh_X9_sums_s39 ) n st = some x →
    (∀ y' : Mem, x = y' → ∀ (H : Heap) (locs : List Loc) (ls : Array Slot), Gd s G A 28 B (entM G B y') X H locs → lv_has ls 3 [] → W p l e rm_X9_sums s m args below meth c H locs 0 0 Q (F0 m 85 ls [])) → W p l e rm_X9_sums s m args below meth c H locs 0 0 Q (F0 m 39 ls []) := by
  intro n
  induction n with
  | zero =>
    intro st x H locs ls hG hl hf
    cases hf
  | succ n ih =>
    intro st x H locs ls hG hl hf kX0
    obtain ⟨r, hr, hh⟩ := of_lpw hf
    refine kb_X9_sums_39 C  hG hl hr (fun st2 e1 H locs ls hG hl => ?_) (fun y2 e1 H locs ls hG hl => ?_)
    · rcases hh with ⟨s3, e2, hh⟩ | e2
      · rw [e2] at e1
        cases e1
        exact ih _ _ _ _ _ hG hl hh kX0
      · rw [e2] at e1
        cases e1
    · rcases hh with ⟨s3, e2, hh⟩ | e2
      · rw [e2] at e1
        cases e1
      · rw [e2] at e1
        cases e1
        exact kX0 _ rfl _ _ _ hG hl
set_option maxRecDepth 100000 in
set_option maxHeartbeats 4000000 in
theorem kb_X9_sums_0 {w : Mem} {out : Mem} {H : Heap} {locs : List Loc} {ls : Array Slot} (C : CX p s m args meth c cX9_sums 3 RX9 wc_X9_sums none)  (hG : Gd s G A 28 B (entM G B w) X H locs) (hl : lv_has ls 3 [(0, .ref (B + 0))]) (hf : sh_X9_sums w = some out) :
    W p l e rm_X9_sums s m args below meth c H locs 0 0 (MQ below (CPost G A 28 B (entM G B out) X none) args s 0 0 A) (F0 m 0 ls []) := by
  refine lv_iconst (v := nI 0) C.1 C.2.1 dX9_sums_0 (by decide) ?_
  refine lv_istore_n (lv' := [(1, .int (nI 0)), (0, .ref (B + 0))]) C.1 C.2.1 dX9_sums_1 rfl hl (by decide) rfl (fun ls hl => ?_)
  obtain ⟨ex1, hex1, hf⟩ := of_bind hf
  refine kl_X9_sums_2 C  FU (nI 0, w) ex1 _ _ _ hG (lv_sub hl [1, 0] rfl) hex1 (fun y e0 H locs ls hG hl => ?_)
  subst e0
  refine lv_aload_n C.1 C.2.1 dX9_sums_30 rfl (lv_at hl 0 rfl) ?_
  refine lv_iconst (v := nI 1) C.1 C.2.1 dX9_sums_31 (by decide) ?_
  obtain ⟨w2, ew2, hf⟩ := of_letv hf
  refine pf_X9_256 C hG rfl dX9_sums_32 (fun H locs hG => ?_)
  rw [← ew2] at hG
  refine lv_iconst (v := nI 0) C.1 C.2.1 dX9_sums_35 (by decide) ?_
  refine lv_istore_n (lv' := [(1, .int (nI 0)), (0, .ref (B + 0))]) C.1 C.2.1 dX9_sums_36 rfl hl (by decide) rfl (fun ls hl => ?_)
  refine lv_iconst (v := nI 0) C.1 C.2.1 dX9_sums_37 (by decide) ?_
  refine lv_istore_n (lv' := [(2, .int (nI 0)), (1, .int (nI 0)), (0, .ref (B + 0))]) C.1 C.2.1 dX9_sums_38 rfl hl (by decide) rfl (fun ls hl => ?_)
  obtain ⟨ex3, hex3, hf⟩ := of_bind hf
  refine kl_X9_sums_39 C  FU (nI 0, nI 0, w2) ex3 _ _ _ hG (lv_sub hl [2, 1, 0] rfl) hex3 (fun y e0 H locs ls hG hl => ?_)
  subst e0
  obtain rfl := Option.some.inj hf
  exact r_vret C hG dX9_sums_85
set_option maxRecDepth 100000 in
set_option maxHeartbeats 4000000 in
theorem mt_X9_sums (l : Launch) {G : GG} {A : Nat → Prop} {B : Nat} {X : va_W} {w : Mem} {out : Mem}  (hf : sh_X9_sums w = some out) : MetW l yX9_sums wc_X9_sums rm_X9_sums G A 28 B (entM G B w) X [.ref (B + 0)] none (entM G B out) := by
  refine Met.ofW (cc := cX9_sums) (maxL := 3) (ret := none) (by decide) rfl ?_
  intro p e s m args below meth c s₁ B0 hml hv
  obtain ⟨rfl, hEv, hWd⟩ := hv
  have C : CX p s m _ meth c cX9_sums 3 RX9 wc_X9_sums none := ⟨B0.exec, B0.bytes, hml, findClass_of_methodNamed B0.named, atoms_spec (ws := wc_X9_sums) B0.pre, B0.returns, B0.notSynchronized⟩
  have hl := lv_entry [.ref (B + 0)] (n := 3) (Nat.le_of_ble_eq_true rfl)
  rw [lg_entry_eq]
  generalize (lg_sl [.ref (B + 0)] ++ List.replicate (3 - (lg_sl [.ref (B + 0)]).length) Slot.unset).toArray = ls at hl ⊢
  have hl : lv_has ls 3 [(0, .ref (B + 0))] := hl
  exact kb_X9_sums_0 C  ⟨hEv, hWd, va_S.rf⟩ hl hf
abbrev wc_X9_together : List Cond := Cond.code yX9_together cX9_together 3 (some .int) :: TG
abbrev rm_X9_together : Room := { frames := 2, cells := 0, slots := 0, locals := 100 }
theorem cd_X9_together : yX9_together.cls = RX9 ∧ yX9_together.cls ≠ "java/lang/invoke/MethodHandle" ∧ yX9_together.cls ≠ "java/lang/invoke/VarHandle" ∧ (parseMethodDescriptor yX9_together.desc).map (fun d => d.parameters.length) = some 0 := by decide +kernel
theorem dX9_together_0 : decode cX9_together 0 = .ok (.iconst 0, 1) := by decide +kernel
theorem dX9_together_1 : decode cX9_together 1 = .ok (.istore_n 1, 1) := by decide +kernel
theorem dX9_together_2 : decode cX9_together 2 = .ok (.iconst 0, 1) := by decide +kernel
theorem dX9_together_3 : decode cX9_together 3 = .ok (.istore_n 2, 1) := by decide +kernel
theorem dX9_together_4 : decode cX9_together 4 = .ok (.iload_n 2, 1) := by decide +kernel
theorem dX9_together_5 : decode cX9_together 5 = .ok (.aload_n 0, 1) := by decide +kernel
theorem dX9_together_6 : decode cX9_together 6 = .ok (.getfield 256, 3) := by decide +kernel
theorem dX9_together_9 : decode cX9_together 9 = .ok (.if_icmp .ge 22, 3) := by decide +kernel
theorem dX9_together_12 : decode cX9_together 12 = .ok (.iload_n 1, 1) := by decide +kernel
theorem dX9_together_13 : decode cX9_together 13 = .ok (.aload_n 0, 1) := by decide +kernel
theorem dX9_together_14 : decode cX9_together 14 = .ok (.getfield 75, 3) := by decide +kernel
theorem dX9_together_17 : decode cX9_together 17 = .ok (.iload_n 2, 1) := by decide +kernel
theorem dX9_together_18 : decode cX9_together 18 = .ok (.iaload, 1) := by decide +kernel
theorem dX9_together_19 : decode cX9_together 19 = .ok (.iadd, 1) := by decide +kernel
theorem dX9_together_20 : decode cX9_together 20 = .ok (.sipush 9973, 3) := by decide +kernel
theorem dX9_together_23 : decode cX9_together 23 = .ok (.irem, 1) := by decide +kernel
theorem dX9_together_24 : decode cX9_together 24 = .ok (.istore_n 1, 1) := by decide +kernel
theorem dX9_together_25 : decode cX9_together 25 = .ok (.iinc 2 1, 3) := by decide +kernel
theorem dX9_together_28 : decode cX9_together 28 = .ok (.goto (-24), 3) := by decide +kernel
theorem dX9_together_31 : decode cX9_together 31 = .ok (.iload_n 1, 1) := by decide +kernel
theorem dX9_together_32 : decode cX9_together 32 = .ok (.ireturn, 1) := by decide +kernel
set_option maxRecDepth 100000 in
set_option maxHeartbeats 4000000 in
theorem kb_X9_together_4 {w : Mem} {st : Int32 × Int32} {r : (Int32 × Int32) ⊕ ((Int32))} {H : Heap} {locs : List Loc} {ls : Array Slot} (C : CX p s m args meth c cX9_together 3 RX9 wc_X9_together (some .int))  (hG : Gd s G A 28 B (entM G B w) X H locs) (hl : lv_has ls 3 [(0, .ref (B + 0)), (1, .int st.1), (2, .int st.2)]) (hf : sh_X9_together_s4 w st = some r)
    (kL : ∀ st' : Int32 × Int32, r = Sum.inl st' → ∀ (H : Heap) (locs : List Loc) (ls : Array Slot), Gd s G A 28 B (entM G B w) X H locs → lv_has ls 3 [(0, .ref (B + 0)), (1, .int st'.1), (2, .int st'.2)] → W p l e rm_X9_together s m args below meth c H locs 0 0 Q (F0 m 4 ls []))
    (kX0 : ∀ y' : Int32, r = Sum.inr y' → ∀ (H : Heap) (locs : List Loc) (ls : Array Slot), Gd s G A 28 B (entM G B w) X H locs → lv_has ls 3 [(1, .int y')] → W p l e rm_X9_together s m args below meth c H locs 0 0 Q (F0 m 31 ls [])) :
    W p l e rm_X9_together s m args below meth c H locs 0 0 Q (F0 m 4 ls []) := by
  refine lv_iload_n C.1 C.2.1 dX9_together_4 rfl (lv_at hl 2 rfl) ?_
  refine lv_aload_n C.1 C.2.1 dX9_together_5 rfl (lv_at hl 0 rfl) ?_
  refine gf_X9_256 C hG rfl dX9_together_6 ?_
  rcases of_ite hf with ⟨c1, hf⟩ | ⟨c1, hf⟩
  · refine lv_icmp_ge (tgt := 31) C.1 C.2.1 dX9_together_9 (by decide) (fun _ => ?_) (fun q => absurd c1 q)
    obtain rfl := Option.some.inj hf
    exact kX0 _ rfl _ _ _ hG (lv_sub hl [1] rfl)
  · refine lv_icmp_ge (tgt := 31) C.1 C.2.1 dX9_together_9 (by decide) (fun q => absurd q c1) (fun _ => ?_)
    refine lv_iload_n C.1 C.2.1 dX9_together_12 rfl (lv_at hl 1 rfl) ?_
    refine lv_aload_n C.1 C.2.1 dX9_together_13 rfl (lv_at hl 0 rfl) ?_
    refine gf_X9_75 C hG rfl dX9_together_14 ?_
    refine lv_iload_n C.1 C.2.1 dX9_together_17 rfl (lv_at hl 2 rfl) ?_
    obtain ⟨v2, hv2, hf⟩ := of_bind hf
    obtain ⟨bv2, ev2⟩ := of_ldS hv2
    refine r_iald C hG (c0 := 22) (by decide) (entM_I (n := 216) rfl) bv2 dX9_together_18 ?_
    refine r_top ev2 ?_
    refine lv_iadd C.1 C.2.1 dX9_together_19 ?_
    refine lv_sipush (v := nI 9973) C.1 C.2.1 dX9_together_20 (by decide) ?_
    refine r_irem C dX9_together_23 (by decide) ?_
    obtain ⟨v3, ev3, hf⟩ := of_letv hf
    refine r_top ev3 ?_
    refine lv_istore_n (lv' := [(1, .int v3), (0, .ref (B + 0)), (2, .int st.2)]) C.1 C.2.1 dX9_together_24 rfl hl (by decide) rfl (fun ls hl => ?_)
    obtain ⟨v4, ev4, hf⟩ := of_letv hf
    refine lv_iinc (v := v4) (lv' := [(2, .int v4), (1, .int v3), (0, .ref (B + 0))]) C.1 C.2.1 dX9_together_25 hl (k := 2) rfl (by rw [ev4, show Int32.ofInt (1) = nI 1 from by decide]) (by decide) rfl (fun ls hl => ?_)
    refine lv_goto (tgt := 4) C.1 C.2.1 dX9_together_28 (by decide) ?_
    obtain rfl := Option.some.inj hf
    exact kL _ rfl _ _ _ hG (lv_sub hl [2, 1, 0] rfl)
set_option maxRecDepth 100000 in
set_option maxHeartbeats 4000000 in
theorem kl_X9_together_4 {w : Mem} (C : CX p s m args meth c cX9_together 3 RX9 wc_X9_together (some .int))  : ∀ (n : Nat) (st : Int32 × Int32) (x : (Int32)) (H : Heap) (locs : List Loc) (ls : Array Slot), Gd s G A 28 B (entM G B w) X H locs → lv_has ls 3 [(0, .ref (B + 0)), (1, .int st.1), (2, .int st.2)] → lpw (sh_X9_together_s4 w) n st = some x →
    (∀ y' : Int32, x = y' → ∀ (H : Heap) (locs : List Loc) (ls : Array Slot), Gd s G A 28 B (entM G B w) X H locs → lv_has ls 3 [(1, .int y')] → W p l e rm_X9_together s m args below meth c H locs 0 0 Q (F0 m 31 ls [])) → W p l e rm_X9_together s m args below meth c H locs 0 0 Q (F0 m 4 ls []) := by
  intro n
  induction n with
  | zero =>
    intro st x H locs ls hG hl hf
    cases hf
  | succ n ih =>
    intro st x H locs ls hG hl hf kX0
    obtain ⟨r, hr, hh⟩ := of_lpw hf
    refine kb_X9_together_4 C  hG hl hr (fun st2 e1 H locs ls hG hl => ?_) (fun y2 e1 H locs ls hG hl => ?_)
    · rcases hh with ⟨s3, e2, hh⟩ | e2
      · rw [e2] at e1
        cases e1
        exact ih _ _ _ _ _ hG hl hh kX0
      · rw [e2] at e1
        cases e1
    · rcases hh with ⟨s3, e2, hh⟩ | e2
      · rw [e2] at e1
        cases e1
      · rw [e2] at e1
        cases e1
        exact kX0 _ rfl _ _ _ hG hl
set_option maxRecDepth 100000 in
set_option maxHeartbeats 4000000 in
theorem kb_X9_together_0 {w : Mem} {out : Int32} {H : Heap} {locs : List Loc} {ls : Array Slot} (C : CX p s m args meth c cX9_together 3 RX9 wc_X9_together (some .int))  (hG : Gd s G A 28 B (entM G B w) X H locs) (hl : lv_has ls 3 [(0, .ref (B + 0))]) (hf : sh_X9_together w = some out) :
    W p l e rm_X9_together s m args below meth c H locs 0 0 (MQ below (CPost G A 28 B (entM G B w) X (some (.int out))) args s 0 0 A) (F0 m 0 ls []) := by
  refine lv_iconst (v := nI 0) C.1 C.2.1 dX9_together_0 (by decide) ?_
  refine lv_istore_n (lv' := [(1, .int (nI 0)), (0, .ref (B + 0))]) C.1 C.2.1 dX9_together_1 rfl hl (by decide) rfl (fun ls hl => ?_)
  refine lv_iconst (v := nI 0) C.1 C.2.1 dX9_together_2 (by decide) ?_
  refine lv_istore_n (lv' := [(2, .int (nI 0)), (1, .int (nI 0)), (0, .ref (B + 0))]) C.1 C.2.1 dX9_together_3 rfl hl (by decide) rfl (fun ls hl => ?_)
  obtain ⟨ex1, hex1, hf⟩ := of_bind hf
  refine kl_X9_together_4 C  FU (nI 0, nI 0) ex1 _ _ _ hG (lv_sub hl [2, 1, 0] rfl) hex1 (fun y e0 H locs ls hG hl => ?_)
  subst e0
  refine lv_iload_n C.1 C.2.1 dX9_together_31 rfl (lv_at hl 0 rfl) ?_
  obtain rfl := Option.some.inj hf
  exact r_iret C hG dX9_together_32
set_option maxRecDepth 100000 in
set_option maxHeartbeats 4000000 in
theorem mt_X9_together (l : Launch) {G : GG} {A : Nat → Prop} {B : Nat} {X : va_W} {w : Mem} {out : Int32}  (hf : sh_X9_together w = some out) : MetW l yX9_together wc_X9_together rm_X9_together G A 28 B (entM G B w) X [.ref (B + 0)] (some (.int out)) (entM G B w) := by
  refine Met.ofW (cc := cX9_together) (maxL := 3) (ret := (some .int)) (by decide) rfl ?_
  intro p e s m args below meth c s₁ B0 hml hv
  obtain ⟨rfl, hEv, hWd⟩ := hv
  have C : CX p s m _ meth c cX9_together 3 RX9 wc_X9_together (some .int) := ⟨B0.exec, B0.bytes, hml, findClass_of_methodNamed B0.named, atoms_spec (ws := wc_X9_together) B0.pre, B0.returns, B0.notSynchronized⟩
  have hl := lv_entry [.ref (B + 0)] (n := 3) (Nat.le_of_ble_eq_true rfl)
  rw [lg_entry_eq]
  generalize (lg_sl [.ref (B + 0)] ++ List.replicate (3 - (lg_sl [.ref (B + 0)]).length) Slot.unset).toArray = ls at hl ⊢
  have hl : lv_has ls 3 [(0, .ref (B + 0))] := hl
  exact kb_X9_together_0 C  ⟨hEv, hWd, va_S.rf⟩ hl hf
abbrev wc_X9_sumsOf : List Cond := Cond.code yX9_sumsOf cX9_sumsOf 3 none :: TG
abbrev rm_X9_sumsOf : Room := { frames := 7, cells := 0, slots := 0, locals := 222 }
theorem cd_X9_sumsOf : yX9_sumsOf.cls = RX9 ∧ yX9_sumsOf.cls ≠ "java/lang/invoke/MethodHandle" ∧ yX9_sumsOf.cls ≠ "java/lang/invoke/VarHandle" ∧ (parseMethodDescriptor yX9_sumsOf.desc).map (fun d => d.parameters.length) = some 2 := by decide +kernel
theorem dX9_sumsOf_0 : decode cX9_sumsOf 0 = .ok (.aload_n 0, 1) := by decide +kernel
theorem dX9_sumsOf_1 : decode cX9_sumsOf 1 = .ok (.iload_n 1, 1) := by decide +kernel
theorem dX9_sumsOf_2 : decode cX9_sumsOf 2 = .ok (.invokevirtual 214, 3) := by decide +kernel
theorem dX9_sumsOf_5 : decode cX9_sumsOf 5 = .ok (.aload_n 0, 1) := by decide +kernel
theorem dX9_sumsOf_6 : decode cX9_sumsOf 6 = .ok (.iload_n 2, 1) := by decide +kernel
theorem dX9_sumsOf_7 : decode cX9_sumsOf 7 = .ok (.invokevirtual 152, 3) := by decide +kernel
theorem dX9_sumsOf_10 : decode cX9_sumsOf 10 = .ok (.aload_n 0, 1) := by decide +kernel
theorem dX9_sumsOf_11 : decode cX9_sumsOf 11 = .ok (.invokevirtual 272, 3) := by decide +kernel
theorem dX9_sumsOf_14 : decode cX9_sumsOf 14 = .ok (.return_, 1) := by decide +kernel
set_option maxRecDepth 100000 in
set_option maxHeartbeats 4000000 in
theorem kb_X9_sumsOf_0 {x1 : Int32} {x2 : Int32} {w : Mem} {out : Mem} {H : Heap} {locs : List Loc} {ls : Array Slot} (C : CX p s m args meth c cX9_sumsOf 3 RX9 wc_X9_sumsOf none)  (hG : Gd s G A 28 B (entM G B w) X H locs) (hl : lv_has ls 3 [(0, .ref (B + 0)), (1, .int x1), (2, .int x2)]) (hf : sh_X9_sumsOf x1 x2 w = some out) :
    W p l e rm_X9_sumsOf s m args below meth c H locs 0 0 (MQ below (CPost G A 28 B (entM G B out) X none) args s 0 0 A) (F0 m 0 ls []) := by
  refine lv_aload_n C.1 C.2.1 dX9_sumsOf_0 rfl (lv_at hl 0 rfl) ?_
  refine lv_iload_n C.1 C.2.1 dX9_sumsOf_1 rfl (lv_at hl 1 rfl) ?_
  obtain ⟨w1, hw1, hf⟩ := of_bind hf
  refine r_callV0 C hG hl.1 (c0 := 0) (As := [.int x1]) (by decide) (entM_O (n := 35) rfl) rfl (mt_X9_loads l  hw1) (cwV 1 C.2.2.2.2.1 (gd_V tg_5_107 tg_5_109 tgp_44 tg_1_10 tg_5_110) rfl rfl rfl cd_X9_loads ⟨Nat.le_of_ble_eq_true rfl, Nat.le_of_ble_eq_true rfl⟩) rfl rfl (Nat.le_of_ble_eq_true rfl) dX9_sumsOf_2 (fun H locs hG => ?_)
  refine lv_aload_n C.1 C.2.1 dX9_sumsOf_5 rfl (lv_at hl 0 rfl) ?_
  refine lv_iload_n C.1 C.2.1 dX9_sumsOf_6 rfl (lv_at hl 2 rfl) ?_
  obtain ⟨w2, hw2, hf⟩ := of_bind hf
  refine r_callV0 C hG hl.1 (c0 := 0) (As := [.int x2]) (by decide) (entM_O (n := 35) rfl) rfl (mt_X9_laysOut_ l  hw2) (cwV 1 C.2.2.2.2.1 (gd_V tg_4_221 tg_4_223 tgp_29 tg_1_10 tg_4_224) rfl rfl rfl cd_X9_laysOut_ ⟨Nat.le_of_ble_eq_true rfl, Nat.le_of_ble_eq_true rfl⟩) rfl rfl (Nat.le_of_ble_eq_true rfl) dX9_sumsOf_7 (fun H locs hG => ?_)
  refine lv_aload_n C.1 C.2.1 dX9_sumsOf_10 rfl (lv_at hl 0 rfl) ?_
  obtain ⟨w3, hw3, hf⟩ := of_bind hf
  refine r_callV0 C hG hl.1 (c0 := 0) (As := []) (by decide) (entM_O (n := 35) rfl) rfl (mt_X9_sums l  hw3) (cwV 0 C.2.2.2.2.1 (gd_V tg_5_173 tg_5_175 tgp_54 tg_1_10 tg_5_176) rfl rfl rfl cd_X9_sums ⟨Nat.le_of_ble_eq_true rfl, Nat.le_of_ble_eq_true rfl⟩) rfl rfl (Nat.le_of_ble_eq_true rfl) dX9_sumsOf_11 (fun H locs hG => ?_)
  obtain rfl := Option.some.inj hf
  exact r_vret C hG dX9_sumsOf_14
set_option maxRecDepth 100000 in
set_option maxHeartbeats 4000000 in
theorem mt_X9_sumsOf (l : Launch) {G : GG} {A : Nat → Prop} {B : Nat} {X : va_W} {x1 : Int32} {x2 : Int32} {w : Mem} {out : Mem}  (hf : sh_X9_sumsOf x1 x2 w = some out) : MetW l yX9_sumsOf wc_X9_sumsOf rm_X9_sumsOf G A 28 B (entM G B w) X [.ref (B + 0), .int x1, .int x2] none (entM G B out) := by
  refine Met.ofW (cc := cX9_sumsOf) (maxL := 3) (ret := none) (by decide) rfl ?_
  intro p e s m args below meth c s₁ B0 hml hv
  obtain ⟨rfl, hEv, hWd⟩ := hv
  have C : CX p s m _ meth c cX9_sumsOf 3 RX9 wc_X9_sumsOf none := ⟨B0.exec, B0.bytes, hml, findClass_of_methodNamed B0.named, atoms_spec (ws := wc_X9_sumsOf) B0.pre, B0.returns, B0.notSynchronized⟩
  have hl := lv_entry [.ref (B + 0), .int x1, .int x2] (n := 3) (Nat.le_of_ble_eq_true rfl)
  rw [lg_entry_eq]
  generalize (lg_sl [.ref (B + 0), .int x1, .int x2] ++ List.replicate (3 - (lg_sl [.ref (B + 0), .int x1, .int x2]).length) Slot.unset).toArray = ls at hl ⊢
  have hl : lv_has ls 3 [(0, .ref (B + 0)), (1, .int x1), (2, .int x2)] := hl
  exact kb_X9_sumsOf_0 C  ⟨hEv, hWd, va_S.rf⟩ hl hf
abbrev wc_X9_sum : List Cond := Cond.code yX9_sum cX9_sum 4 (some .int) :: TG
abbrev rm_X9_sum : Room := { frames := 8, cells := 0, slots := 0, locals := 244 }
theorem cd_X9_sum : yX9_sum.cls = RX9 ∧ yX9_sum.cls ≠ "java/lang/invoke/MethodHandle" ∧ yX9_sum.cls ≠ "java/lang/invoke/VarHandle" ∧ (parseMethodDescriptor yX9_sum.desc).map (fun d => d.parameters.length) = some 3 := by decide +kernel
theorem dX9_sum_0 : decode cX9_sum 0 = .ok (.iload_n 1, 1) := by decide +kernel
theorem dX9_sum_1 : decode cX9_sum 1 = .ok (.invokestatic 205, 3) := by decide +kernel
theorem dX9_sum_4 : decode cX9_sum 4 = .ok (.ifCond .eq 11, 3) := by decide +kernel
theorem dX9_sum_7 : decode cX9_sum 7 = .ok (.aload_n 0, 1) := by decide +kernel
theorem dX9_sum_8 : decode cX9_sum 8 = .ok (.iload_n 2, 1) := by decide +kernel
theorem dX9_sum_9 : decode cX9_sum 9 = .ok (.invokevirtual 109, 3) := by decide +kernel
theorem dX9_sum_12 : decode cX9_sum 12 = .ok (.ifCond .ne 5, 3) := by decide +kernel
theorem dX9_sum_15 : decode cX9_sum 15 = .ok (.iconst (-1), 1) := by decide +kernel
theorem dX9_sum_16 : decode cX9_sum 16 = .ok (.ireturn, 1) := by decide +kernel
theorem dX9_sum_17 : decode cX9_sum 17 = .ok (.aload_n 0, 1) := by decide +kernel
theorem dX9_sum_18 : decode cX9_sum 18 = .ok (.iload_n 1, 1) := by decide +kernel
theorem dX9_sum_19 : decode cX9_sum 19 = .ok (.iload_n 2, 1) := by decide +kernel
theorem dX9_sum_20 : decode cX9_sum 20 = .ok (.invokevirtual 275, 3) := by decide +kernel
theorem dX9_sum_23 : decode cX9_sum 23 = .ok (.iload_n 3, 1) := by decide +kernel
theorem dX9_sum_24 : decode cX9_sum 24 = .ok (.i2l, 1) := by decide +kernel
theorem dX9_sum_25 : decode cX9_sum 25 = .ok (.lconst 0, 1) := by decide +kernel
theorem dX9_sum_26 : decode cX9_sum 26 = .ok (.aload_n 0, 1) := by decide +kernel
theorem dX9_sum_27 : decode cX9_sum 27 = .ok (.getfield 256, 3) := by decide +kernel
theorem dX9_sum_30 : decode cX9_sum 30 = .ok (.iconst 1, 1) := by decide +kernel
theorem dX9_sum_31 : decode cX9_sum 31 = .ok (.isub, 1) := by decide +kernel
theorem dX9_sum_32 : decode cX9_sum 32 = .ok (.i2l, 1) := by decide +kernel
theorem dX9_sum_33 : decode cX9_sum 33 = .ok (.invokestatic 93, 3) := by decide +kernel
theorem dX9_sum_36 : decode cX9_sum 36 = .ok (.ifCond .eq 12, 3) := by decide +kernel
theorem dX9_sum_39 : decode cX9_sum 39 = .ok (.aload_n 0, 1) := by decide +kernel
theorem dX9_sum_40 : decode cX9_sum 40 = .ok (.getfield 75, 3) := by decide +kernel
theorem dX9_sum_43 : decode cX9_sum 43 = .ok (.iload_n 3, 1) := by decide +kernel
theorem dX9_sum_44 : decode cX9_sum 44 = .ok (.iaload, 1) := by decide +kernel
theorem dX9_sum_45 : decode cX9_sum 45 = .ok (.goto 4, 3) := by decide +kernel
theorem dX9_sum_48 : decode cX9_sum 48 = .ok (.iconst (-1), 1) := by decide +kernel
theorem dX9_sum_49 : decode cX9_sum 49 = .ok (.ireturn, 1) := by decide +kernel
set_option maxRecDepth 100000 in
set_option maxHeartbeats 4000000 in
theorem kb_X9_sum_0 {x1 : Int32} {x2 : Int32} {x3 : Int32} {w : Mem} {out : Int32 × Mem} {H : Heap} {locs : List Loc} {ls : Array Slot} (C : CX p s m args meth c cX9_sum 4 RX9 wc_X9_sum (some .int))  (hG : Gd s G A 28 B (entM G B w) X H locs) (hl : lv_has ls 4 [(0, .ref (B + 0)), (1, .int x1), (2, .int x2), (3, .int x3)]) (hf : sh_X9_sum x1 x2 x3 w = some out) :
    W p l e rm_X9_sum s m args below meth c H locs 0 0 (MQ below (CPost G A 28 B (entM G B out.2) X (some (.int out.1))) args s 0 0 A) (F0 m 0 ls []) := by
  refine lv_iload_n C.1 C.2.1 dX9_sum_0 rfl (lv_at hl 1 rfl) ?_
  obtain ⟨v1, hv1, hf⟩ := of_bind hf
  refine r_callS1 C hG hl.1 (As := [.int x1]) (mt_X9_isSurface l  hv1) (va_cwS 1 C.2.2.2.2.1 (gd_S tg_5_64 tg_5_65 tg_1_10 tg_5_66) rfl rfl rfl cd_X9_isSurface.2 ⟨Nat.le_of_ble_eq_true rfl, Nat.le_of_ble_eq_true rfl⟩) rfl rfl (Nat.le_of_ble_eq_true rfl) dX9_sum_1 (fun H locs hG => ?_)
  rcases of_ite hf with ⟨c2, hf⟩ | ⟨c2, hf⟩
  · refine lv_if_eq (tgt := 15) C.1 C.2.1 dX9_sum_4 (by decide) (fun _ => ?_) (fun q => absurd c2 q)
    refine lv_iconst (v := (-1 : Int32)) C.1 C.2.1 dX9_sum_15 (by decide) ?_
    obtain rfl := Option.some.inj hf
    exact r_iret C hG dX9_sum_16
  · refine lv_if_eq (tgt := 15) C.1 C.2.1 dX9_sum_4 (by decide) (fun q => absurd q c2) (fun _ => ?_)
    refine lv_aload_n C.1 C.2.1 dX9_sum_7 rfl (lv_at hl 0 rfl) ?_
    refine lv_iload_n C.1 C.2.1 dX9_sum_8 rfl (lv_at hl 2 rfl) ?_
    obtain ⟨v3, hv3, hf⟩ := of_bind hf
    refine r_callV1 C hG hl.1 (c0 := 0) (As := [.int x2]) (by decide) (entM_O (n := 35) rfl) rfl (mt_X9_isAlgebra l  hv3) (cwV 1 C.2.2.2.2.1 (gd_V tg_4_205 tg_4_207 tgp_27 tg_1_10 tg_4_208) rfl rfl rfl cd_X9_isAlgebra ⟨Nat.le_of_ble_eq_true rfl, Nat.le_of_ble_eq_true rfl⟩) rfl rfl (Nat.le_of_ble_eq_true rfl) dX9_sum_9 (fun H locs hG => ?_)
    rcases of_ite hf with ⟨c4, hf⟩ | ⟨c4, hf⟩
    · refine lv_if_ne (tgt := 17) C.1 C.2.1 dX9_sum_12 (by decide) (fun q => absurd c4 q) (fun _ => ?_)
      refine lv_iconst (v := (-1 : Int32)) C.1 C.2.1 dX9_sum_15 (by decide) ?_
      obtain rfl := Option.some.inj hf
      exact r_iret C hG dX9_sum_16
    · refine lv_if_ne (tgt := 17) C.1 C.2.1 dX9_sum_12 (by decide) (fun _ => ?_) (fun q => absurd q c4)
      refine lv_aload_n C.1 C.2.1 dX9_sum_17 rfl (lv_at hl 0 rfl) ?_
      refine lv_iload_n C.1 C.2.1 dX9_sum_18 rfl (lv_at hl 1 rfl) ?_
      refine lv_iload_n C.1 C.2.1 dX9_sum_19 rfl (lv_at hl 2 rfl) ?_
      obtain ⟨w5, hw5, hf⟩ := of_bind hf
      refine r_callV0 C hG hl.1 (c0 := 0) (As := [.int x1, .int x2]) (by decide) (entM_O (n := 35) rfl) rfl (mt_X9_sumsOf l  hw5) (cwV 2 C.2.2.2.2.1 (gd_V tg_5_169 tg_5_171 tgp_53 tg_1_10 tg_5_172) rfl rfl rfl cd_X9_sumsOf ⟨Nat.le_of_ble_eq_true rfl, Nat.le_of_ble_eq_true rfl⟩) rfl rfl (Nat.le_of_ble_eq_true rfl) dX9_sum_20 (fun H locs hG => ?_)
      refine lv_iload_n C.1 C.2.1 dX9_sum_23 rfl (lv_at hl 3 rfl) ?_
      refine lv_i2l C.1 C.2.1 dX9_sum_24 rfl ?_
      refine lv_lconst (v := lN 0) C.1 C.2.1 dX9_sum_25 rfl ?_
      refine lv_aload_n C.1 C.2.1 dX9_sum_26 rfl (lv_at hl 0 rfl) ?_
      refine gf_X9_256 C hG rfl dX9_sum_27 ?_
      refine lv_iconst (v := nI 1) C.1 C.2.1 dX9_sum_30 (by decide) ?_
      refine lv_isub C.1 C.2.1 dX9_sum_31 ?_
      refine lv_i2l C.1 C.2.1 dX9_sum_32 rfl ?_
      obtain ⟨v6, hv6, hf⟩ := of_bind hf
      refine r_callS1 C hG hl.1 (As := [.long x3.toInt64, .long (lN 0), .long (((w5 0 29) - (nI 1)).toInt64)]) (mt_X9_isIn l  hv6) (va_cwS 3 C.2.2.2.2.1 (gd_S tg_4_195 tg_4_196 tg_1_10 tg_4_197) rfl rfl rfl cd_X9_isIn.2 ⟨Nat.le_of_ble_eq_true rfl, Nat.le_of_ble_eq_true rfl⟩) rfl rfl (Nat.le_of_ble_eq_true rfl) dX9_sum_33 (fun H locs hG => ?_)
      rcases of_ite hf with ⟨c7, hf⟩ | ⟨c7, hf⟩
      · refine lv_if_eq (tgt := 48) C.1 C.2.1 dX9_sum_36 (by decide) (fun _ => ?_) (fun q => absurd c7 q)
        refine lv_iconst (v := (-1 : Int32)) C.1 C.2.1 dX9_sum_48 (by decide) ?_
        obtain rfl := Option.some.inj hf
        exact r_iret C hG dX9_sum_49
      · refine lv_if_eq (tgt := 48) C.1 C.2.1 dX9_sum_36 (by decide) (fun q => absurd q c7) (fun _ => ?_)
        refine lv_aload_n C.1 C.2.1 dX9_sum_39 rfl (lv_at hl 0 rfl) ?_
        refine gf_X9_75 C hG rfl dX9_sum_40 ?_
        refine lv_iload_n C.1 C.2.1 dX9_sum_43 rfl (lv_at hl 3 rfl) ?_
        obtain ⟨v8, hv8, hf⟩ := of_bind hf
        obtain ⟨bv8, ev8⟩ := of_ldS hv8
        refine r_iald C hG (c0 := 22) (by decide) (entM_I (n := 216) rfl) bv8 dX9_sum_44 ?_
        refine r_top ev8 ?_
        refine lv_goto (tgt := 49) C.1 C.2.1 dX9_sum_45 (by decide) ?_
        obtain rfl := Option.some.inj hf
        exact r_iret C hG dX9_sum_49
set_option maxRecDepth 100000 in
set_option maxHeartbeats 4000000 in
theorem mt_X9_sum (l : Launch) {G : GG} {A : Nat → Prop} {B : Nat} {X : va_W} {x1 : Int32} {x2 : Int32} {x3 : Int32} {w : Mem} {out : Int32 × Mem}  (hf : sh_X9_sum x1 x2 x3 w = some out) : MetW l yX9_sum wc_X9_sum rm_X9_sum G A 28 B (entM G B w) X [.ref (B + 0), .int x1, .int x2, .int x3] (some (.int out.1)) (entM G B out.2) := by
  refine Met.ofW (cc := cX9_sum) (maxL := 4) (ret := (some .int)) (by decide) rfl ?_
  intro p e s m args below meth c s₁ B0 hml hv
  obtain ⟨rfl, hEv, hWd⟩ := hv
  have C : CX p s m _ meth c cX9_sum 4 RX9 wc_X9_sum (some .int) := ⟨B0.exec, B0.bytes, hml, findClass_of_methodNamed B0.named, atoms_spec (ws := wc_X9_sum) B0.pre, B0.returns, B0.notSynchronized⟩
  have hl := lv_entry [.ref (B + 0), .int x1, .int x2, .int x3] (n := 4) (Nat.le_of_ble_eq_true rfl)
  rw [lg_entry_eq]
  generalize (lg_sl [.ref (B + 0), .int x1, .int x2, .int x3] ++ List.replicate (4 - (lg_sl [.ref (B + 0), .int x1, .int x2, .int x3]).length) Slot.unset).toArray = ls at hl ⊢
  have hl : lv_has ls 4 [(0, .ref (B + 0)), (1, .int x1), (2, .int x2), (3, .int x3)] := hl
  exact kb_X9_sum_0 C  ⟨hEv, hWd, va_S.rf⟩ hl hf
abbrev wc_X9_total : List Cond := Cond.code yX9_total cX9_total 7 (some .int) :: TG
abbrev rm_X9_total : Room := { frames := 8, cells := 0, slots := 0, locals := 244 }
theorem cd_X9_total : yX9_total.cls = RX9 ∧ yX9_total.cls ≠ "java/lang/invoke/MethodHandle" ∧ yX9_total.cls ≠ "java/lang/invoke/VarHandle" ∧ (parseMethodDescriptor yX9_total.desc).map (fun d => d.parameters.length) = some 3 := by decide +kernel
theorem dX9_total_0 : decode cX9_total 0 = .ok (.iload_n 1, 1) := by decide +kernel
theorem dX9_total_1 : decode cX9_total 1 = .ok (.invokestatic 205, 3) := by decide +kernel
theorem dX9_total_4 : decode cX9_total 4 = .ok (.ifCond .eq 11, 3) := by decide +kernel
theorem dX9_total_7 : decode cX9_total 7 = .ok (.aload_n 0, 1) := by decide +kernel
theorem dX9_total_8 : decode cX9_total 8 = .ok (.iload_n 2, 1) := by decide +kernel
theorem dX9_total_9 : decode cX9_total 9 = .ok (.invokevirtual 109, 3) := by decide +kernel
theorem dX9_total_12 : decode cX9_total 12 = .ok (.ifCond .ne 5, 3) := by decide +kernel
theorem dX9_total_15 : decode cX9_total 15 = .ok (.iconst (-1), 1) := by decide +kernel
theorem dX9_total_16 : decode cX9_total 16 = .ok (.ireturn, 1) := by decide +kernel
theorem dX9_total_17 : decode cX9_total 17 = .ok (.aload_n 0, 1) := by decide +kernel
theorem dX9_total_18 : decode cX9_total 18 = .ok (.iload_n 1, 1) := by decide +kernel
theorem dX9_total_19 : decode cX9_total 19 = .ok (.iload_n 2, 1) := by decide +kernel
theorem dX9_total_20 : decode cX9_total 20 = .ok (.invokevirtual 275, 3) := by decide +kernel
theorem dX9_total_23 : decode cX9_total 23 = .ok (.iconst 0, 1) := by decide +kernel
theorem dX9_total_24 : decode cX9_total 24 = .ok (.istore 4, 2) := by decide +kernel
theorem dX9_total_26 : decode cX9_total 26 = .ok (.bipush (-5), 2) := by decide +kernel
theorem dX9_total_28 : decode cX9_total 28 = .ok (.istore 5, 2) := by decide +kernel
theorem dX9_total_30 : decode cX9_total 30 = .ok (.aload_n 0, 1) := by decide +kernel
theorem dX9_total_31 : decode cX9_total 31 = .ok (.getfield 256, 3) := by decide +kernel
theorem dX9_total_34 : decode cX9_total 34 = .ok (.iconst 1, 1) := by decide +kernel
theorem dX9_total_35 : decode cX9_total 35 = .ok (.isub, 1) := by decide +kernel
theorem dX9_total_36 : decode cX9_total 36 = .ok (.istore 6, 2) := by decide +kernel
theorem dX9_total_38 : decode cX9_total 38 = .ok (.iload 6, 2) := by decide +kernel
theorem dX9_total_40 : decode cX9_total 40 = .ok (.ifCond .lt 48, 3) := by decide +kernel
theorem dX9_total_43 : decode cX9_total 43 = .ok (.iload 4, 2) := by decide +kernel
theorem dX9_total_45 : decode cX9_total 45 = .ok (.aload_n 0, 1) := by decide +kernel
theorem dX9_total_46 : decode cX9_total 46 = .ok (.getfield 75, 3) := by decide +kernel
theorem dX9_total_49 : decode cX9_total 49 = .ok (.iload 6, 2) := by decide +kernel
theorem dX9_total_51 : decode cX9_total 51 = .ok (.iaload, 1) := by decide +kernel
theorem dX9_total_52 : decode cX9_total 52 = .ok (.ifCond .eq 7, 3) := by decide +kernel
theorem dX9_total_55 : decode cX9_total 55 = .ok (.iconst 1, 1) := by decide +kernel
theorem dX9_total_56 : decode cX9_total 56 = .ok (.goto 4, 3) := by decide +kernel
theorem dX9_total_59 : decode cX9_total 59 = .ok (.iconst 0, 1) := by decide +kernel
theorem dX9_total_60 : decode cX9_total 60 = .ok (.iadd, 1) := by decide +kernel
theorem dX9_total_61 : decode cX9_total 61 = .ok (.istore 4, 2) := by decide +kernel
theorem dX9_total_63 : decode cX9_total 63 = .ok (.aload_n 0, 1) := by decide +kernel
theorem dX9_total_64 : decode cX9_total 64 = .ok (.getfield 75, 3) := by decide +kernel
theorem dX9_total_67 : decode cX9_total 67 = .ok (.iload 6, 2) := by decide +kernel
theorem dX9_total_69 : decode cX9_total 69 = .ok (.iaload, 1) := by decide +kernel
theorem dX9_total_70 : decode cX9_total 70 = .ok (.ifCond .eq 8, 3) := by decide +kernel
theorem dX9_total_73 : decode cX9_total 73 = .ok (.iload 6, 2) := by decide +kernel
theorem dX9_total_75 : decode cX9_total 75 = .ok (.goto 5, 3) := by decide +kernel
theorem dX9_total_78 : decode cX9_total 78 = .ok (.iload 5, 2) := by decide +kernel
theorem dX9_total_80 : decode cX9_total 80 = .ok (.istore 5, 2) := by decide +kernel
theorem dX9_total_82 : decode cX9_total 82 = .ok (.iinc 6 (-1), 3) := by decide +kernel
theorem dX9_total_85 : decode cX9_total 85 = .ok (.goto (-47), 3) := by decide +kernel
theorem dX9_total_88 : decode cX9_total 88 = .ok (.iload_n 3, 1) := by decide +kernel
theorem dX9_total_89 : decode cX9_total 89 = .ok (.tableswitch 47 0 3 #[31, 36, 39, 42], 31) := by decide +kernel
theorem dX9_total_120 : decode cX9_total 120 = .ok (.aload_n 0, 1) := by decide +kernel
theorem dX9_total_121 : decode cX9_total 121 = .ok (.getfield 256, 3) := by decide +kernel
theorem dX9_total_124 : decode cX9_total 124 = .ok (.ireturn, 1) := by decide +kernel
theorem dX9_total_125 : decode cX9_total 125 = .ok (.iload 4, 2) := by decide +kernel
theorem dX9_total_127 : decode cX9_total 127 = .ok (.ireturn, 1) := by decide +kernel
theorem dX9_total_128 : decode cX9_total 128 = .ok (.iload 5, 2) := by decide +kernel
theorem dX9_total_130 : decode cX9_total 130 = .ok (.ireturn, 1) := by decide +kernel
theorem dX9_total_131 : decode cX9_total 131 = .ok (.aload_n 0, 1) := by decide +kernel
theorem dX9_total_132 : decode cX9_total 132 = .ok (.invokevirtual 278, 3) := by decide +kernel
theorem dX9_total_135 : decode cX9_total 135 = .ok (.ireturn, 1) := by decide +kernel
theorem dX9_total_136 : decode cX9_total 136 = .ok (.iconst (-1), 1) := by decide +kernel
theorem dX9_total_137 : decode cX9_total 137 = .ok (.ireturn, 1) := by decide +kernel
set_option maxRecDepth 100000 in
set_option maxHeartbeats 4000000 in
theorem kb_X9_total_60 {x3 : Int32} {x5 : Int32} {x6 : Int32} {s0 : Int32} {s1 : Int32} {w : Mem} {r : (Int32 × Int32 × Int32) ⊕ ((Int32 × Int32))} {H : Heap} {locs : List Loc} {ls : Array Slot} (C : CX p s m args meth c cX9_total 7 RX9 wc_X9_total (some .int))  (hG : Gd s G A 28 B (entM G B w) X H locs) (hl : lv_has ls 7 [(0, .ref (B + 0)), (3, .int x3), (5, .int x5), (6, .int x6)]) (hf : sh_X9_total_j60 x3 x5 x6 s0 s1 w = some r)
    (kL : ∀ st' : Int32 × Int32 × Int32, r = Sum.inl st' → ∀ (H : Heap) (locs : List Loc) (ls : Array Slot), Gd s G A 28 B (entM G B w) X H locs → lv_has ls 7 [(0, .ref (B + 0)), (3, .int x3), (4, .int st'.1), (5, .int st'.2.1), (6, .int st'.2.2)] → W p l e rm_X9_total s m args below meth c H locs 0 0 Q (F0 m 38 ls []))
    (kX0 : ∀ y' : Int32 × Int32, r = Sum.inr y' → ∀ (H : Heap) (locs : List Loc) (ls : Array Slot), Gd s G A 28 B (entM G B w) X H locs → lv_has ls 7 [(0, .ref (B + 0)), (3, .int x3), (4, .int y'.1), (5, .int y'.2)] → W p l e rm_X9_total s m args below meth c H locs 0 0 Q (F0 m 88 ls [])) :
    W p l e rm_X9_total s m args below meth c H locs 0 0 Q (F0 m 60 ls [.int s1, .int s0]) := by
  refine lv_iadd C.1 C.2.1 dX9_total_60 ?_
  obtain ⟨v1, ev1, hf⟩ := of_letv hf
  refine r_top ev1 ?_
  refine lv_istore (lv' := [(4, .int v1), (0, .ref (B + 0)), (3, .int x3), (5, .int x5), (6, .int x6)]) C.1 C.2.1 dX9_total_61 hl (by decide) rfl (fun ls hl => ?_)
  refine lv_aload_n C.1 C.2.1 dX9_total_63 rfl (lv_at hl 1 rfl) ?_
  refine gf_X9_75 C hG rfl dX9_total_64 ?_
  refine lv_iload C.1 C.2.1 dX9_total_67 (lv_at hl 4 rfl) ?_
  obtain ⟨v2, hv2, hf⟩ := of_bind hf
  obtain ⟨bv2, ev2⟩ := of_ldS hv2
  refine r_iald C hG (c0 := 22) (by decide) (entM_I (n := 216) rfl) bv2 dX9_total_69 ?_
  refine r_top ev2 ?_
  rcases of_ite hf with ⟨c3, hf⟩ | ⟨c3, hf⟩
  · refine lv_if_eq (tgt := 78) C.1 C.2.1 dX9_total_70 (by decide) (fun _ => ?_) (fun q => absurd c3 q)
    refine lv_iload C.1 C.2.1 dX9_total_78 (lv_at hl 3 rfl) ?_
    refine lv_istore (lv' := [(5, .int x5), (4, .int v1), (0, .ref (B + 0)), (3, .int x3), (6, .int x6)]) C.1 C.2.1 dX9_total_80 hl (by decide) rfl (fun ls hl => ?_)
    obtain ⟨v4, ev4, hf⟩ := of_letv hf
    refine lv_iinc (v := v4) (lv' := [(6, .int v4), (5, .int x5), (4, .int v1), (0, .ref (B + 0)), (3, .int x3)]) C.1 C.2.1 dX9_total_82 hl (k := 4) rfl (by rw [ev4, show Int32.ofInt (-1) = (-1 : Int32) from by decide]) (by decide) rfl (fun ls hl => ?_)
    refine lv_goto (tgt := 38) C.1 C.2.1 dX9_total_85 (by decide) ?_
    obtain rfl := Option.some.inj hf
    exact kL _ rfl _ _ _ hG (lv_sub hl [3, 4, 2, 1, 0] rfl)
  · refine lv_if_eq (tgt := 78) C.1 C.2.1 dX9_total_70 (by decide) (fun q => absurd q c3) (fun _ => ?_)
    refine lv_iload C.1 C.2.1 dX9_total_73 (lv_at hl 4 rfl) ?_
    refine lv_goto (tgt := 80) C.1 C.2.1 dX9_total_75 (by decide) ?_
    refine lv_istore (lv' := [(5, .int x6), (4, .int v1), (0, .ref (B + 0)), (3, .int x3), (6, .int x6)]) C.1 C.2.1 dX9_total_80 hl (by decide) rfl (fun ls hl => ?_)
    obtain ⟨v5, ev5, hf⟩ := of_letv hf
    refine lv_iinc (v := v5) (lv' := [(6, .int v5), (5, .int x6), (4, .int v1), (0, .ref (B + 0)), (3, .int x3)]) C.1 C.2.1 dX9_total_82 hl (k := 4) rfl (by rw [ev5, show Int32.ofInt (-1) = (-1 : Int32) from by decide]) (by decide) rfl (fun ls hl => ?_)
    refine lv_goto (tgt := 38) C.1 C.2.1 dX9_total_85 (by decide) ?_
    obtain rfl := Option.some.inj hf
    exact kL _ rfl _ _ _ hG (lv_sub hl [3, 4, 2, 1, 0] rfl)
set_option maxRecDepth 100000 in
set_option maxHeartbeats 4000000 in
theorem kb_X9_total_38 {x3 : Int32} {w : Mem} {st : Int32 × Int32 × Int32} {r : (Int32 × Int32 × Int32) ⊕ ((Int32 × Int32))} {H : Heap} {locs : List Loc} {ls : Array Slot} (C : CX p s m args meth c cX9_total 7 RX9 wc_X9_total (some .int))  (hG : Gd s G A 28 B (entM G B w) X H locs) (hl : lv_has ls 7 [(0, .ref (B + 0)), (3, .int x3), (4, .int st.1), (5, .int st.2.1), (6, .int st.2.2)]) (hf : sh_X9_total_s38 x3 w st = some r)
    (kL : ∀ st' : Int32 × Int32 × Int32, r = Sum.inl st' → ∀ (H : Heap) (locs : List Loc) (ls : Array Slot), Gd s G A 28 B (entM G B w) X H locs → lv_has ls 7 [(0, .ref (B + 0)), (3, .int x3), (4, .int st'.1), (5, .int st'.2.1), (6, .int st'.2.2)] → W p l e rm_X9_total s m args below meth c H locs 0 0 Q (F0 m 38 ls []))
    (kX0 : ∀ y' : Int32 × Int32, r = Sum.inr y' → ∀ (H : Heap) (locs : List Loc) (ls : Array Slot), Gd s G A 28 B (entM G B w) X H locs → lv_has ls 7 [(0, .ref (B + 0)), (3, .int x3), (4, .int y'.1), (5, .int y'.2)] → W p l e rm_X9_total s m args below meth c H locs 0 0 Q (F0 m 88 ls [])) :
    W p l e rm_X9_total s m args below meth c H locs 0 0 Q (F0 m 38 ls []) := by
  refine lv_iload C.1 C.2.1 dX9_total_38 (lv_at hl 4 rfl) ?_
  rcases of_ite hf with ⟨c1, hf⟩ | ⟨c1, hf⟩
  · refine lv_if_lt (tgt := 88) C.1 C.2.1 dX9_total_40 (by decide) (fun _ => ?_) (fun q => absurd c1 q)
    obtain rfl := Option.some.inj hf
    exact kX0 _ rfl _ _ _ hG (lv_sub hl [0, 1, 2, 3] rfl)
  · refine lv_if_lt (tgt := 88) C.1 C.2.1 dX9_total_40 (by decide) (fun q => absurd q c1) (fun _ => ?_)
    refine lv_iload C.1 C.2.1 dX9_total_43 (lv_at hl 2 rfl) ?_
    refine lv_aload_n C.1 C.2.1 dX9_total_45 rfl (lv_at hl 0 rfl) ?_
    refine gf_X9_75 C hG rfl dX9_total_46 ?_
    refine lv_iload C.1 C.2.1 dX9_total_49 (lv_at hl 4 rfl) ?_
    obtain ⟨v2, hv2, hf⟩ := of_bind hf
    obtain ⟨bv2, ev2⟩ := of_ldS hv2
    refine r_iald C hG (c0 := 22) (by decide) (entM_I (n := 216) rfl) bv2 dX9_total_51 ?_
    refine r_top ev2 ?_
    rcases of_ite hf with ⟨c3, hf⟩ | ⟨c3, hf⟩
    · refine lv_if_eq (tgt := 59) C.1 C.2.1 dX9_total_52 (by decide) (fun _ => ?_) (fun q => absurd c3 q)
      refine lv_iconst (v := nI 0) C.1 C.2.1 dX9_total_59 (by decide) ?_
      exact kb_X9_total_60 C  hG (lv_sub hl [0, 1, 3, 4] rfl) hf kL kX0
    · refine lv_if_eq (tgt := 59) C.1 C.2.1 dX9_total_52 (by decide) (fun q => absurd q c3) (fun _ => ?_)
      refine lv_iconst (v := nI 1) C.1 C.2.1 dX9_total_55 (by decide) ?_
      refine lv_goto (tgt := 60) C.1 C.2.1 dX9_total_56 (by decide) ?_
      exact kb_X9_total_60 C  hG (lv_sub hl [0, 1, 3, 4] rfl) hf kL kX0
set_option maxRecDepth 100000 in
set_option maxHeartbeats 4000000 in
theorem kl_X9_total_38 {x3 : Int32} {w : Mem} (C : CX p s m args meth c cX9_total 7 RX9 wc_X9_total (some .int))  : ∀ (n : Nat) (st : Int32 × Int32 × Int32) (x : (Int32 × Int32)) (H : Heap) (locs : List Loc) (ls : Array Slot), Gd s G A 28 B (entM G B w) X H locs → lv_has ls 7 [(0, .ref (B + 0)), (3, .int x3), (4, .int st.1), (5, .int st.2.1), (6, .int st.2.2)] → lpw (sh_X9_total_s38 x3 w) n st = some x →
    (∀ y' : Int32 × Int32, x = y' → ∀ (H : Heap) (locs : List Loc) (ls : Array Slot), Gd s G A 28 B (entM G B w) X H locs → lv_has ls 7 [(0, .ref (B + 0)), (3, .int x3), (4, .int y'.1), (5, .int y'.2)] → W p l e rm_X9_total s m args below meth c H locs 0 0 Q (F0 m 88 ls [])) → W p l e rm_X9_total s m args below meth c H locs 0 0 Q (F0 m 38 ls []) := by
  intro n
  induction n with
  | zero =>
    intro st x H locs ls hG hl hf
    cases hf
  | succ n ih =>
    intro st x H locs ls hG hl hf kX0
    obtain ⟨r, hr, hh⟩ := of_lpw hf
    refine kb_X9_total_38 C  hG hl hr (fun st2 e1 H locs ls hG hl => ?_) (fun y2 e1 H locs ls hG hl => ?_)
    · rcases hh with ⟨s3, e2, hh⟩ | e2
      · rw [e2] at e1
        cases e1
        exact ih _ _ _ _ _ hG hl hh kX0
      · rw [e2] at e1
        cases e1
    · rcases hh with ⟨s3, e2, hh⟩ | e2
      · rw [e2] at e1
        cases e1
      · rw [e2] at e1
        cases e1
        exact kX0 _ rfl _ _ _ hG hl
set_option maxRecDepth 100000 in
set_option maxHeartbeats 4000000 in
theorem kb_X9_total_0 {x1 : Int32} {x2 : Int32} {x3 : Int32} {w : Mem} {out : Int32 × Mem} {H : Heap} {locs : List Loc} {ls : Array Slot} (C : CX p s m args meth c cX9_total 7 RX9 wc_X9_total (some .int))  (hG : Gd s G A 28 B (entM G B w) X H locs) (hl : lv_has ls 7 [(0, .ref (B + 0)), (1, .int x1), (2, .int x2), (3, .int x3)]) (hf : sh_X9_total x1 x2 x3 w = some out) :
    W p l e rm_X9_total s m args below meth c H locs 0 0 (MQ below (CPost G A 28 B (entM G B out.2) X (some (.int out.1))) args s 0 0 A) (F0 m 0 ls []) := by
  refine lv_iload_n C.1 C.2.1 dX9_total_0 rfl (lv_at hl 1 rfl) ?_
  obtain ⟨v1, hv1, hf⟩ := of_bind hf
  refine r_callS1 C hG hl.1 (As := [.int x1]) (mt_X9_isSurface l  hv1) (va_cwS 1 C.2.2.2.2.1 (gd_S tg_5_64 tg_5_65 tg_1_10 tg_5_66) rfl rfl rfl cd_X9_isSurface.2 ⟨Nat.le_of_ble_eq_true rfl, Nat.le_of_ble_eq_true rfl⟩) rfl rfl (Nat.le_of_ble_eq_true rfl) dX9_total_1 (fun H locs hG => ?_)
  rcases of_ite hf with ⟨c2, hf⟩ | ⟨c2, hf⟩
  · refine lv_if_eq (tgt := 15) C.1 C.2.1 dX9_total_4 (by decide) (fun _ => ?_) (fun q => absurd c2 q)
    refine lv_iconst (v := (-1 : Int32)) C.1 C.2.1 dX9_total_15 (by decide) ?_
    obtain rfl := Option.some.inj hf
    exact r_iret C hG dX9_total_16
  · refine lv_if_eq (tgt := 15) C.1 C.2.1 dX9_total_4 (by decide) (fun q => absurd q c2) (fun _ => ?_)
    refine lv_aload_n C.1 C.2.1 dX9_total_7 rfl (lv_at hl 0 rfl) ?_
    refine lv_iload_n C.1 C.2.1 dX9_total_8 rfl (lv_at hl 2 rfl) ?_
    obtain ⟨v3, hv3, hf⟩ := of_bind hf
    refine r_callV1 C hG hl.1 (c0 := 0) (As := [.int x2]) (by decide) (entM_O (n := 35) rfl) rfl (mt_X9_isAlgebra l  hv3) (cwV 1 C.2.2.2.2.1 (gd_V tg_4_205 tg_4_207 tgp_27 tg_1_10 tg_4_208) rfl rfl rfl cd_X9_isAlgebra ⟨Nat.le_of_ble_eq_true rfl, Nat.le_of_ble_eq_true rfl⟩) rfl rfl (Nat.le_of_ble_eq_true rfl) dX9_total_9 (fun H locs hG => ?_)
    rcases of_ite hf with ⟨c4, hf⟩ | ⟨c4, hf⟩
    · refine lv_if_ne (tgt := 17) C.1 C.2.1 dX9_total_12 (by decide) (fun q => absurd c4 q) (fun _ => ?_)
      refine lv_iconst (v := (-1 : Int32)) C.1 C.2.1 dX9_total_15 (by decide) ?_
      obtain rfl := Option.some.inj hf
      exact r_iret C hG dX9_total_16
    · refine lv_if_ne (tgt := 17) C.1 C.2.1 dX9_total_12 (by decide) (fun _ => ?_) (fun q => absurd q c4)
      refine lv_aload_n C.1 C.2.1 dX9_total_17 rfl (lv_at hl 0 rfl) ?_
      refine lv_iload_n C.1 C.2.1 dX9_total_18 rfl (lv_at hl 1 rfl) ?_
      refine lv_iload_n C.1 C.2.1 dX9_total_19 rfl (lv_at hl 2 rfl) ?_
      obtain ⟨w5, hw5, hf⟩ := of_bind hf
      refine r_callV0 C hG hl.1 (c0 := 0) (As := [.int x1, .int x2]) (by decide) (entM_O (n := 35) rfl) rfl (mt_X9_sumsOf l  hw5) (cwV 2 C.2.2.2.2.1 (gd_V tg_5_169 tg_5_171 tgp_53 tg_1_10 tg_5_172) rfl rfl rfl cd_X9_sumsOf ⟨Nat.le_of_ble_eq_true rfl, Nat.le_of_ble_eq_true rfl⟩) rfl rfl (Nat.le_of_ble_eq_true rfl) dX9_total_20 (fun H locs hG => ?_)
      refine lv_iconst (v := nI 0) C.1 C.2.1 dX9_total_23 (by decide) ?_
      refine lv_istore (lv' := [(4, .int (nI 0)), (0, .ref (B + 0)), (1, .int x1), (2, .int x2), (3, .int x3)]) C.1 C.2.1 dX9_total_24 hl (by decide) rfl (fun ls hl => ?_)
      refine lv_bipush (v := (-5 : Int32)) C.1 C.2.1 dX9_total_26 (by decide) ?_
      refine lv_istore (lv' := [(5, .int (-5 : Int32)), (4, .int (nI 0)), (0, .ref (B + 0)), (1, .int x1), (2, .int x2), (3, .int x3)]) C.1 C.2.1 dX9_total_28 hl (by decide) rfl (fun ls hl => ?_)
      refine lv_aload_n C.1 C.2.1 dX9_total_30 rfl (lv_at hl 2 rfl) ?_
      refine gf_X9_256 C hG rfl dX9_total_31 ?_
      refine lv_iconst (v := nI 1) C.1 C.2.1 dX9_total_34 (by decide) ?_
      refine lv_isub C.1 C.2.1 dX9_total_35 ?_
      obtain ⟨v6, ev6, hf⟩ := of_letv hf
      refine r_top ev6 ?_
      refine lv_istore (lv' := [(6, .int v6), (5, .int (-5 : Int32)), (4, .int (nI 0)), (0, .ref (B + 0)), (1, .int x1), (2, .int x2), (3, .int x3)]) C.1 C.2.1 dX9_total_36 hl (by decide) rfl (fun ls hl => ?_)
      obtain ⟨ex7, hex7, hf⟩ := of_bind hf
      refine kl_X9_total_38 C  FU (nI 0, (-5 : Int32), v6) ex7 _ _ _ hG (lv_sub hl [3, 6, 2, 1, 0] rfl) hex7 (fun y e0 H locs ls hG hl => ?_)
      subst e0
      refine lv_iload_n C.1 C.2.1 dX9_total_88 rfl (lv_at hl 1 rfl) ?_
      rcases of_ite hf with ⟨c8, hf⟩ | ⟨c8, hf⟩
      · refine lv_tableIn (tgt := 120) (off := 31) C.1 C.2.1 dX9_total_89 (by rw [c8]; decide) (by rw [c8]; decide) (by rw [c8]; rfl) (by decide) ?_
        refine lv_aload_n C.1 C.2.1 dX9_total_120 rfl (lv_at hl 0 rfl) ?_
        refine gf_X9_256 C hG rfl dX9_total_121 ?_
        obtain rfl := Option.some.inj hf
        exact r_iret C hG dX9_total_124
      · skip
        rcases of_ite hf with ⟨c9, hf⟩ | ⟨c9, hf⟩
        · refine lv_tableIn (tgt := 125) (off := 36) C.1 C.2.1 dX9_total_89 (by rw [c9]; decide) (by rw [c9]; decide) (by rw [c9]; rfl) (by decide) ?_
          refine lv_iload C.1 C.2.1 dX9_total_125 (lv_at hl 2 rfl) ?_
          obtain rfl := Option.some.inj hf
          exact r_iret C hG dX9_total_127
        · skip
          rcases of_ite hf with ⟨c10, hf⟩ | ⟨c10, hf⟩
          · refine lv_tableIn (tgt := 128) (off := 39) C.1 C.2.1 dX9_total_89 (by rw [c10]; decide) (by rw [c10]; decide) (by rw [c10]; rfl) (by decide) ?_
            refine lv_iload C.1 C.2.1 dX9_total_128 (lv_at hl 3 rfl) ?_
            obtain rfl := Option.some.inj hf
            exact r_iret C hG dX9_total_130
          · skip
            rcases of_ite hf with ⟨c11, hf⟩ | ⟨c11, hf⟩
            · refine lv_tableIn (tgt := 131) (off := 42) C.1 C.2.1 dX9_total_89 (by rw [c11]; decide) (by rw [c11]; decide) (by rw [c11]; rfl) (by decide) ?_
              refine lv_aload_n C.1 C.2.1 dX9_total_131 rfl (lv_at hl 0 rfl) ?_
              obtain ⟨v12, hv12, hf⟩ := of_bind hf
              refine r_callV1 C hG hl.1 (c0 := 0) (As := []) (by decide) (entM_O (n := 35) rfl) rfl (mt_X9_together l  hv12) (cwV 0 C.2.2.2.2.1 (gd_V tg_5_201 tg_5_203 tgp_60 tg_1_10 tg_5_204) rfl rfl rfl cd_X9_together ⟨Nat.le_of_ble_eq_true rfl, Nat.le_of_ble_eq_true rfl⟩) rfl rfl (Nat.le_of_ble_eq_true rfl) dX9_total_132 (fun H locs hG => ?_)
              obtain rfl := Option.some.inj hf
              exact r_iret C hG dX9_total_135
            · skip
              refine lv_tableOut (tgt := 136) C.1 C.2.1 dX9_total_89 (sw_out (n := 4) (by decide) (lt_s (lt_s (lt_s (lt_s lt_0 c8) c9) c10) c11)) (by decide) ?_
              refine lv_iconst (v := (-1 : Int32)) C.1 C.2.1 dX9_total_136 (by decide) ?_
              obtain rfl := Option.some.inj hf
              exact r_iret C hG dX9_total_137
set_option maxRecDepth 100000 in
set_option maxHeartbeats 4000000 in
theorem mt_X9_total (l : Launch) {G : GG} {A : Nat → Prop} {B : Nat} {X : va_W} {x1 : Int32} {x2 : Int32} {x3 : Int32} {w : Mem} {out : Int32 × Mem}  (hf : sh_X9_total x1 x2 x3 w = some out) : MetW l yX9_total wc_X9_total rm_X9_total G A 28 B (entM G B w) X [.ref (B + 0), .int x1, .int x2, .int x3] (some (.int out.1)) (entM G B out.2) := by
  refine Met.ofW (cc := cX9_total) (maxL := 7) (ret := (some .int)) (by decide) rfl ?_
  intro p e s m args below meth c s₁ B0 hml hv
  obtain ⟨rfl, hEv, hWd⟩ := hv
  have C : CX p s m _ meth c cX9_total 7 RX9 wc_X9_total (some .int) := ⟨B0.exec, B0.bytes, hml, findClass_of_methodNamed B0.named, atoms_spec (ws := wc_X9_total) B0.pre, B0.returns, B0.notSynchronized⟩
  have hl := lv_entry [.ref (B + 0), .int x1, .int x2, .int x3] (n := 7) (Nat.le_of_ble_eq_true rfl)
  rw [lg_entry_eq]
  generalize (lg_sl [.ref (B + 0), .int x1, .int x2, .int x3] ++ List.replicate (7 - (lg_sl [.ref (B + 0), .int x1, .int x2, .int x3]).length) Slot.unset).toArray = ls at hl ⊢
  have hl : lv_has ls 7 [(0, .ref (B + 0)), (1, .int x1), (2, .int x2), (3, .int x3)] := hl
  exact kb_X9_total_0 C  ⟨hEv, hWd, va_S.rf⟩ hl hf
abbrev wc_X9_alike : List Cond := Cond.code yX9_alike cX9_alike 7 (some .int) :: TG
abbrev rm_X9_alike : Room := { frames := 8, cells := 0, slots := 0, locals := 244 }
theorem cd_X9_alike : yX9_alike.cls = RX9 ∧ yX9_alike.cls ≠ "java/lang/invoke/MethodHandle" ∧ yX9_alike.cls ≠ "java/lang/invoke/VarHandle" ∧ (parseMethodDescriptor yX9_alike.desc).map (fun d => d.parameters.length) = some 3 := by decide +kernel
theorem dX9_alike_0 : decode cX9_alike 0 = .ok (.iload_n 1, 1) := by decide +kernel
theorem dX9_alike_1 : decode cX9_alike 1 = .ok (.invokestatic 205, 3) := by decide +kernel
theorem dX9_alike_4 : decode cX9_alike 4 = .ok (.ifCond .eq 18, 3) := by decide +kernel
theorem dX9_alike_7 : decode cX9_alike 7 = .ok (.iload_n 2, 1) := by decide +kernel
theorem dX9_alike_8 : decode cX9_alike 8 = .ok (.invokestatic 205, 3) := by decide +kernel
theorem dX9_alike_11 : decode cX9_alike 11 = .ok (.ifCond .eq 11, 3) := by decide +kernel
theorem dX9_alike_14 : decode cX9_alike 14 = .ok (.aload_n 0, 1) := by decide +kernel
theorem dX9_alike_15 : decode cX9_alike 15 = .ok (.iload_n 3, 1) := by decide +kernel
theorem dX9_alike_16 : decode cX9_alike 16 = .ok (.invokevirtual 109, 3) := by decide +kernel
theorem dX9_alike_19 : decode cX9_alike 19 = .ok (.ifCond .ne 5, 3) := by decide +kernel
theorem dX9_alike_22 : decode cX9_alike 22 = .ok (.iconst (-1), 1) := by decide +kernel
theorem dX9_alike_23 : decode cX9_alike 23 = .ok (.ireturn, 1) := by decide +kernel
theorem dX9_alike_24 : decode cX9_alike 24 = .ok (.aload_n 0, 1) := by decide +kernel
theorem dX9_alike_25 : decode cX9_alike 25 = .ok (.iload_n 1, 1) := by decide +kernel
theorem dX9_alike_26 : decode cX9_alike 26 = .ok (.iload_n 3, 1) := by decide +kernel
theorem dX9_alike_27 : decode cX9_alike 27 = .ok (.invokevirtual 275, 3) := by decide +kernel
theorem dX9_alike_30 : decode cX9_alike 30 = .ok (.aload_n 0, 1) := by decide +kernel
theorem dX9_alike_31 : decode cX9_alike 31 = .ok (.invokevirtual 176, 3) := by decide +kernel
theorem dX9_alike_34 : decode cX9_alike 34 = .ok (.istore 4, 2) := by decide +kernel
theorem dX9_alike_36 : decode cX9_alike 36 = .ok (.iconst 0, 1) := by decide +kernel
theorem dX9_alike_37 : decode cX9_alike 37 = .ok (.istore 5, 2) := by decide +kernel
theorem dX9_alike_39 : decode cX9_alike 39 = .ok (.iload 5, 2) := by decide +kernel
theorem dX9_alike_41 : decode cX9_alike 41 = .ok (.sipush 216, 3) := by decide +kernel
theorem dX9_alike_44 : decode cX9_alike 44 = .ok (.if_icmp .ge 23, 3) := by decide +kernel
theorem dX9_alike_47 : decode cX9_alike 47 = .ok (.aload_n 0, 1) := by decide +kernel
theorem dX9_alike_48 : decode cX9_alike 48 = .ok (.getfield 81, 3) := by decide +kernel
theorem dX9_alike_51 : decode cX9_alike 51 = .ok (.iload 5, 2) := by decide +kernel
theorem dX9_alike_53 : decode cX9_alike 53 = .ok (.aload_n 0, 1) := by decide +kernel
theorem dX9_alike_54 : decode cX9_alike 54 = .ok (.getfield 75, 3) := by decide +kernel
theorem dX9_alike_57 : decode cX9_alike 57 = .ok (.iload 5, 2) := by decide +kernel
theorem dX9_alike_59 : decode cX9_alike 59 = .ok (.iaload, 1) := by decide +kernel
theorem dX9_alike_60 : decode cX9_alike 60 = .ok (.iastore, 1) := by decide +kernel
theorem dX9_alike_61 : decode cX9_alike 61 = .ok (.iinc 5 1, 3) := by decide +kernel
theorem dX9_alike_64 : decode cX9_alike 64 = .ok (.goto (-25), 3) := by decide +kernel
theorem dX9_alike_67 : decode cX9_alike 67 = .ok (.aload_n 0, 1) := by decide +kernel
theorem dX9_alike_68 : decode cX9_alike 68 = .ok (.iload_n 2, 1) := by decide +kernel
theorem dX9_alike_69 : decode cX9_alike 69 = .ok (.iload_n 3, 1) := by decide +kernel
theorem dX9_alike_70 : decode cX9_alike 70 = .ok (.invokevirtual 275, 3) := by decide +kernel
theorem dX9_alike_73 : decode cX9_alike 73 = .ok (.iload 4, 2) := by decide +kernel
theorem dX9_alike_75 : decode cX9_alike 75 = .ok (.aload_n 0, 1) := by decide +kernel
theorem dX9_alike_76 : decode cX9_alike 76 = .ok (.invokevirtual 176, 3) := by decide +kernel
theorem dX9_alike_79 : decode cX9_alike 79 = .ok (.if_icmp .ne 7, 3) := by decide +kernel
theorem dX9_alike_82 : decode cX9_alike 82 = .ok (.iconst 1, 1) := by decide +kernel
theorem dX9_alike_83 : decode cX9_alike 83 = .ok (.goto 4, 3) := by decide +kernel
theorem dX9_alike_86 : decode cX9_alike 86 = .ok (.iconst 0, 1) := by decide +kernel
theorem dX9_alike_87 : decode cX9_alike 87 = .ok (.istore 5, 2) := by decide +kernel
theorem dX9_alike_89 : decode cX9_alike 89 = .ok (.iconst 0, 1) := by decide +kernel
theorem dX9_alike_90 : decode cX9_alike 90 = .ok (.istore 6, 2) := by decide +kernel
theorem dX9_alike_92 : decode cX9_alike 92 = .ok (.iload 6, 2) := by decide +kernel
theorem dX9_alike_94 : decode cX9_alike 94 = .ok (.aload_n 0, 1) := by decide +kernel
theorem dX9_alike_95 : decode cX9_alike 95 = .ok (.getfield 256, 3) := by decide +kernel
theorem dX9_alike_98 : decode cX9_alike 98 = .ok (.if_icmp .ge 38, 3) := by decide +kernel
theorem dX9_alike_101 : decode cX9_alike 101 = .ok (.iload 5, 2) := by decide +kernel
theorem dX9_alike_103 : decode cX9_alike 103 = .ok (.ifCond .eq 33, 3) := by decide +kernel
theorem dX9_alike_106 : decode cX9_alike 106 = .ok (.aload_n 0, 1) := by decide +kernel
theorem dX9_alike_107 : decode cX9_alike 107 = .ok (.getfield 81, 3) := by decide +kernel
theorem dX9_alike_110 : decode cX9_alike 110 = .ok (.iload 6, 2) := by decide +kernel
theorem dX9_alike_112 : decode cX9_alike 112 = .ok (.iaload, 1) := by decide +kernel
theorem dX9_alike_113 : decode cX9_alike 113 = .ok (.aload_n 0, 1) := by decide +kernel
theorem dX9_alike_114 : decode cX9_alike 114 = .ok (.getfield 75, 3) := by decide +kernel
theorem dX9_alike_117 : decode cX9_alike 117 = .ok (.iload 6, 2) := by decide +kernel
theorem dX9_alike_119 : decode cX9_alike 119 = .ok (.iaload, 1) := by decide +kernel
theorem dX9_alike_120 : decode cX9_alike 120 = .ok (.if_icmp .ne 7, 3) := by decide +kernel
theorem dX9_alike_123 : decode cX9_alike 123 = .ok (.iconst 1, 1) := by decide +kernel
theorem dX9_alike_124 : decode cX9_alike 124 = .ok (.goto 4, 3) := by decide +kernel
theorem dX9_alike_127 : decode cX9_alike 127 = .ok (.iconst 0, 1) := by decide +kernel
theorem dX9_alike_128 : decode cX9_alike 128 = .ok (.istore 5, 2) := by decide +kernel
theorem dX9_alike_130 : decode cX9_alike 130 = .ok (.iinc 6 1, 3) := by decide +kernel
theorem dX9_alike_133 : decode cX9_alike 133 = .ok (.goto (-41), 3) := by decide +kernel
theorem dX9_alike_136 : decode cX9_alike 136 = .ok (.iload 5, 2) := by decide +kernel
theorem dX9_alike_138 : decode cX9_alike 138 = .ok (.ifCond .eq 7, 3) := by decide +kernel
theorem dX9_alike_141 : decode cX9_alike 141 = .ok (.iconst 1, 1) := by decide +kernel
theorem dX9_alike_142 : decode cX9_alike 142 = .ok (.goto 4, 3) := by decide +kernel
theorem dX9_alike_145 : decode cX9_alike 145 = .ok (.iconst 0, 1) := by decide +kernel
theorem dX9_alike_146 : decode cX9_alike 146 = .ok (.ireturn, 1) := by decide +kernel
set_option maxRecDepth 100000 in
set_option maxHeartbeats 4000000 in
theorem kb_X9_alike_39 {x2 : Int32} {x3 : Int32} {x4 : Int32} {st : Int32 × Mem} {r : (Int32 × Mem) ⊕ ((Mem))} {H : Heap} {locs : List Loc} {ls : Array Slot} (C : CX p s m args meth c cX9_alike 7 RX9 wc_X9_alike (some .int))  (hG : Gd s G A 28 B (entM G B st.2) X H locs) (hl : lv_has ls 7 [(0, .ref (B + 0)), (2, .int x2), (3, .int x3), (4, .int x4), (5, .int st.1)]) (hf : sh_X9_alike_s39 x2 x3 x4 st = some r)
    (kL : ∀ st' : Int32 × Mem, r = Sum.inl st' → ∀ (H : Heap) (locs : List Loc) (ls : Array Slot), Gd s G A 28 B (entM G B st'.2) X H locs → lv_has ls 7 [(0, .ref (B + 0)), (2, .int x2), (3, .int x3), (4, .int x4), (5, .int st'.1)] → W p l e rm_X9_alike s m args below meth c H locs 0 0 Q (F0 m 39 ls []))
    (kX0 : ∀ y' : Mem, r = Sum.inr y' → ∀ (H : Heap) (locs : List Loc) (ls : Array Slot), Gd s G A 28 B (entM G B y') X H locs → lv_has ls 7 [(0, .ref (B + 0)), (2, .int x2), (3, .int x3), (4, .int x4)] → W p l e rm_X9_alike s m args below meth c H locs 0 0 Q (F0 m 67 ls [])) :
    W p l e rm_X9_alike s m args below meth c H locs 0 0 Q (F0 m 39 ls []) := by
  refine lv_iload C.1 C.2.1 dX9_alike_39 (lv_at hl 4 rfl) ?_
  refine lv_sipush (v := nI 216) C.1 C.2.1 dX9_alike_41 (by decide) ?_
  rcases of_ite hf with ⟨c1, hf⟩ | ⟨c1, hf⟩
  · refine lv_icmp_ge (tgt := 67) C.1 C.2.1 dX9_alike_44 (by decide) (fun _ => ?_) (fun q => absurd c1 q)
    obtain rfl := Option.some.inj hf
    exact kX0 _ rfl _ _ _ hG (lv_sub hl [0, 1, 2, 3] rfl)
  · refine lv_icmp_ge (tgt := 67) C.1 C.2.1 dX9_alike_44 (by decide) (fun q => absurd q c1) (fun _ => ?_)
    refine lv_aload_n C.1 C.2.1 dX9_alike_47 rfl (lv_at hl 0 rfl) ?_
    refine gf_X9_81 C hG rfl dX9_alike_48 ?_
    refine lv_iload C.1 C.2.1 dX9_alike_51 (lv_at hl 4 rfl) ?_
    refine lv_aload_n C.1 C.2.1 dX9_alike_53 rfl (lv_at hl 0 rfl) ?_
    refine gf_X9_75 C hG rfl dX9_alike_54 ?_
    refine lv_iload C.1 C.2.1 dX9_alike_57 (lv_at hl 4 rfl) ?_
    obtain ⟨v2, hv2, hf⟩ := of_bind hf
    obtain ⟨bv2, ev2⟩ := of_ldS hv2
    refine r_iald C hG (c0 := 22) (by decide) (entM_I (n := 216) rfl) bv2 dX9_alike_59 ?_
    refine r_top ev2 ?_
    obtain ⟨w3, hw3, hf⟩ := of_bind hf
    obtain ⟨bw3, ew3⟩ := of_stM hw3
    refine r_iast C hG (c0 := 24) (by decide) (entM_I (n := 216) rfl) bw3 (E' := (entM G B w3)) (by rw [ew3]; exact upM_I (n := 216) rfl) dX9_alike_60 (fun H locs hG => ?_)
    obtain ⟨v4, ev4, hf⟩ := of_letv hf
    refine lv_iinc (v := v4) (lv' := [(5, .int v4), (0, .ref (B + 0)), (2, .int x2), (3, .int x3), (4, .int x4)]) C.1 C.2.1 dX9_alike_61 hl (k := 4) rfl (by rw [ev4, show Int32.ofInt (1) = nI 1 from by decide]) (by decide) rfl (fun ls hl => ?_)
    refine lv_goto (tgt := 39) C.1 C.2.1 dX9_alike_64 (by decide) ?_
    obtain rfl := Option.some.inj hf
    exact kL _ rfl _ _ _ hG (lv_sub hl [1, 2, 3, 4, 0] rfl)
set_option maxRecDepth 100000 in
set_option maxHeartbeats 4000000 in
theorem kl_X9_alike_39 {x2 : Int32} {x3 : Int32} {x4 : Int32} (C : CX p s m args meth c cX9_alike 7 RX9 wc_X9_alike (some .int))  : ∀ (n : Nat) (st : Int32 × Mem) (x : (Mem)) (H : Heap) (locs : List Loc) (ls : Array Slot), Gd s G A 28 B (entM G B st.2) X H locs → lv_has ls 7 [(0, .ref (B + 0)), (2, .int x2), (3, .int x3), (4, .int x4), (5, .int st.1)] → lpw (sh_X9_alike_s39 x2 x3 x4) n st = some x →
    (∀ y' : Mem, x = y' → ∀ (H : Heap) (locs : List Loc) (ls : Array Slot), Gd s G A 28 B (entM G B y') X H locs → lv_has ls 7 [(0, .ref (B + 0)), (2, .int x2), (3, .int x3), (4, .int x4)] → W p l e rm_X9_alike s m args below meth c H locs 0 0 Q (F0 m 67 ls [])) → W p l e rm_X9_alike s m args below meth c H locs 0 0 Q (F0 m 39 ls []) := by
  intro n
  induction n with
  | zero =>
    intro st x H locs ls hG hl hf
    cases hf
  | succ n ih =>
    intro st x H locs ls hG hl hf kX0
    obtain ⟨r, hr, hh⟩ := of_lpw hf
    refine kb_X9_alike_39 C  hG hl hr (fun st2 e1 H locs ls hG hl => ?_) (fun y2 e1 H locs ls hG hl => ?_)
    · rcases hh with ⟨s3, e2, hh⟩ | e2
      · rw [e2] at e1
        cases e1
        exact ih _ _ _ _ _ hG hl hh kX0
      · rw [e2] at e1
        cases e1
    · rcases hh with ⟨s3, e2, hh⟩ | e2
      · rw [e2] at e1
        cases e1
      · rw [e2] at e1
        cases e1
        exact kX0 _ rfl _ _ _ hG hl
set_option maxRecDepth 100000 in
set_option maxHeartbeats 4000000 in
theorem kb_X9_alike_92 {w : Mem} {st : Int32 × Int32} {r : (Int32 × Int32) ⊕ ((Int32))} {H : Heap} {locs : List Loc} {ls : Array Slot} (C : CX p s m args meth c cX9_alike 7 RX9 wc_X9_alike (some .int))  (hG : Gd s G A 28 B (entM G B w) X H locs) (hl : lv_has ls 7 [(0, .ref (B + 0)), (5, .int st.1), (6, .int st.2)]) (hf : sh_X9_alike_s92 w st = some r)
    (kL : ∀ st' : Int32 × Int32, r = Sum.inl st' → ∀ (H : Heap) (locs : List Loc) (ls : Array Slot), Gd s G A 28 B (entM G B w) X H locs → lv_has ls 7 [(0, .ref (B + 0)), (5, .int st'.1), (6, .int st'.2)] → W p l e rm_X9_alike s m args below meth c H locs 0 0 Q (F0 m 92 ls []))
    (kX0 : ∀ y' : Int32, r = Sum.inr y' → ∀ (H : Heap) (locs : List Loc) (ls : Array Slot), Gd s G A 28 B (entM G B w) X H locs → lv_has ls 7 [(5, .int y')] → W p l e rm_X9_alike s m args below meth c H locs 0 0 Q (F0 m 136 ls [])) :
    W p l e rm_X9_alike s m args below meth c H locs 0 0 Q (F0 m 92 ls []) := by
  refine lv_iload C.1 C.2.1 dX9_alike_92 (lv_at hl 2 rfl) ?_
  refine lv_aload_n C.1 C.2.1 dX9_alike_94 rfl (lv_at hl 0 rfl) ?_
  refine gf_X9_256 C hG rfl dX9_alike_95 ?_
  rcases of_ite hf with ⟨c1, hf⟩ | ⟨c1, hf⟩
  · refine lv_icmp_ge (tgt := 136) C.1 C.2.1 dX9_alike_98 (by decide) (fun _ => ?_) (fun q => absurd c1 q)
    obtain rfl := Option.some.inj hf
    exact kX0 _ rfl _ _ _ hG (lv_sub hl [1] rfl)
  · refine lv_icmp_ge (tgt := 136) C.1 C.2.1 dX9_alike_98 (by decide) (fun q => absurd q c1) (fun _ => ?_)
    refine lv_iload C.1 C.2.1 dX9_alike_101 (lv_at hl 1 rfl) ?_
    rcases of_ite hf with ⟨c2, hf⟩ | ⟨c2, hf⟩
    · refine lv_if_eq (tgt := 136) C.1 C.2.1 dX9_alike_103 (by decide) (fun _ => ?_) (fun q => absurd c2 q)
      obtain rfl := Option.some.inj hf
      exact kX0 _ rfl _ _ _ hG (lv_sub hl [1] rfl)
    · refine lv_if_eq (tgt := 136) C.1 C.2.1 dX9_alike_103 (by decide) (fun q => absurd q c2) (fun _ => ?_)
      refine lv_aload_n C.1 C.2.1 dX9_alike_106 rfl (lv_at hl 0 rfl) ?_
      refine gf_X9_81 C hG rfl dX9_alike_107 ?_
      refine lv_iload C.1 C.2.1 dX9_alike_110 (lv_at hl 2 rfl) ?_
      obtain ⟨v3, hv3, hf⟩ := of_bind hf
      obtain ⟨bv3, ev3⟩ := of_ldS hv3
      refine r_iald C hG (c0 := 24) (by decide) (entM_I (n := 216) rfl) bv3 dX9_alike_112 ?_
      refine r_top ev3 ?_
      refine lv_aload_n C.1 C.2.1 dX9_alike_113 rfl (lv_at hl 0 rfl) ?_
      refine gf_X9_75 C hG rfl dX9_alike_114 ?_
      refine lv_iload C.1 C.2.1 dX9_alike_117 (lv_at hl 2 rfl) ?_
      obtain ⟨v4, hv4, hf⟩ := of_bind hf
      obtain ⟨bv4, ev4⟩ := of_ldS hv4
      refine r_iald C hG (c0 := 22) (by decide) (entM_I (n := 216) rfl) bv4 dX9_alike_119 ?_
      refine r_top ev4 ?_
      rcases of_ite hf with ⟨c5, hf⟩ | ⟨c5, hf⟩
      · refine lv_icmp_ne (tgt := 127) C.1 C.2.1 dX9_alike_120 (by decide) (fun q => absurd c5 q) (fun _ => ?_)
        refine lv_iconst (v := nI 1) C.1 C.2.1 dX9_alike_123 (by decide) ?_
        refine lv_goto (tgt := 128) C.1 C.2.1 dX9_alike_124 (by decide) ?_
        refine lv_istore (lv' := [(5, .int (nI 1)), (0, .ref (B + 0)), (6, .int st.2)]) C.1 C.2.1 dX9_alike_128 hl (by decide) rfl (fun ls hl => ?_)
        obtain ⟨v7, ev7, hf⟩ := of_letv hf
        refine lv_iinc (v := v7) (lv' := [(6, .int v7), (5, .int (nI 1)), (0, .ref (B + 0))]) C.1 C.2.1 dX9_alike_130 hl (k := 2) rfl (by rw [ev7, show Int32.ofInt (1) = nI 1 from by decide]) (by decide) rfl (fun ls hl => ?_)
        refine lv_goto (tgt := 92) C.1 C.2.1 dX9_alike_133 (by decide) ?_
        obtain rfl := Option.some.inj hf
        exact kL _ rfl _ _ _ hG (lv_sub hl [2, 1, 0] rfl)
      · refine lv_icmp_ne (tgt := 127) C.1 C.2.1 dX9_alike_120 (by decide) (fun _ => ?_) (fun q => absurd q c5)
        refine lv_iconst (v := nI 0) C.1 C.2.1 dX9_alike_127 (by decide) ?_
        refine lv_istore (lv' := [(5, .int (nI 0)), (0, .ref (B + 0)), (6, .int st.2)]) C.1 C.2.1 dX9_alike_128 hl (by decide) rfl (fun ls hl => ?_)
        obtain ⟨v6, ev6, hf⟩ := of_letv hf
        refine lv_iinc (v := v6) (lv' := [(6, .int v6), (5, .int (nI 0)), (0, .ref (B + 0))]) C.1 C.2.1 dX9_alike_130 hl (k := 2) rfl (by rw [ev6, show Int32.ofInt (1) = nI 1 from by decide]) (by decide) rfl (fun ls hl => ?_)
        refine lv_goto (tgt := 92) C.1 C.2.1 dX9_alike_133 (by decide) ?_
        obtain rfl := Option.some.inj hf
        exact kL _ rfl _ _ _ hG (lv_sub hl [2, 1, 0] rfl)
set_option maxRecDepth 100000 in
set_option maxHeartbeats 4000000 in
theorem kl_X9_alike_92 {w : Mem} (C : CX p s m args meth c cX9_alike 7 RX9 wc_X9_alike (some .int))  : ∀ (n : Nat) (st : Int32 × Int32) (x : (Int32)) (H : Heap) (locs : List Loc) (ls : Array Slot), Gd s G A 28 B (entM G B w) X H locs → lv_has ls 7 [(0, .ref (B + 0)), (5, .int st.1), (6, .int st.2)] → lpw (sh_X9_alike_s92 w) n st = some x →
    (∀ y' : Int32, x = y' → ∀ (H : Heap) (locs : List Loc) (ls : Array Slot), Gd s G A 28 B (entM G B w) X H locs → lv_has ls 7 [(5, .int y')] → W p l e rm_X9_alike s m args below meth c H locs 0 0 Q (F0 m 136 ls [])) → W p l e rm_X9_alike s m args below meth c H locs 0 0 Q (F0 m 92 ls []) := by
  intro n
  induction n with
  | zero =>
    intro st x H locs ls hG hl hf
    cases hf
  | succ n ih =>
    intro st x H locs ls hG hl hf kX0
    obtain ⟨r, hr, hh⟩ := of_lpw hf
    refine kb_X9_alike_92 C  hG hl hr (fun st2 e1 H locs ls hG hl => ?_) (fun y2 e1 H locs ls hG hl => ?_)
    · rcases hh with ⟨s3, e2, hh⟩ | e2
      · rw [e2] at e1
        cases e1
        exact ih _ _ _ _ _ hG hl hh kX0
      · rw [e2] at e1
        cases e1
    · rcases hh with ⟨s3, e2, hh⟩ | e2
      · rw [e2] at e1
        cases e1
      · rw [e2] at e1
        cases e1
        exact kX0 _ rfl _ _ _ hG hl
set_option maxRecDepth 100000 in
set_option maxHeartbeats 4000000 in
theorem kb_X9_alike_136 {x5 : Int32} {w : Mem} {out : Int32 × Mem} {H : Heap} {locs : List Loc} {ls : Array Slot} (C : CX p s m args meth c cX9_alike 7 RX9 wc_X9_alike (some .int))  (hG : Gd s G A 28 B (entM G B w) X H locs) (hl : lv_has ls 7 [(5, .int x5)]) (hf : sh_X9_alike_j136 x5 w = some out) :
    W p l e rm_X9_alike s m args below meth c H locs 0 0 (MQ below (CPost G A 28 B (entM G B out.2) X (some (.int out.1))) args s 0 0 A) (F0 m 136 ls []) := by
  refine lv_iload C.1 C.2.1 dX9_alike_136 (lv_at hl 0 rfl) ?_
  rcases of_ite hf with ⟨c1, hf⟩ | ⟨c1, hf⟩
  · refine lv_if_eq (tgt := 145) C.1 C.2.1 dX9_alike_138 (by decide) (fun _ => ?_) (fun q => absurd c1 q)
    refine lv_iconst (v := nI 0) C.1 C.2.1 dX9_alike_145 (by decide) ?_
    obtain rfl := Option.some.inj hf
    exact r_iret C hG dX9_alike_146
  · refine lv_if_eq (tgt := 145) C.1 C.2.1 dX9_alike_138 (by decide) (fun q => absurd q c1) (fun _ => ?_)
    refine lv_iconst (v := nI 1) C.1 C.2.1 dX9_alike_141 (by decide) ?_
    refine lv_goto (tgt := 146) C.1 C.2.1 dX9_alike_142 (by decide) ?_
    obtain rfl := Option.some.inj hf
    exact r_iret C hG dX9_alike_146
set_option maxRecDepth 100000 in
set_option maxHeartbeats 4000000 in
theorem kb_X9_alike_87 {s0 : Int32} {w : Mem} {out : Int32 × Mem} {H : Heap} {locs : List Loc} {ls : Array Slot} (C : CX p s m args meth c cX9_alike 7 RX9 wc_X9_alike (some .int))  (hG : Gd s G A 28 B (entM G B w) X H locs) (hl : lv_has ls 7 [(0, .ref (B + 0))]) (hf : sh_X9_alike_j87 s0 w = some out) :
    W p l e rm_X9_alike s m args below meth c H locs 0 0 (MQ below (CPost G A 28 B (entM G B out.2) X (some (.int out.1))) args s 0 0 A) (F0 m 87 ls [.int s0]) := by
  refine lv_istore (lv' := [(5, .int s0), (0, .ref (B + 0))]) C.1 C.2.1 dX9_alike_87 hl (by decide) rfl (fun ls hl => ?_)
  refine lv_iconst (v := nI 0) C.1 C.2.1 dX9_alike_89 (by decide) ?_
  refine lv_istore (lv' := [(6, .int (nI 0)), (5, .int s0), (0, .ref (B + 0))]) C.1 C.2.1 dX9_alike_90 hl (by decide) rfl (fun ls hl => ?_)
  obtain ⟨ex1, hex1, hf⟩ := of_bind hf
  refine kl_X9_alike_92 C  FU (s0, nI 0) ex1 _ _ _ hG (lv_sub hl [2, 1, 0] rfl) hex1 (fun y e0 H locs ls hG hl => ?_)
  subst e0
  exact kb_X9_alike_136 C  hG hl hf
set_option maxRecDepth 100000 in
set_option maxHeartbeats 4000000 in
theorem kb_X9_alike_0 {x1 : Int32} {x2 : Int32} {x3 : Int32} {w : Mem} {out : Int32 × Mem} {H : Heap} {locs : List Loc} {ls : Array Slot} (C : CX p s m args meth c cX9_alike 7 RX9 wc_X9_alike (some .int))  (hG : Gd s G A 28 B (entM G B w) X H locs) (hl : lv_has ls 7 [(0, .ref (B + 0)), (1, .int x1), (2, .int x2), (3, .int x3)]) (hf : sh_X9_alike x1 x2 x3 w = some out) :
    W p l e rm_X9_alike s m args below meth c H locs 0 0 (MQ below (CPost G A 28 B (entM G B out.2) X (some (.int out.1))) args s 0 0 A) (F0 m 0 ls []) := by
  refine lv_iload_n C.1 C.2.1 dX9_alike_0 rfl (lv_at hl 1 rfl) ?_
  obtain ⟨v1, hv1, hf⟩ := of_bind hf
  refine r_callS1 C hG hl.1 (As := [.int x1]) (mt_X9_isSurface l  hv1) (va_cwS 1 C.2.2.2.2.1 (gd_S tg_5_64 tg_5_65 tg_1_10 tg_5_66) rfl rfl rfl cd_X9_isSurface.2 ⟨Nat.le_of_ble_eq_true rfl, Nat.le_of_ble_eq_true rfl⟩) rfl rfl (Nat.le_of_ble_eq_true rfl) dX9_alike_1 (fun H locs hG => ?_)
  rcases of_ite hf with ⟨c2, hf⟩ | ⟨c2, hf⟩
  · refine lv_if_eq (tgt := 22) C.1 C.2.1 dX9_alike_4 (by decide) (fun _ => ?_) (fun q => absurd c2 q)
    refine lv_iconst (v := (-1 : Int32)) C.1 C.2.1 dX9_alike_22 (by decide) ?_
    obtain rfl := Option.some.inj hf
    exact r_iret C hG dX9_alike_23
  · refine lv_if_eq (tgt := 22) C.1 C.2.1 dX9_alike_4 (by decide) (fun q => absurd q c2) (fun _ => ?_)
    refine lv_iload_n C.1 C.2.1 dX9_alike_7 rfl (lv_at hl 2 rfl) ?_
    obtain ⟨v3, hv3, hf⟩ := of_bind hf
    refine r_callS1 C hG hl.1 (As := [.int x2]) (mt_X9_isSurface l  hv3) (va_cwS 1 C.2.2.2.2.1 (gd_S tg_5_64 tg_5_65 tg_1_10 tg_5_66) rfl rfl rfl cd_X9_isSurface.2 ⟨Nat.le_of_ble_eq_true rfl, Nat.le_of_ble_eq_true rfl⟩) rfl rfl (Nat.le_of_ble_eq_true rfl) dX9_alike_8 (fun H locs hG => ?_)
    rcases of_ite hf with ⟨c4, hf⟩ | ⟨c4, hf⟩
    · refine lv_if_eq (tgt := 22) C.1 C.2.1 dX9_alike_11 (by decide) (fun _ => ?_) (fun q => absurd c4 q)
      refine lv_iconst (v := (-1 : Int32)) C.1 C.2.1 dX9_alike_22 (by decide) ?_
      obtain rfl := Option.some.inj hf
      exact r_iret C hG dX9_alike_23
    · refine lv_if_eq (tgt := 22) C.1 C.2.1 dX9_alike_11 (by decide) (fun q => absurd q c4) (fun _ => ?_)
      refine lv_aload_n C.1 C.2.1 dX9_alike_14 rfl (lv_at hl 0 rfl) ?_
      refine lv_iload_n C.1 C.2.1 dX9_alike_15 rfl (lv_at hl 3 rfl) ?_
      obtain ⟨v5, hv5, hf⟩ := of_bind hf
      refine r_callV1 C hG hl.1 (c0 := 0) (As := [.int x3]) (by decide) (entM_O (n := 35) rfl) rfl (mt_X9_isAlgebra l  hv5) (cwV 1 C.2.2.2.2.1 (gd_V tg_4_205 tg_4_207 tgp_27 tg_1_10 tg_4_208) rfl rfl rfl cd_X9_isAlgebra ⟨Nat.le_of_ble_eq_true rfl, Nat.le_of_ble_eq_true rfl⟩) rfl rfl (Nat.le_of_ble_eq_true rfl) dX9_alike_16 (fun H locs hG => ?_)
      rcases of_ite hf with ⟨c6, hf⟩ | ⟨c6, hf⟩
      · refine lv_if_ne (tgt := 24) C.1 C.2.1 dX9_alike_19 (by decide) (fun q => absurd c6 q) (fun _ => ?_)
        refine lv_iconst (v := (-1 : Int32)) C.1 C.2.1 dX9_alike_22 (by decide) ?_
        obtain rfl := Option.some.inj hf
        exact r_iret C hG dX9_alike_23
      · refine lv_if_ne (tgt := 24) C.1 C.2.1 dX9_alike_19 (by decide) (fun _ => ?_) (fun q => absurd q c6)
        refine lv_aload_n C.1 C.2.1 dX9_alike_24 rfl (lv_at hl 0 rfl) ?_
        refine lv_iload_n C.1 C.2.1 dX9_alike_25 rfl (lv_at hl 1 rfl) ?_
        refine lv_iload_n C.1 C.2.1 dX9_alike_26 rfl (lv_at hl 3 rfl) ?_
        obtain ⟨w7, hw7, hf⟩ := of_bind hf
        refine r_callV0 C hG hl.1 (c0 := 0) (As := [.int x1, .int x3]) (by decide) (entM_O (n := 35) rfl) rfl (mt_X9_sumsOf l  hw7) (cwV 2 C.2.2.2.2.1 (gd_V tg_5_169 tg_5_171 tgp_53 tg_1_10 tg_5_172) rfl rfl rfl cd_X9_sumsOf ⟨Nat.le_of_ble_eq_true rfl, Nat.le_of_ble_eq_true rfl⟩) rfl rfl (Nat.le_of_ble_eq_true rfl) dX9_alike_27 (fun H locs hG => ?_)
        refine lv_aload_n C.1 C.2.1 dX9_alike_30 rfl (lv_at hl 0 rfl) ?_
        obtain ⟨v8, hv8, hf⟩ := of_bind hf
        refine r_callV1 C hG hl.1 (c0 := 0) (As := []) (by decide) (entM_O (n := 35) rfl) rfl (mt_X9_circles l  hv8) (cwV 0 C.2.2.2.2.1 (gd_V tg_5_88 tg_5_90 tgp_41 tg_1_10 tg_5_91) rfl rfl rfl cd_X9_circles ⟨Nat.le_of_ble_eq_true rfl, Nat.le_of_ble_eq_true rfl⟩) rfl rfl (Nat.le_of_ble_eq_true rfl) dX9_alike_31 (fun H locs hG => ?_)
        refine lv_istore (lv' := [(4, .int v8), (0, .ref (B + 0)), (1, .int x1), (2, .int x2), (3, .int x3)]) C.1 C.2.1 dX9_alike_34 hl (by decide) rfl (fun ls hl => ?_)
        refine lv_iconst (v := nI 0) C.1 C.2.1 dX9_alike_36 (by decide) ?_
        refine lv_istore (lv' := [(5, .int (nI 0)), (4, .int v8), (0, .ref (B + 0)), (1, .int x1), (2, .int x2), (3, .int x3)]) C.1 C.2.1 dX9_alike_37 hl (by decide) rfl (fun ls hl => ?_)
        obtain ⟨ex9, hex9, hf⟩ := of_bind hf
        refine kl_X9_alike_39 C  FU (nI 0, w7) ex9 _ _ _ hG (lv_sub hl [2, 4, 5, 1, 0] rfl) hex9 (fun y e0 H locs ls hG hl => ?_)
        subst e0
        refine lv_aload_n C.1 C.2.1 dX9_alike_67 rfl (lv_at hl 0 rfl) ?_
        refine lv_iload_n C.1 C.2.1 dX9_alike_68 rfl (lv_at hl 1 rfl) ?_
        refine lv_iload_n C.1 C.2.1 dX9_alike_69 rfl (lv_at hl 2 rfl) ?_
        obtain ⟨w10, hw10, hf⟩ := of_bind hf
        refine r_callV0 C hG hl.1 (c0 := 0) (As := [.int x2, .int x3]) (by decide) (entM_O (n := 35) rfl) rfl (mt_X9_sumsOf l  hw10) (cwV 2 C.2.2.2.2.1 (gd_V tg_5_169 tg_5_171 tgp_53 tg_1_10 tg_5_172) rfl rfl rfl cd_X9_sumsOf ⟨Nat.le_of_ble_eq_true rfl, Nat.le_of_ble_eq_true rfl⟩) rfl rfl (Nat.le_of_ble_eq_true rfl) dX9_alike_70 (fun H locs hG => ?_)
        refine lv_iload C.1 C.2.1 dX9_alike_73 (lv_at hl 3 rfl) ?_
        refine lv_aload_n C.1 C.2.1 dX9_alike_75 rfl (lv_at hl 0 rfl) ?_
        obtain ⟨v11, hv11, hf⟩ := of_bind hf
        refine r_callV1 C hG hl.1 (c0 := 0) (As := []) (by decide) (entM_O (n := 35) rfl) rfl (mt_X9_circles l  hv11) (cwV 0 C.2.2.2.2.1 (gd_V tg_5_88 tg_5_90 tgp_41 tg_1_10 tg_5_91) rfl rfl rfl cd_X9_circles ⟨Nat.le_of_ble_eq_true rfl, Nat.le_of_ble_eq_true rfl⟩) rfl rfl (Nat.le_of_ble_eq_true rfl) dX9_alike_76 (fun H locs hG => ?_)
        rcases of_ite hf with ⟨c12, hf⟩ | ⟨c12, hf⟩
        · refine lv_icmp_ne (tgt := 86) C.1 C.2.1 dX9_alike_79 (by decide) (fun q => absurd c12 q) (fun _ => ?_)
          refine lv_iconst (v := nI 1) C.1 C.2.1 dX9_alike_82 (by decide) ?_
          refine lv_goto (tgt := 87) C.1 C.2.1 dX9_alike_83 (by decide) ?_
          exact kb_X9_alike_87 C  hG (lv_sub hl [0] rfl) hf
        · refine lv_icmp_ne (tgt := 86) C.1 C.2.1 dX9_alike_79 (by decide) (fun _ => ?_) (fun q => absurd q c12)
          refine lv_iconst (v := nI 0) C.1 C.2.1 dX9_alike_86 (by decide) ?_
          exact kb_X9_alike_87 C  hG (lv_sub hl [0] rfl) hf
set_option maxRecDepth 100000 in
set_option maxHeartbeats 4000000 in
theorem mt_X9_alike (l : Launch) {G : GG} {A : Nat → Prop} {B : Nat} {X : va_W} {x1 : Int32} {x2 : Int32} {x3 : Int32} {w : Mem} {out : Int32 × Mem}  (hf : sh_X9_alike x1 x2 x3 w = some out) : MetW l yX9_alike wc_X9_alike rm_X9_alike G A 28 B (entM G B w) X [.ref (B + 0), .int x1, .int x2, .int x3] (some (.int out.1)) (entM G B out.2) := by
  refine Met.ofW (cc := cX9_alike) (maxL := 7) (ret := (some .int)) (by decide) rfl ?_
  intro p e s m args below meth c s₁ B0 hml hv
  obtain ⟨rfl, hEv, hWd⟩ := hv
  have C : CX p s m _ meth c cX9_alike 7 RX9 wc_X9_alike (some .int) := ⟨B0.exec, B0.bytes, hml, findClass_of_methodNamed B0.named, atoms_spec (ws := wc_X9_alike) B0.pre, B0.returns, B0.notSynchronized⟩
  have hl := lv_entry [.ref (B + 0), .int x1, .int x2, .int x3] (n := 7) (Nat.le_of_ble_eq_true rfl)
  rw [lg_entry_eq]
  generalize (lg_sl [.ref (B + 0), .int x1, .int x2, .int x3] ++ List.replicate (7 - (lg_sl [.ref (B + 0), .int x1, .int x2, .int x3]).length) Slot.unset).toArray = ls at hl ⊢
  have hl : lv_has ls 7 [(0, .ref (B + 0)), (1, .int x1), (2, .int x2), (3, .int x3)] := hl
  exact kb_X9_alike_0 C  ⟨hEv, hWd, va_S.rf⟩ hl hf
abbrev wc_X9_mayGlue : List Cond := Cond.code yX9_mayGlue cX9_mayGlue 4 (some .boolean) :: TG
abbrev rm_X9_mayGlue : Room := { frames := 4, cells := 0, slots := 0, locals := 146 }
theorem cd_X9_mayGlue : yX9_mayGlue.cls = RX9 ∧ yX9_mayGlue.cls ≠ "java/lang/invoke/MethodHandle" ∧ yX9_mayGlue.cls ≠ "java/lang/invoke/VarHandle" ∧ (parseMethodDescriptor yX9_mayGlue.desc).map (fun d => d.parameters.length) = some 1 := by decide +kernel
theorem dX9_mayGlue_0 : decode cX9_mayGlue 0 = .ok (.aload_n 0, 1) := by decide +kernel
theorem dX9_mayGlue_1 : decode cX9_mayGlue 1 = .ok (.invokevirtual 176, 3) := by decide +kernel
theorem dX9_mayGlue_4 : decode cX9_mayGlue 4 = .ok (.istore_n 2, 1) := by decide +kernel
theorem dX9_mayGlue_5 : decode cX9_mayGlue 5 = .ok (.iconst 0, 1) := by decide +kernel
theorem dX9_mayGlue_6 : decode cX9_mayGlue 6 = .ok (.istore_n 3, 1) := by decide +kernel
theorem dX9_mayGlue_7 : decode cX9_mayGlue 7 = .ok (.iload_n 3, 1) := by decide +kernel
theorem dX9_mayGlue_8 : decode cX9_mayGlue 8 = .ok (.aload_n 0, 1) := by decide +kernel
theorem dX9_mayGlue_9 : decode cX9_mayGlue 9 = .ok (.getfield 11, 3) := by decide +kernel
theorem dX9_mayGlue_12 : decode cX9_mayGlue 12 = .ok (.bipush 13, 2) := by decide +kernel
theorem dX9_mayGlue_14 : decode cX9_mayGlue 14 = .ok (.iload_n 1, 1) := by decide +kernel
theorem dX9_mayGlue_15 : decode cX9_mayGlue 15 = .ok (.iadd, 1) := by decide +kernel
theorem dX9_mayGlue_16 : decode cX9_mayGlue 16 = .ok (.iaload, 1) := by decide +kernel
theorem dX9_mayGlue_17 : decode cX9_mayGlue 17 = .ok (.if_icmp .ge 35, 3) := by decide +kernel
theorem dX9_mayGlue_20 : decode cX9_mayGlue 20 = .ok (.iload_n 2, 1) := by decide +kernel
theorem dX9_mayGlue_21 : decode cX9_mayGlue 21 = .ok (.aload_n 0, 1) := by decide +kernel
theorem dX9_mayGlue_22 : decode cX9_mayGlue 22 = .ok (.getfield 11, 3) := by decide +kernel
theorem dX9_mayGlue_25 : decode cX9_mayGlue 25 = .ok (.bipush 17, 2) := by decide +kernel
theorem dX9_mayGlue_27 : decode cX9_mayGlue 27 = .ok (.bipush 24, 2) := by decide +kernel
theorem dX9_mayGlue_29 : decode cX9_mayGlue 29 = .ok (.iload_n 1, 1) := by decide +kernel
theorem dX9_mayGlue_30 : decode cX9_mayGlue 30 = .ok (.imul, 1) := by decide +kernel
theorem dX9_mayGlue_31 : decode cX9_mayGlue 31 = .ok (.iadd, 1) := by decide +kernel
theorem dX9_mayGlue_32 : decode cX9_mayGlue 32 = .ok (.iload_n 3, 1) := by decide +kernel
theorem dX9_mayGlue_33 : decode cX9_mayGlue 33 = .ok (.iadd, 1) := by decide +kernel
theorem dX9_mayGlue_34 : decode cX9_mayGlue 34 = .ok (.iaload, 1) := by decide +kernel
theorem dX9_mayGlue_35 : decode cX9_mayGlue 35 = .ok (.iconst 3, 1) := by decide +kernel
theorem dX9_mayGlue_36 : decode cX9_mayGlue 36 = .ok (.invokestatic 173, 3) := by decide +kernel
theorem dX9_mayGlue_39 : decode cX9_mayGlue 39 = .ok (.istore_n 2, 1) := by decide +kernel
theorem dX9_mayGlue_40 : decode cX9_mayGlue 40 = .ok (.iload_n 2, 1) := by decide +kernel
theorem dX9_mayGlue_41 : decode cX9_mayGlue 41 = .ok (.ifCond .ge 5, 3) := by decide +kernel
theorem dX9_mayGlue_44 : decode cX9_mayGlue 44 = .ok (.iconst 0, 1) := by decide +kernel
theorem dX9_mayGlue_45 : decode cX9_mayGlue 45 = .ok (.ireturn, 1) := by decide +kernel
theorem dX9_mayGlue_46 : decode cX9_mayGlue 46 = .ok (.iinc 3 1, 3) := by decide +kernel
theorem dX9_mayGlue_49 : decode cX9_mayGlue 49 = .ok (.goto (-42), 3) := by decide +kernel
theorem dX9_mayGlue_52 : decode cX9_mayGlue 52 = .ok (.iconst 1, 1) := by decide +kernel
theorem dX9_mayGlue_53 : decode cX9_mayGlue 53 = .ok (.ireturn, 1) := by decide +kernel
set_option maxRecDepth 100000 in
set_option maxHeartbeats 4000000 in
theorem kb_X9_mayGlue_7 {x1 : Int32} {w : Mem} {st : Int32 × Int32} {r : (Int32 × Int32) ⊕ ((Unit) ⊕ (Unit))} {H : Heap} {locs : List Loc} {ls : Array Slot} (C : CX p s m args meth c cX9_mayGlue 4 RX9 wc_X9_mayGlue (some .boolean))  (hG : Gd s G A 28 B (entM G B w) X H locs) (hl : lv_has ls 4 [(0, .ref (B + 0)), (1, .int x1), (2, .int st.1), (3, .int st.2)]) (hf : sh_X9_mayGlue_s7 x1 w st = some r)
    (kL : ∀ st' : Int32 × Int32, r = Sum.inl st' → ∀ (H : Heap) (locs : List Loc) (ls : Array Slot), Gd s G A 28 B (entM G B w) X H locs → lv_has ls 4 [(0, .ref (B + 0)), (1, .int x1), (2, .int st'.1), (3, .int st'.2)] → W p l e rm_X9_mayGlue s m args below meth c H locs 0 0 Q (F0 m 7 ls []))
    (kX0 : ∀ y' : Unit, r = Sum.inr (Sum.inl y') → ∀ (H : Heap) (locs : List Loc) (ls : Array Slot), Gd s G A 28 B (entM G B w) X H locs → lv_has ls 4 [] → W p l e rm_X9_mayGlue s m args below meth c H locs 0 0 Q (F0 m 44 ls []))
    (kX1 : ∀ y' : Unit, r = Sum.inr (Sum.inr y') → ∀ (H : Heap) (locs : List Loc) (ls : Array Slot), Gd s G A 28 B (entM G B w) X H locs → lv_has ls 4 [] → W p l e rm_X9_mayGlue s m args below meth c H locs 0 0 Q (F0 m 52 ls [])) :
    W p l e rm_X9_mayGlue s m args below meth c H locs 0 0 Q (F0 m 7 ls []) := by
  refine lv_iload_n C.1 C.2.1 dX9_mayGlue_7 rfl (lv_at hl 3 rfl) ?_
  refine lv_aload_n C.1 C.2.1 dX9_mayGlue_8 rfl (lv_at hl 0 rfl) ?_
  refine gf_X9_11 C hG rfl dX9_mayGlue_9 ?_
  refine lv_bipush (v := nI 13) C.1 C.2.1 dX9_mayGlue_12 (by decide) ?_
  refine lv_iload_n C.1 C.2.1 dX9_mayGlue_14 rfl (lv_at hl 1 rfl) ?_
  refine lv_iadd C.1 C.2.1 dX9_mayGlue_15 ?_
  obtain ⟨v1, hv1, hf⟩ := of_bind hf
  obtain ⟨bv1, ev1⟩ := of_ldS hv1
  refine r_iald C hG (c0 := 1) (by decide) (entM_I (n := 130) rfl) bv1 dX9_mayGlue_16 ?_
  refine r_top ev1 ?_
  rcases of_ite hf with ⟨c2, hf⟩ | ⟨c2, hf⟩
  · refine lv_icmp_ge (tgt := 52) C.1 C.2.1 dX9_mayGlue_17 (by decide) (fun _ => ?_) (fun q => absurd c2 q)
    obtain rfl := Option.some.inj hf
    exact kX1 _ rfl _ _ _ hG (lv_sub hl [] rfl)
  · refine lv_icmp_ge (tgt := 52) C.1 C.2.1 dX9_mayGlue_17 (by decide) (fun q => absurd q c2) (fun _ => ?_)
    refine lv_iload_n C.1 C.2.1 dX9_mayGlue_20 rfl (lv_at hl 2 rfl) ?_
    refine lv_aload_n C.1 C.2.1 dX9_mayGlue_21 rfl (lv_at hl 0 rfl) ?_
    refine gf_X9_11 C hG rfl dX9_mayGlue_22 ?_
    refine lv_bipush (v := nI 17) C.1 C.2.1 dX9_mayGlue_25 (by decide) ?_
    refine lv_bipush (v := nI 24) C.1 C.2.1 dX9_mayGlue_27 (by decide) ?_
    refine lv_iload_n C.1 C.2.1 dX9_mayGlue_29 rfl (lv_at hl 1 rfl) ?_
    refine lv_imul C.1 C.2.1 dX9_mayGlue_30 ?_
    refine lv_iadd C.1 C.2.1 dX9_mayGlue_31 ?_
    refine lv_iload_n C.1 C.2.1 dX9_mayGlue_32 rfl (lv_at hl 3 rfl) ?_
    refine lv_iadd C.1 C.2.1 dX9_mayGlue_33 ?_
    obtain ⟨v3, hv3, hf⟩ := of_bind hf
    obtain ⟨bv3, ev3⟩ := of_ldS hv3
    refine r_iald C hG (c0 := 1) (by decide) (entM_I (n := 130) rfl) bv3 dX9_mayGlue_34 ?_
    refine r_top ev3 ?_
    refine lv_iconst (v := nI 3) C.1 C.2.1 dX9_mayGlue_35 (by decide) ?_
    obtain ⟨v4, hv4, hf⟩ := of_bind hf
    refine r_callS1 C hG hl.1 (As := [.int st.1, .int v3, .int (nI 3)]) (mt_X9_behind l  hv4) (va_cwS 3 C.2.2.2.2.1 (gd_S tg_5_92 tg_5_93 tg_1_10 tg_5_94) rfl rfl rfl cd_X9_behind.2 ⟨Nat.le_of_ble_eq_true rfl, Nat.le_of_ble_eq_true rfl⟩) rfl rfl (Nat.le_of_ble_eq_true rfl) dX9_mayGlue_36 (fun H locs hG => ?_)
    refine lv_istore_n (lv' := [(2, .int v4), (0, .ref (B + 0)), (1, .int x1), (3, .int st.2)]) C.1 C.2.1 dX9_mayGlue_39 rfl hl (by decide) rfl (fun ls hl => ?_)
    refine lv_iload_n C.1 C.2.1 dX9_mayGlue_40 rfl (lv_at hl 0 rfl) ?_
    rcases of_ite hf with ⟨c5, hf⟩ | ⟨c5, hf⟩
    · refine lv_if_ge (tgt := 46) C.1 C.2.1 dX9_mayGlue_41 (by decide) (fun _ => ?_) (fun q => absurd c5 q)
      obtain ⟨v6, ev6, hf⟩ := of_letv hf
      refine lv_iinc (v := v6) (lv' := [(3, .int v6), (2, .int v4), (0, .ref (B + 0)), (1, .int x1)]) C.1 C.2.1 dX9_mayGlue_46 hl (k := 3) rfl (by rw [ev6, show Int32.ofInt (1) = nI 1 from by decide]) (by decide) rfl (fun ls hl => ?_)
      refine lv_goto (tgt := 7) C.1 C.2.1 dX9_mayGlue_49 (by decide) ?_
      obtain rfl := Option.some.inj hf
      exact kL _ rfl _ _ _ hG (lv_sub hl [2, 3, 1, 0] rfl)
    · refine lv_if_ge (tgt := 46) C.1 C.2.1 dX9_mayGlue_41 (by decide) (fun q => absurd q c5) (fun _ => ?_)
      obtain rfl := Option.some.inj hf
      exact kX0 _ rfl _ _ _ hG (lv_sub hl [] rfl)
set_option maxRecDepth 100000 in
set_option maxHeartbeats 4000000 in
theorem kl_X9_mayGlue_7 {x1 : Int32} {w : Mem} (C : CX p s m args meth c cX9_mayGlue 4 RX9 wc_X9_mayGlue (some .boolean))  : ∀ (n : Nat) (st : Int32 × Int32) (x : (Unit) ⊕ (Unit)) (H : Heap) (locs : List Loc) (ls : Array Slot), Gd s G A 28 B (entM G B w) X H locs → lv_has ls 4 [(0, .ref (B + 0)), (1, .int x1), (2, .int st.1), (3, .int st.2)] → lpw (sh_X9_mayGlue_s7 x1 w) n st = some x →
    (∀ y' : Unit, x = (Sum.inl y') → ∀ (H : Heap) (locs : List Loc) (ls : Array Slot), Gd s G A 28 B (entM G B w) X H locs → lv_has ls 4 [] → W p l e rm_X9_mayGlue s m args below meth c H locs 0 0 Q (F0 m 44 ls [])) →
    (∀ y' : Unit, x = (Sum.inr y') → ∀ (H : Heap) (locs : List Loc) (ls : Array Slot), Gd s G A 28 B (entM G B w) X H locs → lv_has ls 4 [] → W p l e rm_X9_mayGlue s m args below meth c H locs 0 0 Q (F0 m 52 ls [])) → W p l e rm_X9_mayGlue s m args below meth c H locs 0 0 Q (F0 m 7 ls []) := by
  intro n
  induction n with
  | zero =>
    intro st x H locs ls hG hl hf
    cases hf
  | succ n ih =>
    intro st x H locs ls hG hl hf kX0 kX1
    obtain ⟨r, hr, hh⟩ := of_lpw hf
    refine kb_X9_mayGlue_7 C  hG hl hr (fun st2 e1 H locs ls hG hl => ?_) (fun y2 e1 H locs ls hG hl => ?_) (fun y2 e1 H locs ls hG hl => ?_)
    · rcases hh with ⟨s3, e2, hh⟩ | e2
      · rw [e2] at e1
        cases e1
        exact ih _ _ _ _ _ hG hl hh kX0 kX1
      · rw [e2] at e1
        cases e1
    · rcases hh with ⟨s3, e2, hh⟩ | e2
      · rw [e2] at e1
        cases e1
      · rw [e2] at e1
        cases e1
        exact kX0 _ rfl _ _ _ hG hl
    · rcases hh with ⟨s3, e2, hh⟩ | e2
      · rw [e2] at e1
        cases e1
      · rw [e2] at e1
        cases e1
        exact kX1 _ rfl _ _ _ hG hl
set_option maxRecDepth 100000 in
set_option maxHeartbeats 4000000 in
theorem kb_X9_mayGlue_0 {x1 : Int32} {w : Mem} {out : Int32} {H : Heap} {locs : List Loc} {ls : Array Slot} (C : CX p s m args meth c cX9_mayGlue 4 RX9 wc_X9_mayGlue (some .boolean))  (hG : Gd s G A 28 B (entM G B w) X H locs) (hl : lv_has ls 4 [(0, .ref (B + 0)), (1, .int x1)]) (hf : sh_X9_mayGlue x1 w = some out) :
    W p l e rm_X9_mayGlue s m args below meth c H locs 0 0 (MQ below (CPost G A 28 B (entM G B w) X (some (.int out))) args s 0 0 A) (F0 m 0 ls []) := by
  refine lv_aload_n C.1 C.2.1 dX9_mayGlue_0 rfl (lv_at hl 0 rfl) ?_
  obtain ⟨v1, hv1, hf⟩ := of_bind hf
  refine r_callV1 C hG hl.1 (c0 := 0) (As := []) (by decide) (entM_O (n := 35) rfl) rfl (mt_X9_circles l  hv1) (cwV 0 C.2.2.2.2.1 (gd_V tg_5_88 tg_5_90 tgp_41 tg_1_10 tg_5_91) rfl rfl rfl cd_X9_circles ⟨Nat.le_of_ble_eq_true rfl, Nat.le_of_ble_eq_true rfl⟩) rfl rfl (Nat.le_of_ble_eq_true rfl) dX9_mayGlue_1 (fun H locs hG => ?_)
  refine lv_istore_n (lv' := [(2, .int v1), (0, .ref (B + 0)), (1, .int x1)]) C.1 C.2.1 dX9_mayGlue_4 rfl hl (by decide) rfl (fun ls hl => ?_)
  refine lv_iconst (v := nI 0) C.1 C.2.1 dX9_mayGlue_5 (by decide) ?_
  refine lv_istore_n (lv' := [(3, .int (nI 0)), (2, .int v1), (0, .ref (B + 0)), (1, .int x1)]) C.1 C.2.1 dX9_mayGlue_6 rfl hl (by decide) rfl (fun ls hl => ?_)
  obtain ⟨ex2, hex2, hf⟩ := of_bind hf
  refine kl_X9_mayGlue_7 C  FU (v1, nI 0) ex2 _ _ _ hG (lv_sub hl [2, 3, 1, 0] rfl) hex2 (fun y3 e0 H locs ls hG hl => ?_) (fun y4 e0 H locs ls hG hl => ?_)
  · subst e0
    simp only [Sum.elim_inl, Sum.elim_inr] at hf
    refine lv_iconst (v := nI 0) C.1 C.2.1 dX9_mayGlue_44 (by decide) ?_
    obtain rfl := Option.some.inj hf
    exact r_zret C hG (Or.inl rfl) dX9_mayGlue_45
  · subst e0
    simp only [Sum.elim_inl, Sum.elim_inr] at hf
    refine lv_iconst (v := nI 1) C.1 C.2.1 dX9_mayGlue_52 (by decide) ?_
    obtain rfl := Option.some.inj hf
    exact r_zret C hG (Or.inr rfl) dX9_mayGlue_53
set_option maxRecDepth 100000 in
set_option maxHeartbeats 4000000 in
theorem mt_X9_mayGlue (l : Launch) {G : GG} {A : Nat → Prop} {B : Nat} {X : va_W} {x1 : Int32} {w : Mem} {out : Int32}  (hf : sh_X9_mayGlue x1 w = some out) : MetW l yX9_mayGlue wc_X9_mayGlue rm_X9_mayGlue G A 28 B (entM G B w) X [.ref (B + 0), .int x1] (some (.int out)) (entM G B w) := by
  refine Met.ofW (cc := cX9_mayGlue) (maxL := 4) (ret := (some .boolean)) (by decide) rfl ?_
  intro p e s m args below meth c s₁ B0 hml hv
  obtain ⟨rfl, hEv, hWd⟩ := hv
  have C : CX p s m _ meth c cX9_mayGlue 4 RX9 wc_X9_mayGlue (some .boolean) := ⟨B0.exec, B0.bytes, hml, findClass_of_methodNamed B0.named, atoms_spec (ws := wc_X9_mayGlue) B0.pre, B0.returns, B0.notSynchronized⟩
  have hl := lv_entry [.ref (B + 0), .int x1] (n := 4) (Nat.le_of_ble_eq_true rfl)
  rw [lg_entry_eq]
  generalize (lg_sl [.ref (B + 0), .int x1] ++ List.replicate (4 - (lg_sl [.ref (B + 0), .int x1]).length) Slot.unset).toArray = ls at hl ⊢
  have hl : lv_has ls 4 [(0, .ref (B + 0)), (1, .int x1)] := hl
  exact kb_X9_mayGlue_0 C  ⟨hEv, hWd, va_S.rf⟩ hl hf
abbrev wc_X9_glues : List Cond := Cond.code yX9_glues cX9_glues 4 none :: TG
abbrev rm_X9_glues : Room := { frames := 3, cells := 0, slots := 0, locals := 121 }
theorem cd_X9_glues : yX9_glues.cls = RX9 ∧ yX9_glues.cls ≠ "java/lang/invoke/MethodHandle" ∧ yX9_glues.cls ≠ "java/lang/invoke/VarHandle" ∧ (parseMethodDescriptor yX9_glues.desc).map (fun d => d.parameters.length) = some 1 := by decide +kernel
theorem dX9_glues_0 : decode cX9_glues 0 = .ok (.aload_n 0, 1) := by decide +kernel
theorem dX9_glues_1 : decode cX9_glues 1 = .ok (.getfield 11, 3) := by decide +kernel
theorem dX9_glues_4 : decode cX9_glues 4 = .ok (.bipush 13, 2) := by decide +kernel
theorem dX9_glues_6 : decode cX9_glues 6 = .ok (.iload_n 1, 1) := by decide +kernel
theorem dX9_glues_7 : decode cX9_glues 7 = .ok (.iadd, 1) := by decide +kernel
theorem dX9_glues_8 : decode cX9_glues 8 = .ok (.iaload, 1) := by decide +kernel
theorem dX9_glues_9 : decode cX9_glues 9 = .ok (.istore_n 2, 1) := by decide +kernel
theorem dX9_glues_10 : decode cX9_glues 10 = .ok (.iconst 0, 1) := by decide +kernel
theorem dX9_glues_11 : decode cX9_glues 11 = .ok (.istore_n 3, 1) := by decide +kernel
theorem dX9_glues_12 : decode cX9_glues 12 = .ok (.iload_n 3, 1) := by decide +kernel
theorem dX9_glues_13 : decode cX9_glues 13 = .ok (.iload_n 2, 1) := by decide +kernel
theorem dX9_glues_14 : decode cX9_glues 14 = .ok (.if_icmp .ge 27, 3) := by decide +kernel
theorem dX9_glues_17 : decode cX9_glues 17 = .ok (.aload_n 0, 1) := by decide +kernel
theorem dX9_glues_18 : decode cX9_glues 18 = .ok (.aload_n 0, 1) := by decide +kernel
theorem dX9_glues_19 : decode cX9_glues 19 = .ok (.getfield 11, 3) := by decide +kernel
theorem dX9_glues_22 : decode cX9_glues 22 = .ok (.bipush 17, 2) := by decide +kernel
theorem dX9_glues_24 : decode cX9_glues 24 = .ok (.bipush 24, 2) := by decide +kernel
theorem dX9_glues_26 : decode cX9_glues 26 = .ok (.iload_n 1, 1) := by decide +kernel
theorem dX9_glues_27 : decode cX9_glues 27 = .ok (.imul, 1) := by decide +kernel
theorem dX9_glues_28 : decode cX9_glues 28 = .ok (.iadd, 1) := by decide +kernel
theorem dX9_glues_29 : decode cX9_glues 29 = .ok (.iload_n 3, 1) := by decide +kernel
theorem dX9_glues_30 : decode cX9_glues 30 = .ok (.iadd, 1) := by decide +kernel
theorem dX9_glues_31 : decode cX9_glues 31 = .ok (.iaload, 1) := by decide +kernel
theorem dX9_glues_32 : decode cX9_glues 32 = .ok (.invokevirtual 191, 3) := by decide +kernel
theorem dX9_glues_35 : decode cX9_glues 35 = .ok (.iinc 3 1, 3) := by decide +kernel
theorem dX9_glues_38 : decode cX9_glues 38 = .ok (.goto (-26), 3) := by decide +kernel
theorem dX9_glues_41 : decode cX9_glues 41 = .ok (.return_, 1) := by decide +kernel
set_option maxRecDepth 100000 in
set_option maxHeartbeats 4000000 in
theorem kb_X9_glues_12 {x1 : Int32} {x2 : Int32} {st : Int32 × Mem} {r : (Int32 × Mem) ⊕ ((Mem))} {H : Heap} {locs : List Loc} {ls : Array Slot} (C : CX p s m args meth c cX9_glues 4 RX9 wc_X9_glues none)  (hG : Gd s G A 28 B (entM G B st.2) X H locs) (hl : lv_has ls 4 [(0, .ref (B + 0)), (1, .int x1), (2, .int x2), (3, .int st.1)]) (hf : sh_X9_glues_s12 x1 x2 st = some r)
    (kL : ∀ st' : Int32 × Mem, r = Sum.inl st' → ∀ (H : Heap) (locs : List Loc) (ls : Array Slot), Gd s G A 28 B (entM G B st'.2) X H locs → lv_has ls 4 [(0, .ref (B + 0)), (1, .int x1), (2, .int x2), (3, .int st'.1)] → W p l e rm_X9_glues s m args below meth c H locs 0 0 Q (F0 m 12 ls []))
    (kX0 : ∀ y' : Mem, r = Sum.inr y' → ∀ (H : Heap) (locs : List Loc) (ls : Array Slot), Gd s G A 28 B (entM G B y') X H locs → lv_has ls 4 [] → W p l e rm_X9_glues s m args below meth c H locs 0 0 Q (F0 m 41 ls [])) :
    W p l e rm_X9_glues s m args below meth c H locs 0 0 Q (F0 m 12 ls []) := by
  refine lv_iload_n C.1 C.2.1 dX9_glues_12 rfl (lv_at hl 3 rfl) ?_
  refine lv_iload_n C.1 C.2.1 dX9_glues_13 rfl (lv_at hl 2 rfl) ?_
  rcases of_ite hf with ⟨c1, hf⟩ | ⟨c1, hf⟩
  · refine lv_icmp_ge (tgt := 41) C.1 C.2.1 dX9_glues_14 (by decide) (fun _ => ?_) (fun q => absurd c1 q)
    obtain rfl := Option.some.inj hf
    exact kX0 _ rfl _ _ _ hG (lv_sub hl [] rfl)
  · refine lv_icmp_ge (tgt := 41) C.1 C.2.1 dX9_glues_14 (by decide) (fun q => absurd q c1) (fun _ => ?_)
    refine lv_aload_n C.1 C.2.1 dX9_glues_17 rfl (lv_at hl 0 rfl) ?_
    refine lv_aload_n C.1 C.2.1 dX9_glues_18 rfl (lv_at hl 0 rfl) ?_
    refine gf_X9_11 C hG rfl dX9_glues_19 ?_
    refine lv_bipush (v := nI 17) C.1 C.2.1 dX9_glues_22 (by decide) ?_
    refine lv_bipush (v := nI 24) C.1 C.2.1 dX9_glues_24 (by decide) ?_
    refine lv_iload_n C.1 C.2.1 dX9_glues_26 rfl (lv_at hl 1 rfl) ?_
    refine lv_imul C.1 C.2.1 dX9_glues_27 ?_
    refine lv_iadd C.1 C.2.1 dX9_glues_28 ?_
    refine lv_iload_n C.1 C.2.1 dX9_glues_29 rfl (lv_at hl 3 rfl) ?_
    refine lv_iadd C.1 C.2.1 dX9_glues_30 ?_
    obtain ⟨v2, hv2, hf⟩ := of_bind hf
    obtain ⟨bv2, ev2⟩ := of_ldS hv2
    refine r_iald C hG (c0 := 1) (by decide) (entM_I (n := 130) rfl) bv2 dX9_glues_31 ?_
    refine r_top ev2 ?_
    obtain ⟨w3, hw3, hf⟩ := of_bind hf
    refine r_callV0 C hG hl.1 (c0 := 0) (As := [.int v2]) (by decide) (entM_O (n := 35) rfl) rfl (mt_X9_adds l  hw3) (cwV 1 C.2.2.2.2.1 (gd_V tg_5_95 tg_5_97 tgp_42 tg_1_10 tg_5_98) rfl rfl rfl cd_X9_adds ⟨Nat.le_of_ble_eq_true rfl, Nat.le_of_ble_eq_true rfl⟩) rfl rfl (Nat.le_of_ble_eq_true rfl) dX9_glues_32 (fun H locs hG => ?_)
    obtain ⟨v4, ev4, hf⟩ := of_letv hf
    refine lv_iinc (v := v4) (lv' := [(3, .int v4), (0, .ref (B + 0)), (1, .int x1), (2, .int x2)]) C.1 C.2.1 dX9_glues_35 hl (k := 3) rfl (by rw [ev4, show Int32.ofInt (1) = nI 1 from by decide]) (by decide) rfl (fun ls hl => ?_)
    refine lv_goto (tgt := 12) C.1 C.2.1 dX9_glues_38 (by decide) ?_
    obtain rfl := Option.some.inj hf
    exact kL _ rfl _ _ _ hG (lv_sub hl [1, 2, 3, 0] rfl)
set_option maxRecDepth 100000 in
set_option maxHeartbeats 4000000 in
theorem kl_X9_glues_12 {x1 : Int32} {x2 : Int32} (C : CX p s m args meth c cX9_glues 4 RX9 wc_X9_glues none)  : ∀ (n : Nat) (st : Int32 × Mem) (x : (Mem)) (H : Heap) (locs : List Loc) (ls : Array Slot), Gd s G A 28 B (entM G B st.2) X H locs → lv_has ls 4 [(0, .ref (B + 0)), (1, .int x1), (2, .int x2), (3, .int st.1)] → lpw (sh_X9_glues_s12 x1 x2) n st = some x →
    (∀ y' : Mem, x = y' → ∀ (H : Heap) (locs : List Loc) (ls : Array Slot), Gd s G A 28 B (entM G B y') X H locs → lv_has ls 4 [] → W p l e rm_X9_glues s m args below meth c H locs 0 0 Q (F0 m 41 ls [])) → W p l e rm_X9_glues s m args below meth c H locs 0 0 Q (F0 m 12 ls []) := by
  intro n
  induction n with
  | zero =>
    intro st x H locs ls hG hl hf
    cases hf
  | succ n ih =>
    intro st x H locs ls hG hl hf kX0
    obtain ⟨r, hr, hh⟩ := of_lpw hf
    refine kb_X9_glues_12 C  hG hl hr (fun st2 e1 H locs ls hG hl => ?_) (fun y2 e1 H locs ls hG hl => ?_)
    · rcases hh with ⟨s3, e2, hh⟩ | e2
      · rw [e2] at e1
        cases e1
        exact ih _ _ _ _ _ hG hl hh kX0
      · rw [e2] at e1
        cases e1
    · rcases hh with ⟨s3, e2, hh⟩ | e2
      · rw [e2] at e1
        cases e1
      · rw [e2] at e1
        cases e1
        exact kX0 _ rfl _ _ _ hG hl
set_option maxRecDepth 100000 in
set_option maxHeartbeats 4000000 in
theorem kb_X9_glues_0 {x1 : Int32} {w : Mem} {out : Mem} {H : Heap} {locs : List Loc} {ls : Array Slot} (C : CX p s m args meth c cX9_glues 4 RX9 wc_X9_glues none)  (hG : Gd s G A 28 B (entM G B w) X H locs) (hl : lv_has ls 4 [(0, .ref (B + 0)), (1, .int x1)]) (hf : sh_X9_glues x1 w = some out) :
    W p l e rm_X9_glues s m args below meth c H locs 0 0 (MQ below (CPost G A 28 B (entM G B out) X none) args s 0 0 A) (F0 m 0 ls []) := by
  refine lv_aload_n C.1 C.2.1 dX9_glues_0 rfl (lv_at hl 0 rfl) ?_
  refine gf_X9_11 C hG rfl dX9_glues_1 ?_
  refine lv_bipush (v := nI 13) C.1 C.2.1 dX9_glues_4 (by decide) ?_
  refine lv_iload_n C.1 C.2.1 dX9_glues_6 rfl (lv_at hl 1 rfl) ?_
  refine lv_iadd C.1 C.2.1 dX9_glues_7 ?_
  obtain ⟨v1, hv1, hf⟩ := of_bind hf
  obtain ⟨bv1, ev1⟩ := of_ldS hv1
  refine r_iald C hG (c0 := 1) (by decide) (entM_I (n := 130) rfl) bv1 dX9_glues_8 ?_
  refine r_top ev1 ?_
  refine lv_istore_n (lv' := [(2, .int v1), (0, .ref (B + 0)), (1, .int x1)]) C.1 C.2.1 dX9_glues_9 rfl hl (by decide) rfl (fun ls hl => ?_)
  refine lv_iconst (v := nI 0) C.1 C.2.1 dX9_glues_10 (by decide) ?_
  refine lv_istore_n (lv' := [(3, .int (nI 0)), (2, .int v1), (0, .ref (B + 0)), (1, .int x1)]) C.1 C.2.1 dX9_glues_11 rfl hl (by decide) rfl (fun ls hl => ?_)
  obtain ⟨ex2, hex2, hf⟩ := of_bind hf
  refine kl_X9_glues_12 C  FU (nI 0, w) ex2 _ _ _ hG (lv_sub hl [2, 3, 1, 0] rfl) hex2 (fun y e0 H locs ls hG hl => ?_)
  subst e0
  obtain rfl := Option.some.inj hf
  exact r_vret C hG dX9_glues_41
set_option maxRecDepth 100000 in
set_option maxHeartbeats 4000000 in
theorem mt_X9_glues (l : Launch) {G : GG} {A : Nat → Prop} {B : Nat} {X : va_W} {x1 : Int32} {w : Mem} {out : Mem}  (hf : sh_X9_glues x1 w = some out) : MetW l yX9_glues wc_X9_glues rm_X9_glues G A 28 B (entM G B w) X [.ref (B + 0), .int x1] none (entM G B out) := by
  refine Met.ofW (cc := cX9_glues) (maxL := 4) (ret := none) (by decide) rfl ?_
  intro p e s m args below meth c s₁ B0 hml hv
  obtain ⟨rfl, hEv, hWd⟩ := hv
  have C : CX p s m _ meth c cX9_glues 4 RX9 wc_X9_glues none := ⟨B0.exec, B0.bytes, hml, findClass_of_methodNamed B0.named, atoms_spec (ws := wc_X9_glues) B0.pre, B0.returns, B0.notSynchronized⟩
  have hl := lv_entry [.ref (B + 0), .int x1] (n := 4) (Nat.le_of_ble_eq_true rfl)
  rw [lg_entry_eq]
  generalize (lg_sl [.ref (B + 0), .int x1] ++ List.replicate (4 - (lg_sl [.ref (B + 0), .int x1]).length) Slot.unset).toArray = ls at hl ⊢
  have hl : lv_has ls 4 [(0, .ref (B + 0)), (1, .int x1)] := hl
  exact kb_X9_glues_0 C  ⟨hEv, hWd, va_S.rf⟩ hl hf
abbrev wc_X9_glue : List Cond := Cond.code yX9_glue cX9_glue 3 (some .int) :: TG
abbrev rm_X9_glue : Room := { frames := 5, cells := 0, slots := 0, locals := 169 }
theorem cd_X9_glue : yX9_glue.cls = RX9 ∧ yX9_glue.cls ≠ "java/lang/invoke/MethodHandle" ∧ yX9_glue.cls ≠ "java/lang/invoke/VarHandle" ∧ (parseMethodDescriptor yX9_glue.desc).map (fun d => d.parameters.length) = some 2 := by decide +kernel
theorem dX9_glue_0 : decode cX9_glue 0 = .ok (.iload_n 1, 1) := by decide +kernel
theorem dX9_glue_1 : decode cX9_glue 1 = .ok (.invokestatic 205, 3) := by decide +kernel
theorem dX9_glue_4 : decode cX9_glue 4 = .ok (.ifCond .eq 10, 3) := by decide +kernel
theorem dX9_glue_7 : decode cX9_glue 7 = .ok (.iload_n 2, 1) := by decide +kernel
theorem dX9_glue_8 : decode cX9_glue 8 = .ok (.invokestatic 205, 3) := by decide +kernel
theorem dX9_glue_11 : decode cX9_glue 11 = .ok (.ifCond .ne 5, 3) := by decide +kernel
theorem dX9_glue_14 : decode cX9_glue 14 = .ok (.iconst (-1), 1) := by decide +kernel
theorem dX9_glue_15 : decode cX9_glue 15 = .ok (.ireturn, 1) := by decide +kernel
theorem dX9_glue_16 : decode cX9_glue 16 = .ok (.aload_n 0, 1) := by decide +kernel
theorem dX9_glue_17 : decode cX9_glue 17 = .ok (.iload_n 1, 1) := by decide +kernel
theorem dX9_glue_18 : decode cX9_glue 18 = .ok (.invokevirtual 214, 3) := by decide +kernel
theorem dX9_glue_21 : decode cX9_glue 21 = .ok (.aload_n 0, 1) := by decide +kernel
theorem dX9_glue_22 : decode cX9_glue 22 = .ok (.iload_n 2, 1) := by decide +kernel
theorem dX9_glue_23 : decode cX9_glue 23 = .ok (.invokevirtual 281, 3) := by decide +kernel
theorem dX9_glue_26 : decode cX9_glue 26 = .ok (.ifCond .ne 6, 3) := by decide +kernel
theorem dX9_glue_29 : decode cX9_glue 29 = .ok (.bipush (-3), 2) := by decide +kernel
theorem dX9_glue_31 : decode cX9_glue 31 = .ok (.ireturn, 1) := by decide +kernel
theorem dX9_glue_32 : decode cX9_glue 32 = .ok (.aload_n 0, 1) := by decide +kernel
theorem dX9_glue_33 : decode cX9_glue 33 = .ok (.getfield 170, 3) := by decide +kernel
theorem dX9_glue_36 : decode cX9_glue 36 = .ok (.aload_n 0, 1) := by decide +kernel
theorem dX9_glue_37 : decode cX9_glue 37 = .ok (.getfield 11, 3) := by decide +kernel
theorem dX9_glue_40 : decode cX9_glue 40 = .ok (.bipush 13, 2) := by decide +kernel
theorem dX9_glue_42 : decode cX9_glue 42 = .ok (.iload_n 2, 1) := by decide +kernel
theorem dX9_glue_43 : decode cX9_glue 43 = .ok (.iadd, 1) := by decide +kernel
theorem dX9_glue_44 : decode cX9_glue 44 = .ok (.iaload, 1) := by decide +kernel
theorem dX9_glue_45 : decode cX9_glue 45 = .ok (.iadd, 1) := by decide +kernel
theorem dX9_glue_46 : decode cX9_glue 46 = .ok (.bipush 24, 2) := by decide +kernel
theorem dX9_glue_48 : decode cX9_glue 48 = .ok (.if_icmp .le 6, 3) := by decide +kernel
theorem dX9_glue_51 : decode cX9_glue 51 = .ok (.bipush (-4), 2) := by decide +kernel
theorem dX9_glue_53 : decode cX9_glue 53 = .ok (.ireturn, 1) := by decide +kernel
theorem dX9_glue_54 : decode cX9_glue 54 = .ok (.aload_n 0, 1) := by decide +kernel
theorem dX9_glue_55 : decode cX9_glue 55 = .ok (.iload_n 2, 1) := by decide +kernel
theorem dX9_glue_56 : decode cX9_glue 56 = .ok (.invokevirtual 284, 3) := by decide +kernel
theorem dX9_glue_59 : decode cX9_glue 59 = .ok (.aload_n 0, 1) := by decide +kernel
theorem dX9_glue_60 : decode cX9_glue 60 = .ok (.iload_n 1, 1) := by decide +kernel
theorem dX9_glue_61 : decode cX9_glue 61 = .ok (.invokevirtual 211, 3) := by decide +kernel
theorem dX9_glue_64 : decode cX9_glue 64 = .ok (.aload_n 0, 1) := by decide +kernel
theorem dX9_glue_65 : decode cX9_glue 65 = .ok (.getfield 170, 3) := by decide +kernel
theorem dX9_glue_68 : decode cX9_glue 68 = .ok (.ireturn, 1) := by decide +kernel
set_option maxRecDepth 100000 in
set_option maxHeartbeats 4000000 in
theorem kb_X9_glue_0 {x1 : Int32} {x2 : Int32} {w : Mem} {out : Int32 × Mem} {H : Heap} {locs : List Loc} {ls : Array Slot} (C : CX p s m args meth c cX9_glue 3 RX9 wc_X9_glue (some .int))  (hG : Gd s G A 28 B (entM G B w) X H locs) (hl : lv_has ls 3 [(0, .ref (B + 0)), (1, .int x1), (2, .int x2)]) (hf : sh_X9_glue x1 x2 w = some out) :
    W p l e rm_X9_glue s m args below meth c H locs 0 0 (MQ below (CPost G A 28 B (entM G B out.2) X (some (.int out.1))) args s 0 0 A) (F0 m 0 ls []) := by
  refine lv_iload_n C.1 C.2.1 dX9_glue_0 rfl (lv_at hl 1 rfl) ?_
  obtain ⟨v1, hv1, hf⟩ := of_bind hf
  refine r_callS1 C hG hl.1 (As := [.int x1]) (mt_X9_isSurface l  hv1) (va_cwS 1 C.2.2.2.2.1 (gd_S tg_5_64 tg_5_65 tg_1_10 tg_5_66) rfl rfl rfl cd_X9_isSurface.2 ⟨Nat.le_of_ble_eq_true rfl, Nat.le_of_ble_eq_true rfl⟩) rfl rfl (Nat.le_of_ble_eq_true rfl) dX9_glue_1 (fun H locs hG => ?_)
  rcases of_ite hf with ⟨c2, hf⟩ | ⟨c2, hf⟩
  · refine lv_if_eq (tgt := 14) C.1 C.2.1 dX9_glue_4 (by decide) (fun _ => ?_) (fun q => absurd c2 q)
    refine lv_iconst (v := (-1 : Int32)) C.1 C.2.1 dX9_glue_14 (by decide) ?_
    obtain rfl := Option.some.inj hf
    exact r_iret C hG dX9_glue_15
  · refine lv_if_eq (tgt := 14) C.1 C.2.1 dX9_glue_4 (by decide) (fun q => absurd q c2) (fun _ => ?_)
    refine lv_iload_n C.1 C.2.1 dX9_glue_7 rfl (lv_at hl 2 rfl) ?_
    obtain ⟨v3, hv3, hf⟩ := of_bind hf
    refine r_callS1 C hG hl.1 (As := [.int x2]) (mt_X9_isSurface l  hv3) (va_cwS 1 C.2.2.2.2.1 (gd_S tg_5_64 tg_5_65 tg_1_10 tg_5_66) rfl rfl rfl cd_X9_isSurface.2 ⟨Nat.le_of_ble_eq_true rfl, Nat.le_of_ble_eq_true rfl⟩) rfl rfl (Nat.le_of_ble_eq_true rfl) dX9_glue_8 (fun H locs hG => ?_)
    rcases of_ite hf with ⟨c4, hf⟩ | ⟨c4, hf⟩
    · refine lv_if_ne (tgt := 16) C.1 C.2.1 dX9_glue_11 (by decide) (fun q => absurd c4 q) (fun _ => ?_)
      refine lv_iconst (v := (-1 : Int32)) C.1 C.2.1 dX9_glue_14 (by decide) ?_
      obtain rfl := Option.some.inj hf
      exact r_iret C hG dX9_glue_15
    · refine lv_if_ne (tgt := 16) C.1 C.2.1 dX9_glue_11 (by decide) (fun _ => ?_) (fun q => absurd q c4)
      refine lv_aload_n C.1 C.2.1 dX9_glue_16 rfl (lv_at hl 0 rfl) ?_
      refine lv_iload_n C.1 C.2.1 dX9_glue_17 rfl (lv_at hl 1 rfl) ?_
      obtain ⟨w5, hw5, hf⟩ := of_bind hf
      refine r_callV0 C hG hl.1 (c0 := 0) (As := [.int x1]) (by decide) (entM_O (n := 35) rfl) rfl (mt_X9_loads l  hw5) (cwV 1 C.2.2.2.2.1 (gd_V tg_5_107 tg_5_109 tgp_44 tg_1_10 tg_5_110) rfl rfl rfl cd_X9_loads ⟨Nat.le_of_ble_eq_true rfl, Nat.le_of_ble_eq_true rfl⟩) rfl rfl (Nat.le_of_ble_eq_true rfl) dX9_glue_18 (fun H locs hG => ?_)
      refine lv_aload_n C.1 C.2.1 dX9_glue_21 rfl (lv_at hl 0 rfl) ?_
      refine lv_iload_n C.1 C.2.1 dX9_glue_22 rfl (lv_at hl 2 rfl) ?_
      obtain ⟨v6, hv6, hf⟩ := of_bind hf
      refine r_callV1 C hG hl.1 (c0 := 0) (As := [.int x2]) (by decide) (entM_O (n := 35) rfl) rfl (mt_X9_mayGlue l  hv6) (cwV 1 C.2.2.2.2.1 (gd_V tg_5_213 tg_5_215 tgp_61 tg_1_10 tg_5_216) rfl rfl rfl cd_X9_mayGlue ⟨Nat.le_of_ble_eq_true rfl, Nat.le_of_ble_eq_true rfl⟩) rfl rfl (Nat.le_of_ble_eq_true rfl) dX9_glue_23 (fun H locs hG => ?_)
      rcases of_ite hf with ⟨c7, hf⟩ | ⟨c7, hf⟩
      · refine lv_if_ne (tgt := 32) C.1 C.2.1 dX9_glue_26 (by decide) (fun q => absurd c7 q) (fun _ => ?_)
        refine lv_bipush (v := (-3 : Int32)) C.1 C.2.1 dX9_glue_29 (by decide) ?_
        obtain rfl := Option.some.inj hf
        exact r_iret C hG dX9_glue_31
      · refine lv_if_ne (tgt := 32) C.1 C.2.1 dX9_glue_26 (by decide) (fun _ => ?_) (fun q => absurd q c7)
        refine lv_aload_n C.1 C.2.1 dX9_glue_32 rfl (lv_at hl 0 rfl) ?_
        refine gf_X9_170 C hG rfl dX9_glue_33 ?_
        refine lv_aload_n C.1 C.2.1 dX9_glue_36 rfl (lv_at hl 0 rfl) ?_
        refine gf_X9_11 C hG rfl dX9_glue_37 ?_
        refine lv_bipush (v := nI 13) C.1 C.2.1 dX9_glue_40 (by decide) ?_
        refine lv_iload_n C.1 C.2.1 dX9_glue_42 rfl (lv_at hl 2 rfl) ?_
        refine lv_iadd C.1 C.2.1 dX9_glue_43 ?_
        obtain ⟨v8, hv8, hf⟩ := of_bind hf
        obtain ⟨bv8, ev8⟩ := of_ldS hv8
        refine r_iald C hG (c0 := 1) (by decide) (entM_I (n := 130) rfl) bv8 dX9_glue_44 ?_
        refine r_top ev8 ?_
        refine lv_iadd C.1 C.2.1 dX9_glue_45 ?_
        refine lv_bipush (v := nI 24) C.1 C.2.1 dX9_glue_46 (by decide) ?_
        rcases of_ite hf with ⟨c9, hf⟩ | ⟨c9, hf⟩
        · refine lv_icmp_le (tgt := 54) C.1 C.2.1 dX9_glue_48 (by decide) (fun _ => ?_) (fun q => absurd c9 q)
          refine lv_aload_n C.1 C.2.1 dX9_glue_54 rfl (lv_at hl 0 rfl) ?_
          refine lv_iload_n C.1 C.2.1 dX9_glue_55 rfl (lv_at hl 2 rfl) ?_
          obtain ⟨w10, hw10, hf⟩ := of_bind hf
          refine r_callV0 C hG hl.1 (c0 := 0) (As := [.int x2]) (by decide) (entM_O (n := 35) rfl) rfl (mt_X9_glues l  hw10) (cwV 1 C.2.2.2.2.1 (gd_V tg_5_217 tg_5_219 tgp_62 tg_1_10 tg_5_220) rfl rfl rfl cd_X9_glues ⟨Nat.le_of_ble_eq_true rfl, Nat.le_of_ble_eq_true rfl⟩) rfl rfl (Nat.le_of_ble_eq_true rfl) dX9_glue_56 (fun H locs hG => ?_)
          refine lv_aload_n C.1 C.2.1 dX9_glue_59 rfl (lv_at hl 0 rfl) ?_
          refine lv_iload_n C.1 C.2.1 dX9_glue_60 rfl (lv_at hl 1 rfl) ?_
          obtain ⟨w11, hw11, hf⟩ := of_bind hf
          refine r_callV0 C hG hl.1 (c0 := 0) (As := [.int x1]) (by decide) (entM_O (n := 35) rfl) rfl (mt_X9_saves l  hw11) (cwV 1 C.2.2.2.2.1 (gd_V tg_5_99 tg_5_101 tgp_43 tg_1_10 tg_5_102) rfl rfl rfl cd_X9_saves ⟨Nat.le_of_ble_eq_true rfl, Nat.le_of_ble_eq_true rfl⟩) rfl rfl (Nat.le_of_ble_eq_true rfl) dX9_glue_61 (fun H locs hG => ?_)
          refine lv_aload_n C.1 C.2.1 dX9_glue_64 rfl (lv_at hl 0 rfl) ?_
          refine gf_X9_170 C hG rfl dX9_glue_65 ?_
          obtain rfl := Option.some.inj hf
          exact r_iret C hG dX9_glue_68
        · refine lv_icmp_le (tgt := 54) C.1 C.2.1 dX9_glue_48 (by decide) (fun q => absurd q c9) (fun _ => ?_)
          refine lv_bipush (v := (-4 : Int32)) C.1 C.2.1 dX9_glue_51 (by decide) ?_
          obtain rfl := Option.some.inj hf
          exact r_iret C hG dX9_glue_53
set_option maxRecDepth 100000 in
set_option maxHeartbeats 4000000 in
theorem mt_X9_glue (l : Launch) {G : GG} {A : Nat → Prop} {B : Nat} {X : va_W} {x1 : Int32} {x2 : Int32} {w : Mem} {out : Int32 × Mem}  (hf : sh_X9_glue x1 x2 w = some out) : MetW l yX9_glue wc_X9_glue rm_X9_glue G A 28 B (entM G B w) X [.ref (B + 0), .int x1, .int x2] (some (.int out.1)) (entM G B out.2) := by
  refine Met.ofW (cc := cX9_glue) (maxL := 3) (ret := (some .int)) (by decide) rfl ?_
  intro p e s m args below meth c s₁ B0 hml hv
  obtain ⟨rfl, hEv, hWd⟩ := hv
  have C : CX p s m _ meth c cX9_glue 3 RX9 wc_X9_glue (some .int) := ⟨B0.exec, B0.bytes, hml, findClass_of_methodNamed B0.named, atoms_spec (ws := wc_X9_glue) B0.pre, B0.returns, B0.notSynchronized⟩
  have hl := lv_entry [.ref (B + 0), .int x1, .int x2] (n := 3) (Nat.le_of_ble_eq_true rfl)
  rw [lg_entry_eq]
  generalize (lg_sl [.ref (B + 0), .int x1, .int x2] ++ List.replicate (3 - (lg_sl [.ref (B + 0), .int x1, .int x2]).length) Slot.unset).toArray = ls at hl ⊢
  have hl : lv_has ls 3 [(0, .ref (B + 0)), (1, .int x1), (2, .int x2)] := hl
  exact kb_X9_glue_0 C  ⟨hEv, hWd, va_S.rf⟩ hl hf
end
