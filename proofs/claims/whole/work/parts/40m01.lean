section
variable {p : Program} {l : Launch} {e : Env} {s : State} {m : MethodId} {args : Array Value} {below : List Frame} {meth : Method} {c : Code} {Q : State → Prop} {G : GG} {A : Nat → Prop} {N B : Nat} {E : Nat → va_E} {X : va_W}
abbrev wc_X9_laysOut_ : List Cond := Cond.code yX9_laysOut_ cX9_laysOut_ 2 none :: TG
abbrev rm_X9_laysOut_ : Room := { frames := 6, cells := 0, slots := 0, locals := 195 }
theorem cd_X9_laysOut_ : yX9_laysOut_.cls = RX9 ∧ yX9_laysOut_.cls ≠ "java/lang/invoke/MethodHandle" ∧ yX9_laysOut_.cls ≠ "java/lang/invoke/VarHandle" ∧ (parseMethodDescriptor yX9_laysOut_.desc).map (fun d => d.parameters.length) = some 1 := by decide +kernel
theorem dX9_laysOut__0 : decode cX9_laysOut_ 0 = .ok (.aload_n 0, 1) := by decide +kernel
theorem dX9_laysOut__1 : decode cX9_laysOut_ 1 = .ok (.iload_n 1, 1) := by decide +kernel
theorem dX9_laysOut__2 : decode cX9_laysOut_ 2 = .ok (.aload_n 0, 1) := by decide +kernel
theorem dX9_laysOut__3 : decode cX9_laysOut_ 3 = .ok (.getfield 11, 3) := by decide +kernel
theorem dX9_laysOut__6 : decode cX9_laysOut_ 6 = .ok (.bipush 9, 2) := by decide +kernel
theorem dX9_laysOut__8 : decode cX9_laysOut_ 8 = .ok (.iload_n 1, 1) := by decide +kernel
theorem dX9_laysOut__9 : decode cX9_laysOut_ 9 = .ok (.iadd, 1) := by decide +kernel
theorem dX9_laysOut__10 : decode cX9_laysOut_ 10 = .ok (.iaload, 1) := by decide +kernel
theorem dX9_laysOut__11 : decode cX9_laysOut_ 11 = .ok (.invokevirtual 148, 3) := by decide +kernel
theorem dX9_laysOut__14 : decode cX9_laysOut_ 14 = .ok (.return_, 1) := by decide +kernel
set_option maxRecDepth 100000 in
set_option maxHeartbeats 4000000 in
theorem kb_X9_laysOut__0 {x1 : Int32} {w : Mem} {out : Mem} {H : Heap} {locs : List Loc} {ls : Array Slot} (C : CX p s m args meth c cX9_laysOut_ 2 RX9 wc_X9_laysOut_ none)  (hG : Gd s G A 28 B (entM G B w) X H locs) (hl : lv_has ls 2 [(0, .ref (B + 0)), (1, .int x1)]) (hf : sh_X9_laysOut_ x1 w = some out) :
    W p l e rm_X9_laysOut_ s m args below meth c H locs 0 0 (MQ below (CPost G A 28 B (entM G B out) X none) args s 0 0 A) (F0 m 0 ls []) := by
  refine lv_aload_n C.1 C.2.1 dX9_laysOut__0 rfl (lv_at hl 0 rfl) ?_
  refine lv_iload_n C.1 C.2.1 dX9_laysOut__1 rfl (lv_at hl 1 rfl) ?_
  refine lv_aload_n C.1 C.2.1 dX9_laysOut__2 rfl (lv_at hl 0 rfl) ?_
  refine gf_X9_11 C hG rfl dX9_laysOut__3 ?_
  refine lv_bipush (v := nI 9) C.1 C.2.1 dX9_laysOut__6 (by decide) ?_
  refine lv_iload_n C.1 C.2.1 dX9_laysOut__8 rfl (lv_at hl 1 rfl) ?_
  refine lv_iadd C.1 C.2.1 dX9_laysOut__9 ?_
  obtain ⟨v1, hv1, hf⟩ := of_bind hf
  obtain ⟨bv1, ev1⟩ := of_ldS hv1
  refine r_iald C hG (c0 := 1) (by decide) (entM_I (n := 130) rfl) bv1 dX9_laysOut__10 ?_
  refine r_top ev1 ?_
  obtain ⟨w2, hw2, hf⟩ := of_bind hf
  refine r_callV0 C hG hl.1 (c0 := 0) (As := [.int x1, .int v1]) (by decide) (entM_O (n := 35) rfl) rfl (mt_X9_laysOut l  hw2) (cwV 2 C.2.2.2.2.1 (gd_V tg_4_225 tg_4_227 tgp_30 tg_1_10 tg_4_228) rfl rfl rfl cd_X9_laysOut ⟨Nat.le_of_ble_eq_true rfl, Nat.le_of_ble_eq_true rfl⟩) rfl rfl (Nat.le_of_ble_eq_true rfl) dX9_laysOut__11 (fun H locs hG => ?_)
  obtain rfl := Option.some.inj hf
  exact r_vret C hG dX9_laysOut__14
set_option maxRecDepth 100000 in
set_option maxHeartbeats 4000000 in
theorem mt_X9_laysOut_ (l : Launch) {G : GG} {A : Nat → Prop} {B : Nat} {X : va_W} {x1 : Int32} {w : Mem} {out : Mem}  (hf : sh_X9_laysOut_ x1 w = some out) : MetW l yX9_laysOut_ wc_X9_laysOut_ rm_X9_laysOut_ G A 28 B (entM G B w) X [.ref (B + 0), .int x1] none (entM G B out) := by
  refine Met.ofW (cc := cX9_laysOut_) (maxL := 2) (ret := none) (by decide) rfl ?_
  intro p e s m args below meth c s₁ B0 hml hv
  obtain ⟨rfl, hEv, hWd⟩ := hv
  have C : CX p s m _ meth c cX9_laysOut_ 2 RX9 wc_X9_laysOut_ none := ⟨B0.exec, B0.bytes, hml, findClass_of_methodNamed B0.named, atoms_spec (ws := wc_X9_laysOut_) B0.pre, B0.returns, B0.notSynchronized⟩
  have hl := lv_entry [.ref (B + 0), .int x1] (n := 2) (Nat.le_of_ble_eq_true rfl)
  rw [lg_entry_eq]
  generalize (lg_sl [.ref (B + 0), .int x1] ++ List.replicate (2 - (lg_sl [.ref (B + 0), .int x1]).length) Slot.unset).toArray = ls at hl ⊢
  have hl : lv_has ls 2 [(0, .ref (B + 0)), (1, .int x1)] := hl
  exact kb_X9_laysOut__0 C  ⟨hEv, hWd, va_S.rf⟩ hl hf
abbrev wc_X9_isElement : List Cond := Cond.code yX9_isElement cX9_isElement 2 (some .boolean) :: TG
abbrev rm_X9_isElement : Room := { frames := 3, cells := 0, slots := 0, locals := 125 }
theorem cd_X9_isElement : yX9_isElement.cls = RX9 ∧ yX9_isElement.cls ≠ "java/lang/invoke/MethodHandle" ∧ yX9_isElement.cls ≠ "java/lang/invoke/VarHandle" ∧ (parseMethodDescriptor yX9_isElement.desc).map (fun d => d.parameters.length) = some 1 := by decide +kernel
theorem dX9_isElement_0 : decode cX9_isElement 0 = .ok (.iload_n 1, 1) := by decide +kernel
theorem dX9_isElement_1 : decode cX9_isElement 1 = .ok (.i2l, 1) := by decide +kernel
theorem dX9_isElement_2 : decode cX9_isElement 2 = .ok (.lconst 0, 1) := by decide +kernel
theorem dX9_isElement_3 : decode cX9_isElement 3 = .ok (.aload_n 0, 1) := by decide +kernel
theorem dX9_isElement_4 : decode cX9_isElement 4 = .ok (.getfield 117, 3) := by decide +kernel
theorem dX9_isElement_7 : decode cX9_isElement 7 = .ok (.iconst 1, 1) := by decide +kernel
theorem dX9_isElement_8 : decode cX9_isElement 8 = .ok (.isub, 1) := by decide +kernel
theorem dX9_isElement_9 : decode cX9_isElement 9 = .ok (.i2l, 1) := by decide +kernel
theorem dX9_isElement_10 : decode cX9_isElement 10 = .ok (.invokestatic 93, 3) := by decide +kernel
theorem dX9_isElement_13 : decode cX9_isElement 13 = .ok (.ireturn, 1) := by decide +kernel
set_option maxRecDepth 100000 in
set_option maxHeartbeats 4000000 in
theorem kb_X9_isElement_0 {x1 : Int32} {w : Mem} {out : Int32} {H : Heap} {locs : List Loc} {ls : Array Slot} (C : CX p s m args meth c cX9_isElement 2 RX9 wc_X9_isElement (some .boolean))  (hG : Gd s G A 28 B (entM G B w) X H locs) (hl : lv_has ls 2 [(0, .ref (B + 0)), (1, .int x1)]) (hf : sh_X9_isElement x1 w = some out) :
    W p l e rm_X9_isElement s m args below meth c H locs 0 0 (MQ below (CPost G A 28 B (entM G B w) X (some (.int out))) args s 0 0 A) (F0 m 0 ls []) := by
  refine lv_iload_n C.1 C.2.1 dX9_isElement_0 rfl (lv_at hl 1 rfl) ?_
  refine lv_i2l C.1 C.2.1 dX9_isElement_1 rfl ?_
  refine lv_lconst (v := lN 0) C.1 C.2.1 dX9_isElement_2 rfl ?_
  refine lv_aload_n C.1 C.2.1 dX9_isElement_3 rfl (lv_at hl 0 rfl) ?_
  refine gf_X9_117 C hG rfl dX9_isElement_4 ?_
  refine lv_iconst (v := nI 1) C.1 C.2.1 dX9_isElement_7 (by decide) ?_
  refine lv_isub C.1 C.2.1 dX9_isElement_8 ?_
  refine lv_i2l C.1 C.2.1 dX9_isElement_9 rfl ?_
  obtain ⟨v1, hv1, hf⟩ := of_bind hf
  refine r_callS1 C hG hl.1 (As := [.long x1.toInt64, .long (lN 0), .long (((w 0 3) - (nI 1)).toInt64)]) (mt_X9_isIn l  hv1) (va_cwS 3 C.2.2.2.2.1 (gd_S tg_4_195 tg_4_196 tg_1_10 tg_4_197) rfl rfl rfl cd_X9_isIn.2 ⟨Nat.le_of_ble_eq_true rfl, Nat.le_of_ble_eq_true rfl⟩) rfl rfl (Nat.le_of_ble_eq_true rfl) dX9_isElement_10 (fun H locs hG => ?_)
  obtain ⟨c2, hf⟩ := of_grd hf
  obtain rfl := Option.some.inj hf
  exact r_zret C hG c2 dX9_isElement_13
set_option maxRecDepth 100000 in
set_option maxHeartbeats 4000000 in
theorem mt_X9_isElement (l : Launch) {G : GG} {A : Nat → Prop} {B : Nat} {X : va_W} {x1 : Int32} {w : Mem} {out : Int32}  (hf : sh_X9_isElement x1 w = some out) : MetW l yX9_isElement wc_X9_isElement rm_X9_isElement G A 28 B (entM G B w) X [.ref (B + 0), .int x1] (some (.int out)) (entM G B w) := by
  refine Met.ofW (cc := cX9_isElement) (maxL := 2) (ret := (some .boolean)) (by decide) rfl ?_
  intro p e s m args below meth c s₁ B0 hml hv
  obtain ⟨rfl, hEv, hWd⟩ := hv
  have C : CX p s m _ meth c cX9_isElement 2 RX9 wc_X9_isElement (some .boolean) := ⟨B0.exec, B0.bytes, hml, findClass_of_methodNamed B0.named, atoms_spec (ws := wc_X9_isElement) B0.pre, B0.returns, B0.notSynchronized⟩
  have hl := lv_entry [.ref (B + 0), .int x1] (n := 2) (Nat.le_of_ble_eq_true rfl)
  rw [lg_entry_eq]
  generalize (lg_sl [.ref (B + 0), .int x1] ++ List.replicate (2 - (lg_sl [.ref (B + 0), .int x1]).length) Slot.unset).toArray = ls at hl ⊢
  have hl : lv_has ls 2 [(0, .ref (B + 0)), (1, .int x1)] := hl
  exact kb_X9_isElement_0 C  ⟨hEv, hWd, va_S.rf⟩ hl hf
abbrev wc_X9_product : List Cond := Cond.code yX9_product cX9_product 5 (some .int) :: TG
abbrev rm_X9_product : Room := { frames := 7, cells := 0, slots := 0, locals := 216 }
theorem cd_X9_product : yX9_product.cls = RX9 ∧ yX9_product.cls ≠ "java/lang/invoke/MethodHandle" ∧ yX9_product.cls ≠ "java/lang/invoke/VarHandle" ∧ (parseMethodDescriptor yX9_product.desc).map (fun d => d.parameters.length) = some 4 := by decide +kernel
theorem dX9_product_0 : decode cX9_product 0 = .ok (.aload_n 0, 1) := by decide +kernel
theorem dX9_product_1 : decode cX9_product 1 = .ok (.iload_n 1, 1) := by decide +kernel
theorem dX9_product_2 : decode cX9_product 2 = .ok (.invokevirtual 109, 3) := by decide +kernel
theorem dX9_product_5 : decode cX9_product 5 = .ok (.ifCond .ne 5, 3) := by decide +kernel
theorem dX9_product_8 : decode cX9_product 8 = .ok (.iconst (-1), 1) := by decide +kernel
theorem dX9_product_9 : decode cX9_product 9 = .ok (.ireturn, 1) := by decide +kernel
theorem dX9_product_10 : decode cX9_product 10 = .ok (.aload_n 0, 1) := by decide +kernel
theorem dX9_product_11 : decode cX9_product 11 = .ok (.iload_n 1, 1) := by decide +kernel
theorem dX9_product_12 : decode cX9_product 12 = .ok (.invokevirtual 152, 3) := by decide +kernel
theorem dX9_product_15 : decode cX9_product 15 = .ok (.aload_n 0, 1) := by decide +kernel
theorem dX9_product_16 : decode cX9_product 16 = .ok (.iload_n 2, 1) := by decide +kernel
theorem dX9_product_17 : decode cX9_product 17 = .ok (.invokevirtual 154, 3) := by decide +kernel
theorem dX9_product_20 : decode cX9_product 20 = .ok (.ifCond .eq 20, 3) := by decide +kernel
theorem dX9_product_23 : decode cX9_product 23 = .ok (.aload_n 0, 1) := by decide +kernel
theorem dX9_product_24 : decode cX9_product 24 = .ok (.iload_n 3, 1) := by decide +kernel
theorem dX9_product_25 : decode cX9_product 25 = .ok (.invokevirtual 154, 3) := by decide +kernel
theorem dX9_product_28 : decode cX9_product 28 = .ok (.ifCond .eq 12, 3) := by decide +kernel
theorem dX9_product_31 : decode cX9_product 31 = .ok (.aload_n 0, 1) := by decide +kernel
theorem dX9_product_32 : decode cX9_product 32 = .ok (.iload 4, 2) := by decide +kernel
theorem dX9_product_34 : decode cX9_product 34 = .ok (.invokevirtual 154, 3) := by decide +kernel
theorem dX9_product_37 : decode cX9_product 37 = .ok (.ifCond .ne 5, 3) := by decide +kernel
theorem dX9_product_40 : decode cX9_product 40 = .ok (.iconst (-1), 1) := by decide +kernel
theorem dX9_product_41 : decode cX9_product 41 = .ok (.ireturn, 1) := by decide +kernel
theorem dX9_product_42 : decode cX9_product 42 = .ok (.aload_n 0, 1) := by decide +kernel
theorem dX9_product_43 : decode cX9_product 43 = .ok (.getfield 18, 3) := by decide +kernel
theorem dX9_product_46 : decode cX9_product 46 = .ok (.aload_n 0, 1) := by decide +kernel
theorem dX9_product_47 : decode cX9_product 47 = .ok (.iload_n 2, 1) := by decide +kernel
theorem dX9_product_48 : decode cX9_product 48 = .ok (.iload_n 3, 1) := by decide +kernel
theorem dX9_product_49 : decode cX9_product 49 = .ok (.invokevirtual 128, 3) := by decide +kernel
theorem dX9_product_52 : decode cX9_product 52 = .ok (.iaload, 1) := by decide +kernel
theorem dX9_product_53 : decode cX9_product 53 = .ok (.iload 4, 2) := by decide +kernel
theorem dX9_product_55 : decode cX9_product 55 = .ok (.if_icmp .ne 17, 3) := by decide +kernel
theorem dX9_product_58 : decode cX9_product 58 = .ok (.aload_n 0, 1) := by decide +kernel
theorem dX9_product_59 : decode cX9_product 59 = .ok (.getfield 21, 3) := by decide +kernel
theorem dX9_product_62 : decode cX9_product 62 = .ok (.aload_n 0, 1) := by decide +kernel
theorem dX9_product_63 : decode cX9_product 63 = .ok (.iload_n 2, 1) := by decide +kernel
theorem dX9_product_64 : decode cX9_product 64 = .ok (.iload_n 3, 1) := by decide +kernel
theorem dX9_product_65 : decode cX9_product 65 = .ok (.invokevirtual 128, 3) := by decide +kernel
theorem dX9_product_68 : decode cX9_product 68 = .ok (.iaload, 1) := by decide +kernel
theorem dX9_product_69 : decode cX9_product 69 = .ok (.goto 4, 3) := by decide +kernel
theorem dX9_product_72 : decode cX9_product 72 = .ok (.iconst 0, 1) := by decide +kernel
theorem dX9_product_73 : decode cX9_product 73 = .ok (.ireturn, 1) := by decide +kernel
set_option maxRecDepth 100000 in
set_option maxHeartbeats 4000000 in
theorem kb_X9_product_0 {x1 : Int32} {x2 : Int32} {x3 : Int32} {x4 : Int32} {w : Mem} {out : Int32 × Mem} {H : Heap} {locs : List Loc} {ls : Array Slot} (C : CX p s m args meth c cX9_product 5 RX9 wc_X9_product (some .int))  (hG : Gd s G A 28 B (entM G B w) X H locs) (hl : lv_has ls 5 [(0, .ref (B + 0)), (1, .int x1), (2, .int x2), (3, .int x3), (4, .int x4)]) (hf : sh_X9_product x1 x2 x3 x4 w = some out) :
    W p l e rm_X9_product s m args below meth c H locs 0 0 (MQ below (CPost G A 28 B (entM G B out.2) X (some (.int out.1))) args s 0 0 A) (F0 m 0 ls []) := by
  refine lv_aload_n C.1 C.2.1 dX9_product_0 rfl (lv_at hl 0 rfl) ?_
  refine lv_iload_n C.1 C.2.1 dX9_product_1 rfl (lv_at hl 1 rfl) ?_
  obtain ⟨v1, hv1, hf⟩ := of_bind hf
  refine r_callV1 C hG hl.1 (c0 := 0) (As := [.int x1]) (by decide) (entM_O (n := 35) rfl) rfl (mt_X9_isAlgebra l  hv1) (cwV 1 C.2.2.2.2.1 (gd_V tg_4_205 tg_4_207 tgp_27 tg_1_10 tg_4_208) rfl rfl rfl cd_X9_isAlgebra ⟨Nat.le_of_ble_eq_true rfl, Nat.le_of_ble_eq_true rfl⟩) rfl rfl (Nat.le_of_ble_eq_true rfl) dX9_product_2 (fun H locs hG => ?_)
  rcases of_ite hf with ⟨c2, hf⟩ | ⟨c2, hf⟩
  · refine lv_if_ne (tgt := 10) C.1 C.2.1 dX9_product_5 (by decide) (fun q => absurd c2 q) (fun _ => ?_)
    refine lv_iconst (v := (-1 : Int32)) C.1 C.2.1 dX9_product_8 (by decide) ?_
    obtain rfl := Option.some.inj hf
    exact r_iret C hG dX9_product_9
  · refine lv_if_ne (tgt := 10) C.1 C.2.1 dX9_product_5 (by decide) (fun _ => ?_) (fun q => absurd q c2)
    refine lv_aload_n C.1 C.2.1 dX9_product_10 rfl (lv_at hl 0 rfl) ?_
    refine lv_iload_n C.1 C.2.1 dX9_product_11 rfl (lv_at hl 1 rfl) ?_
    obtain ⟨w3, hw3, hf⟩ := of_bind hf
    refine r_callV0 C hG hl.1 (c0 := 0) (As := [.int x1]) (by decide) (entM_O (n := 35) rfl) rfl (mt_X9_laysOut_ l  hw3) (cwV 1 C.2.2.2.2.1 (gd_V tg_4_221 tg_4_223 tgp_29 tg_1_10 tg_4_224) rfl rfl rfl cd_X9_laysOut_ ⟨Nat.le_of_ble_eq_true rfl, Nat.le_of_ble_eq_true rfl⟩) rfl rfl (Nat.le_of_ble_eq_true rfl) dX9_product_12 (fun H locs hG => ?_)
    refine lv_aload_n C.1 C.2.1 dX9_product_15 rfl (lv_at hl 0 rfl) ?_
    refine lv_iload_n C.1 C.2.1 dX9_product_16 rfl (lv_at hl 2 rfl) ?_
    obtain ⟨v4, hv4, hf⟩ := of_bind hf
    refine r_callV1 C hG hl.1 (c0 := 0) (As := [.int x2]) (by decide) (entM_O (n := 35) rfl) rfl (mt_X9_isElement l  hv4) (cwV 1 C.2.2.2.2.1 (gd_V tg_5_14 tg_5_16 tgp_34 tg_1_10 tg_5_17) rfl rfl rfl cd_X9_isElement ⟨Nat.le_of_ble_eq_true rfl, Nat.le_of_ble_eq_true rfl⟩) rfl rfl (Nat.le_of_ble_eq_true rfl) dX9_product_17 (fun H locs hG => ?_)
    rcases of_ite hf with ⟨c5, hf⟩ | ⟨c5, hf⟩
    · refine lv_if_eq (tgt := 40) C.1 C.2.1 dX9_product_20 (by decide) (fun _ => ?_) (fun q => absurd c5 q)
      refine lv_iconst (v := (-1 : Int32)) C.1 C.2.1 dX9_product_40 (by decide) ?_
      obtain rfl := Option.some.inj hf
      exact r_iret C hG dX9_product_41
    · refine lv_if_eq (tgt := 40) C.1 C.2.1 dX9_product_20 (by decide) (fun q => absurd q c5) (fun _ => ?_)
      refine lv_aload_n C.1 C.2.1 dX9_product_23 rfl (lv_at hl 0 rfl) ?_
      refine lv_iload_n C.1 C.2.1 dX9_product_24 rfl (lv_at hl 3 rfl) ?_
      obtain ⟨v6, hv6, hf⟩ := of_bind hf
      refine r_callV1 C hG hl.1 (c0 := 0) (As := [.int x3]) (by decide) (entM_O (n := 35) rfl) rfl (mt_X9_isElement l  hv6) (cwV 1 C.2.2.2.2.1 (gd_V tg_5_14 tg_5_16 tgp_34 tg_1_10 tg_5_17) rfl rfl rfl cd_X9_isElement ⟨Nat.le_of_ble_eq_true rfl, Nat.le_of_ble_eq_true rfl⟩) rfl rfl (Nat.le_of_ble_eq_true rfl) dX9_product_25 (fun H locs hG => ?_)
      rcases of_ite hf with ⟨c7, hf⟩ | ⟨c7, hf⟩
      · refine lv_if_eq (tgt := 40) C.1 C.2.1 dX9_product_28 (by decide) (fun _ => ?_) (fun q => absurd c7 q)
        refine lv_iconst (v := (-1 : Int32)) C.1 C.2.1 dX9_product_40 (by decide) ?_
        obtain rfl := Option.some.inj hf
        exact r_iret C hG dX9_product_41
      · refine lv_if_eq (tgt := 40) C.1 C.2.1 dX9_product_28 (by decide) (fun q => absurd q c7) (fun _ => ?_)
        refine lv_aload_n C.1 C.2.1 dX9_product_31 rfl (lv_at hl 0 rfl) ?_
        refine lv_iload C.1 C.2.1 dX9_product_32 (lv_at hl 4 rfl) ?_
        obtain ⟨v8, hv8, hf⟩ := of_bind hf
        refine r_callV1 C hG hl.1 (c0 := 0) (As := [.int x4]) (by decide) (entM_O (n := 35) rfl) rfl (mt_X9_isElement l  hv8) (cwV 1 C.2.2.2.2.1 (gd_V tg_5_14 tg_5_16 tgp_34 tg_1_10 tg_5_17) rfl rfl rfl cd_X9_isElement ⟨Nat.le_of_ble_eq_true rfl, Nat.le_of_ble_eq_true rfl⟩) rfl rfl (Nat.le_of_ble_eq_true rfl) dX9_product_34 (fun H locs hG => ?_)
        rcases of_ite hf with ⟨c9, hf⟩ | ⟨c9, hf⟩
        · refine lv_if_ne (tgt := 42) C.1 C.2.1 dX9_product_37 (by decide) (fun q => absurd c9 q) (fun _ => ?_)
          refine lv_iconst (v := (-1 : Int32)) C.1 C.2.1 dX9_product_40 (by decide) ?_
          obtain rfl := Option.some.inj hf
          exact r_iret C hG dX9_product_41
        · refine lv_if_ne (tgt := 42) C.1 C.2.1 dX9_product_37 (by decide) (fun _ => ?_) (fun q => absurd q c9)
          refine lv_aload_n C.1 C.2.1 dX9_product_42 rfl (lv_at hl 0 rfl) ?_
          refine gf_X9_18 C hG rfl dX9_product_43 ?_
          refine lv_aload_n C.1 C.2.1 dX9_product_46 rfl (lv_at hl 0 rfl) ?_
          refine lv_iload_n C.1 C.2.1 dX9_product_47 rfl (lv_at hl 2 rfl) ?_
          refine lv_iload_n C.1 C.2.1 dX9_product_48 rfl (lv_at hl 3 rfl) ?_
          obtain ⟨v10, hv10, hf⟩ := of_bind hf
          refine r_callV1 C hG hl.1 (c0 := 0) (As := [.int x2, .int x3]) (by decide) (entM_O (n := 35) rfl) rfl (mt_X9_at l  hv10) (cwV 2 C.2.2.2.2.1 (gd_V tg_4_239 tg_5_1 tgp_32 tg_1_10 tg_5_2) rfl rfl rfl cd_X9_at ⟨Nat.le_of_ble_eq_true rfl, Nat.le_of_ble_eq_true rfl⟩) rfl rfl (Nat.le_of_ble_eq_true rfl) dX9_product_49 (fun H locs hG => ?_)
          obtain ⟨v11, hv11, hf⟩ := of_bind hf
          obtain ⟨bv11, ev11⟩ := of_ldS hv11
          refine r_iald C hG (c0 := 3) (by decide) (entM_I (n := 36) rfl) bv11 dX9_product_52 ?_
          refine r_top ev11 ?_
          refine lv_iload C.1 C.2.1 dX9_product_53 (lv_at hl 4 rfl) ?_
          rcases of_ite hf with ⟨c12, hf⟩ | ⟨c12, hf⟩
          · refine lv_icmp_ne (tgt := 72) C.1 C.2.1 dX9_product_55 (by decide) (fun q => absurd c12 q) (fun _ => ?_)
            refine lv_aload_n C.1 C.2.1 dX9_product_58 rfl (lv_at hl 0 rfl) ?_
            refine gf_X9_21 C hG rfl dX9_product_59 ?_
            refine lv_aload_n C.1 C.2.1 dX9_product_62 rfl (lv_at hl 0 rfl) ?_
            refine lv_iload_n C.1 C.2.1 dX9_product_63 rfl (lv_at hl 2 rfl) ?_
            refine lv_iload_n C.1 C.2.1 dX9_product_64 rfl (lv_at hl 3 rfl) ?_
            obtain ⟨v13, hv13, hf⟩ := of_bind hf
            refine r_callV1 C hG hl.1 (c0 := 0) (As := [.int x2, .int x3]) (by decide) (entM_O (n := 35) rfl) rfl (mt_X9_at l  hv13) (cwV 2 C.2.2.2.2.1 (gd_V tg_4_239 tg_5_1 tgp_32 tg_1_10 tg_5_2) rfl rfl rfl cd_X9_at ⟨Nat.le_of_ble_eq_true rfl, Nat.le_of_ble_eq_true rfl⟩) rfl rfl (Nat.le_of_ble_eq_true rfl) dX9_product_65 (fun H locs hG => ?_)
            obtain ⟨v14, hv14, hf⟩ := of_bind hf
            obtain ⟨bv14, ev14⟩ := of_ldS hv14
            refine r_iald C hG (c0 := 4) (by decide) (entM_I (n := 36) rfl) bv14 dX9_product_68 ?_
            refine r_top ev14 ?_
            refine lv_goto (tgt := 73) C.1 C.2.1 dX9_product_69 (by decide) ?_
            obtain rfl := Option.some.inj hf
            exact r_iret C hG dX9_product_73
          · refine lv_icmp_ne (tgt := 72) C.1 C.2.1 dX9_product_55 (by decide) (fun _ => ?_) (fun q => absurd q c12)
            refine lv_iconst (v := nI 0) C.1 C.2.1 dX9_product_72 (by decide) ?_
            obtain rfl := Option.some.inj hf
            exact r_iret C hG dX9_product_73
set_option maxRecDepth 100000 in
set_option maxHeartbeats 4000000 in
theorem mt_X9_product (l : Launch) {G : GG} {A : Nat → Prop} {B : Nat} {X : va_W} {x1 : Int32} {x2 : Int32} {x3 : Int32} {x4 : Int32} {w : Mem} {out : Int32 × Mem}  (hf : sh_X9_product x1 x2 x3 x4 w = some out) : MetW l yX9_product wc_X9_product rm_X9_product G A 28 B (entM G B w) X [.ref (B + 0), .int x1, .int x2, .int x3, .int x4] (some (.int out.1)) (entM G B out.2) := by
  refine Met.ofW (cc := cX9_product) (maxL := 5) (ret := (some .int)) (by decide) rfl ?_
  intro p e s m args below meth c s₁ B0 hml hv
  obtain ⟨rfl, hEv, hWd⟩ := hv
  have C : CX p s m _ meth c cX9_product 5 RX9 wc_X9_product (some .int) := ⟨B0.exec, B0.bytes, hml, findClass_of_methodNamed B0.named, atoms_spec (ws := wc_X9_product) B0.pre, B0.returns, B0.notSynchronized⟩
  have hl := lv_entry [.ref (B + 0), .int x1, .int x2, .int x3, .int x4] (n := 5) (Nat.le_of_ble_eq_true rfl)
  rw [lg_entry_eq]
  generalize (lg_sl [.ref (B + 0), .int x1, .int x2, .int x3, .int x4] ++ List.replicate (5 - (lg_sl [.ref (B + 0), .int x1, .int x2, .int x3, .int x4]).length) Slot.unset).toArray = ls at hl ⊢
  have hl : lv_has ls 5 [(0, .ref (B + 0)), (1, .int x1), (2, .int x2), (3, .int x3), (4, .int x4)] := hl
  exact kb_X9_product_0 C  ⟨hEv, hWd, va_S.rf⟩ hl hf
abbrev wc_X9_form : List Cond := Cond.code yX9_form cX9_form 5 (some .int) :: TG
abbrev rm_X9_form : Room := { frames := 7, cells := 0, slots := 0, locals := 216 }
theorem cd_X9_form : yX9_form.cls = RX9 ∧ yX9_form.cls ≠ "java/lang/invoke/MethodHandle" ∧ yX9_form.cls ≠ "java/lang/invoke/VarHandle" ∧ (parseMethodDescriptor yX9_form.desc).map (fun d => d.parameters.length) = some 4 := by decide +kernel
theorem dX9_form_0 : decode cX9_form 0 = .ok (.aload_n 0, 1) := by decide +kernel
theorem dX9_form_1 : decode cX9_form 1 = .ok (.iload_n 1, 1) := by decide +kernel
theorem dX9_form_2 : decode cX9_form 2 = .ok (.invokevirtual 109, 3) := by decide +kernel
theorem dX9_form_5 : decode cX9_form 5 = .ok (.ifCond .ne 5, 3) := by decide +kernel
theorem dX9_form_8 : decode cX9_form 8 = .ok (.iconst (-1), 1) := by decide +kernel
theorem dX9_form_9 : decode cX9_form 9 = .ok (.ireturn, 1) := by decide +kernel
theorem dX9_form_10 : decode cX9_form 10 = .ok (.aload_n 0, 1) := by decide +kernel
theorem dX9_form_11 : decode cX9_form 11 = .ok (.iload_n 1, 1) := by decide +kernel
theorem dX9_form_12 : decode cX9_form 12 = .ok (.invokevirtual 152, 3) := by decide +kernel
theorem dX9_form_15 : decode cX9_form 15 = .ok (.aload_n 0, 1) := by decide +kernel
theorem dX9_form_16 : decode cX9_form 16 = .ok (.iload_n 2, 1) := by decide +kernel
theorem dX9_form_17 : decode cX9_form 17 = .ok (.invokevirtual 154, 3) := by decide +kernel
theorem dX9_form_20 : decode cX9_form 20 = .ok (.ifCond .eq 22, 3) := by decide +kernel
theorem dX9_form_23 : decode cX9_form 23 = .ok (.aload_n 0, 1) := by decide +kernel
theorem dX9_form_24 : decode cX9_form 24 = .ok (.iload_n 3, 1) := by decide +kernel
theorem dX9_form_25 : decode cX9_form 25 = .ok (.invokevirtual 154, 3) := by decide +kernel
theorem dX9_form_28 : decode cX9_form 28 = .ok (.ifCond .eq 14, 3) := by decide +kernel
theorem dX9_form_31 : decode cX9_form 31 = .ok (.iload 4, 2) := by decide +kernel
theorem dX9_form_33 : decode cX9_form 33 = .ok (.i2l, 1) := by decide +kernel
theorem dX9_form_34 : decode cX9_form 34 = .ok (.lconst 0, 1) := by decide +kernel
theorem dX9_form_35 : decode cX9_form 35 = .ok (.lconst 1, 1) := by decide +kernel
theorem dX9_form_36 : decode cX9_form 36 = .ok (.invokestatic 93, 3) := by decide +kernel
theorem dX9_form_39 : decode cX9_form 39 = .ok (.ifCond .ne 5, 3) := by decide +kernel
theorem dX9_form_42 : decode cX9_form 42 = .ok (.iconst (-1), 1) := by decide +kernel
theorem dX9_form_43 : decode cX9_form 43 = .ok (.ireturn, 1) := by decide +kernel
theorem dX9_form_44 : decode cX9_form 44 = .ok (.iload 4, 2) := by decide +kernel
theorem dX9_form_46 : decode cX9_form 46 = .ok (.ifCond .ne 12, 3) := by decide +kernel
theorem dX9_form_49 : decode cX9_form 49 = .ok (.aload_n 0, 1) := by decide +kernel
theorem dX9_form_50 : decode cX9_form 50 = .ok (.iload_n 2, 1) := by decide +kernel
theorem dX9_form_51 : decode cX9_form 51 = .ok (.iload_n 3, 1) := by decide +kernel
theorem dX9_form_52 : decode cX9_form 52 = .ok (.invokevirtual 142, 3) := by decide +kernel
theorem dX9_form_55 : decode cX9_form 55 = .ok (.goto 14, 3) := by decide +kernel
theorem dX9_form_58 : decode cX9_form 58 = .ok (.aload_n 0, 1) := by decide +kernel
theorem dX9_form_59 : decode cX9_form 59 = .ok (.getfield 30, 3) := by decide +kernel
theorem dX9_form_62 : decode cX9_form 62 = .ok (.aload_n 0, 1) := by decide +kernel
theorem dX9_form_63 : decode cX9_form 63 = .ok (.iload_n 2, 1) := by decide +kernel
theorem dX9_form_64 : decode cX9_form 64 = .ok (.iload_n 3, 1) := by decide +kernel
theorem dX9_form_65 : decode cX9_form 65 = .ok (.invokevirtual 128, 3) := by decide +kernel
theorem dX9_form_68 : decode cX9_form 68 = .ok (.iaload, 1) := by decide +kernel
theorem dX9_form_69 : decode cX9_form 69 = .ok (.ireturn, 1) := by decide +kernel
set_option maxRecDepth 100000 in
set_option maxHeartbeats 4000000 in
theorem kb_X9_form_0 {x1 : Int32} {x2 : Int32} {x3 : Int32} {x4 : Int32} {w : Mem} {out : Int32 × Mem} {H : Heap} {locs : List Loc} {ls : Array Slot} (C : CX p s m args meth c cX9_form 5 RX9 wc_X9_form (some .int))  (hG : Gd s G A 28 B (entM G B w) X H locs) (hl : lv_has ls 5 [(0, .ref (B + 0)), (1, .int x1), (2, .int x2), (3, .int x3), (4, .int x4)]) (hf : sh_X9_form x1 x2 x3 x4 w = some out) :
    W p l e rm_X9_form s m args below meth c H locs 0 0 (MQ below (CPost G A 28 B (entM G B out.2) X (some (.int out.1))) args s 0 0 A) (F0 m 0 ls []) := by
  refine lv_aload_n C.1 C.2.1 dX9_form_0 rfl (lv_at hl 0 rfl) ?_
  refine lv_iload_n C.1 C.2.1 dX9_form_1 rfl (lv_at hl 1 rfl) ?_
  obtain ⟨v1, hv1, hf⟩ := of_bind hf
  refine r_callV1 C hG hl.1 (c0 := 0) (As := [.int x1]) (by decide) (entM_O (n := 35) rfl) rfl (mt_X9_isAlgebra l  hv1) (cwV 1 C.2.2.2.2.1 (gd_V tg_4_205 tg_4_207 tgp_27 tg_1_10 tg_4_208) rfl rfl rfl cd_X9_isAlgebra ⟨Nat.le_of_ble_eq_true rfl, Nat.le_of_ble_eq_true rfl⟩) rfl rfl (Nat.le_of_ble_eq_true rfl) dX9_form_2 (fun H locs hG => ?_)
  rcases of_ite hf with ⟨c2, hf⟩ | ⟨c2, hf⟩
  · refine lv_if_ne (tgt := 10) C.1 C.2.1 dX9_form_5 (by decide) (fun q => absurd c2 q) (fun _ => ?_)
    refine lv_iconst (v := (-1 : Int32)) C.1 C.2.1 dX9_form_8 (by decide) ?_
    obtain rfl := Option.some.inj hf
    exact r_iret C hG dX9_form_9
  · refine lv_if_ne (tgt := 10) C.1 C.2.1 dX9_form_5 (by decide) (fun _ => ?_) (fun q => absurd q c2)
    refine lv_aload_n C.1 C.2.1 dX9_form_10 rfl (lv_at hl 0 rfl) ?_
    refine lv_iload_n C.1 C.2.1 dX9_form_11 rfl (lv_at hl 1 rfl) ?_
    obtain ⟨w3, hw3, hf⟩ := of_bind hf
    refine r_callV0 C hG hl.1 (c0 := 0) (As := [.int x1]) (by decide) (entM_O (n := 35) rfl) rfl (mt_X9_laysOut_ l  hw3) (cwV 1 C.2.2.2.2.1 (gd_V tg_4_221 tg_4_223 tgp_29 tg_1_10 tg_4_224) rfl rfl rfl cd_X9_laysOut_ ⟨Nat.le_of_ble_eq_true rfl, Nat.le_of_ble_eq_true rfl⟩) rfl rfl (Nat.le_of_ble_eq_true rfl) dX9_form_12 (fun H locs hG => ?_)
    refine lv_aload_n C.1 C.2.1 dX9_form_15 rfl (lv_at hl 0 rfl) ?_
    refine lv_iload_n C.1 C.2.1 dX9_form_16 rfl (lv_at hl 2 rfl) ?_
    obtain ⟨v4, hv4, hf⟩ := of_bind hf
    refine r_callV1 C hG hl.1 (c0 := 0) (As := [.int x2]) (by decide) (entM_O (n := 35) rfl) rfl (mt_X9_isElement l  hv4) (cwV 1 C.2.2.2.2.1 (gd_V tg_5_14 tg_5_16 tgp_34 tg_1_10 tg_5_17) rfl rfl rfl cd_X9_isElement ⟨Nat.le_of_ble_eq_true rfl, Nat.le_of_ble_eq_true rfl⟩) rfl rfl (Nat.le_of_ble_eq_true rfl) dX9_form_17 (fun H locs hG => ?_)
    rcases of_ite hf with ⟨c5, hf⟩ | ⟨c5, hf⟩
    · refine lv_if_eq (tgt := 42) C.1 C.2.1 dX9_form_20 (by decide) (fun _ => ?_) (fun q => absurd c5 q)
      refine lv_iconst (v := (-1 : Int32)) C.1 C.2.1 dX9_form_42 (by decide) ?_
      obtain rfl := Option.some.inj hf
      exact r_iret C hG dX9_form_43
    · refine lv_if_eq (tgt := 42) C.1 C.2.1 dX9_form_20 (by decide) (fun q => absurd q c5) (fun _ => ?_)
      refine lv_aload_n C.1 C.2.1 dX9_form_23 rfl (lv_at hl 0 rfl) ?_
      refine lv_iload_n C.1 C.2.1 dX9_form_24 rfl (lv_at hl 3 rfl) ?_
      obtain ⟨v6, hv6, hf⟩ := of_bind hf
      refine r_callV1 C hG hl.1 (c0 := 0) (As := [.int x3]) (by decide) (entM_O (n := 35) rfl) rfl (mt_X9_isElement l  hv6) (cwV 1 C.2.2.2.2.1 (gd_V tg_5_14 tg_5_16 tgp_34 tg_1_10 tg_5_17) rfl rfl rfl cd_X9_isElement ⟨Nat.le_of_ble_eq_true rfl, Nat.le_of_ble_eq_true rfl⟩) rfl rfl (Nat.le_of_ble_eq_true rfl) dX9_form_25 (fun H locs hG => ?_)
      rcases of_ite hf with ⟨c7, hf⟩ | ⟨c7, hf⟩
      · refine lv_if_eq (tgt := 42) C.1 C.2.1 dX9_form_28 (by decide) (fun _ => ?_) (fun q => absurd c7 q)
        refine lv_iconst (v := (-1 : Int32)) C.1 C.2.1 dX9_form_42 (by decide) ?_
        obtain rfl := Option.some.inj hf
        exact r_iret C hG dX9_form_43
      · refine lv_if_eq (tgt := 42) C.1 C.2.1 dX9_form_28 (by decide) (fun q => absurd q c7) (fun _ => ?_)
        refine lv_iload C.1 C.2.1 dX9_form_31 (lv_at hl 4 rfl) ?_
        refine lv_i2l C.1 C.2.1 dX9_form_33 rfl ?_
        refine lv_lconst (v := lN 0) C.1 C.2.1 dX9_form_34 rfl ?_
        refine lv_lconst (v := lN 1) C.1 C.2.1 dX9_form_35 rfl ?_
        obtain ⟨v8, hv8, hf⟩ := of_bind hf
        refine r_callS1 C hG hl.1 (As := [.long x4.toInt64, .long (lN 0), .long (lN 1)]) (mt_X9_isIn l  hv8) (va_cwS 3 C.2.2.2.2.1 (gd_S tg_4_195 tg_4_196 tg_1_10 tg_4_197) rfl rfl rfl cd_X9_isIn.2 ⟨Nat.le_of_ble_eq_true rfl, Nat.le_of_ble_eq_true rfl⟩) rfl rfl (Nat.le_of_ble_eq_true rfl) dX9_form_36 (fun H locs hG => ?_)
        rcases of_ite hf with ⟨c9, hf⟩ | ⟨c9, hf⟩
        · refine lv_if_ne (tgt := 44) C.1 C.2.1 dX9_form_39 (by decide) (fun q => absurd c9 q) (fun _ => ?_)
          refine lv_iconst (v := (-1 : Int32)) C.1 C.2.1 dX9_form_42 (by decide) ?_
          obtain rfl := Option.some.inj hf
          exact r_iret C hG dX9_form_43
        · refine lv_if_ne (tgt := 44) C.1 C.2.1 dX9_form_39 (by decide) (fun _ => ?_) (fun q => absurd q c9)
          refine lv_iload C.1 C.2.1 dX9_form_44 (lv_at hl 4 rfl) ?_
          rcases of_ite hf with ⟨c10, hf⟩ | ⟨c10, hf⟩
          · refine lv_if_ne (tgt := 58) C.1 C.2.1 dX9_form_46 (by decide) (fun q => absurd c10 q) (fun _ => ?_)
            refine lv_aload_n C.1 C.2.1 dX9_form_49 rfl (lv_at hl 0 rfl) ?_
            refine lv_iload_n C.1 C.2.1 dX9_form_50 rfl (lv_at hl 2 rfl) ?_
            refine lv_iload_n C.1 C.2.1 dX9_form_51 rfl (lv_at hl 3 rfl) ?_
            obtain ⟨v13, hv13, hf⟩ := of_bind hf
            refine r_callV1 C hG hl.1 (c0 := 0) (As := [.int x2, .int x3]) (by decide) (entM_O (n := 35) rfl) rfl (mt_X9_formOf l  hv13) (cwV 2 C.2.2.2.2.1 (gd_V tg_5_7 tg_5_9 tgp_33 tg_1_10 tg_5_10) rfl rfl rfl cd_X9_formOf ⟨Nat.le_of_ble_eq_true rfl, Nat.le_of_ble_eq_true rfl⟩) rfl rfl (Nat.le_of_ble_eq_true rfl) dX9_form_52 (fun H locs hG => ?_)
            refine lv_goto (tgt := 69) C.1 C.2.1 dX9_form_55 (by decide) ?_
            obtain rfl := Option.some.inj hf
            exact r_iret C hG dX9_form_69
          · refine lv_if_ne (tgt := 58) C.1 C.2.1 dX9_form_46 (by decide) (fun _ => ?_) (fun q => absurd q c10)
            refine lv_aload_n C.1 C.2.1 dX9_form_58 rfl (lv_at hl 0 rfl) ?_
            refine gf_X9_30 C hG rfl dX9_form_59 ?_
            refine lv_aload_n C.1 C.2.1 dX9_form_62 rfl (lv_at hl 0 rfl) ?_
            refine lv_iload_n C.1 C.2.1 dX9_form_63 rfl (lv_at hl 2 rfl) ?_
            refine lv_iload_n C.1 C.2.1 dX9_form_64 rfl (lv_at hl 3 rfl) ?_
            obtain ⟨v11, hv11, hf⟩ := of_bind hf
            refine r_callV1 C hG hl.1 (c0 := 0) (As := [.int x2, .int x3]) (by decide) (entM_O (n := 35) rfl) rfl (mt_X9_at l  hv11) (cwV 2 C.2.2.2.2.1 (gd_V tg_4_239 tg_5_1 tgp_32 tg_1_10 tg_5_2) rfl rfl rfl cd_X9_at ⟨Nat.le_of_ble_eq_true rfl, Nat.le_of_ble_eq_true rfl⟩) rfl rfl (Nat.le_of_ble_eq_true rfl) dX9_form_65 (fun H locs hG => ?_)
            obtain ⟨v12, hv12, hf⟩ := of_bind hf
            obtain ⟨bv12, ev12⟩ := of_ldS hv12
            refine r_iald C hG (c0 := 7) (by decide) (entM_I (n := 36) rfl) bv12 dX9_form_68 ?_
            refine r_top ev12 ?_
            obtain rfl := Option.some.inj hf
            exact r_iret C hG dX9_form_69
set_option maxRecDepth 100000 in
set_option maxHeartbeats 4000000 in
theorem mt_X9_form (l : Launch) {G : GG} {A : Nat → Prop} {B : Nat} {X : va_W} {x1 : Int32} {x2 : Int32} {x3 : Int32} {x4 : Int32} {w : Mem} {out : Int32 × Mem}  (hf : sh_X9_form x1 x2 x3 x4 w = some out) : MetW l yX9_form wc_X9_form rm_X9_form G A 28 B (entM G B w) X [.ref (B + 0), .int x1, .int x2, .int x3, .int x4] (some (.int out.1)) (entM G B out.2) := by
  refine Met.ofW (cc := cX9_form) (maxL := 5) (ret := (some .int)) (by decide) rfl ?_
  intro p e s m args below meth c s₁ B0 hml hv
  obtain ⟨rfl, hEv, hWd⟩ := hv
  have C : CX p s m _ meth c cX9_form 5 RX9 wc_X9_form (some .int) := ⟨B0.exec, B0.bytes, hml, findClass_of_methodNamed B0.named, atoms_spec (ws := wc_X9_form) B0.pre, B0.returns, B0.notSynchronized⟩
  have hl := lv_entry [.ref (B + 0), .int x1, .int x2, .int x3, .int x4] (n := 5) (Nat.le_of_ble_eq_true rfl)
  rw [lg_entry_eq]
  generalize (lg_sl [.ref (B + 0), .int x1, .int x2, .int x3, .int x4] ++ List.replicate (5 - (lg_sl [.ref (B + 0), .int x1, .int x2, .int x3, .int x4]).length) Slot.unset).toArray = ls at hl ⊢
  have hl : lv_has ls 5 [(0, .ref (B + 0)), (1, .int x1), (2, .int x2), (3, .int x3), (4, .int x4)] := hl
  exact kb_X9_form_0 C  ⟨hEv, hWd, va_S.rf⟩ hl hf
abbrev wc_X9_element : List Cond := Cond.code yX9_element cX9_element 4 (some .int) :: TG
abbrev rm_X9_element : Room := { frames := 7, cells := 0, slots := 0, locals := 216 }
theorem cd_X9_element : yX9_element.cls = RX9 ∧ yX9_element.cls ≠ "java/lang/invoke/MethodHandle" ∧ yX9_element.cls ≠ "java/lang/invoke/VarHandle" ∧ (parseMethodDescriptor yX9_element.desc).map (fun d => d.parameters.length) = some 3 := by decide +kernel
theorem dX9_element_0 : decode cX9_element 0 = .ok (.aload_n 0, 1) := by decide +kernel
theorem dX9_element_1 : decode cX9_element 1 = .ok (.iload_n 1, 1) := by decide +kernel
theorem dX9_element_2 : decode cX9_element 2 = .ok (.invokevirtual 109, 3) := by decide +kernel
theorem dX9_element_5 : decode cX9_element 5 = .ok (.ifCond .ne 5, 3) := by decide +kernel
theorem dX9_element_8 : decode cX9_element 8 = .ok (.iconst (-1), 1) := by decide +kernel
theorem dX9_element_9 : decode cX9_element 9 = .ok (.ireturn, 1) := by decide +kernel
theorem dX9_element_10 : decode cX9_element 10 = .ok (.aload_n 0, 1) := by decide +kernel
theorem dX9_element_11 : decode cX9_element 11 = .ok (.iload_n 1, 1) := by decide +kernel
theorem dX9_element_12 : decode cX9_element 12 = .ok (.invokevirtual 152, 3) := by decide +kernel
theorem dX9_element_15 : decode cX9_element 15 = .ok (.aload_n 0, 1) := by decide +kernel
theorem dX9_element_16 : decode cX9_element 16 = .ok (.iload_n 2, 1) := by decide +kernel
theorem dX9_element_17 : decode cX9_element 17 = .ok (.invokevirtual 154, 3) := by decide +kernel
theorem dX9_element_20 : decode cX9_element 20 = .ok (.ifCond .ne 5, 3) := by decide +kernel
theorem dX9_element_23 : decode cX9_element 23 = .ok (.iconst (-1), 1) := by decide +kernel
theorem dX9_element_24 : decode cX9_element 24 = .ok (.ireturn, 1) := by decide +kernel
theorem dX9_element_25 : decode cX9_element 25 = .ok (.iload_n 3, 1) := by decide +kernel
theorem dX9_element_26 : decode cX9_element 26 = .ok (.tableswitch 58 0 3 #[30, 37, 44, 51], 30) := by decide +kernel
theorem dX9_element_56 : decode cX9_element 56 = .ok (.aload_n 0, 1) := by decide +kernel
theorem dX9_element_57 : decode cX9_element 57 = .ok (.getfield 24, 3) := by decide +kernel
theorem dX9_element_60 : decode cX9_element 60 = .ok (.iload_n 2, 1) := by decide +kernel
theorem dX9_element_61 : decode cX9_element 61 = .ok (.iaload, 1) := by decide +kernel
theorem dX9_element_62 : decode cX9_element 62 = .ok (.ireturn, 1) := by decide +kernel
theorem dX9_element_63 : decode cX9_element 63 = .ok (.aload_n 0, 1) := by decide +kernel
theorem dX9_element_64 : decode cX9_element 64 = .ok (.getfield 27, 3) := by decide +kernel
theorem dX9_element_67 : decode cX9_element 67 = .ok (.iload_n 2, 1) := by decide +kernel
theorem dX9_element_68 : decode cX9_element 68 = .ok (.iaload, 1) := by decide +kernel
theorem dX9_element_69 : decode cX9_element 69 = .ok (.ireturn, 1) := by decide +kernel
theorem dX9_element_70 : decode cX9_element 70 = .ok (.aload_n 0, 1) := by decide +kernel
theorem dX9_element_71 : decode cX9_element 71 = .ok (.getfield 33, 3) := by decide +kernel
theorem dX9_element_74 : decode cX9_element 74 = .ok (.iload_n 2, 1) := by decide +kernel
theorem dX9_element_75 : decode cX9_element 75 = .ok (.iaload, 1) := by decide +kernel
theorem dX9_element_76 : decode cX9_element 76 = .ok (.ireturn, 1) := by decide +kernel
theorem dX9_element_77 : decode cX9_element 77 = .ok (.aload_n 0, 1) := by decide +kernel
theorem dX9_element_78 : decode cX9_element 78 = .ok (.getfield 36, 3) := by decide +kernel
theorem dX9_element_81 : decode cX9_element 81 = .ok (.iload_n 2, 1) := by decide +kernel
theorem dX9_element_82 : decode cX9_element 82 = .ok (.iaload, 1) := by decide +kernel
theorem dX9_element_83 : decode cX9_element 83 = .ok (.ireturn, 1) := by decide +kernel
theorem dX9_element_84 : decode cX9_element 84 = .ok (.iconst (-1), 1) := by decide +kernel
theorem dX9_element_85 : decode cX9_element 85 = .ok (.ireturn, 1) := by decide +kernel
set_option maxRecDepth 100000 in
set_option maxHeartbeats 4000000 in
theorem kb_X9_element_0 {x1 : Int32} {x2 : Int32} {x3 : Int32} {w : Mem} {out : Int32 × Mem} {H : Heap} {locs : List Loc} {ls : Array Slot} (C : CX p s m args meth c cX9_element 4 RX9 wc_X9_element (some .int))  (hG : Gd s G A 28 B (entM G B w) X H locs) (hl : lv_has ls 4 [(0, .ref (B + 0)), (1, .int x1), (2, .int x2), (3, .int x3)]) (hf : sh_X9_element x1 x2 x3 w = some out) :
    W p l e rm_X9_element s m args below meth c H locs 0 0 (MQ below (CPost G A 28 B (entM G B out.2) X (some (.int out.1))) args s 0 0 A) (F0 m 0 ls []) := by
  refine lv_aload_n C.1 C.2.1 dX9_element_0 rfl (lv_at hl 0 rfl) ?_
  refine lv_iload_n C.1 C.2.1 dX9_element_1 rfl (lv_at hl 1 rfl) ?_
  obtain ⟨v1, hv1, hf⟩ := of_bind hf
  refine r_callV1 C hG hl.1 (c0 := 0) (As := [.int x1]) (by decide) (entM_O (n := 35) rfl) rfl (mt_X9_isAlgebra l  hv1) (cwV 1 C.2.2.2.2.1 (gd_V tg_4_205 tg_4_207 tgp_27 tg_1_10 tg_4_208) rfl rfl rfl cd_X9_isAlgebra ⟨Nat.le_of_ble_eq_true rfl, Nat.le_of_ble_eq_true rfl⟩) rfl rfl (Nat.le_of_ble_eq_true rfl) dX9_element_2 (fun H locs hG => ?_)
  rcases of_ite hf with ⟨c2, hf⟩ | ⟨c2, hf⟩
  · refine lv_if_ne (tgt := 10) C.1 C.2.1 dX9_element_5 (by decide) (fun q => absurd c2 q) (fun _ => ?_)
    refine lv_iconst (v := (-1 : Int32)) C.1 C.2.1 dX9_element_8 (by decide) ?_
    obtain rfl := Option.some.inj hf
    exact r_iret C hG dX9_element_9
  · refine lv_if_ne (tgt := 10) C.1 C.2.1 dX9_element_5 (by decide) (fun _ => ?_) (fun q => absurd q c2)
    refine lv_aload_n C.1 C.2.1 dX9_element_10 rfl (lv_at hl 0 rfl) ?_
    refine lv_iload_n C.1 C.2.1 dX9_element_11 rfl (lv_at hl 1 rfl) ?_
    obtain ⟨w3, hw3, hf⟩ := of_bind hf
    refine r_callV0 C hG hl.1 (c0 := 0) (As := [.int x1]) (by decide) (entM_O (n := 35) rfl) rfl (mt_X9_laysOut_ l  hw3) (cwV 1 C.2.2.2.2.1 (gd_V tg_4_221 tg_4_223 tgp_29 tg_1_10 tg_4_224) rfl rfl rfl cd_X9_laysOut_ ⟨Nat.le_of_ble_eq_true rfl, Nat.le_of_ble_eq_true rfl⟩) rfl rfl (Nat.le_of_ble_eq_true rfl) dX9_element_12 (fun H locs hG => ?_)
    refine lv_aload_n C.1 C.2.1 dX9_element_15 rfl (lv_at hl 0 rfl) ?_
    refine lv_iload_n C.1 C.2.1 dX9_element_16 rfl (lv_at hl 2 rfl) ?_
    obtain ⟨v4, hv4, hf⟩ := of_bind hf
    refine r_callV1 C hG hl.1 (c0 := 0) (As := [.int x2]) (by decide) (entM_O (n := 35) rfl) rfl (mt_X9_isElement l  hv4) (cwV 1 C.2.2.2.2.1 (gd_V tg_5_14 tg_5_16 tgp_34 tg_1_10 tg_5_17) rfl rfl rfl cd_X9_isElement ⟨Nat.le_of_ble_eq_true rfl, Nat.le_of_ble_eq_true rfl⟩) rfl rfl (Nat.le_of_ble_eq_true rfl) dX9_element_17 (fun H locs hG => ?_)
    rcases of_ite hf with ⟨c5, hf⟩ | ⟨c5, hf⟩
    · refine lv_if_ne (tgt := 25) C.1 C.2.1 dX9_element_20 (by decide) (fun q => absurd c5 q) (fun _ => ?_)
      refine lv_iconst (v := (-1 : Int32)) C.1 C.2.1 dX9_element_23 (by decide) ?_
      obtain rfl := Option.some.inj hf
      exact r_iret C hG dX9_element_24
    · refine lv_if_ne (tgt := 25) C.1 C.2.1 dX9_element_20 (by decide) (fun _ => ?_) (fun q => absurd q c5)
      refine lv_iload_n C.1 C.2.1 dX9_element_25 rfl (lv_at hl 3 rfl) ?_
      rcases of_ite hf with ⟨c6, hf⟩ | ⟨c6, hf⟩
      · refine lv_tableIn (tgt := 56) (off := 30) C.1 C.2.1 dX9_element_26 (by rw [c6]; decide) (by rw [c6]; decide) (by rw [c6]; rfl) (by decide) ?_
        refine lv_aload_n C.1 C.2.1 dX9_element_56 rfl (lv_at hl 0 rfl) ?_
        refine gf_X9_24 C hG rfl dX9_element_57 ?_
        refine lv_iload_n C.1 C.2.1 dX9_element_60 rfl (lv_at hl 2 rfl) ?_
        obtain ⟨v7, hv7, hf⟩ := of_bind hf
        obtain ⟨bv7, ev7⟩ := of_ldS hv7
        refine r_iald C hG (c0 := 5) (by decide) (entM_I (n := 6) rfl) bv7 dX9_element_61 ?_
        refine r_top ev7 ?_
        obtain rfl := Option.some.inj hf
        exact r_iret C hG dX9_element_62
      · skip
        rcases of_ite hf with ⟨c8, hf⟩ | ⟨c8, hf⟩
        · refine lv_tableIn (tgt := 63) (off := 37) C.1 C.2.1 dX9_element_26 (by rw [c8]; decide) (by rw [c8]; decide) (by rw [c8]; rfl) (by decide) ?_
          refine lv_aload_n C.1 C.2.1 dX9_element_63 rfl (lv_at hl 0 rfl) ?_
          refine gf_X9_27 C hG rfl dX9_element_64 ?_
          refine lv_iload_n C.1 C.2.1 dX9_element_67 rfl (lv_at hl 2 rfl) ?_
          obtain ⟨v9, hv9, hf⟩ := of_bind hf
          obtain ⟨bv9, ev9⟩ := of_ldS hv9
          refine r_iald C hG (c0 := 6) (by decide) (entM_I (n := 6) rfl) bv9 dX9_element_68 ?_
          refine r_top ev9 ?_
          obtain rfl := Option.some.inj hf
          exact r_iret C hG dX9_element_69
        · skip
          rcases of_ite hf with ⟨c10, hf⟩ | ⟨c10, hf⟩
          · refine lv_tableIn (tgt := 70) (off := 44) C.1 C.2.1 dX9_element_26 (by rw [c10]; decide) (by rw [c10]; decide) (by rw [c10]; rfl) (by decide) ?_
            refine lv_aload_n C.1 C.2.1 dX9_element_70 rfl (lv_at hl 0 rfl) ?_
            refine gf_X9_33 C hG rfl dX9_element_71 ?_
            refine lv_iload_n C.1 C.2.1 dX9_element_74 rfl (lv_at hl 2 rfl) ?_
            obtain ⟨v11, hv11, hf⟩ := of_bind hf
            obtain ⟨bv11, ev11⟩ := of_ldS hv11
            refine r_iald C hG (c0 := 8) (by decide) (entM_I (n := 6) rfl) bv11 dX9_element_75 ?_
            refine r_top ev11 ?_
            obtain rfl := Option.some.inj hf
            exact r_iret C hG dX9_element_76
          · skip
            rcases of_ite hf with ⟨c12, hf⟩ | ⟨c12, hf⟩
            · refine lv_tableIn (tgt := 77) (off := 51) C.1 C.2.1 dX9_element_26 (by rw [c12]; decide) (by rw [c12]; decide) (by rw [c12]; rfl) (by decide) ?_
              refine lv_aload_n C.1 C.2.1 dX9_element_77 rfl (lv_at hl 0 rfl) ?_
              refine gf_X9_36 C hG rfl dX9_element_78 ?_
              refine lv_iload_n C.1 C.2.1 dX9_element_81 rfl (lv_at hl 2 rfl) ?_
              obtain ⟨v13, hv13, hf⟩ := of_bind hf
              obtain ⟨bv13, ev13⟩ := of_ldS hv13
              refine r_iald C hG (c0 := 9) (by decide) (entM_I (n := 6) rfl) bv13 dX9_element_82 ?_
              refine r_top ev13 ?_
              obtain rfl := Option.some.inj hf
              exact r_iret C hG dX9_element_83
            · skip
              refine lv_tableOut (tgt := 84) C.1 C.2.1 dX9_element_26 (sw_out (n := 4) (by decide) (lt_s (lt_s (lt_s (lt_s lt_0 c6) c8) c10) c12)) (by decide) ?_
              refine lv_iconst (v := (-1 : Int32)) C.1 C.2.1 dX9_element_84 (by decide) ?_
              obtain rfl := Option.some.inj hf
              exact r_iret C hG dX9_element_85
set_option maxRecDepth 100000 in
set_option maxHeartbeats 4000000 in
theorem mt_X9_element (l : Launch) {G : GG} {A : Nat → Prop} {B : Nat} {X : va_W} {x1 : Int32} {x2 : Int32} {x3 : Int32} {w : Mem} {out : Int32 × Mem}  (hf : sh_X9_element x1 x2 x3 w = some out) : MetW l yX9_element wc_X9_element rm_X9_element G A 28 B (entM G B w) X [.ref (B + 0), .int x1, .int x2, .int x3] (some (.int out.1)) (entM G B out.2) := by
  refine Met.ofW (cc := cX9_element) (maxL := 4) (ret := (some .int)) (by decide) rfl ?_
  intro p e s m args below meth c s₁ B0 hml hv
  obtain ⟨rfl, hEv, hWd⟩ := hv
  have C : CX p s m _ meth c cX9_element 4 RX9 wc_X9_element (some .int) := ⟨B0.exec, B0.bytes, hml, findClass_of_methodNamed B0.named, atoms_spec (ws := wc_X9_element) B0.pre, B0.returns, B0.notSynchronized⟩
  have hl := lv_entry [.ref (B + 0), .int x1, .int x2, .int x3] (n := 4) (Nat.le_of_ble_eq_true rfl)
  rw [lg_entry_eq]
  generalize (lg_sl [.ref (B + 0), .int x1, .int x2, .int x3] ++ List.replicate (4 - (lg_sl [.ref (B + 0), .int x1, .int x2, .int x3]).length) Slot.unset).toArray = ls at hl ⊢
  have hl : lv_has ls 4 [(0, .ref (B + 0)), (1, .int x1), (2, .int x2), (3, .int x3)] := hl
  exact kb_X9_element_0 C  ⟨hEv, hWd, va_S.rf⟩ hl hf
abbrev wc_X9_splitOf : List Cond := Cond.code yX9_splitOf cX9_splitOf 6 (some .int) :: TG
abbrev rm_X9_splitOf : Room := { frames := 3, cells := 0, slots := 0, locals := 122 }
theorem cd_X9_splitOf : yX9_splitOf.cls = RX9 ∧ yX9_splitOf.cls ≠ "java/lang/invoke/MethodHandle" ∧ yX9_splitOf.cls ≠ "java/lang/invoke/VarHandle" ∧ (parseMethodDescriptor yX9_splitOf.desc).map (fun d => d.parameters.length) = some 3 := by decide +kernel
theorem dX9_splitOf_0 : decode cX9_splitOf 0 = .ok (.iconst 0, 1) := by decide +kernel
theorem dX9_splitOf_1 : decode cX9_splitOf 1 = .ok (.istore 4, 2) := by decide +kernel
theorem dX9_splitOf_3 : decode cX9_splitOf 3 = .ok (.iconst 0, 1) := by decide +kernel
theorem dX9_splitOf_4 : decode cX9_splitOf 4 = .ok (.istore 5, 2) := by decide +kernel
theorem dX9_splitOf_6 : decode cX9_splitOf 6 = .ok (.iload 5, 2) := by decide +kernel
theorem dX9_splitOf_8 : decode cX9_splitOf 8 = .ok (.aload_n 0, 1) := by decide +kernel
theorem dX9_splitOf_9 : decode cX9_splitOf 9 = .ok (.getfield 117, 3) := by decide +kernel
theorem dX9_splitOf_12 : decode cX9_splitOf 12 = .ok (.if_icmp .ge 63, 3) := by decide +kernel
theorem dX9_splitOf_15 : decode cX9_splitOf 15 = .ok (.iload 4, 2) := by decide +kernel
theorem dX9_splitOf_17 : decode cX9_splitOf 17 = .ok (.aload_n 0, 1) := by decide +kernel
theorem dX9_splitOf_18 : decode cX9_splitOf 18 = .ok (.getfield 18, 3) := by decide +kernel
theorem dX9_splitOf_21 : decode cX9_splitOf 21 = .ok (.aload_n 0, 1) := by decide +kernel
theorem dX9_splitOf_22 : decode cX9_splitOf 22 = .ok (.iload_n 1, 1) := by decide +kernel
theorem dX9_splitOf_23 : decode cX9_splitOf 23 = .ok (.iload 5, 2) := by decide +kernel
theorem dX9_splitOf_25 : decode cX9_splitOf 25 = .ok (.invokevirtual 128, 3) := by decide +kernel
theorem dX9_splitOf_28 : decode cX9_splitOf 28 = .ok (.iaload, 1) := by decide +kernel
theorem dX9_splitOf_29 : decode cX9_splitOf 29 = .ok (.iload_n 2, 1) := by decide +kernel
theorem dX9_splitOf_30 : decode cX9_splitOf 30 = .ok (.if_icmp .ne 35, 3) := by decide +kernel
theorem dX9_splitOf_33 : decode cX9_splitOf 33 = .ok (.aload_n 0, 1) := by decide +kernel
theorem dX9_splitOf_34 : decode cX9_splitOf 34 = .ok (.getfield 21, 3) := by decide +kernel
theorem dX9_splitOf_37 : decode cX9_splitOf 37 = .ok (.aload_n 0, 1) := by decide +kernel
theorem dX9_splitOf_38 : decode cX9_splitOf 38 = .ok (.iload_n 1, 1) := by decide +kernel
theorem dX9_splitOf_39 : decode cX9_splitOf 39 = .ok (.iload 5, 2) := by decide +kernel
theorem dX9_splitOf_41 : decode cX9_splitOf 41 = .ok (.invokevirtual 128, 3) := by decide +kernel
theorem dX9_splitOf_44 : decode cX9_splitOf 44 = .ok (.iaload, 1) := by decide +kernel
theorem dX9_splitOf_45 : decode cX9_splitOf 45 = .ok (.aload_n 0, 1) := by decide +kernel
theorem dX9_splitOf_46 : decode cX9_splitOf 46 = .ok (.getfield 30, 3) := by decide +kernel
theorem dX9_splitOf_49 : decode cX9_splitOf 49 = .ok (.aload_n 0, 1) := by decide +kernel
theorem dX9_splitOf_50 : decode cX9_splitOf 50 = .ok (.iload 5, 2) := by decide +kernel
theorem dX9_splitOf_52 : decode cX9_splitOf 52 = .ok (.iload_n 3, 1) := by decide +kernel
theorem dX9_splitOf_53 : decode cX9_splitOf 53 = .ok (.invokevirtual 128, 3) := by decide +kernel
theorem dX9_splitOf_56 : decode cX9_splitOf 56 = .ok (.iaload, 1) := by decide +kernel
theorem dX9_splitOf_57 : decode cX9_splitOf 57 = .ok (.imul, 1) := by decide +kernel
theorem dX9_splitOf_58 : decode cX9_splitOf 58 = .ok (.sipush 9973, 3) := by decide +kernel
theorem dX9_splitOf_61 : decode cX9_splitOf 61 = .ok (.irem, 1) := by decide +kernel
theorem dX9_splitOf_62 : decode cX9_splitOf 62 = .ok (.goto 4, 3) := by decide +kernel
theorem dX9_splitOf_65 : decode cX9_splitOf 65 = .ok (.iconst 0, 1) := by decide +kernel
theorem dX9_splitOf_66 : decode cX9_splitOf 66 = .ok (.iadd, 1) := by decide +kernel
theorem dX9_splitOf_67 : decode cX9_splitOf 67 = .ok (.istore 4, 2) := by decide +kernel
theorem dX9_splitOf_69 : decode cX9_splitOf 69 = .ok (.iinc 5 1, 3) := by decide +kernel
theorem dX9_splitOf_72 : decode cX9_splitOf 72 = .ok (.goto (-66), 3) := by decide +kernel
theorem dX9_splitOf_75 : decode cX9_splitOf 75 = .ok (.iload 4, 2) := by decide +kernel
theorem dX9_splitOf_77 : decode cX9_splitOf 77 = .ok (.sipush 9973, 3) := by decide +kernel
theorem dX9_splitOf_80 : decode cX9_splitOf 80 = .ok (.irem, 1) := by decide +kernel
theorem dX9_splitOf_81 : decode cX9_splitOf 81 = .ok (.ireturn, 1) := by decide +kernel
set_option maxRecDepth 100000 in
set_option maxHeartbeats 4000000 in
theorem kb_X9_splitOf_6 {x1 : Int32} {x2 : Int32} {x3 : Int32} {w : Mem} {st : Int32 × Int32} {r : (Int32 × Int32) ⊕ ((Int32))} {H : Heap} {locs : List Loc} {ls : Array Slot} (C : CX p s m args meth c cX9_splitOf 6 RX9 wc_X9_splitOf (some .int))  (hG : Gd s G A 28 B (entM G B w) X H locs) (hl : lv_has ls 6 [(0, .ref (B + 0)), (1, .int x1), (2, .int x2), (3, .int x3), (4, .int st.1), (5, .int st.2)]) (hf : sh_X9_splitOf_s6 x1 x2 x3 w st = some r)
    (kL : ∀ st' : Int32 × Int32, r = Sum.inl st' → ∀ (H : Heap) (locs : List Loc) (ls : Array Slot), Gd s G A 28 B (entM G B w) X H locs → lv_has ls 6 [(0, .ref (B + 0)), (1, .int x1), (2, .int x2), (3, .int x3), (4, .int st'.1), (5, .int st'.2)] → W p l e rm_X9_splitOf s m args below meth c H locs 0 0 Q (F0 m 6 ls []))
    (kX0 : ∀ y' : Int32, r = Sum.inr y' → ∀ (H : Heap) (locs : List Loc) (ls : Array Slot), Gd s G A 28 B (entM G B w) X H locs → lv_has ls 6 [(4, .int y')] → W p l e rm_X9_splitOf s m args below meth c H locs 0 0 Q (F0 m 75 ls [])) :
    W p l e rm_X9_splitOf s m args below meth c H locs 0 0 Q (F0 m 6 ls []) := by
  refine lv_iload C.1 C.2.1 dX9_splitOf_6 (lv_at hl 5 rfl) ?_
  refine lv_aload_n C.1 C.2.1 dX9_splitOf_8 rfl (lv_at hl 0 rfl) ?_
  refine gf_X9_117 C hG rfl dX9_splitOf_9 ?_
  rcases of_ite hf with ⟨c1, hf⟩ | ⟨c1, hf⟩
  · refine lv_icmp_ge (tgt := 75) C.1 C.2.1 dX9_splitOf_12 (by decide) (fun _ => ?_) (fun q => absurd c1 q)
    obtain rfl := Option.some.inj hf
    exact kX0 _ rfl _ _ _ hG (lv_sub hl [4] rfl)
  · refine lv_icmp_ge (tgt := 75) C.1 C.2.1 dX9_splitOf_12 (by decide) (fun q => absurd q c1) (fun _ => ?_)
    refine lv_iload C.1 C.2.1 dX9_splitOf_15 (lv_at hl 4 rfl) ?_
    refine lv_aload_n C.1 C.2.1 dX9_splitOf_17 rfl (lv_at hl 0 rfl) ?_
    refine gf_X9_18 C hG rfl dX9_splitOf_18 ?_
    refine lv_aload_n C.1 C.2.1 dX9_splitOf_21 rfl (lv_at hl 0 rfl) ?_
    refine lv_iload_n C.1 C.2.1 dX9_splitOf_22 rfl (lv_at hl 1 rfl) ?_
    refine lv_iload C.1 C.2.1 dX9_splitOf_23 (lv_at hl 5 rfl) ?_
    obtain ⟨v2, hv2, hf⟩ := of_bind hf
    refine r_callV1 C hG hl.1 (c0 := 0) (As := [.int x1, .int st.2]) (by decide) (entM_O (n := 35) rfl) rfl (mt_X9_at l  hv2) (cwV 2 C.2.2.2.2.1 (gd_V tg_4_239 tg_5_1 tgp_32 tg_1_10 tg_5_2) rfl rfl rfl cd_X9_at ⟨Nat.le_of_ble_eq_true rfl, Nat.le_of_ble_eq_true rfl⟩) rfl rfl (Nat.le_of_ble_eq_true rfl) dX9_splitOf_25 (fun H locs hG => ?_)
    obtain ⟨v3, hv3, hf⟩ := of_bind hf
    obtain ⟨bv3, ev3⟩ := of_ldS hv3
    refine r_iald C hG (c0 := 3) (by decide) (entM_I (n := 36) rfl) bv3 dX9_splitOf_28 ?_
    refine r_top ev3 ?_
    refine lv_iload_n C.1 C.2.1 dX9_splitOf_29 rfl (lv_at hl 2 rfl) ?_
    rcases of_ite hf with ⟨c4, hf⟩ | ⟨c4, hf⟩
    · refine lv_icmp_ne (tgt := 65) C.1 C.2.1 dX9_splitOf_30 (by decide) (fun q => absurd c4 q) (fun _ => ?_)
      refine lv_aload_n C.1 C.2.1 dX9_splitOf_33 rfl (lv_at hl 0 rfl) ?_
      refine gf_X9_21 C hG rfl dX9_splitOf_34 ?_
      refine lv_aload_n C.1 C.2.1 dX9_splitOf_37 rfl (lv_at hl 0 rfl) ?_
      refine lv_iload_n C.1 C.2.1 dX9_splitOf_38 rfl (lv_at hl 1 rfl) ?_
      refine lv_iload C.1 C.2.1 dX9_splitOf_39 (lv_at hl 5 rfl) ?_
      obtain ⟨v7, hv7, hf⟩ := of_bind hf
      refine r_callV1 C hG hl.1 (c0 := 0) (As := [.int x1, .int st.2]) (by decide) (entM_O (n := 35) rfl) rfl (mt_X9_at l  hv7) (cwV 2 C.2.2.2.2.1 (gd_V tg_4_239 tg_5_1 tgp_32 tg_1_10 tg_5_2) rfl rfl rfl cd_X9_at ⟨Nat.le_of_ble_eq_true rfl, Nat.le_of_ble_eq_true rfl⟩) rfl rfl (Nat.le_of_ble_eq_true rfl) dX9_splitOf_41 (fun H locs hG => ?_)
      obtain ⟨v8, hv8, hf⟩ := of_bind hf
      obtain ⟨bv8, ev8⟩ := of_ldS hv8
      refine r_iald C hG (c0 := 4) (by decide) (entM_I (n := 36) rfl) bv8 dX9_splitOf_44 ?_
      refine r_top ev8 ?_
      refine lv_aload_n C.1 C.2.1 dX9_splitOf_45 rfl (lv_at hl 0 rfl) ?_
      refine gf_X9_30 C hG rfl dX9_splitOf_46 ?_
      refine lv_aload_n C.1 C.2.1 dX9_splitOf_49 rfl (lv_at hl 0 rfl) ?_
      refine lv_iload C.1 C.2.1 dX9_splitOf_50 (lv_at hl 5 rfl) ?_
      refine lv_iload_n C.1 C.2.1 dX9_splitOf_52 rfl (lv_at hl 3 rfl) ?_
      obtain ⟨v9, hv9, hf⟩ := of_bind hf
      refine r_callV1 C hG hl.1 (c0 := 0) (As := [.int st.2, .int x3]) (by decide) (entM_O (n := 35) rfl) rfl (mt_X9_at l  hv9) (cwV 2 C.2.2.2.2.1 (gd_V tg_4_239 tg_5_1 tgp_32 tg_1_10 tg_5_2) rfl rfl rfl cd_X9_at ⟨Nat.le_of_ble_eq_true rfl, Nat.le_of_ble_eq_true rfl⟩) rfl rfl (Nat.le_of_ble_eq_true rfl) dX9_splitOf_53 (fun H locs hG => ?_)
      obtain ⟨v10, hv10, hf⟩ := of_bind hf
      obtain ⟨bv10, ev10⟩ := of_ldS hv10
      refine r_iald C hG (c0 := 7) (by decide) (entM_I (n := 36) rfl) bv10 dX9_splitOf_56 ?_
      refine r_top ev10 ?_
      refine lv_imul C.1 C.2.1 dX9_splitOf_57 ?_
      refine lv_sipush (v := nI 9973) C.1 C.2.1 dX9_splitOf_58 (by decide) ?_
      refine r_irem C dX9_splitOf_61 (by decide) ?_
      refine lv_goto (tgt := 66) C.1 C.2.1 dX9_splitOf_62 (by decide) ?_
      refine lv_iadd C.1 C.2.1 dX9_splitOf_66 ?_
      obtain ⟨v11, ev11, hf⟩ := of_letv hf
      refine r_top ev11 ?_
      refine lv_istore (lv' := [(4, .int v11), (0, .ref (B + 0)), (1, .int x1), (2, .int x2), (3, .int x3), (5, .int st.2)]) C.1 C.2.1 dX9_splitOf_67 hl (by decide) rfl (fun ls hl => ?_)
      obtain ⟨v12, ev12, hf⟩ := of_letv hf
      refine lv_iinc (v := v12) (lv' := [(5, .int v12), (4, .int v11), (0, .ref (B + 0)), (1, .int x1), (2, .int x2), (3, .int x3)]) C.1 C.2.1 dX9_splitOf_69 hl (k := 5) rfl (by rw [ev12, show Int32.ofInt (1) = nI 1 from by decide]) (by decide) rfl (fun ls hl => ?_)
      refine lv_goto (tgt := 6) C.1 C.2.1 dX9_splitOf_72 (by decide) ?_
      obtain rfl := Option.some.inj hf
      exact kL _ rfl _ _ _ hG (lv_sub hl [2, 3, 4, 5, 1, 0] rfl)
    · refine lv_icmp_ne (tgt := 65) C.1 C.2.1 dX9_splitOf_30 (by decide) (fun _ => ?_) (fun q => absurd q c4)
      refine lv_iconst (v := nI 0) C.1 C.2.1 dX9_splitOf_65 (by decide) ?_
      refine lv_iadd C.1 C.2.1 dX9_splitOf_66 ?_
      obtain ⟨v5, ev5, hf⟩ := of_letv hf
      refine r_top ev5 ?_
      refine lv_istore (lv' := [(4, .int v5), (0, .ref (B + 0)), (1, .int x1), (2, .int x2), (3, .int x3), (5, .int st.2)]) C.1 C.2.1 dX9_splitOf_67 hl (by decide) rfl (fun ls hl => ?_)
      obtain ⟨v6, ev6, hf⟩ := of_letv hf
      refine lv_iinc (v := v6) (lv' := [(5, .int v6), (4, .int v5), (0, .ref (B + 0)), (1, .int x1), (2, .int x2), (3, .int x3)]) C.1 C.2.1 dX9_splitOf_69 hl (k := 5) rfl (by rw [ev6, show Int32.ofInt (1) = nI 1 from by decide]) (by decide) rfl (fun ls hl => ?_)
      refine lv_goto (tgt := 6) C.1 C.2.1 dX9_splitOf_72 (by decide) ?_
      obtain rfl := Option.some.inj hf
      exact kL _ rfl _ _ _ hG (lv_sub hl [2, 3, 4, 5, 1, 0] rfl)
set_option maxRecDepth 100000 in
set_option maxHeartbeats 4000000 in
theorem kl_X9_splitOf_6 {x1 : Int32} {x2 : Int32} {x3 : Int32} {w : Mem} (C : CX p s m args meth c cX9_splitOf 6 RX9 wc_X9_splitOf (some .int))  : ∀ (n : Nat) (st : Int32 × Int32) (x : (Int32)) (H : Heap) (locs : List Loc) (ls : Array Slot), Gd s G A 28 B (entM G B w) X H locs → lv_has ls 6 [(0, .ref (B + 0)), (1, .int x1), (2, .int x2), (3, .int x3), (4, .int st.1), (5, .int st.2)] → lpw (sh_X9_splitOf_s6 x1 x2 x3 w) n st = some x →
    (∀ y' : Int32, x = y' → ∀ (H : Heap) (locs : List Loc) (ls : Array Slot), Gd s G A 28 B (entM G B w) X H locs → lv_has ls 6 [(4, .int y')] → W p l e rm_X9_splitOf s m args below meth c H locs 0 0 Q (F0 m 75 ls [])) → W p l e rm_X9_splitOf s m args below meth c H locs 0 0 Q (F0 m 6 ls []) := by
  intro n
  induction n with
  | zero =>
    intro st x H locs ls hG hl hf
    cases hf
  | succ n ih =>
    intro st x H locs ls hG hl hf kX0
    obtain ⟨r, hr, hh⟩ := of_lpw hf
    refine kb_X9_splitOf_6 C  hG hl hr (fun st2 e1 H locs ls hG hl => ?_) (fun y2 e1 H locs ls hG hl => ?_)
    · rcases hh with ⟨s3, e2, hh⟩ | e2
      · rw [e2] at e1
        cases e1
        exact ih _ _ _ _ _ hG hl hh kX0
      · rw [e2] at e1
        cases e1
    · rcases hh with ⟨s3, e2, hh⟩ | e2
      · rw [e2] at e1
        cases e1
      · rw [e2] at e1
        cases e1
        exact kX0 _ rfl _ _ _ hG hl
set_option maxRecDepth 100000 in
set_option maxHeartbeats 4000000 in
theorem kb_X9_splitOf_0 {x1 : Int32} {x2 : Int32} {x3 : Int32} {w : Mem} {out : Int32} {H : Heap} {locs : List Loc} {ls : Array Slot} (C : CX p s m args meth c cX9_splitOf 6 RX9 wc_X9_splitOf (some .int))  (hG : Gd s G A 28 B (entM G B w) X H locs) (hl : lv_has ls 6 [(0, .ref (B + 0)), (1, .int x1), (2, .int x2), (3, .int x3)]) (hf : sh_X9_splitOf x1 x2 x3 w = some out) :
    W p l e rm_X9_splitOf s m args below meth c H locs 0 0 (MQ below (CPost G A 28 B (entM G B w) X (some (.int out))) args s 0 0 A) (F0 m 0 ls []) := by
  refine lv_iconst (v := nI 0) C.1 C.2.1 dX9_splitOf_0 (by decide) ?_
  refine lv_istore (lv' := [(4, .int (nI 0)), (0, .ref (B + 0)), (1, .int x1), (2, .int x2), (3, .int x3)]) C.1 C.2.1 dX9_splitOf_1 hl (by decide) rfl (fun ls hl => ?_)
  refine lv_iconst (v := nI 0) C.1 C.2.1 dX9_splitOf_3 (by decide) ?_
  refine lv_istore (lv' := [(5, .int (nI 0)), (4, .int (nI 0)), (0, .ref (B + 0)), (1, .int x1), (2, .int x2), (3, .int x3)]) C.1 C.2.1 dX9_splitOf_4 hl (by decide) rfl (fun ls hl => ?_)
  obtain ⟨ex1, hex1, hf⟩ := of_bind hf
  refine kl_X9_splitOf_6 C  FU (nI 0, nI 0) ex1 _ _ _ hG (lv_sub hl [2, 3, 4, 5, 1, 0] rfl) hex1 (fun y e0 H locs ls hG hl => ?_)
  subst e0
  refine lv_iload C.1 C.2.1 dX9_splitOf_75 (lv_at hl 0 rfl) ?_
  refine lv_sipush (v := nI 9973) C.1 C.2.1 dX9_splitOf_77 (by decide) ?_
  refine r_irem C dX9_splitOf_80 (by decide) ?_
  obtain rfl := Option.some.inj hf
  exact r_iret C hG dX9_splitOf_81
set_option maxRecDepth 100000 in
set_option maxHeartbeats 4000000 in
theorem mt_X9_splitOf (l : Launch) {G : GG} {A : Nat → Prop} {B : Nat} {X : va_W} {x1 : Int32} {x2 : Int32} {x3 : Int32} {w : Mem} {out : Int32}  (hf : sh_X9_splitOf x1 x2 x3 w = some out) : MetW l yX9_splitOf wc_X9_splitOf rm_X9_splitOf G A 28 B (entM G B w) X [.ref (B + 0), .int x1, .int x2, .int x3] (some (.int out)) (entM G B w) := by
  refine Met.ofW (cc := cX9_splitOf) (maxL := 6) (ret := (some .int)) (by decide) rfl ?_
  intro p e s m args below meth c s₁ B0 hml hv
  obtain ⟨rfl, hEv, hWd⟩ := hv
  have C : CX p s m _ meth c cX9_splitOf 6 RX9 wc_X9_splitOf (some .int) := ⟨B0.exec, B0.bytes, hml, findClass_of_methodNamed B0.named, atoms_spec (ws := wc_X9_splitOf) B0.pre, B0.returns, B0.notSynchronized⟩
  have hl := lv_entry [.ref (B + 0), .int x1, .int x2, .int x3] (n := 6) (Nat.le_of_ble_eq_true rfl)
  rw [lg_entry_eq]
  generalize (lg_sl [.ref (B + 0), .int x1, .int x2, .int x3] ++ List.replicate (6 - (lg_sl [.ref (B + 0), .int x1, .int x2, .int x3]).length) Slot.unset).toArray = ls at hl ⊢
  have hl : lv_has ls 6 [(0, .ref (B + 0)), (1, .int x1), (2, .int x2), (3, .int x3)] := hl
  exact kb_X9_splitOf_0 C  ⟨hEv, hWd, va_S.rf⟩ hl hf
abbrev wc_X9_split : List Cond := Cond.code yX9_split cX9_split 5 (some .int) :: TG
abbrev rm_X9_split : Room := { frames := 7, cells := 0, slots := 0, locals := 216 }
theorem cd_X9_split : yX9_split.cls = RX9 ∧ yX9_split.cls ≠ "java/lang/invoke/MethodHandle" ∧ yX9_split.cls ≠ "java/lang/invoke/VarHandle" ∧ (parseMethodDescriptor yX9_split.desc).map (fun d => d.parameters.length) = some 4 := by decide +kernel
theorem dX9_split_0 : decode cX9_split 0 = .ok (.aload_n 0, 1) := by decide +kernel
theorem dX9_split_1 : decode cX9_split 1 = .ok (.iload_n 1, 1) := by decide +kernel
theorem dX9_split_2 : decode cX9_split 2 = .ok (.invokevirtual 109, 3) := by decide +kernel
theorem dX9_split_5 : decode cX9_split 5 = .ok (.ifCond .ne 5, 3) := by decide +kernel
theorem dX9_split_8 : decode cX9_split 8 = .ok (.iconst (-1), 1) := by decide +kernel
theorem dX9_split_9 : decode cX9_split 9 = .ok (.ireturn, 1) := by decide +kernel
theorem dX9_split_10 : decode cX9_split 10 = .ok (.aload_n 0, 1) := by decide +kernel
theorem dX9_split_11 : decode cX9_split 11 = .ok (.iload_n 1, 1) := by decide +kernel
theorem dX9_split_12 : decode cX9_split 12 = .ok (.invokevirtual 152, 3) := by decide +kernel
theorem dX9_split_15 : decode cX9_split 15 = .ok (.aload_n 0, 1) := by decide +kernel
theorem dX9_split_16 : decode cX9_split 16 = .ok (.iload_n 2, 1) := by decide +kernel
theorem dX9_split_17 : decode cX9_split 17 = .ok (.invokevirtual 154, 3) := by decide +kernel
theorem dX9_split_20 : decode cX9_split 20 = .ok (.ifCond .eq 31, 3) := by decide +kernel
theorem dX9_split_23 : decode cX9_split 23 = .ok (.aload_n 0, 1) := by decide +kernel
theorem dX9_split_24 : decode cX9_split 24 = .ok (.iload_n 3, 1) := by decide +kernel
theorem dX9_split_25 : decode cX9_split 25 = .ok (.invokevirtual 154, 3) := by decide +kernel
theorem dX9_split_28 : decode cX9_split 28 = .ok (.ifCond .eq 23, 3) := by decide +kernel
theorem dX9_split_31 : decode cX9_split 31 = .ok (.aload_n 0, 1) := by decide +kernel
theorem dX9_split_32 : decode cX9_split 32 = .ok (.iload 4, 2) := by decide +kernel
theorem dX9_split_34 : decode cX9_split 34 = .ok (.invokevirtual 154, 3) := by decide +kernel
theorem dX9_split_37 : decode cX9_split 37 = .ok (.ifCond .eq 14, 3) := by decide +kernel
theorem dX9_split_40 : decode cX9_split 40 = .ok (.aload_n 0, 1) := by decide +kernel
theorem dX9_split_41 : decode cX9_split 41 = .ok (.iload_n 2, 1) := by decide +kernel
theorem dX9_split_42 : decode cX9_split 42 = .ok (.iload_n 3, 1) := by decide +kernel
theorem dX9_split_43 : decode cX9_split 43 = .ok (.iload 4, 2) := by decide +kernel
theorem dX9_split_45 : decode cX9_split 45 = .ok (.invokevirtual 157, 3) := by decide +kernel
theorem dX9_split_48 : decode cX9_split 48 = .ok (.goto 4, 3) := by decide +kernel
theorem dX9_split_51 : decode cX9_split 51 = .ok (.iconst (-1), 1) := by decide +kernel
theorem dX9_split_52 : decode cX9_split 52 = .ok (.ireturn, 1) := by decide +kernel
set_option maxRecDepth 100000 in
set_option maxHeartbeats 4000000 in
theorem kb_X9_split_0 {x1 : Int32} {x2 : Int32} {x3 : Int32} {x4 : Int32} {w : Mem} {out : Int32 × Mem} {H : Heap} {locs : List Loc} {ls : Array Slot} (C : CX p s m args meth c cX9_split 5 RX9 wc_X9_split (some .int))  (hG : Gd s G A 28 B (entM G B w) X H locs) (hl : lv_has ls 5 [(0, .ref (B + 0)), (1, .int x1), (2, .int x2), (3, .int x3), (4, .int x4)]) (hf : sh_X9_split x1 x2 x3 x4 w = some out) :
    W p l e rm_X9_split s m args below meth c H locs 0 0 (MQ below (CPost G A 28 B (entM G B out.2) X (some (.int out.1))) args s 0 0 A) (F0 m 0 ls []) := by
  refine lv_aload_n C.1 C.2.1 dX9_split_0 rfl (lv_at hl 0 rfl) ?_
  refine lv_iload_n C.1 C.2.1 dX9_split_1 rfl (lv_at hl 1 rfl) ?_
  obtain ⟨v1, hv1, hf⟩ := of_bind hf
  refine r_callV1 C hG hl.1 (c0 := 0) (As := [.int x1]) (by decide) (entM_O (n := 35) rfl) rfl (mt_X9_isAlgebra l  hv1) (cwV 1 C.2.2.2.2.1 (gd_V tg_4_205 tg_4_207 tgp_27 tg_1_10 tg_4_208) rfl rfl rfl cd_X9_isAlgebra ⟨Nat.le_of_ble_eq_true rfl, Nat.le_of_ble_eq_true rfl⟩) rfl rfl (Nat.le_of_ble_eq_true rfl) dX9_split_2 (fun H locs hG => ?_)
  rcases of_ite hf with ⟨c2, hf⟩ | ⟨c2, hf⟩
  · refine lv_if_ne (tgt := 10) C.1 C.2.1 dX9_split_5 (by decide) (fun q => absurd c2 q) (fun _ => ?_)
    refine lv_iconst (v := (-1 : Int32)) C.1 C.2.1 dX9_split_8 (by decide) ?_
    obtain rfl := Option.some.inj hf
    exact r_iret C hG dX9_split_9
  · refine lv_if_ne (tgt := 10) C.1 C.2.1 dX9_split_5 (by decide) (fun _ => ?_) (fun q => absurd q c2)
    refine lv_aload_n C.1 C.2.1 dX9_split_10 rfl (lv_at hl 0 rfl) ?_
    refine lv_iload_n C.1 C.2.1 dX9_split_11 rfl (lv_at hl 1 rfl) ?_
    obtain ⟨w3, hw3, hf⟩ := of_bind hf
    refine r_callV0 C hG hl.1 (c0 := 0) (As := [.int x1]) (by decide) (entM_O (n := 35) rfl) rfl (mt_X9_laysOut_ l  hw3) (cwV 1 C.2.2.2.2.1 (gd_V tg_4_221 tg_4_223 tgp_29 tg_1_10 tg_4_224) rfl rfl rfl cd_X9_laysOut_ ⟨Nat.le_of_ble_eq_true rfl, Nat.le_of_ble_eq_true rfl⟩) rfl rfl (Nat.le_of_ble_eq_true rfl) dX9_split_12 (fun H locs hG => ?_)
    refine lv_aload_n C.1 C.2.1 dX9_split_15 rfl (lv_at hl 0 rfl) ?_
    refine lv_iload_n C.1 C.2.1 dX9_split_16 rfl (lv_at hl 2 rfl) ?_
    obtain ⟨v4, hv4, hf⟩ := of_bind hf
    refine r_callV1 C hG hl.1 (c0 := 0) (As := [.int x2]) (by decide) (entM_O (n := 35) rfl) rfl (mt_X9_isElement l  hv4) (cwV 1 C.2.2.2.2.1 (gd_V tg_5_14 tg_5_16 tgp_34 tg_1_10 tg_5_17) rfl rfl rfl cd_X9_isElement ⟨Nat.le_of_ble_eq_true rfl, Nat.le_of_ble_eq_true rfl⟩) rfl rfl (Nat.le_of_ble_eq_true rfl) dX9_split_17 (fun H locs hG => ?_)
    rcases of_ite hf with ⟨c5, hf⟩ | ⟨c5, hf⟩
    · refine lv_if_eq (tgt := 51) C.1 C.2.1 dX9_split_20 (by decide) (fun _ => ?_) (fun q => absurd c5 q)
      refine lv_iconst (v := (-1 : Int32)) C.1 C.2.1 dX9_split_51 (by decide) ?_
      obtain rfl := Option.some.inj hf
      exact r_iret C hG dX9_split_52
    · refine lv_if_eq (tgt := 51) C.1 C.2.1 dX9_split_20 (by decide) (fun q => absurd q c5) (fun _ => ?_)
      refine lv_aload_n C.1 C.2.1 dX9_split_23 rfl (lv_at hl 0 rfl) ?_
      refine lv_iload_n C.1 C.2.1 dX9_split_24 rfl (lv_at hl 3 rfl) ?_
      obtain ⟨v6, hv6, hf⟩ := of_bind hf
      refine r_callV1 C hG hl.1 (c0 := 0) (As := [.int x3]) (by decide) (entM_O (n := 35) rfl) rfl (mt_X9_isElement l  hv6) (cwV 1 C.2.2.2.2.1 (gd_V tg_5_14 tg_5_16 tgp_34 tg_1_10 tg_5_17) rfl rfl rfl cd_X9_isElement ⟨Nat.le_of_ble_eq_true rfl, Nat.le_of_ble_eq_true rfl⟩) rfl rfl (Nat.le_of_ble_eq_true rfl) dX9_split_25 (fun H locs hG => ?_)
      rcases of_ite hf with ⟨c7, hf⟩ | ⟨c7, hf⟩
      · refine lv_if_eq (tgt := 51) C.1 C.2.1 dX9_split_28 (by decide) (fun _ => ?_) (fun q => absurd c7 q)
        refine lv_iconst (v := (-1 : Int32)) C.1 C.2.1 dX9_split_51 (by decide) ?_
        obtain rfl := Option.some.inj hf
        exact r_iret C hG dX9_split_52
      · refine lv_if_eq (tgt := 51) C.1 C.2.1 dX9_split_28 (by decide) (fun q => absurd q c7) (fun _ => ?_)
        refine lv_aload_n C.1 C.2.1 dX9_split_31 rfl (lv_at hl 0 rfl) ?_
        refine lv_iload C.1 C.2.1 dX9_split_32 (lv_at hl 4 rfl) ?_
        obtain ⟨v8, hv8, hf⟩ := of_bind hf
        refine r_callV1 C hG hl.1 (c0 := 0) (As := [.int x4]) (by decide) (entM_O (n := 35) rfl) rfl (mt_X9_isElement l  hv8) (cwV 1 C.2.2.2.2.1 (gd_V tg_5_14 tg_5_16 tgp_34 tg_1_10 tg_5_17) rfl rfl rfl cd_X9_isElement ⟨Nat.le_of_ble_eq_true rfl, Nat.le_of_ble_eq_true rfl⟩) rfl rfl (Nat.le_of_ble_eq_true rfl) dX9_split_34 (fun H locs hG => ?_)
        rcases of_ite hf with ⟨c9, hf⟩ | ⟨c9, hf⟩
        · refine lv_if_eq (tgt := 51) C.1 C.2.1 dX9_split_37 (by decide) (fun _ => ?_) (fun q => absurd c9 q)
          refine lv_iconst (v := (-1 : Int32)) C.1 C.2.1 dX9_split_51 (by decide) ?_
          obtain rfl := Option.some.inj hf
          exact r_iret C hG dX9_split_52
        · refine lv_if_eq (tgt := 51) C.1 C.2.1 dX9_split_37 (by decide) (fun q => absurd q c9) (fun _ => ?_)
          refine lv_aload_n C.1 C.2.1 dX9_split_40 rfl (lv_at hl 0 rfl) ?_
          refine lv_iload_n C.1 C.2.1 dX9_split_41 rfl (lv_at hl 2 rfl) ?_
          refine lv_iload_n C.1 C.2.1 dX9_split_42 rfl (lv_at hl 3 rfl) ?_
          refine lv_iload C.1 C.2.1 dX9_split_43 (lv_at hl 4 rfl) ?_
          obtain ⟨v10, hv10, hf⟩ := of_bind hf
          refine r_callV1 C hG hl.1 (c0 := 0) (As := [.int x2, .int x3, .int x4]) (by decide) (entM_O (n := 35) rfl) rfl (mt_X9_splitOf l  hv10) (cwV 3 C.2.2.2.2.1 (gd_V tg_5_30 tg_5_32 tgp_35 tg_1_10 tg_5_33) rfl rfl rfl cd_X9_splitOf ⟨Nat.le_of_ble_eq_true rfl, Nat.le_of_ble_eq_true rfl⟩) rfl rfl (Nat.le_of_ble_eq_true rfl) dX9_split_45 (fun H locs hG => ?_)
          refine lv_goto (tgt := 52) C.1 C.2.1 dX9_split_48 (by decide) ?_
          obtain rfl := Option.some.inj hf
          exact r_iret C hG dX9_split_52
set_option maxRecDepth 100000 in
set_option maxHeartbeats 4000000 in
theorem mt_X9_split (l : Launch) {G : GG} {A : Nat → Prop} {B : Nat} {X : va_W} {x1 : Int32} {x2 : Int32} {x3 : Int32} {x4 : Int32} {w : Mem} {out : Int32 × Mem}  (hf : sh_X9_split x1 x2 x3 x4 w = some out) : MetW l yX9_split wc_X9_split rm_X9_split G A 28 B (entM G B w) X [.ref (B + 0), .int x1, .int x2, .int x3, .int x4] (some (.int out.1)) (entM G B out.2) := by
  refine Met.ofW (cc := cX9_split) (maxL := 5) (ret := (some .int)) (by decide) rfl ?_
  intro p e s m args below meth c s₁ B0 hml hv
  obtain ⟨rfl, hEv, hWd⟩ := hv
  have C : CX p s m _ meth c cX9_split 5 RX9 wc_X9_split (some .int) := ⟨B0.exec, B0.bytes, hml, findClass_of_methodNamed B0.named, atoms_spec (ws := wc_X9_split) B0.pre, B0.returns, B0.notSynchronized⟩
  have hl := lv_entry [.ref (B + 0), .int x1, .int x2, .int x3, .int x4] (n := 5) (Nat.le_of_ble_eq_true rfl)
  rw [lg_entry_eq]
  generalize (lg_sl [.ref (B + 0), .int x1, .int x2, .int x3, .int x4] ++ List.replicate (5 - (lg_sl [.ref (B + 0), .int x1, .int x2, .int x3, .int x4]).length) Slot.unset).toArray = ls at hl ⊢
  have hl : lv_has ls 5 [(0, .ref (B + 0)), (1, .int x1), (2, .int x2), (3, .int x3), (4, .int x4)] := hl
  exact kb_X9_split_0 C  ⟨hEv, hWd, va_S.rf⟩ hl hf
abbrev wc_X9_multiplies : List Cond := Cond.code yX9_multiplies cX9_multiplies 5 none :: TG
abbrev rm_X9_multiplies : Room := { frames := 3, cells := 0, slots := 0, locals := 122 }
theorem cd_X9_multiplies : yX9_multiplies.cls = RX9 ∧ yX9_multiplies.cls ≠ "java/lang/invoke/MethodHandle" ∧ yX9_multiplies.cls ≠ "java/lang/invoke/VarHandle" ∧ (parseMethodDescriptor yX9_multiplies.desc).map (fun d => d.parameters.length) = some 1 := by decide +kernel
theorem dX9_multiplies_0 : decode cX9_multiplies 0 = .ok (.iconst 0, 1) := by decide +kernel
theorem dX9_multiplies_1 : decode cX9_multiplies 1 = .ok (.istore_n 2, 1) := by decide +kernel
theorem dX9_multiplies_2 : decode cX9_multiplies 2 = .ok (.iload_n 2, 1) := by decide +kernel
theorem dX9_multiplies_3 : decode cX9_multiplies 3 = .ok (.aload_n 0, 1) := by decide +kernel
theorem dX9_multiplies_4 : decode cX9_multiplies 4 = .ok (.getfield 117, 3) := by decide +kernel
theorem dX9_multiplies_7 : decode cX9_multiplies 7 = .ok (.if_icmp .ge 16, 3) := by decide +kernel
theorem dX9_multiplies_10 : decode cX9_multiplies 10 = .ok (.aload_n 0, 1) := by decide +kernel
theorem dX9_multiplies_11 : decode cX9_multiplies 11 = .ok (.getfield 42, 3) := by decide +kernel
theorem dX9_multiplies_14 : decode cX9_multiplies 14 = .ok (.iload_n 2, 1) := by decide +kernel
theorem dX9_multiplies_15 : decode cX9_multiplies 15 = .ok (.iconst 0, 1) := by decide +kernel
theorem dX9_multiplies_16 : decode cX9_multiplies 16 = .ok (.iastore, 1) := by decide +kernel
theorem dX9_multiplies_17 : decode cX9_multiplies 17 = .ok (.iinc 2 1, 3) := by decide +kernel
theorem dX9_multiplies_20 : decode cX9_multiplies 20 = .ok (.goto (-18), 3) := by decide +kernel
theorem dX9_multiplies_23 : decode cX9_multiplies 23 = .ok (.iconst 0, 1) := by decide +kernel
theorem dX9_multiplies_24 : decode cX9_multiplies 24 = .ok (.istore_n 2, 1) := by decide +kernel
theorem dX9_multiplies_25 : decode cX9_multiplies 25 = .ok (.iload_n 2, 1) := by decide +kernel
theorem dX9_multiplies_26 : decode cX9_multiplies 26 = .ok (.aload_n 0, 1) := by decide +kernel
theorem dX9_multiplies_27 : decode cX9_multiplies 27 = .ok (.getfield 117, 3) := by decide +kernel
theorem dX9_multiplies_30 : decode cX9_multiplies 30 = .ok (.if_icmp .ge 88, 3) := by decide +kernel
theorem dX9_multiplies_33 : decode cX9_multiplies 33 = .ok (.iconst 0, 1) := by decide +kernel
theorem dX9_multiplies_34 : decode cX9_multiplies 34 = .ok (.istore_n 3, 1) := by decide +kernel
theorem dX9_multiplies_35 : decode cX9_multiplies 35 = .ok (.iload_n 3, 1) := by decide +kernel
theorem dX9_multiplies_36 : decode cX9_multiplies 36 = .ok (.aload_n 0, 1) := by decide +kernel
theorem dX9_multiplies_37 : decode cX9_multiplies 37 = .ok (.getfield 117, 3) := by decide +kernel
theorem dX9_multiplies_40 : decode cX9_multiplies 40 = .ok (.if_icmp .ge 72, 3) := by decide +kernel
theorem dX9_multiplies_43 : decode cX9_multiplies 43 = .ok (.aload_n 0, 1) := by decide +kernel
theorem dX9_multiplies_44 : decode cX9_multiplies 44 = .ok (.getfield 18, 3) := by decide +kernel
theorem dX9_multiplies_47 : decode cX9_multiplies 47 = .ok (.aload_n 0, 1) := by decide +kernel
theorem dX9_multiplies_48 : decode cX9_multiplies 48 = .ok (.iload_n 2, 1) := by decide +kernel
theorem dX9_multiplies_49 : decode cX9_multiplies 49 = .ok (.iload_n 3, 1) := by decide +kernel
theorem dX9_multiplies_50 : decode cX9_multiplies 50 = .ok (.invokevirtual 128, 3) := by decide +kernel
theorem dX9_multiplies_53 : decode cX9_multiplies 53 = .ok (.iaload, 1) := by decide +kernel
theorem dX9_multiplies_54 : decode cX9_multiplies 54 = .ok (.istore 4, 2) := by decide +kernel
theorem dX9_multiplies_56 : decode cX9_multiplies 56 = .ok (.aload_n 0, 1) := by decide +kernel
theorem dX9_multiplies_57 : decode cX9_multiplies 57 = .ok (.getfield 42, 3) := by decide +kernel
theorem dX9_multiplies_60 : decode cX9_multiplies 60 = .ok (.iload 4, 2) := by decide +kernel
theorem dX9_multiplies_62 : decode cX9_multiplies 62 = .ok (.aload_n 0, 1) := by decide +kernel
theorem dX9_multiplies_63 : decode cX9_multiplies 63 = .ok (.getfield 42, 3) := by decide +kernel
theorem dX9_multiplies_66 : decode cX9_multiplies 66 = .ok (.iload 4, 2) := by decide +kernel
theorem dX9_multiplies_68 : decode cX9_multiplies 68 = .ok (.iaload, 1) := by decide +kernel
theorem dX9_multiplies_69 : decode cX9_multiplies 69 = .ok (.i2l, 1) := by decide +kernel
theorem dX9_multiplies_70 : decode cX9_multiplies 70 = .ok (.aload_n 0, 1) := by decide +kernel
theorem dX9_multiplies_71 : decode cX9_multiplies 71 = .ok (.getfield 39, 3) := by decide +kernel
theorem dX9_multiplies_74 : decode cX9_multiplies 74 = .ok (.iload_n 2, 1) := by decide +kernel
theorem dX9_multiplies_75 : decode cX9_multiplies 75 = .ok (.iaload, 1) := by decide +kernel
theorem dX9_multiplies_76 : decode cX9_multiplies 76 = .ok (.i2l, 1) := by decide +kernel
theorem dX9_multiplies_77 : decode cX9_multiplies 77 = .ok (.aload_n 1, 1) := by decide +kernel
theorem dX9_multiplies_78 : decode cX9_multiplies 78 = .ok (.iload_n 3, 1) := by decide +kernel
theorem dX9_multiplies_79 : decode cX9_multiplies 79 = .ok (.iaload, 1) := by decide +kernel
theorem dX9_multiplies_80 : decode cX9_multiplies 80 = .ok (.i2l, 1) := by decide +kernel
theorem dX9_multiplies_81 : decode cX9_multiplies 81 = .ok (.lmul, 1) := by decide +kernel
theorem dX9_multiplies_82 : decode cX9_multiplies 82 = .ok (.ldc2_w 99, 3) := by decide +kernel
theorem dX9_multiplies_85 : decode cX9_multiplies 85 = .ok (.lrem, 1) := by decide +kernel
theorem dX9_multiplies_86 : decode cX9_multiplies 86 = .ok (.aload_n 0, 1) := by decide +kernel
theorem dX9_multiplies_87 : decode cX9_multiplies 87 = .ok (.getfield 21, 3) := by decide +kernel
theorem dX9_multiplies_90 : decode cX9_multiplies 90 = .ok (.aload_n 0, 1) := by decide +kernel
theorem dX9_multiplies_91 : decode cX9_multiplies 91 = .ok (.iload_n 2, 1) := by decide +kernel
theorem dX9_multiplies_92 : decode cX9_multiplies 92 = .ok (.iload_n 3, 1) := by decide +kernel
theorem dX9_multiplies_93 : decode cX9_multiplies 93 = .ok (.invokevirtual 128, 3) := by decide +kernel
theorem dX9_multiplies_96 : decode cX9_multiplies 96 = .ok (.iaload, 1) := by decide +kernel
theorem dX9_multiplies_97 : decode cX9_multiplies 97 = .ok (.i2l, 1) := by decide +kernel
theorem dX9_multiplies_98 : decode cX9_multiplies 98 = .ok (.lmul, 1) := by decide +kernel
theorem dX9_multiplies_99 : decode cX9_multiplies 99 = .ok (.ladd, 1) := by decide +kernel
theorem dX9_multiplies_100 : decode cX9_multiplies 100 = .ok (.ldc2_w 99, 3) := by decide +kernel
theorem dX9_multiplies_103 : decode cX9_multiplies 103 = .ok (.lrem, 1) := by decide +kernel
theorem dX9_multiplies_104 : decode cX9_multiplies 104 = .ok (.l2i, 1) := by decide +kernel
theorem dX9_multiplies_105 : decode cX9_multiplies 105 = .ok (.iastore, 1) := by decide +kernel
theorem dX9_multiplies_106 : decode cX9_multiplies 106 = .ok (.iinc 3 1, 3) := by decide +kernel
theorem dX9_multiplies_109 : decode cX9_multiplies 109 = .ok (.goto (-74), 3) := by decide +kernel
theorem dX9_multiplies_112 : decode cX9_multiplies 112 = .ok (.iinc 2 1, 3) := by decide +kernel
theorem dX9_multiplies_115 : decode cX9_multiplies 115 = .ok (.goto (-90), 3) := by decide +kernel
theorem dX9_multiplies_118 : decode cX9_multiplies 118 = .ok (.iconst 0, 1) := by decide +kernel
theorem dX9_multiplies_119 : decode cX9_multiplies 119 = .ok (.istore_n 2, 1) := by decide +kernel
theorem dX9_multiplies_120 : decode cX9_multiplies 120 = .ok (.iload_n 2, 1) := by decide +kernel
theorem dX9_multiplies_121 : decode cX9_multiplies 121 = .ok (.aload_n 0, 1) := by decide +kernel
theorem dX9_multiplies_122 : decode cX9_multiplies 122 = .ok (.getfield 117, 3) := by decide +kernel
theorem dX9_multiplies_125 : decode cX9_multiplies 125 = .ok (.if_icmp .ge 21, 3) := by decide +kernel
theorem dX9_multiplies_128 : decode cX9_multiplies 128 = .ok (.aload_n 0, 1) := by decide +kernel
theorem dX9_multiplies_129 : decode cX9_multiplies 129 = .ok (.getfield 39, 3) := by decide +kernel
theorem dX9_multiplies_132 : decode cX9_multiplies 132 = .ok (.iload_n 2, 1) := by decide +kernel
theorem dX9_multiplies_133 : decode cX9_multiplies 133 = .ok (.aload_n 0, 1) := by decide +kernel
theorem dX9_multiplies_134 : decode cX9_multiplies 134 = .ok (.getfield 42, 3) := by decide +kernel
theorem dX9_multiplies_137 : decode cX9_multiplies 137 = .ok (.iload_n 2, 1) := by decide +kernel
theorem dX9_multiplies_138 : decode cX9_multiplies 138 = .ok (.iaload, 1) := by decide +kernel
theorem dX9_multiplies_139 : decode cX9_multiplies 139 = .ok (.iastore, 1) := by decide +kernel
theorem dX9_multiplies_140 : decode cX9_multiplies 140 = .ok (.iinc 2 1, 3) := by decide +kernel
theorem dX9_multiplies_143 : decode cX9_multiplies 143 = .ok (.goto (-23), 3) := by decide +kernel
theorem dX9_multiplies_146 : decode cX9_multiplies 146 = .ok (.return_, 1) := by decide +kernel
set_option maxRecDepth 100000 in
set_option maxHeartbeats 4000000 in
theorem kb_X9_multiplies_2 {x1 : Nat} {st : Int32 × Mem} {r : (Int32 × Mem) ⊕ ((Mem))} {H : Heap} {locs : List Loc} {ls : Array Slot} (C : CX p s m args meth c cX9_multiplies 5 RX9 wc_X9_multiplies none) (h1 : (KDm x1).1 = 10) (hG : Gd s G A 28 B (entM G B st.2) X H locs) (hl : lv_has ls 5 [(0, .ref (B + 0)), (1, .ref (B + x1)), (2, .int st.1)]) (hf : sh_X9_multiplies_s2 x1 st = some r)
    (kL : ∀ st' : Int32 × Mem, r = Sum.inl st' → ∀ (H : Heap) (locs : List Loc) (ls : Array Slot), Gd s G A 28 B (entM G B st'.2) X H locs → lv_has ls 5 [(0, .ref (B + 0)), (1, .ref (B + x1)), (2, .int st'.1)] → W p l e rm_X9_multiplies s m args below meth c H locs 0 0 Q (F0 m 2 ls []))
    (kX0 : ∀ y' : Mem, r = Sum.inr y' → ∀ (H : Heap) (locs : List Loc) (ls : Array Slot), Gd s G A 28 B (entM G B y') X H locs → lv_has ls 5 [(0, .ref (B + 0)), (1, .ref (B + x1))] → W p l e rm_X9_multiplies s m args below meth c H locs 0 0 Q (F0 m 23 ls [])) :
    W p l e rm_X9_multiplies s m args below meth c H locs 0 0 Q (F0 m 2 ls []) := by
  refine lv_iload_n C.1 C.2.1 dX9_multiplies_2 rfl (lv_at hl 2 rfl) ?_
  refine lv_aload_n C.1 C.2.1 dX9_multiplies_3 rfl (lv_at hl 0 rfl) ?_
  refine gf_X9_117 C hG rfl dX9_multiplies_4 ?_
  rcases of_ite hf with ⟨c1, hf⟩ | ⟨c1, hf⟩
  · refine lv_icmp_ge (tgt := 23) C.1 C.2.1 dX9_multiplies_7 (by decide) (fun _ => ?_) (fun q => absurd c1 q)
    obtain rfl := Option.some.inj hf
    exact kX0 _ rfl _ _ _ hG (lv_sub hl [0, 1] rfl)
  · refine lv_icmp_ge (tgt := 23) C.1 C.2.1 dX9_multiplies_7 (by decide) (fun q => absurd q c1) (fun _ => ?_)
    refine lv_aload_n C.1 C.2.1 dX9_multiplies_10 rfl (lv_at hl 0 rfl) ?_
    refine gf_X9_42 C hG rfl dX9_multiplies_11 ?_
    refine lv_iload_n C.1 C.2.1 dX9_multiplies_14 rfl (lv_at hl 2 rfl) ?_
    refine lv_iconst (v := nI 0) C.1 C.2.1 dX9_multiplies_15 (by decide) ?_
    obtain ⟨w2, hw2, hf⟩ := of_bind hf
    obtain ⟨bw2, ew2⟩ := of_stM hw2
    refine r_iast C hG (c0 := 11) (by decide) (entM_I (n := 6) rfl) bw2 (E' := (entM G B w2)) (by rw [ew2]; exact upM_I (n := 6) rfl) dX9_multiplies_16 (fun H locs hG => ?_)
    obtain ⟨v3, ev3, hf⟩ := of_letv hf
    refine lv_iinc (v := v3) (lv' := [(2, .int v3), (0, .ref (B + 0)), (1, .ref (B + x1))]) C.1 C.2.1 dX9_multiplies_17 hl (k := 2) rfl (by rw [ev3, show Int32.ofInt (1) = nI 1 from by decide]) (by decide) rfl (fun ls hl => ?_)
    refine lv_goto (tgt := 2) C.1 C.2.1 dX9_multiplies_20 (by decide) ?_
    obtain rfl := Option.some.inj hf
    exact kL _ rfl _ _ _ hG (lv_sub hl [1, 2, 0] rfl)
set_option maxRecDepth 100000 in
set_option maxHeartbeats 4000000 in
theorem kl_X9_multiplies_2 {x1 : Nat} (C : CX p s m args meth c cX9_multiplies 5 RX9 wc_X9_multiplies none) (h1 : (KDm x1).1 = 10) : ∀ (n : Nat) (st : Int32 × Mem) (x : (Mem)) (H : Heap) (locs : List Loc) (ls : Array Slot), Gd s G A 28 B (entM G B st.2) X H locs → lv_has ls 5 [(0, .ref (B + 0)), (1, .ref (B + x1)), (2, .int st.1)] → lpw (sh_X9_multiplies_s2 x1) n st = some x →
    (∀ y' : Mem, x = y' → ∀ (H : Heap) (locs : List Loc) (ls : Array Slot), Gd s G A 28 B (entM G B y') X H locs → lv_has ls 5 [(0, .ref (B + 0)), (1, .ref (B + x1))] → W p l e rm_X9_multiplies s m args below meth c H locs 0 0 Q (F0 m 23 ls [])) → W p l e rm_X9_multiplies s m args below meth c H locs 0 0 Q (F0 m 2 ls []) := by
  intro n
  induction n with
  | zero =>
    intro st x H locs ls hG hl hf
    cases hf
  | succ n ih =>
    intro st x H locs ls hG hl hf kX0
    obtain ⟨r, hr, hh⟩ := of_lpw hf
    refine kb_X9_multiplies_2 C h1 hG hl hr (fun st2 e1 H locs ls hG hl => ?_) (fun y2 e1 H locs ls hG hl => ?_)
    · rcases hh with ⟨s3, e2, hh⟩ | e2
      · rw [e2] at e1
        cases e1
        exact ih _ _ _ _ _ hG hl hh kX0
      · rw [e2] at e1
        cases e1
    · rcases hh with ⟨s3, e2, hh⟩ | e2
      · rw [e2] at e1
        cases e1
      · rw [e2] at e1
        cases e1
        exact kX0 _ rfl _ _ _ hG hl
set_option maxRecDepth 100000 in
set_option maxHeartbeats 4000000 in
theorem kb_X9_multiplies_35 {x1 : Nat} {x2 : Int32} {st : Int32 × Mem} {r : (Int32 × Mem) ⊕ ((Mem))} {H : Heap} {locs : List Loc} {ls : Array Slot} (C : CX p s m args meth c cX9_multiplies 5 RX9 wc_X9_multiplies none) (h1 : (KDm x1).1 = 10) (hG : Gd s G A 28 B (entM G B st.2) X H locs) (hl : lv_has ls 5 [(0, .ref (B + 0)), (1, .ref (B + x1)), (2, .int x2), (3, .int st.1)]) (hf : sh_X9_multiplies_s35 x1 x2 st = some r)
    (kL : ∀ st' : Int32 × Mem, r = Sum.inl st' → ∀ (H : Heap) (locs : List Loc) (ls : Array Slot), Gd s G A 28 B (entM G B st'.2) X H locs → lv_has ls 5 [(0, .ref (B + 0)), (1, .ref (B + x1)), (2, .int x2), (3, .int st'.1)] → W p l e rm_X9_multiplies s m args below meth c H locs 0 0 Q (F0 m 35 ls []))
    (kX0 : ∀ y' : Mem, r = Sum.inr y' → ∀ (H : Heap) (locs : List Loc) (ls : Array Slot), Gd s G A 28 B (entM G B y') X H locs → lv_has ls 5 [(0, .ref (B + 0)), (1, .ref (B + x1)), (2, .int x2)] → W p l e rm_X9_multiplies s m args below meth c H locs 0 0 Q (F0 m 112 ls [])) :
    W p l e rm_X9_multiplies s m args below meth c H locs 0 0 Q (F0 m 35 ls []) := by
  refine lv_iload_n C.1 C.2.1 dX9_multiplies_35 rfl (lv_at hl 3 rfl) ?_
  refine lv_aload_n C.1 C.2.1 dX9_multiplies_36 rfl (lv_at hl 0 rfl) ?_
  refine gf_X9_117 C hG rfl dX9_multiplies_37 ?_
  rcases of_ite hf with ⟨c1, hf⟩ | ⟨c1, hf⟩
  · refine lv_icmp_ge (tgt := 112) C.1 C.2.1 dX9_multiplies_40 (by decide) (fun _ => ?_) (fun q => absurd c1 q)
    obtain rfl := Option.some.inj hf
    exact kX0 _ rfl _ _ _ hG (lv_sub hl [0, 1, 2] rfl)
  · refine lv_icmp_ge (tgt := 112) C.1 C.2.1 dX9_multiplies_40 (by decide) (fun q => absurd q c1) (fun _ => ?_)
    refine lv_aload_n C.1 C.2.1 dX9_multiplies_43 rfl (lv_at hl 0 rfl) ?_
    refine gf_X9_18 C hG rfl dX9_multiplies_44 ?_
    refine lv_aload_n C.1 C.2.1 dX9_multiplies_47 rfl (lv_at hl 0 rfl) ?_
    refine lv_iload_n C.1 C.2.1 dX9_multiplies_48 rfl (lv_at hl 2 rfl) ?_
    refine lv_iload_n C.1 C.2.1 dX9_multiplies_49 rfl (lv_at hl 3 rfl) ?_
    obtain ⟨v2, hv2, hf⟩ := of_bind hf
    refine r_callV1 C hG hl.1 (c0 := 0) (As := [.int x2, .int st.1]) (by decide) (entM_O (n := 35) rfl) rfl (mt_X9_at l  hv2) (cwV 2 C.2.2.2.2.1 (gd_V tg_4_239 tg_5_1 tgp_32 tg_1_10 tg_5_2) rfl rfl rfl cd_X9_at ⟨Nat.le_of_ble_eq_true rfl, Nat.le_of_ble_eq_true rfl⟩) rfl rfl (Nat.le_of_ble_eq_true rfl) dX9_multiplies_50 (fun H locs hG => ?_)
    obtain ⟨v3, hv3, hf⟩ := of_bind hf
    obtain ⟨bv3, ev3⟩ := of_ldS hv3
    refine r_iald C hG (c0 := 3) (by decide) (entM_I (n := 36) rfl) bv3 dX9_multiplies_53 ?_
    refine r_top ev3 ?_
    refine lv_istore (lv' := [(4, .int v3), (0, .ref (B + 0)), (1, .ref (B + x1)), (2, .int x2), (3, .int st.1)]) C.1 C.2.1 dX9_multiplies_54 hl (by decide) rfl (fun ls hl => ?_)
    refine lv_aload_n C.1 C.2.1 dX9_multiplies_56 rfl (lv_at hl 1 rfl) ?_
    refine gf_X9_42 C hG rfl dX9_multiplies_57 ?_
    refine lv_iload C.1 C.2.1 dX9_multiplies_60 (lv_at hl 0 rfl) ?_
    refine lv_aload_n C.1 C.2.1 dX9_multiplies_62 rfl (lv_at hl 1 rfl) ?_
    refine gf_X9_42 C hG rfl dX9_multiplies_63 ?_
    refine lv_iload C.1 C.2.1 dX9_multiplies_66 (lv_at hl 0 rfl) ?_
    obtain ⟨v4, hv4, hf⟩ := of_bind hf
    obtain ⟨bv4, ev4⟩ := of_ldS hv4
    refine r_iald C hG (c0 := 11) (by decide) (entM_I (n := 6) rfl) bv4 dX9_multiplies_68 ?_
    refine r_top ev4 ?_
    refine lv_i2l C.1 C.2.1 dX9_multiplies_69 rfl ?_
    refine lv_aload_n C.1 C.2.1 dX9_multiplies_70 rfl (lv_at hl 1 rfl) ?_
    refine gf_X9_39 C hG rfl dX9_multiplies_71 ?_
    refine lv_iload_n C.1 C.2.1 dX9_multiplies_74 rfl (lv_at hl 3 rfl) ?_
    obtain ⟨v5, hv5, hf⟩ := of_bind hf
    obtain ⟨bv5, ev5⟩ := of_ldS hv5
    refine r_iald C hG (c0 := 10) (by decide) (entM_I (n := 6) rfl) bv5 dX9_multiplies_75 ?_
    refine r_top ev5 ?_
    refine lv_i2l C.1 C.2.1 dX9_multiplies_76 rfl ?_
    refine lv_aload_n C.1 C.2.1 dX9_multiplies_77 rfl (lv_at hl 2 rfl) ?_
    refine lv_iload_n C.1 C.2.1 dX9_multiplies_78 rfl (lv_at hl 4 rfl) ?_
    obtain ⟨v6, hv6, hf⟩ := of_bind hf
    obtain ⟨kv6, bv6, ev6⟩ := of_ldD hv6
    refine r_iald C hG (c0 := x1) (kdm_lt (kd_eta kv6) (by decide)) (entM_I (kd_eta kv6)) bv6 dX9_multiplies_79 ?_
    refine r_top ev6 ?_
    refine lv_i2l C.1 C.2.1 dX9_multiplies_80 rfl ?_
    refine lv_lmul C.1 C.2.1 dX9_multiplies_81 ?_
    refine lv_ldc2 (v := lN 9973) C.1 C.2.1 C.2.2.2.1 (C.2.2.2.2.1 _ (List.mem_cons_of_mem _ tg_5_6)) dX9_multiplies_82 ?_
    refine r_lrem C dX9_multiplies_85 (by decide) ?_
    refine lv_aload_n C.1 C.2.1 dX9_multiplies_86 rfl (lv_at hl 1 rfl) ?_
    refine gf_X9_21 C hG rfl dX9_multiplies_87 ?_
    refine lv_aload_n C.1 C.2.1 dX9_multiplies_90 rfl (lv_at hl 1 rfl) ?_
    refine lv_iload_n C.1 C.2.1 dX9_multiplies_91 rfl (lv_at hl 3 rfl) ?_
    refine lv_iload_n C.1 C.2.1 dX9_multiplies_92 rfl (lv_at hl 4 rfl) ?_
    obtain ⟨v7, hv7, hf⟩ := of_bind hf
    refine r_callV1 C hG hl.1 (c0 := 0) (As := [.int x2, .int st.1]) (by decide) (entM_O (n := 35) rfl) rfl (mt_X9_at l  hv7) (cwV 2 C.2.2.2.2.1 (gd_V tg_4_239 tg_5_1 tgp_32 tg_1_10 tg_5_2) rfl rfl rfl cd_X9_at ⟨Nat.le_of_ble_eq_true rfl, Nat.le_of_ble_eq_true rfl⟩) rfl rfl (Nat.le_of_ble_eq_true rfl) dX9_multiplies_93 (fun H locs hG => ?_)
    obtain ⟨v8, hv8, hf⟩ := of_bind hf
    obtain ⟨bv8, ev8⟩ := of_ldS hv8
    refine r_iald C hG (c0 := 4) (by decide) (entM_I (n := 36) rfl) bv8 dX9_multiplies_96 ?_
    refine r_top ev8 ?_
    refine lv_i2l C.1 C.2.1 dX9_multiplies_97 rfl ?_
    refine lv_lmul C.1 C.2.1 dX9_multiplies_98 ?_
    refine lv_ladd C.1 C.2.1 dX9_multiplies_99 ?_
    refine lv_ldc2 (v := lN 9973) C.1 C.2.1 C.2.2.2.1 (C.2.2.2.2.1 _ (List.mem_cons_of_mem _ tg_5_6)) dX9_multiplies_100 ?_
    refine r_lrem C dX9_multiplies_103 (by decide) ?_
    refine lv_l2i C.1 C.2.1 dX9_multiplies_104 rfl ?_
    obtain ⟨w9, hw9, hf⟩ := of_bind hf
    obtain ⟨bw9, ew9⟩ := of_stM hw9
    refine r_iast C hG (c0 := 11) (by decide) (entM_I (n := 6) rfl) bw9 (E' := (entM G B w9)) (by rw [ew9]; exact upM_I (n := 6) rfl) dX9_multiplies_105 (fun H locs hG => ?_)
    obtain ⟨v10, ev10, hf⟩ := of_letv hf
    refine lv_iinc (v := v10) (lv' := [(3, .int v10), (4, .int v3), (0, .ref (B + 0)), (1, .ref (B + x1)), (2, .int x2)]) C.1 C.2.1 dX9_multiplies_106 hl (k := 4) rfl (by rw [ev10, show Int32.ofInt (1) = nI 1 from by decide]) (by decide) rfl (fun ls hl => ?_)
    refine lv_goto (tgt := 35) C.1 C.2.1 dX9_multiplies_109 (by decide) ?_
    obtain rfl := Option.some.inj hf
    exact kL _ rfl _ _ _ hG (lv_sub hl [2, 3, 4, 0] rfl)
set_option maxRecDepth 100000 in
set_option maxHeartbeats 4000000 in
theorem kl_X9_multiplies_35 {x1 : Nat} {x2 : Int32} (C : CX p s m args meth c cX9_multiplies 5 RX9 wc_X9_multiplies none) (h1 : (KDm x1).1 = 10) : ∀ (n : Nat) (st : Int32 × Mem) (x : (Mem)) (H : Heap) (locs : List Loc) (ls : Array Slot), Gd s G A 28 B (entM G B st.2) X H locs → lv_has ls 5 [(0, .ref (B + 0)), (1, .ref (B + x1)), (2, .int x2), (3, .int st.1)] → lpw (sh_X9_multiplies_s35 x1 x2) n st = some x →
    (∀ y' : Mem, x = y' → ∀ (H : Heap) (locs : List Loc) (ls : Array Slot), Gd s G A 28 B (entM G B y') X H locs → lv_has ls 5 [(0, .ref (B + 0)), (1, .ref (B + x1)), (2, .int x2)] → W p l e rm_X9_multiplies s m args below meth c H locs 0 0 Q (F0 m 112 ls [])) → W p l e rm_X9_multiplies s m args below meth c H locs 0 0 Q (F0 m 35 ls []) := by
  intro n
  induction n with
  | zero =>
    intro st x H locs ls hG hl hf
    cases hf
  | succ n ih =>
    intro st x H locs ls hG hl hf kX0
    obtain ⟨r, hr, hh⟩ := of_lpw hf
    refine kb_X9_multiplies_35 C h1 hG hl hr (fun st2 e1 H locs ls hG hl => ?_) (fun y2 e1 H locs ls hG hl => ?_)
    · rcases hh with ⟨s3, e2, hh⟩ | e2
      · rw [e2] at e1
        cases e1
        exact ih _ _ _ _ _ hG hl hh kX0
      · rw [e2] at e1
        cases e1
    · rcases hh with ⟨s3, e2, hh⟩ | e2
      · rw [e2] at e1
        cases e1
      · rw [e2] at e1
        cases e1
        exact kX0 _ rfl _ _ _ hG hl
set_option maxRecDepth 100000 in
set_option maxHeartbeats 4000000 in
theorem kb_X9_multiplies_25 {x1 : Nat} {st : Int32 × Mem} {r : (Int32 × Mem) ⊕ ((Mem))} {H : Heap} {locs : List Loc} {ls : Array Slot} (C : CX p s m args meth c cX9_multiplies 5 RX9 wc_X9_multiplies none) (h1 : (KDm x1).1 = 10) (hG : Gd s G A 28 B (entM G B st.2) X H locs) (hl : lv_has ls 5 [(0, .ref (B + 0)), (1, .ref (B + x1)), (2, .int st.1)]) (hf : sh_X9_multiplies_s25 x1 st = some r)
    (kL : ∀ st' : Int32 × Mem, r = Sum.inl st' → ∀ (H : Heap) (locs : List Loc) (ls : Array Slot), Gd s G A 28 B (entM G B st'.2) X H locs → lv_has ls 5 [(0, .ref (B + 0)), (1, .ref (B + x1)), (2, .int st'.1)] → W p l e rm_X9_multiplies s m args below meth c H locs 0 0 Q (F0 m 25 ls []))
    (kX0 : ∀ y' : Mem, r = Sum.inr y' → ∀ (H : Heap) (locs : List Loc) (ls : Array Slot), Gd s G A 28 B (entM G B y') X H locs → lv_has ls 5 [(0, .ref (B + 0))] → W p l e rm_X9_multiplies s m args below meth c H locs 0 0 Q (F0 m 118 ls [])) :
    W p l e rm_X9_multiplies s m args below meth c H locs 0 0 Q (F0 m 25 ls []) := by
  refine lv_iload_n C.1 C.2.1 dX9_multiplies_25 rfl (lv_at hl 2 rfl) ?_
  refine lv_aload_n C.1 C.2.1 dX9_multiplies_26 rfl (lv_at hl 0 rfl) ?_
  refine gf_X9_117 C hG rfl dX9_multiplies_27 ?_
  rcases of_ite hf with ⟨c1, hf⟩ | ⟨c1, hf⟩
  · refine lv_icmp_ge (tgt := 118) C.1 C.2.1 dX9_multiplies_30 (by decide) (fun _ => ?_) (fun q => absurd c1 q)
    obtain rfl := Option.some.inj hf
    exact kX0 _ rfl _ _ _ hG (lv_sub hl [0] rfl)
  · refine lv_icmp_ge (tgt := 118) C.1 C.2.1 dX9_multiplies_30 (by decide) (fun q => absurd q c1) (fun _ => ?_)
    refine lv_iconst (v := nI 0) C.1 C.2.1 dX9_multiplies_33 (by decide) ?_
    refine lv_istore_n (lv' := [(3, .int (nI 0)), (0, .ref (B + 0)), (1, .ref (B + x1)), (2, .int st.1)]) C.1 C.2.1 dX9_multiplies_34 rfl hl (by decide) rfl (fun ls hl => ?_)
    obtain ⟨ex2, hex2, hf⟩ := of_bind hf
    refine kl_X9_multiplies_35 C h1 FU (nI 0, st.2) ex2 _ _ _ hG (lv_sub hl [1, 2, 3, 0] rfl) hex2 (fun y e0 H locs ls hG hl => ?_)
    subst e0
    obtain ⟨v3, ev3, hf⟩ := of_letv hf
    refine lv_iinc (v := v3) (lv' := [(2, .int v3), (0, .ref (B + 0)), (1, .ref (B + x1))]) C.1 C.2.1 dX9_multiplies_112 hl (k := 2) rfl (by rw [ev3, show Int32.ofInt (1) = nI 1 from by decide]) (by decide) rfl (fun ls hl => ?_)
    refine lv_goto (tgt := 25) C.1 C.2.1 dX9_multiplies_115 (by decide) ?_
    obtain rfl := Option.some.inj hf
    exact kL _ rfl _ _ _ hG (lv_sub hl [1, 2, 0] rfl)
set_option maxRecDepth 100000 in
set_option maxHeartbeats 4000000 in
theorem kl_X9_multiplies_25 {x1 : Nat} (C : CX p s m args meth c cX9_multiplies 5 RX9 wc_X9_multiplies none) (h1 : (KDm x1).1 = 10) : ∀ (n : Nat) (st : Int32 × Mem) (x : (Mem)) (H : Heap) (locs : List Loc) (ls : Array Slot), Gd s G A 28 B (entM G B st.2) X H locs → lv_has ls 5 [(0, .ref (B + 0)), (1, .ref (B + x1)), (2, .int st.1)] → lpw (sh_X9_multiplies_s25 x1) n st = some x →
    (∀ y' : Mem, x = y' → ∀ (H : Heap) (locs : List Loc) (ls : Array Slot), Gd s G A 28 B (entM G B y') X H locs → lv_has ls 5 [(0, .ref (B + 0))] → W p l e rm_X9_multiplies s m args below meth c H locs 0 0 Q (F0 m 118 ls [])) → W p l e rm_X9_multiplies s m args below meth c H locs 0 0 Q (F0 m 25 ls []) := by
  intro n
  induction n with
  | zero =>
    intro st x H locs ls hG hl hf
    cases hf
  | succ n ih =>
    intro st x H locs ls hG hl hf kX0
    obtain ⟨r, hr, hh⟩ := of_lpw hf
    refine kb_X9_multiplies_25 C h1 hG hl hr (fun st2 e1 H locs ls hG hl => ?_) (fun y2 e1 H locs ls hG hl => ?_)
    · rcases hh with ⟨s3, e2, hh⟩ | e2
      · rw [e2] at e1
        cases e1
        exact ih _ _ _ _ _ hG hl hh kX0
      · rw [e2] at e1
        cases e1
    · rcases hh with ⟨s3, e2, hh⟩ | e2
      · rw [e2] at e1
        cases e1
      · rw [e2] at e1
        cases e1
        exact kX0 _ rfl _ _ _ hG hl
set_option maxRecDepth 100000 in
set_option maxHeartbeats 4000000 in
theorem kb_X9_multiplies_120  {st : Int32 × Mem} {r : (Int32 × Mem) ⊕ ((Mem))} {H : Heap} {locs : List Loc} {ls : Array Slot} (C : CX p s m args meth c cX9_multiplies 5 RX9 wc_X9_multiplies none)  (hG : Gd s G A 28 B (entM G B st.2) X H locs) (hl : lv_has ls 5 [(0, .ref (B + 0)), (2, .int st.1)]) (hf : sh_X9_multiplies_s120  st = some r)
    (kL : ∀ st' : Int32 × Mem, r = Sum.inl st' → ∀ (H : Heap) (locs : List Loc) (ls : Array Slot), Gd s G A 28 B (entM G B st'.2) X H locs → lv_has ls 5 [(0, .ref (B + 0)), (2, .int st'.1)] → W p l e rm_X9_multiplies s m args below meth c H locs 0 0 Q (F0 m 120 ls []))
    (kX0 : ∀ y' : Mem, r = Sum.inr y' → ∀ (H : Heap) (locs : List Loc) (ls : Array Slot), Gd s G A 28 B (entM G B y') X H locs → lv_has ls 5 [] → W p l e rm_X9_multiplies s m args below meth c H locs 0 0 Q (F0 m 146 ls [])) :
    W p l e rm_X9_multiplies s m args below meth c H locs 0 0 Q (F0 m 120 ls []) := by
  refine lv_iload_n C.1 C.2.1 dX9_multiplies_120 rfl (lv_at hl 1 rfl) ?_
  refine lv_aload_n C.1 C.2.1 dX9_multiplies_121 rfl (lv_at hl 0 rfl) ?_
  refine gf_X9_117 C hG rfl dX9_multiplies_122 ?_
  rcases of_ite hf with ⟨c1, hf⟩ | ⟨c1, hf⟩
  · refine lv_icmp_ge (tgt := 146) C.1 C.2.1 dX9_multiplies_125 (by decide) (fun _ => ?_) (fun q => absurd c1 q)
    obtain rfl := Option.some.inj hf
    exact kX0 _ rfl _ _ _ hG (lv_sub hl [] rfl)
  · refine lv_icmp_ge (tgt := 146) C.1 C.2.1 dX9_multiplies_125 (by decide) (fun q => absurd q c1) (fun _ => ?_)
    refine lv_aload_n C.1 C.2.1 dX9_multiplies_128 rfl (lv_at hl 0 rfl) ?_
    refine gf_X9_39 C hG rfl dX9_multiplies_129 ?_
    refine lv_iload_n C.1 C.2.1 dX9_multiplies_132 rfl (lv_at hl 1 rfl) ?_
    refine lv_aload_n C.1 C.2.1 dX9_multiplies_133 rfl (lv_at hl 0 rfl) ?_
    refine gf_X9_42 C hG rfl dX9_multiplies_134 ?_
    refine lv_iload_n C.1 C.2.1 dX9_multiplies_137 rfl (lv_at hl 1 rfl) ?_
    obtain ⟨v2, hv2, hf⟩ := of_bind hf
    obtain ⟨bv2, ev2⟩ := of_ldS hv2
    refine r_iald C hG (c0 := 11) (by decide) (entM_I (n := 6) rfl) bv2 dX9_multiplies_138 ?_
    refine r_top ev2 ?_
    obtain ⟨w3, hw3, hf⟩ := of_bind hf
    obtain ⟨bw3, ew3⟩ := of_stM hw3
    refine r_iast C hG (c0 := 10) (by decide) (entM_I (n := 6) rfl) bw3 (E' := (entM G B w3)) (by rw [ew3]; exact upM_I (n := 6) rfl) dX9_multiplies_139 (fun H locs hG => ?_)
    obtain ⟨v4, ev4, hf⟩ := of_letv hf
    refine lv_iinc (v := v4) (lv' := [(2, .int v4), (0, .ref (B + 0))]) C.1 C.2.1 dX9_multiplies_140 hl (k := 1) rfl (by rw [ev4, show Int32.ofInt (1) = nI 1 from by decide]) (by decide) rfl (fun ls hl => ?_)
    refine lv_goto (tgt := 120) C.1 C.2.1 dX9_multiplies_143 (by decide) ?_
    obtain rfl := Option.some.inj hf
    exact kL _ rfl _ _ _ hG (lv_sub hl [1, 0] rfl)
set_option maxRecDepth 100000 in
set_option maxHeartbeats 4000000 in
theorem kl_X9_multiplies_120  (C : CX p s m args meth c cX9_multiplies 5 RX9 wc_X9_multiplies none)  : ∀ (n : Nat) (st : Int32 × Mem) (x : (Mem)) (H : Heap) (locs : List Loc) (ls : Array Slot), Gd s G A 28 B (entM G B st.2) X H locs → lv_has ls 5 [(0, .ref (B + 0)), (2, .int st.1)] → lpw (sh_X9_multiplies_s120 ) n st = some x →
    (∀ y' : Mem, x = y' → ∀ (H : Heap) (locs : List Loc) (ls : Array Slot), Gd s G A 28 B (entM G B y') X H locs → lv_has ls 5 [] → W p l e rm_X9_multiplies s m args below meth c H locs 0 0 Q (F0 m 146 ls [])) → W p l e rm_X9_multiplies s m args below meth c H locs 0 0 Q (F0 m 120 ls []) := by
  intro n
  induction n with
  | zero =>
    intro st x H locs ls hG hl hf
    cases hf
  | succ n ih =>
    intro st x H locs ls hG hl hf kX0
    obtain ⟨r, hr, hh⟩ := of_lpw hf
    refine kb_X9_multiplies_120 C  hG hl hr (fun st2 e1 H locs ls hG hl => ?_) (fun y2 e1 H locs ls hG hl => ?_)
    · rcases hh with ⟨s3, e2, hh⟩ | e2
      · rw [e2] at e1
        cases e1
        exact ih _ _ _ _ _ hG hl hh kX0
      · rw [e2] at e1
        cases e1
    · rcases hh with ⟨s3, e2, hh⟩ | e2
      · rw [e2] at e1
        cases e1
      · rw [e2] at e1
        cases e1
        exact kX0 _ rfl _ _ _ hG hl
set_option maxRecDepth 100000 in
set_option maxHeartbeats 4000000 in
theorem kb_X9_multiplies_0 {x1 : Nat} {w : Mem} {out : Mem} {H : Heap} {locs : List Loc} {ls : Array Slot} (C : CX p s m args meth c cX9_multiplies 5 RX9 wc_X9_multiplies none) (h1 : (KDm x1).1 = 10) (hG : Gd s G A 28 B (entM G B w) X H locs) (hl : lv_has ls 5 [(0, .ref (B + 0)), (1, .ref (B + x1))]) (hf : sh_X9_multiplies x1 w = some out) :
    W p l e rm_X9_multiplies s m args below meth c H locs 0 0 (MQ below (CPost G A 28 B (entM G B out) X none) args s 0 0 A) (F0 m 0 ls []) := by
  refine lv_iconst (v := nI 0) C.1 C.2.1 dX9_multiplies_0 (by decide) ?_
  refine lv_istore_n (lv' := [(2, .int (nI 0)), (0, .ref (B + 0)), (1, .ref (B + x1))]) C.1 C.2.1 dX9_multiplies_1 rfl hl (by decide) rfl (fun ls hl => ?_)
  obtain ⟨ex1, hex1, hf⟩ := of_bind hf
  refine kl_X9_multiplies_2 C h1 FU (nI 0, w) ex1 _ _ _ hG (lv_sub hl [1, 2, 0] rfl) hex1 (fun y e0 H locs ls hG hl => ?_)
  subst e0
  refine lv_iconst (v := nI 0) C.1 C.2.1 dX9_multiplies_23 (by decide) ?_
  refine lv_istore_n (lv' := [(2, .int (nI 0)), (0, .ref (B + 0)), (1, .ref (B + x1))]) C.1 C.2.1 dX9_multiplies_24 rfl hl (by decide) rfl (fun ls hl => ?_)
  obtain ⟨ex2, hex2, hf⟩ := of_bind hf
  refine kl_X9_multiplies_25 C h1 FU (nI 0, ex1) ex2 _ _ _ hG (lv_sub hl [1, 2, 0] rfl) hex2 (fun y e0 H locs ls hG hl => ?_)
  subst e0
  refine lv_iconst (v := nI 0) C.1 C.2.1 dX9_multiplies_118 (by decide) ?_
  refine lv_istore_n (lv' := [(2, .int (nI 0)), (0, .ref (B + 0))]) C.1 C.2.1 dX9_multiplies_119 rfl hl (by decide) rfl (fun ls hl => ?_)
  obtain ⟨ex3, hex3, hf⟩ := of_bind hf
  refine kl_X9_multiplies_120 C  FU (nI 0, ex2) ex3 _ _ _ hG (lv_sub hl [1, 0] rfl) hex3 (fun y e0 H locs ls hG hl => ?_)
  subst e0
  obtain rfl := Option.some.inj hf
  exact r_vret C hG dX9_multiplies_146
set_option maxRecDepth 100000 in
set_option maxHeartbeats 4000000 in
theorem mt_X9_multiplies (l : Launch) {G : GG} {A : Nat → Prop} {B : Nat} {X : va_W} {x1 : Nat} {w : Mem} {out : Mem} (h1 : (KDm x1).1 = 10) (hf : sh_X9_multiplies x1 w = some out) : MetW l yX9_multiplies wc_X9_multiplies rm_X9_multiplies G A 28 B (entM G B w) X [.ref (B + 0), .ref (B + x1)] none (entM G B out) := by
  refine Met.ofW (cc := cX9_multiplies) (maxL := 5) (ret := none) (by decide) rfl ?_
  intro p e s m args below meth c s₁ B0 hml hv
  obtain ⟨rfl, hEv, hWd⟩ := hv
  have C : CX p s m _ meth c cX9_multiplies 5 RX9 wc_X9_multiplies none := ⟨B0.exec, B0.bytes, hml, findClass_of_methodNamed B0.named, atoms_spec (ws := wc_X9_multiplies) B0.pre, B0.returns, B0.notSynchronized⟩
  have hl := lv_entry [.ref (B + 0), .ref (B + x1)] (n := 5) (Nat.le_of_ble_eq_true rfl)
  rw [lg_entry_eq]
  generalize (lg_sl [.ref (B + 0), .ref (B + x1)] ++ List.replicate (5 - (lg_sl [.ref (B + 0), .ref (B + x1)]).length) Slot.unset).toArray = ls at hl ⊢
  have hl : lv_has ls 5 [(0, .ref (B + 0)), (1, .ref (B + x1))] := hl
  exact kb_X9_multiplies_0 C h1 ⟨hEv, hWd, va_S.rf⟩ hl hf
abbrev wc_X9_closedBy : List Cond := Cond.code yX9_closedBy cX9_closedBy 5 (some .int) :: TG
abbrev rm_X9_closedBy : Room := { frames := 4, cells := 0, slots := 0, locals := 146 }
theorem cd_X9_closedBy : yX9_closedBy.cls = RX9 ∧ yX9_closedBy.cls ≠ "java/lang/invoke/MethodHandle" ∧ yX9_closedBy.cls ≠ "java/lang/invoke/VarHandle" ∧ (parseMethodDescriptor yX9_closedBy.desc).map (fun d => d.parameters.length) = some 2 := by decide +kernel
theorem dX9_closedBy_0 : decode cX9_closedBy 0 = .ok (.iconst 0, 1) := by decide +kernel
theorem dX9_closedBy_1 : decode cX9_closedBy 1 = .ok (.istore_n 3, 1) := by decide +kernel
theorem dX9_closedBy_2 : decode cX9_closedBy 2 = .ok (.iload_n 3, 1) := by decide +kernel
theorem dX9_closedBy_3 : decode cX9_closedBy 3 = .ok (.aload_n 0, 1) := by decide +kernel
theorem dX9_closedBy_4 : decode cX9_closedBy 4 = .ok (.getfield 117, 3) := by decide +kernel
theorem dX9_closedBy_7 : decode cX9_closedBy 7 = .ok (.if_icmp .ge 21, 3) := by decide +kernel
theorem dX9_closedBy_10 : decode cX9_closedBy 10 = .ok (.aload_n 0, 1) := by decide +kernel
theorem dX9_closedBy_11 : decode cX9_closedBy 11 = .ok (.getfield 39, 3) := by decide +kernel
theorem dX9_closedBy_14 : decode cX9_closedBy 14 = .ok (.iload_n 3, 1) := by decide +kernel
theorem dX9_closedBy_15 : decode cX9_closedBy 15 = .ok (.aload_n 0, 1) := by decide +kernel
theorem dX9_closedBy_16 : decode cX9_closedBy 16 = .ok (.getfield 27, 3) := by decide +kernel
theorem dX9_closedBy_19 : decode cX9_closedBy 19 = .ok (.iload_n 3, 1) := by decide +kernel
theorem dX9_closedBy_20 : decode cX9_closedBy 20 = .ok (.iaload, 1) := by decide +kernel
theorem dX9_closedBy_21 : decode cX9_closedBy 21 = .ok (.iastore, 1) := by decide +kernel
theorem dX9_closedBy_22 : decode cX9_closedBy 22 = .ok (.iinc 3 1, 3) := by decide +kernel
theorem dX9_closedBy_25 : decode cX9_closedBy 25 = .ok (.goto (-23), 3) := by decide +kernel
theorem dX9_closedBy_28 : decode cX9_closedBy 28 = .ok (.iconst 0, 1) := by decide +kernel
theorem dX9_closedBy_29 : decode cX9_closedBy 29 = .ok (.istore_n 3, 1) := by decide +kernel
theorem dX9_closedBy_30 : decode cX9_closedBy 30 = .ok (.iload_n 3, 1) := by decide +kernel
theorem dX9_closedBy_31 : decode cX9_closedBy 31 = .ok (.iload_n 1, 1) := by decide +kernel
theorem dX9_closedBy_32 : decode cX9_closedBy 32 = .ok (.iload_n 2, 1) := by decide +kernel
theorem dX9_closedBy_33 : decode cX9_closedBy 33 = .ok (.iadd, 1) := by decide +kernel
theorem dX9_closedBy_34 : decode cX9_closedBy 34 = .ok (.if_icmp .ge 29, 3) := by decide +kernel
theorem dX9_closedBy_37 : decode cX9_closedBy 37 = .ok (.aload_n 0, 1) := by decide +kernel
theorem dX9_closedBy_38 : decode cX9_closedBy 38 = .ok (.iload_n 3, 1) := by decide +kernel
theorem dX9_closedBy_39 : decode cX9_closedBy 39 = .ok (.iload_n 1, 1) := by decide +kernel
theorem dX9_closedBy_40 : decode cX9_closedBy 40 = .ok (.if_icmp .ge 10, 3) := by decide +kernel
theorem dX9_closedBy_43 : decode cX9_closedBy 43 = .ok (.aload_n 0, 1) := by decide +kernel
theorem dX9_closedBy_44 : decode cX9_closedBy 44 = .ok (.getfield 33, 3) := by decide +kernel
theorem dX9_closedBy_47 : decode cX9_closedBy 47 = .ok (.goto 7, 3) := by decide +kernel
theorem dX9_closedBy_50 : decode cX9_closedBy 50 = .ok (.aload_n 0, 1) := by decide +kernel
theorem dX9_closedBy_51 : decode cX9_closedBy 51 = .ok (.getfield 36, 3) := by decide +kernel
theorem dX9_closedBy_54 : decode cX9_closedBy 54 = .ok (.invokevirtual 161, 3) := by decide +kernel
theorem dX9_closedBy_57 : decode cX9_closedBy 57 = .ok (.iinc 3 1, 3) := by decide +kernel
theorem dX9_closedBy_60 : decode cX9_closedBy 60 = .ok (.goto (-30), 3) := by decide +kernel
theorem dX9_closedBy_63 : decode cX9_closedBy 63 = .ok (.iconst 0, 1) := by decide +kernel
theorem dX9_closedBy_64 : decode cX9_closedBy 64 = .ok (.istore_n 3, 1) := by decide +kernel
theorem dX9_closedBy_65 : decode cX9_closedBy 65 = .ok (.iconst 0, 1) := by decide +kernel
theorem dX9_closedBy_66 : decode cX9_closedBy 66 = .ok (.istore 4, 2) := by decide +kernel
theorem dX9_closedBy_68 : decode cX9_closedBy 68 = .ok (.iload 4, 2) := by decide +kernel
theorem dX9_closedBy_70 : decode cX9_closedBy 70 = .ok (.aload_n 0, 1) := by decide +kernel
theorem dX9_closedBy_71 : decode cX9_closedBy 71 = .ok (.getfield 117, 3) := by decide +kernel
theorem dX9_closedBy_74 : decode cX9_closedBy 74 = .ok (.if_icmp .ge 31, 3) := by decide +kernel
theorem dX9_closedBy_77 : decode cX9_closedBy 77 = .ok (.iload_n 3, 1) := by decide +kernel
theorem dX9_closedBy_78 : decode cX9_closedBy 78 = .ok (.aload_n 0, 1) := by decide +kernel
theorem dX9_closedBy_79 : decode cX9_closedBy 79 = .ok (.getfield 39, 3) := by decide +kernel
theorem dX9_closedBy_82 : decode cX9_closedBy 82 = .ok (.iload 4, 2) := by decide +kernel
theorem dX9_closedBy_84 : decode cX9_closedBy 84 = .ok (.iaload, 1) := by decide +kernel
theorem dX9_closedBy_85 : decode cX9_closedBy 85 = .ok (.aload_n 0, 1) := by decide +kernel
theorem dX9_closedBy_86 : decode cX9_closedBy 86 = .ok (.getfield 24, 3) := by decide +kernel
theorem dX9_closedBy_89 : decode cX9_closedBy 89 = .ok (.iload 4, 2) := by decide +kernel
theorem dX9_closedBy_91 : decode cX9_closedBy 91 = .ok (.iaload, 1) := by decide +kernel
theorem dX9_closedBy_92 : decode cX9_closedBy 92 = .ok (.imul, 1) := by decide +kernel
theorem dX9_closedBy_93 : decode cX9_closedBy 93 = .ok (.iadd, 1) := by decide +kernel
theorem dX9_closedBy_94 : decode cX9_closedBy 94 = .ok (.sipush 9973, 3) := by decide +kernel
theorem dX9_closedBy_97 : decode cX9_closedBy 97 = .ok (.irem, 1) := by decide +kernel
theorem dX9_closedBy_98 : decode cX9_closedBy 98 = .ok (.istore_n 3, 1) := by decide +kernel
theorem dX9_closedBy_99 : decode cX9_closedBy 99 = .ok (.iinc 4 1, 3) := by decide +kernel
theorem dX9_closedBy_102 : decode cX9_closedBy 102 = .ok (.goto (-34), 3) := by decide +kernel
theorem dX9_closedBy_105 : decode cX9_closedBy 105 = .ok (.iload_n 3, 1) := by decide +kernel
theorem dX9_closedBy_106 : decode cX9_closedBy 106 = .ok (.ireturn, 1) := by decide +kernel
set_option maxRecDepth 100000 in
set_option maxHeartbeats 4000000 in
theorem kb_X9_closedBy_2 {x1 : Int32} {x2 : Int32} {st : Int32 × Mem} {r : (Int32 × Mem) ⊕ ((Mem))} {H : Heap} {locs : List Loc} {ls : Array Slot} (C : CX p s m args meth c cX9_closedBy 5 RX9 wc_X9_closedBy (some .int))  (hG : Gd s G A 28 B (entM G B st.2) X H locs) (hl : lv_has ls 5 [(0, .ref (B + 0)), (1, .int x1), (2, .int x2), (3, .int st.1)]) (hf : sh_X9_closedBy_s2 x1 x2 st = some r)
    (kL : ∀ st' : Int32 × Mem, r = Sum.inl st' → ∀ (H : Heap) (locs : List Loc) (ls : Array Slot), Gd s G A 28 B (entM G B st'.2) X H locs → lv_has ls 5 [(0, .ref (B + 0)), (1, .int x1), (2, .int x2), (3, .int st'.1)] → W p l e rm_X9_closedBy s m args below meth c H locs 0 0 Q (F0 m 2 ls []))
    (kX0 : ∀ y' : Mem, r = Sum.inr y' → ∀ (H : Heap) (locs : List Loc) (ls : Array Slot), Gd s G A 28 B (entM G B y') X H locs → lv_has ls 5 [(0, .ref (B + 0)), (1, .int x1), (2, .int x2)] → W p l e rm_X9_closedBy s m args below meth c H locs 0 0 Q (F0 m 28 ls [])) :
    W p l e rm_X9_closedBy s m args below meth c H locs 0 0 Q (F0 m 2 ls []) := by
  refine lv_iload_n C.1 C.2.1 dX9_closedBy_2 rfl (lv_at hl 3 rfl) ?_
  refine lv_aload_n C.1 C.2.1 dX9_closedBy_3 rfl (lv_at hl 0 rfl) ?_
  refine gf_X9_117 C hG rfl dX9_closedBy_4 ?_
  rcases of_ite hf with ⟨c1, hf⟩ | ⟨c1, hf⟩
  · refine lv_icmp_ge (tgt := 28) C.1 C.2.1 dX9_closedBy_7 (by decide) (fun _ => ?_) (fun q => absurd c1 q)
    obtain rfl := Option.some.inj hf
    exact kX0 _ rfl _ _ _ hG (lv_sub hl [0, 1, 2] rfl)
  · refine lv_icmp_ge (tgt := 28) C.1 C.2.1 dX9_closedBy_7 (by decide) (fun q => absurd q c1) (fun _ => ?_)
    refine lv_aload_n C.1 C.2.1 dX9_closedBy_10 rfl (lv_at hl 0 rfl) ?_
    refine gf_X9_39 C hG rfl dX9_closedBy_11 ?_
    refine lv_iload_n C.1 C.2.1 dX9_closedBy_14 rfl (lv_at hl 3 rfl) ?_
    refine lv_aload_n C.1 C.2.1 dX9_closedBy_15 rfl (lv_at hl 0 rfl) ?_
    refine gf_X9_27 C hG rfl dX9_closedBy_16 ?_
    refine lv_iload_n C.1 C.2.1 dX9_closedBy_19 rfl (lv_at hl 3 rfl) ?_
    obtain ⟨v2, hv2, hf⟩ := of_bind hf
    obtain ⟨bv2, ev2⟩ := of_ldS hv2
    refine r_iald C hG (c0 := 6) (by decide) (entM_I (n := 6) rfl) bv2 dX9_closedBy_20 ?_
    refine r_top ev2 ?_
    obtain ⟨w3, hw3, hf⟩ := of_bind hf
    obtain ⟨bw3, ew3⟩ := of_stM hw3
    refine r_iast C hG (c0 := 10) (by decide) (entM_I (n := 6) rfl) bw3 (E' := (entM G B w3)) (by rw [ew3]; exact upM_I (n := 6) rfl) dX9_closedBy_21 (fun H locs hG => ?_)
    obtain ⟨v4, ev4, hf⟩ := of_letv hf
    refine lv_iinc (v := v4) (lv' := [(3, .int v4), (0, .ref (B + 0)), (1, .int x1), (2, .int x2)]) C.1 C.2.1 dX9_closedBy_22 hl (k := 3) rfl (by rw [ev4, show Int32.ofInt (1) = nI 1 from by decide]) (by decide) rfl (fun ls hl => ?_)
    refine lv_goto (tgt := 2) C.1 C.2.1 dX9_closedBy_25 (by decide) ?_
    obtain rfl := Option.some.inj hf
    exact kL _ rfl _ _ _ hG (lv_sub hl [1, 2, 3, 0] rfl)
set_option maxRecDepth 100000 in
set_option maxHeartbeats 4000000 in
theorem kl_X9_closedBy_2 {x1 : Int32} {x2 : Int32} (C : CX p s m args meth c cX9_closedBy 5 RX9 wc_X9_closedBy (some .int))  : ∀ (n : Nat) (st : Int32 × Mem) (x : (Mem)) (H : Heap) (locs : List Loc) (ls : Array Slot), Gd s G A 28 B (entM G B st.2) X H locs → lv_has ls 5 [(0, .ref (B + 0)), (1, .int x1), (2, .int x2), (3, .int st.1)] → lpw (sh_X9_closedBy_s2 x1 x2) n st = some x →
    (∀ y' : Mem, x = y' → ∀ (H : Heap) (locs : List Loc) (ls : Array Slot), Gd s G A 28 B (entM G B y') X H locs → lv_has ls 5 [(0, .ref (B + 0)), (1, .int x1), (2, .int x2)] → W p l e rm_X9_closedBy s m args below meth c H locs 0 0 Q (F0 m 28 ls [])) → W p l e rm_X9_closedBy s m args below meth c H locs 0 0 Q (F0 m 2 ls []) := by
  intro n
  induction n with
  | zero =>
    intro st x H locs ls hG hl hf
    cases hf
  | succ n ih =>
    intro st x H locs ls hG hl hf kX0
    obtain ⟨r, hr, hh⟩ := of_lpw hf
    refine kb_X9_closedBy_2 C  hG hl hr (fun st2 e1 H locs ls hG hl => ?_) (fun y2 e1 H locs ls hG hl => ?_)
    · rcases hh with ⟨s3, e2, hh⟩ | e2
      · rw [e2] at e1
        cases e1
        exact ih _ _ _ _ _ hG hl hh kX0
      · rw [e2] at e1
        cases e1
    · rcases hh with ⟨s3, e2, hh⟩ | e2
      · rw [e2] at e1
        cases e1
      · rw [e2] at e1
        cases e1
        exact kX0 _ rfl _ _ _ hG hl
set_option maxRecDepth 100000 in
set_option maxHeartbeats 4000000 in
theorem kb_X9_closedBy_54 {x1 : Int32} {x2 : Int32} {x3 : Int32} {s1 : Nat} {w : Mem} {r : (Int32 × Mem) ⊕ ((Mem))} {H : Heap} {locs : List Loc} {ls : Array Slot} (C : CX p s m args meth c cX9_closedBy 5 RX9 wc_X9_closedBy (some .int)) (hs1 : KDm s1 = (10, 6)) (hG : Gd s G A 28 B (entM G B w) X H locs) (hl : lv_has ls 5 [(0, .ref (B + 0)), (1, .int x1), (2, .int x2), (3, .int x3)]) (hf : sh_X9_closedBy_j54 x1 x2 x3 s1 w = some r)
    (kL : ∀ st' : Int32 × Mem, r = Sum.inl st' → ∀ (H : Heap) (locs : List Loc) (ls : Array Slot), Gd s G A 28 B (entM G B st'.2) X H locs → lv_has ls 5 [(0, .ref (B + 0)), (1, .int x1), (2, .int x2), (3, .int st'.1)] → W p l e rm_X9_closedBy s m args below meth c H locs 0 0 Q (F0 m 30 ls []))
    (kX0 : ∀ y' : Mem, r = Sum.inr y' → ∀ (H : Heap) (locs : List Loc) (ls : Array Slot), Gd s G A 28 B (entM G B y') X H locs → lv_has ls 5 [(0, .ref (B + 0))] → W p l e rm_X9_closedBy s m args below meth c H locs 0 0 Q (F0 m 63 ls [])) :
    W p l e rm_X9_closedBy s m args below meth c H locs 0 0 Q (F0 m 54 ls [.ref (B + s1), .ref (B + 0)]) := by
  obtain ⟨w1, hw1, hf⟩ := of_bind hf
  refine r_callV0 C hG hl.1 (c0 := 0) (As := [.ref (B + s1)]) (by decide) (entM_O (n := 35) rfl) rfl (mt_X9_multiplies l (congrArg Prod.fst hs1) hw1) (cwV 1 C.2.2.2.2.1 (gd_V tg_5_43 tg_5_45 tgp_37 tg_1_10 tg_5_46) rfl rfl rfl cd_X9_multiplies ⟨Nat.le_of_ble_eq_true rfl, Nat.le_of_ble_eq_true rfl⟩) rfl rfl (Nat.le_of_ble_eq_true rfl) dX9_closedBy_54 (fun H locs hG => ?_)
  obtain ⟨v2, ev2, hf⟩ := of_letv hf
  refine lv_iinc (v := v2) (lv' := [(3, .int v2), (0, .ref (B + 0)), (1, .int x1), (2, .int x2)]) C.1 C.2.1 dX9_closedBy_57 hl (k := 3) rfl (by rw [ev2, show Int32.ofInt (1) = nI 1 from by decide]) (by decide) rfl (fun ls hl => ?_)
  refine lv_goto (tgt := 30) C.1 C.2.1 dX9_closedBy_60 (by decide) ?_
  obtain rfl := Option.some.inj hf
  exact kL _ rfl _ _ _ hG (lv_sub hl [1, 2, 3, 0] rfl)
set_option maxRecDepth 100000 in
set_option maxHeartbeats 4000000 in
theorem kb_X9_closedBy_30 {x1 : Int32} {x2 : Int32} {st : Int32 × Mem} {r : (Int32 × Mem) ⊕ ((Mem))} {H : Heap} {locs : List Loc} {ls : Array Slot} (C : CX p s m args meth c cX9_closedBy 5 RX9 wc_X9_closedBy (some .int))  (hG : Gd s G A 28 B (entM G B st.2) X H locs) (hl : lv_has ls 5 [(0, .ref (B + 0)), (1, .int x1), (2, .int x2), (3, .int st.1)]) (hf : sh_X9_closedBy_s30 x1 x2 st = some r)
    (kL : ∀ st' : Int32 × Mem, r = Sum.inl st' → ∀ (H : Heap) (locs : List Loc) (ls : Array Slot), Gd s G A 28 B (entM G B st'.2) X H locs → lv_has ls 5 [(0, .ref (B + 0)), (1, .int x1), (2, .int x2), (3, .int st'.1)] → W p l e rm_X9_closedBy s m args below meth c H locs 0 0 Q (F0 m 30 ls []))
    (kX0 : ∀ y' : Mem, r = Sum.inr y' → ∀ (H : Heap) (locs : List Loc) (ls : Array Slot), Gd s G A 28 B (entM G B y') X H locs → lv_has ls 5 [(0, .ref (B + 0))] → W p l e rm_X9_closedBy s m args below meth c H locs 0 0 Q (F0 m 63 ls [])) :
    W p l e rm_X9_closedBy s m args below meth c H locs 0 0 Q (F0 m 30 ls []) := by
  refine lv_iload_n C.1 C.2.1 dX9_closedBy_30 rfl (lv_at hl 3 rfl) ?_
  refine lv_iload_n C.1 C.2.1 dX9_closedBy_31 rfl (lv_at hl 1 rfl) ?_
  refine lv_iload_n C.1 C.2.1 dX9_closedBy_32 rfl (lv_at hl 2 rfl) ?_
  refine lv_iadd C.1 C.2.1 dX9_closedBy_33 ?_
  rcases of_ite hf with ⟨c1, hf⟩ | ⟨c1, hf⟩
  · refine lv_icmp_ge (tgt := 63) C.1 C.2.1 dX9_closedBy_34 (by decide) (fun _ => ?_) (fun q => absurd c1 q)
    obtain rfl := Option.some.inj hf
    exact kX0 _ rfl _ _ _ hG (lv_sub hl [0] rfl)
  · refine lv_icmp_ge (tgt := 63) C.1 C.2.1 dX9_closedBy_34 (by decide) (fun q => absurd q c1) (fun _ => ?_)
    refine lv_aload_n C.1 C.2.1 dX9_closedBy_37 rfl (lv_at hl 0 rfl) ?_
    refine lv_iload_n C.1 C.2.1 dX9_closedBy_38 rfl (lv_at hl 3 rfl) ?_
    refine lv_iload_n C.1 C.2.1 dX9_closedBy_39 rfl (lv_at hl 1 rfl) ?_
    rcases of_ite hf with ⟨c2, hf⟩ | ⟨c2, hf⟩
    · refine lv_icmp_ge (tgt := 50) C.1 C.2.1 dX9_closedBy_40 (by decide) (fun _ => ?_) (fun q => absurd c2 q)
      refine lv_aload_n C.1 C.2.1 dX9_closedBy_50 rfl (lv_at hl 0 rfl) ?_
      refine gf_X9_36 C hG rfl dX9_closedBy_51 ?_
      exact kb_X9_closedBy_54 C rfl hG hl hf kL kX0
    · refine lv_icmp_ge (tgt := 50) C.1 C.2.1 dX9_closedBy_40 (by decide) (fun q => absurd q c2) (fun _ => ?_)
      refine lv_aload_n C.1 C.2.1 dX9_closedBy_43 rfl (lv_at hl 0 rfl) ?_
      refine gf_X9_33 C hG rfl dX9_closedBy_44 ?_
      refine lv_goto (tgt := 54) C.1 C.2.1 dX9_closedBy_47 (by decide) ?_
      exact kb_X9_closedBy_54 C rfl hG hl hf kL kX0
set_option maxRecDepth 100000 in
set_option maxHeartbeats 4000000 in
theorem kl_X9_closedBy_30 {x1 : Int32} {x2 : Int32} (C : CX p s m args meth c cX9_closedBy 5 RX9 wc_X9_closedBy (some .int))  : ∀ (n : Nat) (st : Int32 × Mem) (x : (Mem)) (H : Heap) (locs : List Loc) (ls : Array Slot), Gd s G A 28 B (entM G B st.2) X H locs → lv_has ls 5 [(0, .ref (B + 0)), (1, .int x1), (2, .int x2), (3, .int st.1)] → lpw (sh_X9_closedBy_s30 x1 x2) n st = some x →
    (∀ y' : Mem, x = y' → ∀ (H : Heap) (locs : List Loc) (ls : Array Slot), Gd s G A 28 B (entM G B y') X H locs → lv_has ls 5 [(0, .ref (B + 0))] → W p l e rm_X9_closedBy s m args below meth c H locs 0 0 Q (F0 m 63 ls [])) → W p l e rm_X9_closedBy s m args below meth c H locs 0 0 Q (F0 m 30 ls []) := by
  intro n
  induction n with
  | zero =>
    intro st x H locs ls hG hl hf
    cases hf
  | succ n ih =>
    intro st x H locs ls hG hl hf kX0
    obtain ⟨r, hr, hh⟩ := of_lpw hf
    refine kb_X9_closedBy_30 C  hG hl hr (fun st2 e1 H locs ls hG hl => ?_) (fun y2 e1 H locs ls hG hl => ?_)
    · rcases hh with ⟨s3, e2, hh⟩ | e2
      · rw [e2] at e1
        cases e1
        exact ih _ _ _ _ _ hG hl hh kX0
      · rw [e2] at e1
        cases e1
    · rcases hh with ⟨s3, e2, hh⟩ | e2
      · rw [e2] at e1
        cases e1
      · rw [e2] at e1
        cases e1
        exact kX0 _ rfl _ _ _ hG hl
set_option maxRecDepth 100000 in
set_option maxHeartbeats 4000000 in
theorem kb_X9_closedBy_68 {w : Mem} {st : Int32 × Int32} {r : (Int32 × Int32) ⊕ ((Int32))} {H : Heap} {locs : List Loc} {ls : Array Slot} (C : CX p s m args meth c cX9_closedBy 5 RX9 wc_X9_closedBy (some .int))  (hG : Gd s G A 28 B (entM G B w) X H locs) (hl : lv_has ls 5 [(0, .ref (B + 0)), (3, .int st.1), (4, .int st.2)]) (hf : sh_X9_closedBy_s68 w st = some r)
    (kL : ∀ st' : Int32 × Int32, r = Sum.inl st' → ∀ (H : Heap) (locs : List Loc) (ls : Array Slot), Gd s G A 28 B (entM G B w) X H locs → lv_has ls 5 [(0, .ref (B + 0)), (3, .int st'.1), (4, .int st'.2)] → W p l e rm_X9_closedBy s m args below meth c H locs 0 0 Q (F0 m 68 ls []))
    (kX0 : ∀ y' : Int32, r = Sum.inr y' → ∀ (H : Heap) (locs : List Loc) (ls : Array Slot), Gd s G A 28 B (entM G B w) X H locs → lv_has ls 5 [(3, .int y')] → W p l e rm_X9_closedBy s m args below meth c H locs 0 0 Q (F0 m 105 ls [])) :
    W p l e rm_X9_closedBy s m args below meth c H locs 0 0 Q (F0 m 68 ls []) := by
  refine lv_iload C.1 C.2.1 dX9_closedBy_68 (lv_at hl 2 rfl) ?_
  refine lv_aload_n C.1 C.2.1 dX9_closedBy_70 rfl (lv_at hl 0 rfl) ?_
  refine gf_X9_117 C hG rfl dX9_closedBy_71 ?_
  rcases of_ite hf with ⟨c1, hf⟩ | ⟨c1, hf⟩
  · refine lv_icmp_ge (tgt := 105) C.1 C.2.1 dX9_closedBy_74 (by decide) (fun _ => ?_) (fun q => absurd c1 q)
    obtain rfl := Option.some.inj hf
    exact kX0 _ rfl _ _ _ hG (lv_sub hl [1] rfl)
  · refine lv_icmp_ge (tgt := 105) C.1 C.2.1 dX9_closedBy_74 (by decide) (fun q => absurd q c1) (fun _ => ?_)
    refine lv_iload_n C.1 C.2.1 dX9_closedBy_77 rfl (lv_at hl 1 rfl) ?_
    refine lv_aload_n C.1 C.2.1 dX9_closedBy_78 rfl (lv_at hl 0 rfl) ?_
    refine gf_X9_39 C hG rfl dX9_closedBy_79 ?_
    refine lv_iload C.1 C.2.1 dX9_closedBy_82 (lv_at hl 2 rfl) ?_
    obtain ⟨v2, hv2, hf⟩ := of_bind hf
    obtain ⟨bv2, ev2⟩ := of_ldS hv2
    refine r_iald C hG (c0 := 10) (by decide) (entM_I (n := 6) rfl) bv2 dX9_closedBy_84 ?_
    refine r_top ev2 ?_
    refine lv_aload_n C.1 C.2.1 dX9_closedBy_85 rfl (lv_at hl 0 rfl) ?_
    refine gf_X9_24 C hG rfl dX9_closedBy_86 ?_
    refine lv_iload C.1 C.2.1 dX9_closedBy_89 (lv_at hl 2 rfl) ?_
    obtain ⟨v3, hv3, hf⟩ := of_bind hf
    obtain ⟨bv3, ev3⟩ := of_ldS hv3
    refine r_iald C hG (c0 := 5) (by decide) (entM_I (n := 6) rfl) bv3 dX9_closedBy_91 ?_
    refine r_top ev3 ?_
    refine lv_imul C.1 C.2.1 dX9_closedBy_92 ?_
    refine lv_iadd C.1 C.2.1 dX9_closedBy_93 ?_
    refine lv_sipush (v := nI 9973) C.1 C.2.1 dX9_closedBy_94 (by decide) ?_
    refine r_irem C dX9_closedBy_97 (by decide) ?_
    obtain ⟨v4, ev4, hf⟩ := of_letv hf
    refine r_top ev4 ?_
    refine lv_istore_n (lv' := [(3, .int v4), (0, .ref (B + 0)), (4, .int st.2)]) C.1 C.2.1 dX9_closedBy_98 rfl hl (by decide) rfl (fun ls hl => ?_)
    obtain ⟨v5, ev5, hf⟩ := of_letv hf
    refine lv_iinc (v := v5) (lv' := [(4, .int v5), (3, .int v4), (0, .ref (B + 0))]) C.1 C.2.1 dX9_closedBy_99 hl (k := 2) rfl (by rw [ev5, show Int32.ofInt (1) = nI 1 from by decide]) (by decide) rfl (fun ls hl => ?_)
    refine lv_goto (tgt := 68) C.1 C.2.1 dX9_closedBy_102 (by decide) ?_
    obtain rfl := Option.some.inj hf
    exact kL _ rfl _ _ _ hG (lv_sub hl [2, 1, 0] rfl)
set_option maxRecDepth 100000 in
set_option maxHeartbeats 4000000 in
theorem kl_X9_closedBy_68 {w : Mem} (C : CX p s m args meth c cX9_closedBy 5 RX9 wc_X9_closedBy (some .int))  : ∀ (n : Nat) (st : Int32 × Int32) (x : (Int32)) (H : Heap) (locs : List Loc) (ls : Array Slot), Gd s G A 28 B (entM G B w) X H locs → lv_has ls 5 [(0, .ref (B + 0)), (3, .int st.1), (4, .int st.2)] → lpw (sh_X9_closedBy_s68 w) n st = some x →
    (∀ y' : Int32, x = y' → ∀ (H : Heap) (locs : List Loc) (ls : Array Slot), Gd s G A 28 B (entM G B w) X H locs → lv_has ls 5 [(3, .int y')] → W p l e rm_X9_closedBy s m args below meth c H locs 0 0 Q (F0 m 105 ls [])) → W p l e rm_X9_closedBy s m args below meth c H locs 0 0 Q (F0 m 68 ls []) := by
  intro n
  induction n with
  | zero =>
    intro st x H locs ls hG hl hf
    cases hf
  | succ n ih =>
    intro st x H locs ls hG hl hf kX0
    obtain ⟨r, hr, hh⟩ := of_lpw hf
    refine kb_X9_closedBy_68 C  hG hl hr (fun st2 e1 H locs ls hG hl => ?_) (fun y2 e1 H locs ls hG hl => ?_)
    · rcases hh with ⟨s3, e2, hh⟩ | e2
      · rw [e2] at e1
        cases e1
        exact ih _ _ _ _ _ hG hl hh kX0
      · rw [e2] at e1
        cases e1
    · rcases hh with ⟨s3, e2, hh⟩ | e2
      · rw [e2] at e1
        cases e1
      · rw [e2] at e1
        cases e1
        exact kX0 _ rfl _ _ _ hG hl
set_option maxRecDepth 100000 in
set_option maxHeartbeats 4000000 in
theorem kb_X9_closedBy_0 {x1 : Int32} {x2 : Int32} {w : Mem} {out : Int32 × Mem} {H : Heap} {locs : List Loc} {ls : Array Slot} (C : CX p s m args meth c cX9_closedBy 5 RX9 wc_X9_closedBy (some .int))  (hG : Gd s G A 28 B (entM G B w) X H locs) (hl : lv_has ls 5 [(0, .ref (B + 0)), (1, .int x1), (2, .int x2)]) (hf : sh_X9_closedBy x1 x2 w = some out) :
    W p l e rm_X9_closedBy s m args below meth c H locs 0 0 (MQ below (CPost G A 28 B (entM G B out.2) X (some (.int out.1))) args s 0 0 A) (F0 m 0 ls []) := by
  refine lv_iconst (v := nI 0) C.1 C.2.1 dX9_closedBy_0 (by decide) ?_
  refine lv_istore_n (lv' := [(3, .int (nI 0)), (0, .ref (B + 0)), (1, .int x1), (2, .int x2)]) C.1 C.2.1 dX9_closedBy_1 rfl hl (by decide) rfl (fun ls hl => ?_)
  obtain ⟨ex1, hex1, hf⟩ := of_bind hf
  refine kl_X9_closedBy_2 C  FU (nI 0, w) ex1 _ _ _ hG (lv_sub hl [1, 2, 3, 0] rfl) hex1 (fun y e0 H locs ls hG hl => ?_)
  subst e0
  refine lv_iconst (v := nI 0) C.1 C.2.1 dX9_closedBy_28 (by decide) ?_
  refine lv_istore_n (lv' := [(3, .int (nI 0)), (0, .ref (B + 0)), (1, .int x1), (2, .int x2)]) C.1 C.2.1 dX9_closedBy_29 rfl hl (by decide) rfl (fun ls hl => ?_)
  obtain ⟨ex2, hex2, hf⟩ := of_bind hf
  refine kl_X9_closedBy_30 C  FU (nI 0, ex1) ex2 _ _ _ hG (lv_sub hl [1, 2, 3, 0] rfl) hex2 (fun y e0 H locs ls hG hl => ?_)
  subst e0
  refine lv_iconst (v := nI 0) C.1 C.2.1 dX9_closedBy_63 (by decide) ?_
  refine lv_istore_n (lv' := [(3, .int (nI 0)), (0, .ref (B + 0))]) C.1 C.2.1 dX9_closedBy_64 rfl hl (by decide) rfl (fun ls hl => ?_)
  refine lv_iconst (v := nI 0) C.1 C.2.1 dX9_closedBy_65 (by decide) ?_
  refine lv_istore (lv' := [(4, .int (nI 0)), (3, .int (nI 0)), (0, .ref (B + 0))]) C.1 C.2.1 dX9_closedBy_66 hl (by decide) rfl (fun ls hl => ?_)
  obtain ⟨ex3, hex3, hf⟩ := of_bind hf
  refine kl_X9_closedBy_68 C  FU (nI 0, nI 0) ex3 _ _ _ hG (lv_sub hl [2, 1, 0] rfl) hex3 (fun y e0 H locs ls hG hl => ?_)
  subst e0
  refine lv_iload_n C.1 C.2.1 dX9_closedBy_105 rfl (lv_at hl 0 rfl) ?_
  obtain rfl := Option.some.inj hf
  exact r_iret C hG dX9_closedBy_106
set_option maxRecDepth 100000 in
set_option maxHeartbeats 4000000 in
theorem mt_X9_closedBy (l : Launch) {G : GG} {A : Nat → Prop} {B : Nat} {X : va_W} {x1 : Int32} {x2 : Int32} {w : Mem} {out : Int32 × Mem}  (hf : sh_X9_closedBy x1 x2 w = some out) : MetW l yX9_closedBy wc_X9_closedBy rm_X9_closedBy G A 28 B (entM G B w) X [.ref (B + 0), .int x1, .int x2] (some (.int out.1)) (entM G B out.2) := by
  refine Met.ofW (cc := cX9_closedBy) (maxL := 5) (ret := (some .int)) (by decide) rfl ?_
  intro p e s m args below meth c s₁ B0 hml hv
  obtain ⟨rfl, hEv, hWd⟩ := hv
  have C : CX p s m _ meth c cX9_closedBy 5 RX9 wc_X9_closedBy (some .int) := ⟨B0.exec, B0.bytes, hml, findClass_of_methodNamed B0.named, atoms_spec (ws := wc_X9_closedBy) B0.pre, B0.returns, B0.notSynchronized⟩
  have hl := lv_entry [.ref (B + 0), .int x1, .int x2] (n := 5) (Nat.le_of_ble_eq_true rfl)
  rw [lg_entry_eq]
  generalize (lg_sl [.ref (B + 0), .int x1, .int x2] ++ List.replicate (5 - (lg_sl [.ref (B + 0), .int x1, .int x2]).length) Slot.unset).toArray = ls at hl ⊢
  have hl : lv_has ls 5 [(0, .ref (B + 0)), (1, .int x1), (2, .int x2)] := hl
  exact kb_X9_closedBy_0 C  ⟨hEv, hWd, va_S.rf⟩ hl hf
abbrev wc_X9_closed : List Cond := Cond.code yX9_closed cX9_closed 4 (some .int) :: TG
abbrev rm_X9_closed : Room := { frames := 7, cells := 0, slots := 0, locals := 216 }
theorem cd_X9_closed : yX9_closed.cls = RX9 ∧ yX9_closed.cls ≠ "java/lang/invoke/MethodHandle" ∧ yX9_closed.cls ≠ "java/lang/invoke/VarHandle" ∧ (parseMethodDescriptor yX9_closed.desc).map (fun d => d.parameters.length) = some 3 := by decide +kernel
theorem dX9_closed_0 : decode cX9_closed 0 = .ok (.aload_n 0, 1) := by decide +kernel
theorem dX9_closed_1 : decode cX9_closed 1 = .ok (.iload_n 1, 1) := by decide +kernel
theorem dX9_closed_2 : decode cX9_closed 2 = .ok (.invokevirtual 109, 3) := by decide +kernel
theorem dX9_closed_5 : decode cX9_closed 5 = .ok (.ifCond .ne 5, 3) := by decide +kernel
theorem dX9_closed_8 : decode cX9_closed 8 = .ok (.iconst (-1), 1) := by decide +kernel
theorem dX9_closed_9 : decode cX9_closed 9 = .ok (.ireturn, 1) := by decide +kernel
theorem dX9_closed_10 : decode cX9_closed 10 = .ok (.iload_n 2, 1) := by decide +kernel
theorem dX9_closed_11 : decode cX9_closed 11 = .ok (.i2l, 1) := by decide +kernel
theorem dX9_closed_12 : decode cX9_closed 12 = .ok (.lconst 0, 1) := by decide +kernel
theorem dX9_closed_13 : decode cX9_closed 13 = .ok (.ldc2_w 165, 3) := by decide +kernel
theorem dX9_closed_16 : decode cX9_closed 16 = .ok (.invokestatic 93, 3) := by decide +kernel
theorem dX9_closed_19 : decode cX9_closed 19 = .ok (.ifCond .eq 15, 3) := by decide +kernel
theorem dX9_closed_22 : decode cX9_closed 22 = .ok (.iload_n 3, 1) := by decide +kernel
theorem dX9_closed_23 : decode cX9_closed 23 = .ok (.i2l, 1) := by decide +kernel
theorem dX9_closed_24 : decode cX9_closed 24 = .ok (.lconst 0, 1) := by decide +kernel
theorem dX9_closed_25 : decode cX9_closed 25 = .ok (.ldc2_w 165, 3) := by decide +kernel
theorem dX9_closed_28 : decode cX9_closed 28 = .ok (.invokestatic 93, 3) := by decide +kernel
theorem dX9_closed_31 : decode cX9_closed 31 = .ok (.ifCond .ne 6, 3) := by decide +kernel
theorem dX9_closed_34 : decode cX9_closed 34 = .ok (.bipush (-2), 2) := by decide +kernel
theorem dX9_closed_36 : decode cX9_closed 36 = .ok (.ireturn, 1) := by decide +kernel
theorem dX9_closed_37 : decode cX9_closed 37 = .ok (.aload_n 0, 1) := by decide +kernel
theorem dX9_closed_38 : decode cX9_closed 38 = .ok (.iload_n 1, 1) := by decide +kernel
theorem dX9_closed_39 : decode cX9_closed 39 = .ok (.invokevirtual 152, 3) := by decide +kernel
theorem dX9_closed_42 : decode cX9_closed 42 = .ok (.aload_n 0, 1) := by decide +kernel
theorem dX9_closed_43 : decode cX9_closed 43 = .ok (.iload_n 2, 1) := by decide +kernel
theorem dX9_closed_44 : decode cX9_closed 44 = .ok (.iload_n 3, 1) := by decide +kernel
theorem dX9_closed_45 : decode cX9_closed 45 = .ok (.invokevirtual 167, 3) := by decide +kernel
theorem dX9_closed_48 : decode cX9_closed 48 = .ok (.ireturn, 1) := by decide +kernel
set_option maxRecDepth 100000 in
set_option maxHeartbeats 4000000 in
theorem kb_X9_closed_0 {x1 : Int32} {x2 : Int32} {x3 : Int32} {w : Mem} {out : Int32 × Mem} {H : Heap} {locs : List Loc} {ls : Array Slot} (C : CX p s m args meth c cX9_closed 4 RX9 wc_X9_closed (some .int))  (hG : Gd s G A 28 B (entM G B w) X H locs) (hl : lv_has ls 4 [(0, .ref (B + 0)), (1, .int x1), (2, .int x2), (3, .int x3)]) (hf : sh_X9_closed x1 x2 x3 w = some out) :
    W p l e rm_X9_closed s m args below meth c H locs 0 0 (MQ below (CPost G A 28 B (entM G B out.2) X (some (.int out.1))) args s 0 0 A) (F0 m 0 ls []) := by
  refine lv_aload_n C.1 C.2.1 dX9_closed_0 rfl (lv_at hl 0 rfl) ?_
  refine lv_iload_n C.1 C.2.1 dX9_closed_1 rfl (lv_at hl 1 rfl) ?_
  obtain ⟨v1, hv1, hf⟩ := of_bind hf
  refine r_callV1 C hG hl.1 (c0 := 0) (As := [.int x1]) (by decide) (entM_O (n := 35) rfl) rfl (mt_X9_isAlgebra l  hv1) (cwV 1 C.2.2.2.2.1 (gd_V tg_4_205 tg_4_207 tgp_27 tg_1_10 tg_4_208) rfl rfl rfl cd_X9_isAlgebra ⟨Nat.le_of_ble_eq_true rfl, Nat.le_of_ble_eq_true rfl⟩) rfl rfl (Nat.le_of_ble_eq_true rfl) dX9_closed_2 (fun H locs hG => ?_)
  rcases of_ite hf with ⟨c2, hf⟩ | ⟨c2, hf⟩
  · refine lv_if_ne (tgt := 10) C.1 C.2.1 dX9_closed_5 (by decide) (fun q => absurd c2 q) (fun _ => ?_)
    refine lv_iconst (v := (-1 : Int32)) C.1 C.2.1 dX9_closed_8 (by decide) ?_
    obtain rfl := Option.some.inj hf
    exact r_iret C hG dX9_closed_9
  · refine lv_if_ne (tgt := 10) C.1 C.2.1 dX9_closed_5 (by decide) (fun _ => ?_) (fun q => absurd q c2)
    refine lv_iload_n C.1 C.2.1 dX9_closed_10 rfl (lv_at hl 2 rfl) ?_
    refine lv_i2l C.1 C.2.1 dX9_closed_11 rfl ?_
    refine lv_lconst (v := lN 0) C.1 C.2.1 dX9_closed_12 rfl ?_
    refine lv_ldc2 (v := lN 20) C.1 C.2.1 C.2.2.2.1 (C.2.2.2.2.1 _ (List.mem_cons_of_mem _ tg_5_38)) dX9_closed_13 ?_
    obtain ⟨v3, hv3, hf⟩ := of_bind hf
    refine r_callS1 C hG hl.1 (As := [.long x2.toInt64, .long (lN 0), .long (lN 20)]) (mt_X9_isIn l  hv3) (va_cwS 3 C.2.2.2.2.1 (gd_S tg_4_195 tg_4_196 tg_1_10 tg_4_197) rfl rfl rfl cd_X9_isIn.2 ⟨Nat.le_of_ble_eq_true rfl, Nat.le_of_ble_eq_true rfl⟩) rfl rfl (Nat.le_of_ble_eq_true rfl) dX9_closed_16 (fun H locs hG => ?_)
    rcases of_ite hf with ⟨c4, hf⟩ | ⟨c4, hf⟩
    · refine lv_if_eq (tgt := 34) C.1 C.2.1 dX9_closed_19 (by decide) (fun _ => ?_) (fun q => absurd c4 q)
      refine lv_bipush (v := (-2 : Int32)) C.1 C.2.1 dX9_closed_34 (by decide) ?_
      obtain rfl := Option.some.inj hf
      exact r_iret C hG dX9_closed_36
    · refine lv_if_eq (tgt := 34) C.1 C.2.1 dX9_closed_19 (by decide) (fun q => absurd q c4) (fun _ => ?_)
      refine lv_iload_n C.1 C.2.1 dX9_closed_22 rfl (lv_at hl 3 rfl) ?_
      refine lv_i2l C.1 C.2.1 dX9_closed_23 rfl ?_
      refine lv_lconst (v := lN 0) C.1 C.2.1 dX9_closed_24 rfl ?_
      refine lv_ldc2 (v := lN 20) C.1 C.2.1 C.2.2.2.1 (C.2.2.2.2.1 _ (List.mem_cons_of_mem _ tg_5_38)) dX9_closed_25 ?_
      obtain ⟨v5, hv5, hf⟩ := of_bind hf
      refine r_callS1 C hG hl.1 (As := [.long x3.toInt64, .long (lN 0), .long (lN 20)]) (mt_X9_isIn l  hv5) (va_cwS 3 C.2.2.2.2.1 (gd_S tg_4_195 tg_4_196 tg_1_10 tg_4_197) rfl rfl rfl cd_X9_isIn.2 ⟨Nat.le_of_ble_eq_true rfl, Nat.le_of_ble_eq_true rfl⟩) rfl rfl (Nat.le_of_ble_eq_true rfl) dX9_closed_28 (fun H locs hG => ?_)
      rcases of_ite hf with ⟨c6, hf⟩ | ⟨c6, hf⟩
      · refine lv_if_ne (tgt := 37) C.1 C.2.1 dX9_closed_31 (by decide) (fun q => absurd c6 q) (fun _ => ?_)
        refine lv_bipush (v := (-2 : Int32)) C.1 C.2.1 dX9_closed_34 (by decide) ?_
        obtain rfl := Option.some.inj hf
        exact r_iret C hG dX9_closed_36
      · refine lv_if_ne (tgt := 37) C.1 C.2.1 dX9_closed_31 (by decide) (fun _ => ?_) (fun q => absurd q c6)
        refine lv_aload_n C.1 C.2.1 dX9_closed_37 rfl (lv_at hl 0 rfl) ?_
        refine lv_iload_n C.1 C.2.1 dX9_closed_38 rfl (lv_at hl 1 rfl) ?_
        obtain ⟨w7, hw7, hf⟩ := of_bind hf
        refine r_callV0 C hG hl.1 (c0 := 0) (As := [.int x1]) (by decide) (entM_O (n := 35) rfl) rfl (mt_X9_laysOut_ l  hw7) (cwV 1 C.2.2.2.2.1 (gd_V tg_4_221 tg_4_223 tgp_29 tg_1_10 tg_4_224) rfl rfl rfl cd_X9_laysOut_ ⟨Nat.le_of_ble_eq_true rfl, Nat.le_of_ble_eq_true rfl⟩) rfl rfl (Nat.le_of_ble_eq_true rfl) dX9_closed_39 (fun H locs hG => ?_)
        refine lv_aload_n C.1 C.2.1 dX9_closed_42 rfl (lv_at hl 0 rfl) ?_
        refine lv_iload_n C.1 C.2.1 dX9_closed_43 rfl (lv_at hl 2 rfl) ?_
        refine lv_iload_n C.1 C.2.1 dX9_closed_44 rfl (lv_at hl 3 rfl) ?_
        obtain ⟨v8, hv8, hf⟩ := of_bind hf
        refine r_callV1 C hG hl.1 (c0 := 0) (As := [.int x2, .int x3]) (by decide) (entM_O (n := 35) rfl) rfl (mt_X9_closedBy l  hv8) (cwV 2 C.2.2.2.2.1 (gd_V tg_5_39 tg_5_41 tgp_36 tg_1_10 tg_5_42) rfl rfl rfl cd_X9_closedBy ⟨Nat.le_of_ble_eq_true rfl, Nat.le_of_ble_eq_true rfl⟩) rfl rfl (Nat.le_of_ble_eq_true rfl) dX9_closed_45 (fun H locs hG => ?_)
        obtain rfl := Option.some.inj hf
        exact r_iret C hG dX9_closed_48
set_option maxRecDepth 100000 in
set_option maxHeartbeats 4000000 in
theorem mt_X9_closed (l : Launch) {G : GG} {A : Nat → Prop} {B : Nat} {X : va_W} {x1 : Int32} {x2 : Int32} {x3 : Int32} {w : Mem} {out : Int32 × Mem}  (hf : sh_X9_closed x1 x2 x3 w = some out) : MetW l yX9_closed wc_X9_closed rm_X9_closed G A 28 B (entM G B w) X [.ref (B + 0), .int x1, .int x2, .int x3] (some (.int out.1)) (entM G B out.2) := by
  refine Met.ofW (cc := cX9_closed) (maxL := 4) (ret := (some .int)) (by decide) rfl ?_
  intro p e s m args below meth c s₁ B0 hml hv
  obtain ⟨rfl, hEv, hWd⟩ := hv
  have C : CX p s m _ meth c cX9_closed 4 RX9 wc_X9_closed (some .int) := ⟨B0.exec, B0.bytes, hml, findClass_of_methodNamed B0.named, atoms_spec (ws := wc_X9_closed) B0.pre, B0.returns, B0.notSynchronized⟩
  have hl := lv_entry [.ref (B + 0), .int x1, .int x2, .int x3] (n := 4) (Nat.le_of_ble_eq_true rfl)
  rw [lg_entry_eq]
  generalize (lg_sl [.ref (B + 0), .int x1, .int x2, .int x3] ++ List.replicate (4 - (lg_sl [.ref (B + 0), .int x1, .int x2, .int x3]).length) Slot.unset).toArray = ls at hl ⊢
  have hl : lv_has ls 4 [(0, .ref (B + 0)), (1, .int x1), (2, .int x2), (3, .int x3)] := hl
  exact kb_X9_closed_0 C  ⟨hEv, hWd, va_S.rf⟩ hl hf
abbrev wc_X9_handles : List Cond := Cond.code yX9_handles cX9_handles 5 (some .int) :: TG
abbrev rm_X9_handles : Room := { frames := 7, cells := 0, slots := 0, locals := 216 }
theorem cd_X9_handles : yX9_handles.cls = RX9 ∧ yX9_handles.cls ≠ "java/lang/invoke/MethodHandle" ∧ yX9_handles.cls ≠ "java/lang/invoke/VarHandle" ∧ (parseMethodDescriptor yX9_handles.desc).map (fun d => d.parameters.length) = some 3 := by decide +kernel
theorem dX9_handles_0 : decode cX9_handles 0 = .ok (.aload_n 0, 1) := by decide +kernel
theorem dX9_handles_1 : decode cX9_handles 1 = .ok (.iload_n 1, 1) := by decide +kernel
theorem dX9_handles_2 : decode cX9_handles 2 = .ok (.invokevirtual 109, 3) := by decide +kernel
theorem dX9_handles_5 : decode cX9_handles 5 = .ok (.ifCond .ne 5, 3) := by decide +kernel
theorem dX9_handles_8 : decode cX9_handles 8 = .ok (.iconst (-1), 1) := by decide +kernel
theorem dX9_handles_9 : decode cX9_handles 9 = .ok (.ireturn, 1) := by decide +kernel
theorem dX9_handles_10 : decode cX9_handles 10 = .ok (.iload_n 2, 1) := by decide +kernel
theorem dX9_handles_11 : decode cX9_handles 11 = .ok (.i2l, 1) := by decide +kernel
theorem dX9_handles_12 : decode cX9_handles 12 = .ok (.lconst 0, 1) := by decide +kernel
theorem dX9_handles_13 : decode cX9_handles 13 = .ok (.ldc2_w 165, 3) := by decide +kernel
theorem dX9_handles_16 : decode cX9_handles 16 = .ok (.invokestatic 93, 3) := by decide +kernel
theorem dX9_handles_19 : decode cX9_handles 19 = .ok (.ifCond .ne 6, 3) := by decide +kernel
theorem dX9_handles_22 : decode cX9_handles 22 = .ok (.bipush (-2), 2) := by decide +kernel
theorem dX9_handles_24 : decode cX9_handles 24 = .ok (.ireturn, 1) := by decide +kernel
theorem dX9_handles_25 : decode cX9_handles 25 = .ok (.aload_n 0, 1) := by decide +kernel
theorem dX9_handles_26 : decode cX9_handles 26 = .ok (.iload_n 1, 1) := by decide +kernel
theorem dX9_handles_27 : decode cX9_handles 27 = .ok (.invokevirtual 152, 3) := by decide +kernel
theorem dX9_handles_30 : decode cX9_handles 30 = .ok (.iconst 0, 1) := by decide +kernel
theorem dX9_handles_31 : decode cX9_handles 31 = .ok (.istore 4, 2) := by decide +kernel
theorem dX9_handles_33 : decode cX9_handles 33 = .ok (.iload 4, 2) := by decide +kernel
theorem dX9_handles_35 : decode cX9_handles 35 = .ok (.bipush 20, 2) := by decide +kernel
theorem dX9_handles_37 : decode cX9_handles 37 = .ok (.if_icmp .gt 23, 3) := by decide +kernel
theorem dX9_handles_40 : decode cX9_handles 40 = .ok (.aload_n 0, 1) := by decide +kernel
theorem dX9_handles_41 : decode cX9_handles 41 = .ok (.iload 4, 2) := by decide +kernel
theorem dX9_handles_43 : decode cX9_handles 43 = .ok (.iload_n 2, 1) := by decide +kernel
theorem dX9_handles_44 : decode cX9_handles 44 = .ok (.invokevirtual 167, 3) := by decide +kernel
theorem dX9_handles_47 : decode cX9_handles 47 = .ok (.iload_n 3, 1) := by decide +kernel
theorem dX9_handles_48 : decode cX9_handles 48 = .ok (.if_icmp .ne 6, 3) := by decide +kernel
theorem dX9_handles_51 : decode cX9_handles 51 = .ok (.iload 4, 2) := by decide +kernel
theorem dX9_handles_53 : decode cX9_handles 53 = .ok (.ireturn, 1) := by decide +kernel
theorem dX9_handles_54 : decode cX9_handles 54 = .ok (.iinc 4 1, 3) := by decide +kernel
theorem dX9_handles_57 : decode cX9_handles 57 = .ok (.goto (-24), 3) := by decide +kernel
theorem dX9_handles_60 : decode cX9_handles 60 = .ok (.bipush (-5), 2) := by decide +kernel
theorem dX9_handles_62 : decode cX9_handles 62 = .ok (.ireturn, 1) := by decide +kernel
set_option maxRecDepth 100000 in
set_option maxHeartbeats 4000000 in
theorem kb_X9_handles_33 {x2 : Int32} {x3 : Int32} {st : Int32 × Mem} {r : (Int32 × Mem) ⊕ ((Int32 × Mem) ⊕ (Mem))} {H : Heap} {locs : List Loc} {ls : Array Slot} (C : CX p s m args meth c cX9_handles 5 RX9 wc_X9_handles (some .int))  (hG : Gd s G A 28 B (entM G B st.2) X H locs) (hl : lv_has ls 5 [(0, .ref (B + 0)), (2, .int x2), (3, .int x3), (4, .int st.1)]) (hf : sh_X9_handles_s33 x2 x3 st = some r)
    (kL : ∀ st' : Int32 × Mem, r = Sum.inl st' → ∀ (H : Heap) (locs : List Loc) (ls : Array Slot), Gd s G A 28 B (entM G B st'.2) X H locs → lv_has ls 5 [(0, .ref (B + 0)), (2, .int x2), (3, .int x3), (4, .int st'.1)] → W p l e rm_X9_handles s m args below meth c H locs 0 0 Q (F0 m 33 ls []))
    (kX0 : ∀ y' : Int32 × Mem, r = Sum.inr (Sum.inl y') → ∀ (H : Heap) (locs : List Loc) (ls : Array Slot), Gd s G A 28 B (entM G B y'.2) X H locs → lv_has ls 5 [(4, .int y'.1)] → W p l e rm_X9_handles s m args below meth c H locs 0 0 Q (F0 m 51 ls []))
    (kX1 : ∀ y' : Mem, r = Sum.inr (Sum.inr y') → ∀ (H : Heap) (locs : List Loc) (ls : Array Slot), Gd s G A 28 B (entM G B y') X H locs → lv_has ls 5 [] → W p l e rm_X9_handles s m args below meth c H locs 0 0 Q (F0 m 60 ls [])) :
    W p l e rm_X9_handles s m args below meth c H locs 0 0 Q (F0 m 33 ls []) := by
  refine lv_iload C.1 C.2.1 dX9_handles_33 (lv_at hl 3 rfl) ?_
  refine lv_bipush (v := nI 20) C.1 C.2.1 dX9_handles_35 (by decide) ?_
  rcases of_ite hf with ⟨c1, hf⟩ | ⟨c1, hf⟩
  · refine lv_icmp_gt (tgt := 60) C.1 C.2.1 dX9_handles_37 (by decide) (fun _ => ?_) (fun q => absurd c1 q)
    obtain rfl := Option.some.inj hf
    exact kX1 _ rfl _ _ _ hG (lv_sub hl [] rfl)
  · refine lv_icmp_gt (tgt := 60) C.1 C.2.1 dX9_handles_37 (by decide) (fun q => absurd q c1) (fun _ => ?_)
    refine lv_aload_n C.1 C.2.1 dX9_handles_40 rfl (lv_at hl 0 rfl) ?_
    refine lv_iload C.1 C.2.1 dX9_handles_41 (lv_at hl 3 rfl) ?_
    refine lv_iload_n C.1 C.2.1 dX9_handles_43 rfl (lv_at hl 1 rfl) ?_
    obtain ⟨v2, hv2, hf⟩ := of_bind hf
    refine r_callV1 C hG hl.1 (c0 := 0) (As := [.int st.1, .int x2]) (by decide) (entM_O (n := 35) rfl) rfl (mt_X9_closedBy l  hv2) (cwV 2 C.2.2.2.2.1 (gd_V tg_5_39 tg_5_41 tgp_36 tg_1_10 tg_5_42) rfl rfl rfl cd_X9_closedBy ⟨Nat.le_of_ble_eq_true rfl, Nat.le_of_ble_eq_true rfl⟩) rfl rfl (Nat.le_of_ble_eq_true rfl) dX9_handles_44 (fun H locs hG => ?_)
    refine lv_iload_n C.1 C.2.1 dX9_handles_47 rfl (lv_at hl 2 rfl) ?_
    rcases of_ite hf with ⟨c3, hf⟩ | ⟨c3, hf⟩
    · refine lv_icmp_ne (tgt := 54) C.1 C.2.1 dX9_handles_48 (by decide) (fun q => absurd c3 q) (fun _ => ?_)
      obtain rfl := Option.some.inj hf
      exact kX0 _ rfl _ _ _ hG (lv_sub hl [3] rfl)
    · refine lv_icmp_ne (tgt := 54) C.1 C.2.1 dX9_handles_48 (by decide) (fun _ => ?_) (fun q => absurd q c3)
      obtain ⟨v4, ev4, hf⟩ := of_letv hf
      refine lv_iinc (v := v4) (lv' := [(4, .int v4), (0, .ref (B + 0)), (2, .int x2), (3, .int x3)]) C.1 C.2.1 dX9_handles_54 hl (k := 3) rfl (by rw [ev4, show Int32.ofInt (1) = nI 1 from by decide]) (by decide) rfl (fun ls hl => ?_)
      refine lv_goto (tgt := 33) C.1 C.2.1 dX9_handles_57 (by decide) ?_
      obtain rfl := Option.some.inj hf
      exact kL _ rfl _ _ _ hG (lv_sub hl [1, 2, 3, 0] rfl)
set_option maxRecDepth 100000 in
set_option maxHeartbeats 4000000 in
theorem kl_X9_handles_33 {x2 : Int32} {x3 : Int32} (C : CX p s m args meth c cX9_handles 5 RX9 wc_X9_handles (some .int))  : ∀ (n : Nat) (st : Int32 × Mem) (x : (Int32 × Mem) ⊕ (Mem)) (H : Heap) (locs : List Loc) (ls : Array Slot), Gd s G A 28 B (entM G B st.2) X H locs → lv_has ls 5 [(0, .ref (B + 0)), (2, .int x2), (3, .int x3), (4, .int st.1)] → lpw (sh_X9_handles_s33 x2 x3) n st = some x →
    (∀ y' : Int32 × Mem, x = (Sum.inl y') → ∀ (H : Heap) (locs : List Loc) (ls : Array Slot), Gd s G A 28 B (entM G B y'.2) X H locs → lv_has ls 5 [(4, .int y'.1)] → W p l e rm_X9_handles s m args below meth c H locs 0 0 Q (F0 m 51 ls [])) →
    (∀ y' : Mem, x = (Sum.inr y') → ∀ (H : Heap) (locs : List Loc) (ls : Array Slot), Gd s G A 28 B (entM G B y') X H locs → lv_has ls 5 [] → W p l e rm_X9_handles s m args below meth c H locs 0 0 Q (F0 m 60 ls [])) → W p l e rm_X9_handles s m args below meth c H locs 0 0 Q (F0 m 33 ls []) := by
  intro n
  induction n with
  | zero =>
    intro st x H locs ls hG hl hf
    cases hf
  | succ n ih =>
    intro st x H locs ls hG hl hf kX0 kX1
    obtain ⟨r, hr, hh⟩ := of_lpw hf
    refine kb_X9_handles_33 C  hG hl hr (fun st2 e1 H locs ls hG hl => ?_) (fun y2 e1 H locs ls hG hl => ?_) (fun y2 e1 H locs ls hG hl => ?_)
    · rcases hh with ⟨s3, e2, hh⟩ | e2
      · rw [e2] at e1
        cases e1
        exact ih _ _ _ _ _ hG hl hh kX0 kX1
      · rw [e2] at e1
        cases e1
    · rcases hh with ⟨s3, e2, hh⟩ | e2
      · rw [e2] at e1
        cases e1
      · rw [e2] at e1
        cases e1
        exact kX0 _ rfl _ _ _ hG hl
    · rcases hh with ⟨s3, e2, hh⟩ | e2
      · rw [e2] at e1
        cases e1
      · rw [e2] at e1
        cases e1
        exact kX1 _ rfl _ _ _ hG hl
set_option maxRecDepth 100000 in
set_option maxHeartbeats 4000000 in
theorem kb_X9_handles_0 {x1 : Int32} {x2 : Int32} {x3 : Int32} {w : Mem} {out : Int32 × Mem} {H : Heap} {locs : List Loc} {ls : Array Slot} (C : CX p s m args meth c cX9_handles 5 RX9 wc_X9_handles (some .int))  (hG : Gd s G A 28 B (entM G B w) X H locs) (hl : lv_has ls 5 [(0, .ref (B + 0)), (1, .int x1), (2, .int x2), (3, .int x3)]) (hf : sh_X9_handles x1 x2 x3 w = some out) :
    W p l e rm_X9_handles s m args below meth c H locs 0 0 (MQ below (CPost G A 28 B (entM G B out.2) X (some (.int out.1))) args s 0 0 A) (F0 m 0 ls []) := by
  refine lv_aload_n C.1 C.2.1 dX9_handles_0 rfl (lv_at hl 0 rfl) ?_
  refine lv_iload_n C.1 C.2.1 dX9_handles_1 rfl (lv_at hl 1 rfl) ?_
  obtain ⟨v1, hv1, hf⟩ := of_bind hf
  refine r_callV1 C hG hl.1 (c0 := 0) (As := [.int x1]) (by decide) (entM_O (n := 35) rfl) rfl (mt_X9_isAlgebra l  hv1) (cwV 1 C.2.2.2.2.1 (gd_V tg_4_205 tg_4_207 tgp_27 tg_1_10 tg_4_208) rfl rfl rfl cd_X9_isAlgebra ⟨Nat.le_of_ble_eq_true rfl, Nat.le_of_ble_eq_true rfl⟩) rfl rfl (Nat.le_of_ble_eq_true rfl) dX9_handles_2 (fun H locs hG => ?_)
  rcases of_ite hf with ⟨c2, hf⟩ | ⟨c2, hf⟩
  · refine lv_if_ne (tgt := 10) C.1 C.2.1 dX9_handles_5 (by decide) (fun q => absurd c2 q) (fun _ => ?_)
    refine lv_iconst (v := (-1 : Int32)) C.1 C.2.1 dX9_handles_8 (by decide) ?_
    obtain rfl := Option.some.inj hf
    exact r_iret C hG dX9_handles_9
  · refine lv_if_ne (tgt := 10) C.1 C.2.1 dX9_handles_5 (by decide) (fun _ => ?_) (fun q => absurd q c2)
    refine lv_iload_n C.1 C.2.1 dX9_handles_10 rfl (lv_at hl 2 rfl) ?_
    refine lv_i2l C.1 C.2.1 dX9_handles_11 rfl ?_
    refine lv_lconst (v := lN 0) C.1 C.2.1 dX9_handles_12 rfl ?_
    refine lv_ldc2 (v := lN 20) C.1 C.2.1 C.2.2.2.1 (C.2.2.2.2.1 _ (List.mem_cons_of_mem _ tg_5_38)) dX9_handles_13 ?_
    obtain ⟨v3, hv3, hf⟩ := of_bind hf
    refine r_callS1 C hG hl.1 (As := [.long x2.toInt64, .long (lN 0), .long (lN 20)]) (mt_X9_isIn l  hv3) (va_cwS 3 C.2.2.2.2.1 (gd_S tg_4_195 tg_4_196 tg_1_10 tg_4_197) rfl rfl rfl cd_X9_isIn.2 ⟨Nat.le_of_ble_eq_true rfl, Nat.le_of_ble_eq_true rfl⟩) rfl rfl (Nat.le_of_ble_eq_true rfl) dX9_handles_16 (fun H locs hG => ?_)
    rcases of_ite hf with ⟨c4, hf⟩ | ⟨c4, hf⟩
    · refine lv_if_ne (tgt := 25) C.1 C.2.1 dX9_handles_19 (by decide) (fun q => absurd c4 q) (fun _ => ?_)
      refine lv_bipush (v := (-2 : Int32)) C.1 C.2.1 dX9_handles_22 (by decide) ?_
      obtain rfl := Option.some.inj hf
      exact r_iret C hG dX9_handles_24
    · refine lv_if_ne (tgt := 25) C.1 C.2.1 dX9_handles_19 (by decide) (fun _ => ?_) (fun q => absurd q c4)
      refine lv_aload_n C.1 C.2.1 dX9_handles_25 rfl (lv_at hl 0 rfl) ?_
      refine lv_iload_n C.1 C.2.1 dX9_handles_26 rfl (lv_at hl 1 rfl) ?_
      obtain ⟨w5, hw5, hf⟩ := of_bind hf
      refine r_callV0 C hG hl.1 (c0 := 0) (As := [.int x1]) (by decide) (entM_O (n := 35) rfl) rfl (mt_X9_laysOut_ l  hw5) (cwV 1 C.2.2.2.2.1 (gd_V tg_4_221 tg_4_223 tgp_29 tg_1_10 tg_4_224) rfl rfl rfl cd_X9_laysOut_ ⟨Nat.le_of_ble_eq_true rfl, Nat.le_of_ble_eq_true rfl⟩) rfl rfl (Nat.le_of_ble_eq_true rfl) dX9_handles_27 (fun H locs hG => ?_)
      refine lv_iconst (v := nI 0) C.1 C.2.1 dX9_handles_30 (by decide) ?_
      refine lv_istore (lv' := [(4, .int (nI 0)), (0, .ref (B + 0)), (1, .int x1), (2, .int x2), (3, .int x3)]) C.1 C.2.1 dX9_handles_31 hl (by decide) rfl (fun ls hl => ?_)
      obtain ⟨ex6, hex6, hf⟩ := of_bind hf
      refine kl_X9_handles_33 C  FU (nI 0, w5) ex6 _ _ _ hG (lv_sub hl [1, 3, 4, 0] rfl) hex6 (fun y7 e0 H locs ls hG hl => ?_) (fun y8 e0 H locs ls hG hl => ?_)
      · subst e0
        simp only [Sum.elim_inl, Sum.elim_inr] at hf
        refine lv_iload C.1 C.2.1 dX9_handles_51 (lv_at hl 0 rfl) ?_
        obtain rfl := Option.some.inj hf
        exact r_iret C hG dX9_handles_53
      · subst e0
        simp only [Sum.elim_inl, Sum.elim_inr] at hf
        refine lv_bipush (v := (-5 : Int32)) C.1 C.2.1 dX9_handles_60 (by decide) ?_
        obtain rfl := Option.some.inj hf
        exact r_iret C hG dX9_handles_62
set_option maxRecDepth 100000 in
set_option maxHeartbeats 4000000 in
theorem mt_X9_handles (l : Launch) {G : GG} {A : Nat → Prop} {B : Nat} {X : va_W} {x1 : Int32} {x2 : Int32} {x3 : Int32} {w : Mem} {out : Int32 × Mem}  (hf : sh_X9_handles x1 x2 x3 w = some out) : MetW l yX9_handles wc_X9_handles rm_X9_handles G A 28 B (entM G B w) X [.ref (B + 0), .int x1, .int x2, .int x3] (some (.int out.1)) (entM G B out.2) := by
  refine Met.ofW (cc := cX9_handles) (maxL := 5) (ret := (some .int)) (by decide) rfl ?_
  intro p e s m args below meth c s₁ B0 hml hv
  obtain ⟨rfl, hEv, hWd⟩ := hv
  have C : CX p s m _ meth c cX9_handles 5 RX9 wc_X9_handles (some .int) := ⟨B0.exec, B0.bytes, hml, findClass_of_methodNamed B0.named, atoms_spec (ws := wc_X9_handles) B0.pre, B0.returns, B0.notSynchronized⟩
  have hl := lv_entry [.ref (B + 0), .int x1, .int x2, .int x3] (n := 5) (Nat.le_of_ble_eq_true rfl)
  rw [lg_entry_eq]
  generalize (lg_sl [.ref (B + 0), .int x1, .int x2, .int x3] ++ List.replicate (5 - (lg_sl [.ref (B + 0), .int x1, .int x2, .int x3]).length) Slot.unset).toArray = ls at hl ⊢
  have hl : lv_has ls 5 [(0, .ref (B + 0)), (1, .int x1), (2, .int x2), (3, .int x3)] := hl
  exact kb_X9_handles_0 C  ⟨hEv, hWd, va_S.rf⟩ hl hf
abbrev wc_X9_were : List Cond := Cond.code yX9_were cX9_were 7 (some .int) :: TG
abbrev rm_X9_were : Room := { frames := 6, cells := 0, slots := 0, locals := 195 }
theorem cd_X9_were : yX9_were.cls = RX9 ∧ yX9_were.cls ≠ "java/lang/invoke/MethodHandle" ∧ yX9_were.cls ≠ "java/lang/invoke/VarHandle" ∧ (parseMethodDescriptor yX9_were.desc).map (fun d => d.parameters.length) = some 4 := by decide +kernel
theorem dX9_were_0 : decode cX9_were 0 = .ok (.aload_n 0, 1) := by decide +kernel
theorem dX9_were_1 : decode cX9_were 1 = .ok (.iload_n 1, 1) := by decide +kernel
theorem dX9_were_2 : decode cX9_were 2 = .ok (.invokevirtual 109, 3) := by decide +kernel
theorem dX9_were_5 : decode cX9_were 5 = .ok (.ifCond .ne 5, 3) := by decide +kernel
theorem dX9_were_8 : decode cX9_were 8 = .ok (.iconst (-1), 1) := by decide +kernel
theorem dX9_were_9 : decode cX9_were 9 = .ok (.ireturn, 1) := by decide +kernel
theorem dX9_were_10 : decode cX9_were 10 = .ok (.iload_n 2, 1) := by decide +kernel
theorem dX9_were_11 : decode cX9_were 11 = .ok (.i2l, 1) := by decide +kernel
theorem dX9_were_12 : decode cX9_were 12 = .ok (.lconst 0, 1) := by decide +kernel
theorem dX9_were_13 : decode cX9_were 13 = .ok (.ldc2_w 165, 3) := by decide +kernel
theorem dX9_were_16 : decode cX9_were 16 = .ok (.invokestatic 93, 3) := by decide +kernel
theorem dX9_were_19 : decode cX9_were 19 = .ok (.ifCond .eq 15, 3) := by decide +kernel
theorem dX9_were_22 : decode cX9_were 22 = .ok (.iload_n 3, 1) := by decide +kernel
theorem dX9_were_23 : decode cX9_were 23 = .ok (.i2l, 1) := by decide +kernel
theorem dX9_were_24 : decode cX9_were 24 = .ok (.lconst 0, 1) := by decide +kernel
theorem dX9_were_25 : decode cX9_were 25 = .ok (.ldc2_w 165, 3) := by decide +kernel
theorem dX9_were_28 : decode cX9_were 28 = .ok (.invokestatic 93, 3) := by decide +kernel
theorem dX9_were_31 : decode cX9_were 31 = .ok (.ifCond .ne 6, 3) := by decide +kernel
theorem dX9_were_34 : decode cX9_were 34 = .ok (.bipush (-2), 2) := by decide +kernel
theorem dX9_were_36 : decode cX9_were 36 = .ok (.ireturn, 1) := by decide +kernel
theorem dX9_were_37 : decode cX9_were 37 = .ok (.iconst 0, 1) := by decide +kernel
theorem dX9_were_38 : decode cX9_were 38 = .ok (.istore 5, 2) := by decide +kernel
theorem dX9_were_40 : decode cX9_were 40 = .ok (.iconst 0, 1) := by decide +kernel
theorem dX9_were_41 : decode cX9_were 41 = .ok (.istore 6, 2) := by decide +kernel
theorem dX9_were_43 : decode cX9_were 43 = .ok (.iload 6, 2) := by decide +kernel
theorem dX9_were_45 : decode cX9_were 45 = .ok (.bipush 9, 2) := by decide +kernel
theorem dX9_were_47 : decode cX9_were 47 = .ok (.if_icmp .gt 40, 3) := by decide +kernel
theorem dX9_were_50 : decode cX9_were 50 = .ok (.aload_n 0, 1) := by decide +kernel
theorem dX9_were_51 : decode cX9_were 51 = .ok (.iload_n 1, 1) := by decide +kernel
theorem dX9_were_52 : decode cX9_were 52 = .ok (.iload 6, 2) := by decide +kernel
theorem dX9_were_54 : decode cX9_were 54 = .ok (.invokevirtual 148, 3) := by decide +kernel
theorem dX9_were_57 : decode cX9_were 57 = .ok (.iload 5, 2) := by decide +kernel
theorem dX9_were_59 : decode cX9_were 59 = .ok (.aload_n 0, 1) := by decide +kernel
theorem dX9_were_60 : decode cX9_were 60 = .ok (.iload_n 2, 1) := by decide +kernel
theorem dX9_were_61 : decode cX9_were 61 = .ok (.iload_n 3, 1) := by decide +kernel
theorem dX9_were_62 : decode cX9_were 62 = .ok (.invokevirtual 167, 3) := by decide +kernel
theorem dX9_were_65 : decode cX9_were 65 = .ok (.iload 4, 2) := by decide +kernel
theorem dX9_were_67 : decode cX9_were 67 = .ok (.if_icmp .ne 10, 3) := by decide +kernel
theorem dX9_were_70 : decode cX9_were 70 = .ok (.iconst 1, 1) := by decide +kernel
theorem dX9_were_71 : decode cX9_were 71 = .ok (.iload 6, 2) := by decide +kernel
theorem dX9_were_73 : decode cX9_were 73 = .ok (.ishl, 1) := by decide +kernel
theorem dX9_were_74 : decode cX9_were 74 = .ok (.goto 4, 3) := by decide +kernel
theorem dX9_were_77 : decode cX9_were 77 = .ok (.iconst 0, 1) := by decide +kernel
theorem dX9_were_78 : decode cX9_were 78 = .ok (.ior, 1) := by decide +kernel
theorem dX9_were_79 : decode cX9_were 79 = .ok (.istore 5, 2) := by decide +kernel
theorem dX9_were_81 : decode cX9_were 81 = .ok (.iinc 6 1, 3) := by decide +kernel
theorem dX9_were_84 : decode cX9_were 84 = .ok (.goto (-41), 3) := by decide +kernel
theorem dX9_were_87 : decode cX9_were 87 = .ok (.iload 5, 2) := by decide +kernel
theorem dX9_were_89 : decode cX9_were 89 = .ok (.ireturn, 1) := by decide +kernel
set_option maxRecDepth 100000 in
set_option maxHeartbeats 4000000 in
theorem kb_X9_were_43 {x1 : Int32} {x2 : Int32} {x3 : Int32} {x4 : Int32} {st : Int32 × Int32 × Mem} {r : (Int32 × Int32 × Mem) ⊕ ((Int32 × Mem))} {H : Heap} {locs : List Loc} {ls : Array Slot} (C : CX p s m args meth c cX9_were 7 RX9 wc_X9_were (some .int))  (hG : Gd s G A 28 B (entM G B st.2.2) X H locs) (hl : lv_has ls 7 [(0, .ref (B + 0)), (1, .int x1), (2, .int x2), (3, .int x3), (4, .int x4), (5, .int st.1), (6, .int st.2.1)]) (hf : sh_X9_were_s43 x1 x2 x3 x4 st = some r)
    (kL : ∀ st' : Int32 × Int32 × Mem, r = Sum.inl st' → ∀ (H : Heap) (locs : List Loc) (ls : Array Slot), Gd s G A 28 B (entM G B st'.2.2) X H locs → lv_has ls 7 [(0, .ref (B + 0)), (1, .int x1), (2, .int x2), (3, .int x3), (4, .int x4), (5, .int st'.1), (6, .int st'.2.1)] → W p l e rm_X9_were s m args below meth c H locs 0 0 Q (F0 m 43 ls []))
    (kX0 : ∀ y' : Int32 × Mem, r = Sum.inr y' → ∀ (H : Heap) (locs : List Loc) (ls : Array Slot), Gd s G A 28 B (entM G B y'.2) X H locs → lv_has ls 7 [(5, .int y'.1)] → W p l e rm_X9_were s m args below meth c H locs 0 0 Q (F0 m 87 ls [])) :
    W p l e rm_X9_were s m args below meth c H locs 0 0 Q (F0 m 43 ls []) := by
  refine lv_iload C.1 C.2.1 dX9_were_43 (lv_at hl 6 rfl) ?_
  refine lv_bipush (v := nI 9) C.1 C.2.1 dX9_were_45 (by decide) ?_
  rcases of_ite hf with ⟨c1, hf⟩ | ⟨c1, hf⟩
  · refine lv_icmp_gt (tgt := 87) C.1 C.2.1 dX9_were_47 (by decide) (fun _ => ?_) (fun q => absurd c1 q)
    obtain rfl := Option.some.inj hf
    exact kX0 _ rfl _ _ _ hG (lv_sub hl [5] rfl)
  · refine lv_icmp_gt (tgt := 87) C.1 C.2.1 dX9_were_47 (by decide) (fun q => absurd q c1) (fun _ => ?_)
    refine lv_aload_n C.1 C.2.1 dX9_were_50 rfl (lv_at hl 0 rfl) ?_
    refine lv_iload_n C.1 C.2.1 dX9_were_51 rfl (lv_at hl 1 rfl) ?_
    refine lv_iload C.1 C.2.1 dX9_were_52 (lv_at hl 6 rfl) ?_
    obtain ⟨w2, hw2, hf⟩ := of_bind hf
    refine r_callV0 C hG hl.1 (c0 := 0) (As := [.int x1, .int st.2.1]) (by decide) (entM_O (n := 35) rfl) rfl (mt_X9_laysOut l  hw2) (cwV 2 C.2.2.2.2.1 (gd_V tg_4_225 tg_4_227 tgp_30 tg_1_10 tg_4_228) rfl rfl rfl cd_X9_laysOut ⟨Nat.le_of_ble_eq_true rfl, Nat.le_of_ble_eq_true rfl⟩) rfl rfl (Nat.le_of_ble_eq_true rfl) dX9_were_54 (fun H locs hG => ?_)
    refine lv_iload C.1 C.2.1 dX9_were_57 (lv_at hl 5 rfl) ?_
    refine lv_aload_n C.1 C.2.1 dX9_were_59 rfl (lv_at hl 0 rfl) ?_
    refine lv_iload_n C.1 C.2.1 dX9_were_60 rfl (lv_at hl 2 rfl) ?_
    refine lv_iload_n C.1 C.2.1 dX9_were_61 rfl (lv_at hl 3 rfl) ?_
    obtain ⟨v3, hv3, hf⟩ := of_bind hf
    refine r_callV1 C hG hl.1 (c0 := 0) (As := [.int x2, .int x3]) (by decide) (entM_O (n := 35) rfl) rfl (mt_X9_closedBy l  hv3) (cwV 2 C.2.2.2.2.1 (gd_V tg_5_39 tg_5_41 tgp_36 tg_1_10 tg_5_42) rfl rfl rfl cd_X9_closedBy ⟨Nat.le_of_ble_eq_true rfl, Nat.le_of_ble_eq_true rfl⟩) rfl rfl (Nat.le_of_ble_eq_true rfl) dX9_were_62 (fun H locs hG => ?_)
    refine lv_iload C.1 C.2.1 dX9_were_65 (lv_at hl 4 rfl) ?_
    rcases of_ite hf with ⟨c4, hf⟩ | ⟨c4, hf⟩
    · refine lv_icmp_ne (tgt := 77) C.1 C.2.1 dX9_were_67 (by decide) (fun q => absurd c4 q) (fun _ => ?_)
      refine lv_iconst (v := nI 1) C.1 C.2.1 dX9_were_70 (by decide) ?_
      refine lv_iload C.1 C.2.1 dX9_were_71 (lv_at hl 6 rfl) ?_
      refine lv_ishl C.1 C.2.1 dX9_were_73 ?_
      refine lv_goto (tgt := 78) C.1 C.2.1 dX9_were_74 (by decide) ?_
      refine lv_ior C.1 C.2.1 dX9_were_78 ?_
      obtain ⟨v7, ev7, hf⟩ := of_letv hf
      refine r_top ev7 ?_
      refine lv_istore (lv' := [(5, .int v7), (0, .ref (B + 0)), (1, .int x1), (2, .int x2), (3, .int x3), (4, .int x4), (6, .int st.2.1)]) C.1 C.2.1 dX9_were_79 hl (by decide) rfl (fun ls hl => ?_)
      obtain ⟨v8, ev8, hf⟩ := of_letv hf
      refine lv_iinc (v := v8) (lv' := [(6, .int v8), (5, .int v7), (0, .ref (B + 0)), (1, .int x1), (2, .int x2), (3, .int x3), (4, .int x4)]) C.1 C.2.1 dX9_were_81 hl (k := 6) rfl (by rw [ev8, show Int32.ofInt (1) = nI 1 from by decide]) (by decide) rfl (fun ls hl => ?_)
      refine lv_goto (tgt := 43) C.1 C.2.1 dX9_were_84 (by decide) ?_
      obtain rfl := Option.some.inj hf
      exact kL _ rfl _ _ _ hG (lv_sub hl [2, 3, 4, 5, 6, 1, 0] rfl)
    · refine lv_icmp_ne (tgt := 77) C.1 C.2.1 dX9_were_67 (by decide) (fun _ => ?_) (fun q => absurd q c4)
      refine lv_iconst (v := nI 0) C.1 C.2.1 dX9_were_77 (by decide) ?_
      refine lv_ior C.1 C.2.1 dX9_were_78 ?_
      obtain ⟨v5, ev5, hf⟩ := of_letv hf
      refine r_top ev5 ?_
      refine lv_istore (lv' := [(5, .int v5), (0, .ref (B + 0)), (1, .int x1), (2, .int x2), (3, .int x3), (4, .int x4), (6, .int st.2.1)]) C.1 C.2.1 dX9_were_79 hl (by decide) rfl (fun ls hl => ?_)
      obtain ⟨v6, ev6, hf⟩ := of_letv hf
      refine lv_iinc (v := v6) (lv' := [(6, .int v6), (5, .int v5), (0, .ref (B + 0)), (1, .int x1), (2, .int x2), (3, .int x3), (4, .int x4)]) C.1 C.2.1 dX9_were_81 hl (k := 6) rfl (by rw [ev6, show Int32.ofInt (1) = nI 1 from by decide]) (by decide) rfl (fun ls hl => ?_)
      refine lv_goto (tgt := 43) C.1 C.2.1 dX9_were_84 (by decide) ?_
      obtain rfl := Option.some.inj hf
      exact kL _ rfl _ _ _ hG (lv_sub hl [2, 3, 4, 5, 6, 1, 0] rfl)
set_option maxRecDepth 100000 in
set_option maxHeartbeats 4000000 in
theorem kl_X9_were_43 {x1 : Int32} {x2 : Int32} {x3 : Int32} {x4 : Int32} (C : CX p s m args meth c cX9_were 7 RX9 wc_X9_were (some .int))  : ∀ (n : Nat) (st : Int32 × Int32 × Mem) (x : (Int32 × Mem)) (H : Heap) (locs : List Loc) (ls : Array Slot), Gd s G A 28 B (entM G B st.2.2) X H locs → lv_has ls 7 [(0, .ref (B + 0)), (1, .int x1), (2, .int x2), (3, .int x3), (4, .int x4), (5, .int st.1), (6, .int st.2.1)] → lpw (sh_X9_were_s43 x1 x2 x3 x4) n st = some x →
    (∀ y' : Int32 × Mem, x = y' → ∀ (H : Heap) (locs : List Loc) (ls : Array Slot), Gd s G A 28 B (entM G B y'.2) X H locs → lv_has ls 7 [(5, .int y'.1)] → W p l e rm_X9_were s m args below meth c H locs 0 0 Q (F0 m 87 ls [])) → W p l e rm_X9_were s m args below meth c H locs 0 0 Q (F0 m 43 ls []) := by
  intro n
  induction n with
  | zero =>
    intro st x H locs ls hG hl hf
    cases hf
  | succ n ih =>
    intro st x H locs ls hG hl hf kX0
    obtain ⟨r, hr, hh⟩ := of_lpw hf
    refine kb_X9_were_43 C  hG hl hr (fun st2 e1 H locs ls hG hl => ?_) (fun y2 e1 H locs ls hG hl => ?_)
    · rcases hh with ⟨s3, e2, hh⟩ | e2
      · rw [e2] at e1
        cases e1
        exact ih _ _ _ _ _ hG hl hh kX0
      · rw [e2] at e1
        cases e1
    · rcases hh with ⟨s3, e2, hh⟩ | e2
      · rw [e2] at e1
        cases e1
      · rw [e2] at e1
        cases e1
        exact kX0 _ rfl _ _ _ hG hl
set_option maxRecDepth 100000 in
set_option maxHeartbeats 4000000 in
theorem kb_X9_were_0 {x1 : Int32} {x2 : Int32} {x3 : Int32} {x4 : Int32} {w : Mem} {out : Int32 × Mem} {H : Heap} {locs : List Loc} {ls : Array Slot} (C : CX p s m args meth c cX9_were 7 RX9 wc_X9_were (some .int))  (hG : Gd s G A 28 B (entM G B w) X H locs) (hl : lv_has ls 7 [(0, .ref (B + 0)), (1, .int x1), (2, .int x2), (3, .int x3), (4, .int x4)]) (hf : sh_X9_were x1 x2 x3 x4 w = some out) :
    W p l e rm_X9_were s m args below meth c H locs 0 0 (MQ below (CPost G A 28 B (entM G B out.2) X (some (.int out.1))) args s 0 0 A) (F0 m 0 ls []) := by
  refine lv_aload_n C.1 C.2.1 dX9_were_0 rfl (lv_at hl 0 rfl) ?_
  refine lv_iload_n C.1 C.2.1 dX9_were_1 rfl (lv_at hl 1 rfl) ?_
  obtain ⟨v1, hv1, hf⟩ := of_bind hf
  refine r_callV1 C hG hl.1 (c0 := 0) (As := [.int x1]) (by decide) (entM_O (n := 35) rfl) rfl (mt_X9_isAlgebra l  hv1) (cwV 1 C.2.2.2.2.1 (gd_V tg_4_205 tg_4_207 tgp_27 tg_1_10 tg_4_208) rfl rfl rfl cd_X9_isAlgebra ⟨Nat.le_of_ble_eq_true rfl, Nat.le_of_ble_eq_true rfl⟩) rfl rfl (Nat.le_of_ble_eq_true rfl) dX9_were_2 (fun H locs hG => ?_)
  rcases of_ite hf with ⟨c2, hf⟩ | ⟨c2, hf⟩
  · refine lv_if_ne (tgt := 10) C.1 C.2.1 dX9_were_5 (by decide) (fun q => absurd c2 q) (fun _ => ?_)
    refine lv_iconst (v := (-1 : Int32)) C.1 C.2.1 dX9_were_8 (by decide) ?_
    obtain rfl := Option.some.inj hf
    exact r_iret C hG dX9_were_9
  · refine lv_if_ne (tgt := 10) C.1 C.2.1 dX9_were_5 (by decide) (fun _ => ?_) (fun q => absurd q c2)
    refine lv_iload_n C.1 C.2.1 dX9_were_10 rfl (lv_at hl 2 rfl) ?_
    refine lv_i2l C.1 C.2.1 dX9_were_11 rfl ?_
    refine lv_lconst (v := lN 0) C.1 C.2.1 dX9_were_12 rfl ?_
    refine lv_ldc2 (v := lN 20) C.1 C.2.1 C.2.2.2.1 (C.2.2.2.2.1 _ (List.mem_cons_of_mem _ tg_5_38)) dX9_were_13 ?_
    obtain ⟨v3, hv3, hf⟩ := of_bind hf
    refine r_callS1 C hG hl.1 (As := [.long x2.toInt64, .long (lN 0), .long (lN 20)]) (mt_X9_isIn l  hv3) (va_cwS 3 C.2.2.2.2.1 (gd_S tg_4_195 tg_4_196 tg_1_10 tg_4_197) rfl rfl rfl cd_X9_isIn.2 ⟨Nat.le_of_ble_eq_true rfl, Nat.le_of_ble_eq_true rfl⟩) rfl rfl (Nat.le_of_ble_eq_true rfl) dX9_were_16 (fun H locs hG => ?_)
    rcases of_ite hf with ⟨c4, hf⟩ | ⟨c4, hf⟩
    · refine lv_if_eq (tgt := 34) C.1 C.2.1 dX9_were_19 (by decide) (fun _ => ?_) (fun q => absurd c4 q)
      refine lv_bipush (v := (-2 : Int32)) C.1 C.2.1 dX9_were_34 (by decide) ?_
      obtain rfl := Option.some.inj hf
      exact r_iret C hG dX9_were_36
    · refine lv_if_eq (tgt := 34) C.1 C.2.1 dX9_were_19 (by decide) (fun q => absurd q c4) (fun _ => ?_)
      refine lv_iload_n C.1 C.2.1 dX9_were_22 rfl (lv_at hl 3 rfl) ?_
      refine lv_i2l C.1 C.2.1 dX9_were_23 rfl ?_
      refine lv_lconst (v := lN 0) C.1 C.2.1 dX9_were_24 rfl ?_
      refine lv_ldc2 (v := lN 20) C.1 C.2.1 C.2.2.2.1 (C.2.2.2.2.1 _ (List.mem_cons_of_mem _ tg_5_38)) dX9_were_25 ?_
      obtain ⟨v5, hv5, hf⟩ := of_bind hf
      refine r_callS1 C hG hl.1 (As := [.long x3.toInt64, .long (lN 0), .long (lN 20)]) (mt_X9_isIn l  hv5) (va_cwS 3 C.2.2.2.2.1 (gd_S tg_4_195 tg_4_196 tg_1_10 tg_4_197) rfl rfl rfl cd_X9_isIn.2 ⟨Nat.le_of_ble_eq_true rfl, Nat.le_of_ble_eq_true rfl⟩) rfl rfl (Nat.le_of_ble_eq_true rfl) dX9_were_28 (fun H locs hG => ?_)
      rcases of_ite hf with ⟨c6, hf⟩ | ⟨c6, hf⟩
      · refine lv_if_ne (tgt := 37) C.1 C.2.1 dX9_were_31 (by decide) (fun q => absurd c6 q) (fun _ => ?_)
        refine lv_bipush (v := (-2 : Int32)) C.1 C.2.1 dX9_were_34 (by decide) ?_
        obtain rfl := Option.some.inj hf
        exact r_iret C hG dX9_were_36
      · refine lv_if_ne (tgt := 37) C.1 C.2.1 dX9_were_31 (by decide) (fun _ => ?_) (fun q => absurd q c6)
        refine lv_iconst (v := nI 0) C.1 C.2.1 dX9_were_37 (by decide) ?_
        refine lv_istore (lv' := [(5, .int (nI 0)), (0, .ref (B + 0)), (1, .int x1), (2, .int x2), (3, .int x3), (4, .int x4)]) C.1 C.2.1 dX9_were_38 hl (by decide) rfl (fun ls hl => ?_)
        refine lv_iconst (v := nI 0) C.1 C.2.1 dX9_were_40 (by decide) ?_
        refine lv_istore (lv' := [(6, .int (nI 0)), (5, .int (nI 0)), (0, .ref (B + 0)), (1, .int x1), (2, .int x2), (3, .int x3), (4, .int x4)]) C.1 C.2.1 dX9_were_41 hl (by decide) rfl (fun ls hl => ?_)
        obtain ⟨ex7, hex7, hf⟩ := of_bind hf
        refine kl_X9_were_43 C  FU (nI 0, nI 0, w) ex7 _ _ _ hG (lv_sub hl [2, 3, 4, 5, 6, 1, 0] rfl) hex7 (fun y e0 H locs ls hG hl => ?_)
        subst e0
        refine lv_iload C.1 C.2.1 dX9_were_87 (lv_at hl 0 rfl) ?_
        obtain rfl := Option.some.inj hf
        exact r_iret C hG dX9_were_89
set_option maxRecDepth 100000 in
set_option maxHeartbeats 4000000 in
theorem mt_X9_were (l : Launch) {G : GG} {A : Nat → Prop} {B : Nat} {X : va_W} {x1 : Int32} {x2 : Int32} {x3 : Int32} {x4 : Int32} {w : Mem} {out : Int32 × Mem}  (hf : sh_X9_were x1 x2 x3 x4 w = some out) : MetW l yX9_were wc_X9_were rm_X9_were G A 28 B (entM G B w) X [.ref (B + 0), .int x1, .int x2, .int x3, .int x4] (some (.int out.1)) (entM G B out.2) := by
  refine Met.ofW (cc := cX9_were) (maxL := 7) (ret := (some .int)) (by decide) rfl ?_
  intro p e s m args below meth c s₁ B0 hml hv
  obtain ⟨rfl, hEv, hWd⟩ := hv
  have C : CX p s m _ meth c cX9_were 7 RX9 wc_X9_were (some .int) := ⟨B0.exec, B0.bytes, hml, findClass_of_methodNamed B0.named, atoms_spec (ws := wc_X9_were) B0.pre, B0.returns, B0.notSynchronized⟩
  have hl := lv_entry [.ref (B + 0), .int x1, .int x2, .int x3, .int x4] (n := 7) (Nat.le_of_ble_eq_true rfl)
  rw [lg_entry_eq]
  generalize (lg_sl [.ref (B + 0), .int x1, .int x2, .int x3, .int x4] ++ List.replicate (7 - (lg_sl [.ref (B + 0), .int x1, .int x2, .int x3, .int x4]).length) Slot.unset).toArray = ls at hl ⊢
  have hl : lv_has ls 7 [(0, .ref (B + 0)), (1, .int x1), (2, .int x2), (3, .int x3), (4, .int x4)] := hl
  exact kb_X9_were_0 C  ⟨hEv, hWd, va_S.rf⟩ hl hf
abbrev wc_X9_loads : List Cond := Cond.code yX9_loads cX9_loads 3 none :: TG
abbrev rm_X9_loads : Room := { frames := 2, cells := 0, slots := 0, locals := 100 }
theorem cd_X9_loads : yX9_loads.cls = RX9 ∧ yX9_loads.cls ≠ "java/lang/invoke/MethodHandle" ∧ yX9_loads.cls ≠ "java/lang/invoke/VarHandle" ∧ (parseMethodDescriptor yX9_loads.desc).map (fun d => d.parameters.length) = some 1 := by decide +kernel
theorem dX9_loads_0 : decode cX9_loads 0 = .ok (.aload_n 0, 1) := by decide +kernel
theorem dX9_loads_1 : decode cX9_loads 1 = .ok (.aload_n 0, 1) := by decide +kernel
theorem dX9_loads_2 : decode cX9_loads 2 = .ok (.getfield 11, 3) := by decide +kernel
theorem dX9_loads_5 : decode cX9_loads 5 = .ok (.bipush 13, 2) := by decide +kernel
theorem dX9_loads_7 : decode cX9_loads 7 = .ok (.iload_n 1, 1) := by decide +kernel
theorem dX9_loads_8 : decode cX9_loads 8 = .ok (.iadd, 1) := by decide +kernel
theorem dX9_loads_9 : decode cX9_loads 9 = .ok (.iaload, 1) := by decide +kernel
theorem dX9_loads_10 : decode cX9_loads 10 = .ok (.putfield 170, 3) := by decide +kernel
theorem dX9_loads_13 : decode cX9_loads 13 = .ok (.iconst 0, 1) := by decide +kernel
theorem dX9_loads_14 : decode cX9_loads 14 = .ok (.istore_n 2, 1) := by decide +kernel
theorem dX9_loads_15 : decode cX9_loads 15 = .ok (.iload_n 2, 1) := by decide +kernel
theorem dX9_loads_16 : decode cX9_loads 16 = .ok (.aload_n 0, 1) := by decide +kernel
theorem dX9_loads_17 : decode cX9_loads 17 = .ok (.getfield 170, 3) := by decide +kernel
theorem dX9_loads_20 : decode cX9_loads 20 = .ok (.if_icmp .ge 29, 3) := by decide +kernel
theorem dX9_loads_23 : decode cX9_loads 23 = .ok (.aload_n 0, 1) := by decide +kernel
theorem dX9_loads_24 : decode cX9_loads 24 = .ok (.getfield 45, 3) := by decide +kernel
theorem dX9_loads_27 : decode cX9_loads 27 = .ok (.iload_n 2, 1) := by decide +kernel
theorem dX9_loads_28 : decode cX9_loads 28 = .ok (.aload_n 0, 1) := by decide +kernel
theorem dX9_loads_29 : decode cX9_loads 29 = .ok (.getfield 11, 3) := by decide +kernel
theorem dX9_loads_32 : decode cX9_loads 32 = .ok (.bipush 17, 2) := by decide +kernel
theorem dX9_loads_34 : decode cX9_loads 34 = .ok (.bipush 24, 2) := by decide +kernel
theorem dX9_loads_36 : decode cX9_loads 36 = .ok (.iload_n 1, 1) := by decide +kernel
theorem dX9_loads_37 : decode cX9_loads 37 = .ok (.imul, 1) := by decide +kernel
theorem dX9_loads_38 : decode cX9_loads 38 = .ok (.iadd, 1) := by decide +kernel
theorem dX9_loads_39 : decode cX9_loads 39 = .ok (.iload_n 2, 1) := by decide +kernel
theorem dX9_loads_40 : decode cX9_loads 40 = .ok (.iadd, 1) := by decide +kernel
theorem dX9_loads_41 : decode cX9_loads 41 = .ok (.iaload, 1) := by decide +kernel
theorem dX9_loads_42 : decode cX9_loads 42 = .ok (.iastore, 1) := by decide +kernel
theorem dX9_loads_43 : decode cX9_loads 43 = .ok (.iinc 2 1, 3) := by decide +kernel
theorem dX9_loads_46 : decode cX9_loads 46 = .ok (.goto (-31), 3) := by decide +kernel
theorem dX9_loads_49 : decode cX9_loads 49 = .ok (.return_, 1) := by decide +kernel
set_option maxRecDepth 100000 in
set_option maxHeartbeats 4000000 in
theorem kb_X9_loads_15 {x1 : Int32} {st : Int32 × Mem} {r : (Int32 × Mem) ⊕ ((Mem))} {H : Heap} {locs : List Loc} {ls : Array Slot} (C : CX p s m args meth c cX9_loads 3 RX9 wc_X9_loads none)  (hG : Gd s G A 28 B (entM G B st.2) X H locs) (hl : lv_has ls 3 [(0, .ref (B + 0)), (1, .int x1), (2, .int st.1)]) (hf : sh_X9_loads_s15 x1 st = some r)
    (kL : ∀ st' : Int32 × Mem, r = Sum.inl st' → ∀ (H : Heap) (locs : List Loc) (ls : Array Slot), Gd s G A 28 B (entM G B st'.2) X H locs → lv_has ls 3 [(0, .ref (B + 0)), (1, .int x1), (2, .int st'.1)] → W p l e rm_X9_loads s m args below meth c H locs 0 0 Q (F0 m 15 ls []))
    (kX0 : ∀ y' : Mem, r = Sum.inr y' → ∀ (H : Heap) (locs : List Loc) (ls : Array Slot), Gd s G A 28 B (entM G B y') X H locs → lv_has ls 3 [] → W p l e rm_X9_loads s m args below meth c H locs 0 0 Q (F0 m 49 ls [])) :
    W p l e rm_X9_loads s m args below meth c H locs 0 0 Q (F0 m 15 ls []) := by
  refine lv_iload_n C.1 C.2.1 dX9_loads_15 rfl (lv_at hl 2 rfl) ?_
  refine lv_aload_n C.1 C.2.1 dX9_loads_16 rfl (lv_at hl 0 rfl) ?_
  refine gf_X9_170 C hG rfl dX9_loads_17 ?_
  rcases of_ite hf with ⟨c1, hf⟩ | ⟨c1, hf⟩
  · refine lv_icmp_ge (tgt := 49) C.1 C.2.1 dX9_loads_20 (by decide) (fun _ => ?_) (fun q => absurd c1 q)
    obtain rfl := Option.some.inj hf
    exact kX0 _ rfl _ _ _ hG (lv_sub hl [] rfl)
  · refine lv_icmp_ge (tgt := 49) C.1 C.2.1 dX9_loads_20 (by decide) (fun q => absurd q c1) (fun _ => ?_)
    refine lv_aload_n C.1 C.2.1 dX9_loads_23 rfl (lv_at hl 0 rfl) ?_
    refine gf_X9_45 C hG rfl dX9_loads_24 ?_
    refine lv_iload_n C.1 C.2.1 dX9_loads_27 rfl (lv_at hl 2 rfl) ?_
    refine lv_aload_n C.1 C.2.1 dX9_loads_28 rfl (lv_at hl 0 rfl) ?_
    refine gf_X9_11 C hG rfl dX9_loads_29 ?_
    refine lv_bipush (v := nI 17) C.1 C.2.1 dX9_loads_32 (by decide) ?_
    refine lv_bipush (v := nI 24) C.1 C.2.1 dX9_loads_34 (by decide) ?_
    refine lv_iload_n C.1 C.2.1 dX9_loads_36 rfl (lv_at hl 1 rfl) ?_
    refine lv_imul C.1 C.2.1 dX9_loads_37 ?_
    refine lv_iadd C.1 C.2.1 dX9_loads_38 ?_
    refine lv_iload_n C.1 C.2.1 dX9_loads_39 rfl (lv_at hl 2 rfl) ?_
    refine lv_iadd C.1 C.2.1 dX9_loads_40 ?_
    obtain ⟨v2, hv2, hf⟩ := of_bind hf
    obtain ⟨bv2, ev2⟩ := of_ldS hv2
    refine r_iald C hG (c0 := 1) (by decide) (entM_I (n := 130) rfl) bv2 dX9_loads_41 ?_
    refine r_top ev2 ?_
    obtain ⟨w3, hw3, hf⟩ := of_bind hf
    obtain ⟨bw3, ew3⟩ := of_stM hw3
    refine r_iast C hG (c0 := 12) (by decide) (entM_I (n := 48) rfl) bw3 (E' := (entM G B w3)) (by rw [ew3]; exact upM_I (n := 48) rfl) dX9_loads_42 (fun H locs hG => ?_)
    obtain ⟨v4, ev4, hf⟩ := of_letv hf
    refine lv_iinc (v := v4) (lv' := [(2, .int v4), (0, .ref (B + 0)), (1, .int x1)]) C.1 C.2.1 dX9_loads_43 hl (k := 2) rfl (by rw [ev4, show Int32.ofInt (1) = nI 1 from by decide]) (by decide) rfl (fun ls hl => ?_)
    refine lv_goto (tgt := 15) C.1 C.2.1 dX9_loads_46 (by decide) ?_
    obtain rfl := Option.some.inj hf
    exact kL _ rfl _ _ _ hG (lv_sub hl [1, 2, 0] rfl)
set_option maxRecDepth 100000 in
set_option maxHeartbeats 4000000 in
theorem kl_X9_loads_15 {x1 : Int32} (C : CX p s m args meth c cX9_loads 3 RX9 wc_X9_loads none)  : ∀ (n : Nat) (st : Int32 × Mem) (x : (Mem)) (H : Heap) (locs : List Loc) (ls : Array Slot), Gd s G A 28 B (entM G B st.2) X H locs → lv_has ls 3 [(0, .ref (B + 0)), (1, .int x1), (2, .int st.1)] → lpw (sh_X9_loads_s15 x1) n st = some x →
    (∀ y' : Mem, x = y' → ∀ (H : Heap) (locs : List Loc) (ls : Array Slot), Gd s G A 28 B (entM G B y') X H locs → lv_has ls 3 [] → W p l e rm_X9_loads s m args below meth c H locs 0 0 Q (F0 m 49 ls [])) → W p l e rm_X9_loads s m args below meth c H locs 0 0 Q (F0 m 15 ls []) := by
  intro n
  induction n with
  | zero =>
    intro st x H locs ls hG hl hf
    cases hf
  | succ n ih =>
    intro st x H locs ls hG hl hf kX0
    obtain ⟨r, hr, hh⟩ := of_lpw hf
    refine kb_X9_loads_15 C  hG hl hr (fun st2 e1 H locs ls hG hl => ?_) (fun y2 e1 H locs ls hG hl => ?_)
    · rcases hh with ⟨s3, e2, hh⟩ | e2
      · rw [e2] at e1
        cases e1
        exact ih _ _ _ _ _ hG hl hh kX0
      · rw [e2] at e1
        cases e1
    · rcases hh with ⟨s3, e2, hh⟩ | e2
      · rw [e2] at e1
        cases e1
      · rw [e2] at e1
        cases e1
        exact kX0 _ rfl _ _ _ hG hl
set_option maxRecDepth 100000 in
set_option maxHeartbeats 4000000 in
theorem kb_X9_loads_0 {x1 : Int32} {w : Mem} {out : Mem} {H : Heap} {locs : List Loc} {ls : Array Slot} (C : CX p s m args meth c cX9_loads 3 RX9 wc_X9_loads none)  (hG : Gd s G A 28 B (entM G B w) X H locs) (hl : lv_has ls 3 [(0, .ref (B + 0)), (1, .int x1)]) (hf : sh_X9_loads x1 w = some out) :
    W p l e rm_X9_loads s m args below meth c H locs 0 0 (MQ below (CPost G A 28 B (entM G B out) X none) args s 0 0 A) (F0 m 0 ls []) := by
  refine lv_aload_n C.1 C.2.1 dX9_loads_0 rfl (lv_at hl 0 rfl) ?_
  refine lv_aload_n C.1 C.2.1 dX9_loads_1 rfl (lv_at hl 0 rfl) ?_
  refine gf_X9_11 C hG rfl dX9_loads_2 ?_
  refine lv_bipush (v := nI 13) C.1 C.2.1 dX9_loads_5 (by decide) ?_
  refine lv_iload_n C.1 C.2.1 dX9_loads_7 rfl (lv_at hl 1 rfl) ?_
  refine lv_iadd C.1 C.2.1 dX9_loads_8 ?_
  obtain ⟨v1, hv1, hf⟩ := of_bind hf
  obtain ⟨bv1, ev1⟩ := of_ldS hv1
  refine r_iald C hG (c0 := 1) (by decide) (entM_I (n := 130) rfl) bv1 dX9_loads_9 ?_
  refine r_top ev1 ?_
  obtain ⟨w2, ew2, hf⟩ := of_letv hf
  refine pf_X9_170 C hG rfl dX9_loads_10 (fun H locs hG => ?_)
  rw [← ew2] at hG
  refine lv_iconst (v := nI 0) C.1 C.2.1 dX9_loads_13 (by decide) ?_
  refine lv_istore_n (lv' := [(2, .int (nI 0)), (0, .ref (B + 0)), (1, .int x1)]) C.1 C.2.1 dX9_loads_14 rfl hl (by decide) rfl (fun ls hl => ?_)
  obtain ⟨ex3, hex3, hf⟩ := of_bind hf
  refine kl_X9_loads_15 C  FU (nI 0, w2) ex3 _ _ _ hG (lv_sub hl [1, 2, 0] rfl) hex3 (fun y e0 H locs ls hG hl => ?_)
  subst e0
  obtain rfl := Option.some.inj hf
  exact r_vret C hG dX9_loads_49
set_option maxRecDepth 100000 in
set_option maxHeartbeats 4000000 in
theorem mt_X9_loads (l : Launch) {G : GG} {A : Nat → Prop} {B : Nat} {X : va_W} {x1 : Int32} {w : Mem} {out : Mem}  (hf : sh_X9_loads x1 w = some out) : MetW l yX9_loads wc_X9_loads rm_X9_loads G A 28 B (entM G B w) X [.ref (B + 0), .int x1] none (entM G B out) := by
  refine Met.ofW (cc := cX9_loads) (maxL := 3) (ret := none) (by decide) rfl ?_
  intro p e s m args below meth c s₁ B0 hml hv
  obtain ⟨rfl, hEv, hWd⟩ := hv
  have C : CX p s m _ meth c cX9_loads 3 RX9 wc_X9_loads none := ⟨B0.exec, B0.bytes, hml, findClass_of_methodNamed B0.named, atoms_spec (ws := wc_X9_loads) B0.pre, B0.returns, B0.notSynchronized⟩
  have hl := lv_entry [.ref (B + 0), .int x1] (n := 3) (Nat.le_of_ble_eq_true rfl)
  rw [lg_entry_eq]
  generalize (lg_sl [.ref (B + 0), .int x1] ++ List.replicate (3 - (lg_sl [.ref (B + 0), .int x1]).length) Slot.unset).toArray = ls at hl ⊢
  have hl : lv_has ls 3 [(0, .ref (B + 0)), (1, .int x1)] := hl
  exact kb_X9_loads_0 C  ⟨hEv, hWd, va_S.rf⟩ hl hf
end
