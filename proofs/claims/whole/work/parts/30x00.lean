section
variable {p : Program} {l : Launch} {e : Env} {s : State} {m : MethodId} {args : Array Value} {below : List Frame} {meth : Method} {c : Code} {Q : State → Prop} {G : GG} {A : Nat → Prop} {N B : Nat} {E : Nat → va_E} {X : va_W}
abbrev wc_X0_at : List Cond := Cond.code yX0_at cX0_at 3 (some .int) :: TG
abbrev rm_X0_at : Room := { frames := 2, cells := 0, slots := 0, locals := 100 }
theorem cd_X0_at : yX0_at.cls = RX0 ∧ yX0_at.cls ≠ "java/lang/invoke/MethodHandle" ∧ yX0_at.cls ≠ "java/lang/invoke/VarHandle" ∧ (parseMethodDescriptor yX0_at.desc).map (fun d => d.parameters.length) = some 2 := by decide +kernel
theorem dX0_at_0 : decode cX0_at 0 = .ok (.iload_n 1, 1) := by decide +kernel
theorem dX0_at_1 : decode cX0_at 1 = .ok (.aload_n 0, 1) := by decide +kernel
theorem dX0_at_2 : decode cX0_at 2 = .ok (.getfield 49, 3) := by decide +kernel
theorem dX0_at_5 : decode cX0_at 5 = .ok (.imul, 1) := by decide +kernel
theorem dX0_at_6 : decode cX0_at 6 = .ok (.iload_n 2, 1) := by decide +kernel
theorem dX0_at_7 : decode cX0_at 7 = .ok (.iadd, 1) := by decide +kernel
theorem dX0_at_8 : decode cX0_at 8 = .ok (.ireturn, 1) := by decide +kernel
set_option maxRecDepth 100000 in
set_option maxHeartbeats 4000000 in
theorem kb_X0_at_0 {th : Nat} {x1 : Int32} {x2 : Int32} {w : WX} {out : Int32} {H : Heap} {locs : List Loc} {ls : Array Slot} (C : CX p s m args meth c cX0_at 3 RX0 wc_X0_at (some .int)) (hth : KDx th = (0, 13)) (hG : Gd s G A 153 B (entX G B w) X H locs) (hl : lv_has ls 3 [(0, .ref (B + th)), (1, .int x1), (2, .int x2)]) (hf : sh_X0_at th x1 x2 w = some out) :
    W p l e rm_X0_at s m args below meth c H locs 0 0 (MQ below (CPost G A 153 B (entX G B w) X (some (.int out))) args s 0 0 A) (F0 m 0 ls []) := by
  refine lv_iload_n C.1 C.2.1 dX0_at_0 rfl (lv_at hl 1 rfl) ?_
  refine lv_aload_n C.1 C.2.1 dX0_at_1 rfl (lv_at hl 0 rfl) ?_
  refine gf_X0_49 C hG hth dX0_at_2 ?_
  refine lv_imul C.1 C.2.1 dX0_at_5 ?_
  refine lv_iload_n C.1 C.2.1 dX0_at_6 rfl (lv_at hl 2 rfl) ?_
  refine lv_iadd C.1 C.2.1 dX0_at_7 ?_
  obtain rfl := Option.some.inj hf
  exact r_iret C hG dX0_at_8
set_option maxRecDepth 100000 in
set_option maxHeartbeats 4000000 in
theorem mt_X0_at (l : Launch) {G : GG} {A : Nat → Prop} {B : Nat} {X : va_W} {th : Nat} {x1 : Int32} {x2 : Int32} {w : WX} {out : Int32} (hth : KDx th = (0, 13)) (hf : sh_X0_at th x1 x2 w = some out) : MetW l yX0_at wc_X0_at rm_X0_at G A 153 B (entX G B w) X [.ref (B + th), .int x1, .int x2] (some (.int out)) (entX G B w) := by
  refine Met.ofW (cc := cX0_at) (maxL := 3) (ret := (some .int)) (by decide) rfl ?_
  intro p e s m args below meth c s₁ B0 hml hv
  obtain ⟨rfl, hEv, hWd⟩ := hv
  have C : CX p s m _ meth c cX0_at 3 RX0 wc_X0_at (some .int) := ⟨B0.exec, B0.bytes, hml, findClass_of_methodNamed B0.named, atoms_spec (ws := wc_X0_at) B0.pre, B0.returns, B0.notSynchronized⟩
  have hl := lv_entry [.ref (B + th), .int x1, .int x2] (n := 3) (Nat.le_of_ble_eq_true rfl)
  rw [lg_entry_eq]
  generalize (lg_sl [.ref (B + th), .int x1, .int x2] ++ List.replicate (3 - (lg_sl [.ref (B + th), .int x1, .int x2]).length) Slot.unset).toArray = ls at hl ⊢
  have hl : lv_has ls 3 [(0, .ref (B + th)), (1, .int x1), (2, .int x2)] := hl
  exact kb_X0_at_0 C hth ⟨hEv, hWd, va_S.rf⟩ hl hf
abbrev wc_J6_bitCount_0f7a4 : List Cond := Cond.code yJ6_bitCount_0f7a4 cJ6_bitCount_0f7a4 1 (some .int) :: TG
abbrev rm_J6_bitCount_0f7a4 : Room := { frames := 2, cells := 0, slots := 0, locals := 100 }
theorem cd_J6_bitCount_0f7a4 : yJ6_bitCount_0f7a4.cls = RJ6 ∧ yJ6_bitCount_0f7a4.cls ≠ "java/lang/invoke/MethodHandle" ∧ yJ6_bitCount_0f7a4.cls ≠ "java/lang/invoke/VarHandle" ∧ (parseMethodDescriptor yJ6_bitCount_0f7a4.desc).map (fun d => d.parameters.length) = some 1 := by decide +kernel
theorem dJ6_bitCount_0f7a4_0 : decode cJ6_bitCount_0f7a4 0 = .ok (.iload_n 0, 1) := by decide +kernel
theorem dJ6_bitCount_0f7a4_1 : decode cJ6_bitCount_0f7a4 1 = .ok (.iload_n 0, 1) := by decide +kernel
theorem dJ6_bitCount_0f7a4_2 : decode cJ6_bitCount_0f7a4 2 = .ok (.iconst 1, 1) := by decide +kernel
theorem dJ6_bitCount_0f7a4_3 : decode cJ6_bitCount_0f7a4 3 = .ok (.iushr, 1) := by decide +kernel
theorem dJ6_bitCount_0f7a4_4 : decode cJ6_bitCount_0f7a4 4 = .ok (.ldc_w 265, 3) := by decide +kernel
theorem dJ6_bitCount_0f7a4_7 : decode cJ6_bitCount_0f7a4 7 = .ok (.iand, 1) := by decide +kernel
theorem dJ6_bitCount_0f7a4_8 : decode cJ6_bitCount_0f7a4 8 = .ok (.isub, 1) := by decide +kernel
theorem dJ6_bitCount_0f7a4_9 : decode cJ6_bitCount_0f7a4 9 = .ok (.istore_n 0, 1) := by decide +kernel
theorem dJ6_bitCount_0f7a4_10 : decode cJ6_bitCount_0f7a4 10 = .ok (.iload_n 0, 1) := by decide +kernel
theorem dJ6_bitCount_0f7a4_11 : decode cJ6_bitCount_0f7a4 11 = .ok (.ldc_w 266, 3) := by decide +kernel
theorem dJ6_bitCount_0f7a4_14 : decode cJ6_bitCount_0f7a4 14 = .ok (.iand, 1) := by decide +kernel
theorem dJ6_bitCount_0f7a4_15 : decode cJ6_bitCount_0f7a4 15 = .ok (.iload_n 0, 1) := by decide +kernel
theorem dJ6_bitCount_0f7a4_16 : decode cJ6_bitCount_0f7a4 16 = .ok (.iconst 2, 1) := by decide +kernel
theorem dJ6_bitCount_0f7a4_17 : decode cJ6_bitCount_0f7a4 17 = .ok (.iushr, 1) := by decide +kernel
theorem dJ6_bitCount_0f7a4_18 : decode cJ6_bitCount_0f7a4 18 = .ok (.ldc_w 266, 3) := by decide +kernel
theorem dJ6_bitCount_0f7a4_21 : decode cJ6_bitCount_0f7a4 21 = .ok (.iand, 1) := by decide +kernel
theorem dJ6_bitCount_0f7a4_22 : decode cJ6_bitCount_0f7a4 22 = .ok (.iadd, 1) := by decide +kernel
theorem dJ6_bitCount_0f7a4_23 : decode cJ6_bitCount_0f7a4 23 = .ok (.istore_n 0, 1) := by decide +kernel
theorem dJ6_bitCount_0f7a4_24 : decode cJ6_bitCount_0f7a4 24 = .ok (.iload_n 0, 1) := by decide +kernel
theorem dJ6_bitCount_0f7a4_25 : decode cJ6_bitCount_0f7a4 25 = .ok (.iload_n 0, 1) := by decide +kernel
theorem dJ6_bitCount_0f7a4_26 : decode cJ6_bitCount_0f7a4 26 = .ok (.iconst 4, 1) := by decide +kernel
theorem dJ6_bitCount_0f7a4_27 : decode cJ6_bitCount_0f7a4 27 = .ok (.iushr, 1) := by decide +kernel
theorem dJ6_bitCount_0f7a4_28 : decode cJ6_bitCount_0f7a4 28 = .ok (.iadd, 1) := by decide +kernel
theorem dJ6_bitCount_0f7a4_29 : decode cJ6_bitCount_0f7a4 29 = .ok (.ldc_w 267, 3) := by decide +kernel
theorem dJ6_bitCount_0f7a4_32 : decode cJ6_bitCount_0f7a4 32 = .ok (.iand, 1) := by decide +kernel
theorem dJ6_bitCount_0f7a4_33 : decode cJ6_bitCount_0f7a4 33 = .ok (.istore_n 0, 1) := by decide +kernel
theorem dJ6_bitCount_0f7a4_34 : decode cJ6_bitCount_0f7a4 34 = .ok (.iload_n 0, 1) := by decide +kernel
theorem dJ6_bitCount_0f7a4_35 : decode cJ6_bitCount_0f7a4 35 = .ok (.iload_n 0, 1) := by decide +kernel
theorem dJ6_bitCount_0f7a4_36 : decode cJ6_bitCount_0f7a4 36 = .ok (.bipush 8, 2) := by decide +kernel
theorem dJ6_bitCount_0f7a4_38 : decode cJ6_bitCount_0f7a4 38 = .ok (.iushr, 1) := by decide +kernel
theorem dJ6_bitCount_0f7a4_39 : decode cJ6_bitCount_0f7a4 39 = .ok (.iadd, 1) := by decide +kernel
theorem dJ6_bitCount_0f7a4_40 : decode cJ6_bitCount_0f7a4 40 = .ok (.istore_n 0, 1) := by decide +kernel
theorem dJ6_bitCount_0f7a4_41 : decode cJ6_bitCount_0f7a4 41 = .ok (.iload_n 0, 1) := by decide +kernel
theorem dJ6_bitCount_0f7a4_42 : decode cJ6_bitCount_0f7a4 42 = .ok (.iload_n 0, 1) := by decide +kernel
theorem dJ6_bitCount_0f7a4_43 : decode cJ6_bitCount_0f7a4 43 = .ok (.bipush 16, 2) := by decide +kernel
theorem dJ6_bitCount_0f7a4_45 : decode cJ6_bitCount_0f7a4 45 = .ok (.iushr, 1) := by decide +kernel
theorem dJ6_bitCount_0f7a4_46 : decode cJ6_bitCount_0f7a4 46 = .ok (.iadd, 1) := by decide +kernel
theorem dJ6_bitCount_0f7a4_47 : decode cJ6_bitCount_0f7a4 47 = .ok (.istore_n 0, 1) := by decide +kernel
theorem dJ6_bitCount_0f7a4_48 : decode cJ6_bitCount_0f7a4 48 = .ok (.iload_n 0, 1) := by decide +kernel
theorem dJ6_bitCount_0f7a4_49 : decode cJ6_bitCount_0f7a4 49 = .ok (.bipush 63, 2) := by decide +kernel
theorem dJ6_bitCount_0f7a4_51 : decode cJ6_bitCount_0f7a4 51 = .ok (.iand, 1) := by decide +kernel
theorem dJ6_bitCount_0f7a4_52 : decode cJ6_bitCount_0f7a4 52 = .ok (.ireturn, 1) := by decide +kernel
set_option maxRecDepth 100000 in
set_option maxHeartbeats 4000000 in
theorem kb_J6_bitCount_0f7a4_0 {x0 : Int32} {out : Int32} {H : Heap} {locs : List Loc} {ls : Array Slot} (C : CX p s m args meth c cJ6_bitCount_0f7a4 1 RJ6 wc_J6_bitCount_0f7a4 (some .int))  (hG : Gd s G A N B E X H locs) (hl : lv_has ls 1 [(0, .int x0)]) (hf : sh_J6_bitCount_0f7a4 x0 = some out) :
    W p l e rm_J6_bitCount_0f7a4 s m args below meth c H locs 0 0 (MQ below (CPost G A N B E X (some (.int out))) args s 0 0 A) (F0 m 0 ls []) := by
  refine lv_iload_n C.1 C.2.1 dJ6_bitCount_0f7a4_0 rfl (lv_at hl 0 rfl) ?_
  refine lv_iload_n C.1 C.2.1 dJ6_bitCount_0f7a4_1 rfl (lv_at hl 0 rfl) ?_
  refine lv_iconst (v := nI 1) C.1 C.2.1 dJ6_bitCount_0f7a4_2 (by decide) ?_
  refine r_iushr C dJ6_bitCount_0f7a4_3 ?_
  refine lv_ldcw (v := nI 1431655765) C.1 C.2.1 C.2.2.2.1 (C.2.2.2.2.1 _ (List.mem_cons_of_mem _ tg_2_86)) dJ6_bitCount_0f7a4_4 ?_
  refine lv_iand C.1 C.2.1 dJ6_bitCount_0f7a4_7 ?_
  refine lv_isub C.1 C.2.1 dJ6_bitCount_0f7a4_8 ?_
  obtain ⟨v1, ev1, hf⟩ := of_letv hf
  refine r_top ev1 ?_
  refine lv_istore_n (lv' := [(0, .int v1)]) C.1 C.2.1 dJ6_bitCount_0f7a4_9 rfl hl (by decide) rfl (fun ls hl => ?_)
  refine lv_iload_n C.1 C.2.1 dJ6_bitCount_0f7a4_10 rfl (lv_at hl 0 rfl) ?_
  refine lv_ldcw (v := nI 858993459) C.1 C.2.1 C.2.2.2.1 (C.2.2.2.2.1 _ (List.mem_cons_of_mem _ tg_2_87)) dJ6_bitCount_0f7a4_11 ?_
  refine lv_iand C.1 C.2.1 dJ6_bitCount_0f7a4_14 ?_
  refine lv_iload_n C.1 C.2.1 dJ6_bitCount_0f7a4_15 rfl (lv_at hl 0 rfl) ?_
  refine lv_iconst (v := nI 2) C.1 C.2.1 dJ6_bitCount_0f7a4_16 (by decide) ?_
  refine r_iushr C dJ6_bitCount_0f7a4_17 ?_
  refine lv_ldcw (v := nI 858993459) C.1 C.2.1 C.2.2.2.1 (C.2.2.2.2.1 _ (List.mem_cons_of_mem _ tg_2_87)) dJ6_bitCount_0f7a4_18 ?_
  refine lv_iand C.1 C.2.1 dJ6_bitCount_0f7a4_21 ?_
  refine lv_iadd C.1 C.2.1 dJ6_bitCount_0f7a4_22 ?_
  obtain ⟨v2, ev2, hf⟩ := of_letv hf
  refine r_top ev2 ?_
  refine lv_istore_n (lv' := [(0, .int v2)]) C.1 C.2.1 dJ6_bitCount_0f7a4_23 rfl hl (by decide) rfl (fun ls hl => ?_)
  refine lv_iload_n C.1 C.2.1 dJ6_bitCount_0f7a4_24 rfl (lv_at hl 0 rfl) ?_
  refine lv_iload_n C.1 C.2.1 dJ6_bitCount_0f7a4_25 rfl (lv_at hl 0 rfl) ?_
  refine lv_iconst (v := nI 4) C.1 C.2.1 dJ6_bitCount_0f7a4_26 (by decide) ?_
  refine r_iushr C dJ6_bitCount_0f7a4_27 ?_
  refine lv_iadd C.1 C.2.1 dJ6_bitCount_0f7a4_28 ?_
  refine lv_ldcw (v := nI 252645135) C.1 C.2.1 C.2.2.2.1 (C.2.2.2.2.1 _ (List.mem_cons_of_mem _ tg_2_88)) dJ6_bitCount_0f7a4_29 ?_
  refine lv_iand C.1 C.2.1 dJ6_bitCount_0f7a4_32 ?_
  obtain ⟨v3, ev3, hf⟩ := of_letv hf
  refine r_top ev3 ?_
  refine lv_istore_n (lv' := [(0, .int v3)]) C.1 C.2.1 dJ6_bitCount_0f7a4_33 rfl hl (by decide) rfl (fun ls hl => ?_)
  refine lv_iload_n C.1 C.2.1 dJ6_bitCount_0f7a4_34 rfl (lv_at hl 0 rfl) ?_
  refine lv_iload_n C.1 C.2.1 dJ6_bitCount_0f7a4_35 rfl (lv_at hl 0 rfl) ?_
  refine lv_bipush (v := nI 8) C.1 C.2.1 dJ6_bitCount_0f7a4_36 (by decide) ?_
  refine r_iushr C dJ6_bitCount_0f7a4_38 ?_
  refine lv_iadd C.1 C.2.1 dJ6_bitCount_0f7a4_39 ?_
  obtain ⟨v4, ev4, hf⟩ := of_letv hf
  refine r_top ev4 ?_
  refine lv_istore_n (lv' := [(0, .int v4)]) C.1 C.2.1 dJ6_bitCount_0f7a4_40 rfl hl (by decide) rfl (fun ls hl => ?_)
  refine lv_iload_n C.1 C.2.1 dJ6_bitCount_0f7a4_41 rfl (lv_at hl 0 rfl) ?_
  refine lv_iload_n C.1 C.2.1 dJ6_bitCount_0f7a4_42 rfl (lv_at hl 0 rfl) ?_
  refine lv_bipush (v := nI 16) C.1 C.2.1 dJ6_bitCount_0f7a4_43 (by decide) ?_
  refine r_iushr C dJ6_bitCount_0f7a4_45 ?_
  refine lv_iadd C.1 C.2.1 dJ6_bitCount_0f7a4_46 ?_
  obtain ⟨v5, ev5, hf⟩ := of_letv hf
  refine r_top ev5 ?_
  refine lv_istore_n (lv' := [(0, .int v5)]) C.1 C.2.1 dJ6_bitCount_0f7a4_47 rfl hl (by decide) rfl (fun ls hl => ?_)
  refine lv_iload_n C.1 C.2.1 dJ6_bitCount_0f7a4_48 rfl (lv_at hl 0 rfl) ?_
  refine lv_bipush (v := nI 63) C.1 C.2.1 dJ6_bitCount_0f7a4_49 (by decide) ?_
  refine lv_iand C.1 C.2.1 dJ6_bitCount_0f7a4_51 ?_
  obtain rfl := Option.some.inj hf
  exact r_iret C hG dJ6_bitCount_0f7a4_52
set_option maxRecDepth 100000 in
set_option maxHeartbeats 4000000 in
theorem mt_J6_bitCount_0f7a4 (l : Launch) {G : GG} {A : Nat → Prop} {N B : Nat} {E : Nat → va_E} {X : va_W} {x0 : Int32} {out : Int32}  (hf : sh_J6_bitCount_0f7a4 x0 = some out) : MetW l yJ6_bitCount_0f7a4 wc_J6_bitCount_0f7a4 rm_J6_bitCount_0f7a4 G A N B E X [.int x0] (some (.int out)) E := by
  refine Met.ofW (cc := cJ6_bitCount_0f7a4) (maxL := 1) (ret := (some .int)) (by decide) rfl ?_
  intro p e s m args below meth c s₁ B0 hml hv
  obtain ⟨rfl, hEv, hWd⟩ := hv
  have C : CX p s m _ meth c cJ6_bitCount_0f7a4 1 RJ6 wc_J6_bitCount_0f7a4 (some .int) := ⟨B0.exec, B0.bytes, hml, findClass_of_methodNamed B0.named, atoms_spec (ws := wc_J6_bitCount_0f7a4) B0.pre, B0.returns, B0.notSynchronized⟩
  have hl := lv_entry [.int x0] (n := 1) (Nat.le_of_ble_eq_true rfl)
  rw [lg_entry_eq]
  generalize (lg_sl [.int x0] ++ List.replicate (1 - (lg_sl [.int x0]).length) Slot.unset).toArray = ls at hl ⊢
  have hl : lv_has ls 1 [(0, .int x0)] := hl
  exact kb_J6_bitCount_0f7a4_0 C  ⟨hEv, hWd, va_S.rf⟩ hl hf
abbrev wc_X0_lesserPairs : List Cond := Cond.code yX0_lesserPairs cX0_lesserPairs 4 (some .int) :: TG
abbrev rm_X0_lesserPairs : Room := { frames := 3, cells := 0, slots := 0, locals := 120 }
theorem cd_X0_lesserPairs : yX0_lesserPairs.cls = RX0 ∧ yX0_lesserPairs.cls ≠ "java/lang/invoke/MethodHandle" ∧ yX0_lesserPairs.cls ≠ "java/lang/invoke/VarHandle" ∧ (parseMethodDescriptor yX0_lesserPairs.desc).map (fun d => d.parameters.length) = some 2 := by decide +kernel
theorem dX0_lesserPairs_0 : decode cX0_lesserPairs 0 = .ok (.iconst 0, 1) := by decide +kernel
theorem dX0_lesserPairs_1 : decode cX0_lesserPairs 1 = .ok (.istore_n 2, 1) := by decide +kernel
theorem dX0_lesserPairs_2 : decode cX0_lesserPairs 2 = .ok (.iconst 0, 1) := by decide +kernel
theorem dX0_lesserPairs_3 : decode cX0_lesserPairs 3 = .ok (.istore_n 3, 1) := by decide +kernel
theorem dX0_lesserPairs_4 : decode cX0_lesserPairs 4 = .ok (.iload_n 3, 1) := by decide +kernel
theorem dX0_lesserPairs_5 : decode cX0_lesserPairs 5 = .ok (.iconst 2, 1) := by decide +kernel
theorem dX0_lesserPairs_6 : decode cX0_lesserPairs 6 = .ok (.if_icmp .ge 31, 3) := by decide +kernel
theorem dX0_lesserPairs_9 : decode cX0_lesserPairs 9 = .ok (.iload_n 0, 1) := by decide +kernel
theorem dX0_lesserPairs_10 : decode cX0_lesserPairs 10 = .ok (.iload_n 3, 1) := by decide +kernel
theorem dX0_lesserPairs_11 : decode cX0_lesserPairs 11 = .ok (.ishr, 1) := by decide +kernel
theorem dX0_lesserPairs_12 : decode cX0_lesserPairs 12 = .ok (.iconst 1, 1) := by decide +kernel
theorem dX0_lesserPairs_13 : decode cX0_lesserPairs 13 = .ok (.iand, 1) := by decide +kernel
theorem dX0_lesserPairs_14 : decode cX0_lesserPairs 14 = .ok (.iconst 1, 1) := by decide +kernel
theorem dX0_lesserPairs_15 : decode cX0_lesserPairs 15 = .ok (.if_icmp .ne 16, 3) := by decide +kernel
theorem dX0_lesserPairs_18 : decode cX0_lesserPairs 18 = .ok (.iload_n 2, 1) := by decide +kernel
theorem dX0_lesserPairs_19 : decode cX0_lesserPairs 19 = .ok (.iload_n 1, 1) := by decide +kernel
theorem dX0_lesserPairs_20 : decode cX0_lesserPairs 20 = .ok (.iconst 1, 1) := by decide +kernel
theorem dX0_lesserPairs_21 : decode cX0_lesserPairs 21 = .ok (.iload_n 3, 1) := by decide +kernel
theorem dX0_lesserPairs_22 : decode cX0_lesserPairs 22 = .ok (.ishl, 1) := by decide +kernel
theorem dX0_lesserPairs_23 : decode cX0_lesserPairs 23 = .ok (.iconst 1, 1) := by decide +kernel
theorem dX0_lesserPairs_24 : decode cX0_lesserPairs 24 = .ok (.isub, 1) := by decide +kernel
theorem dX0_lesserPairs_25 : decode cX0_lesserPairs 25 = .ok (.iand, 1) := by decide +kernel
theorem dX0_lesserPairs_26 : decode cX0_lesserPairs 26 = .ok (.invokestatic 83, 3) := by decide +kernel
theorem dX0_lesserPairs_29 : decode cX0_lesserPairs 29 = .ok (.iadd, 1) := by decide +kernel
theorem dX0_lesserPairs_30 : decode cX0_lesserPairs 30 = .ok (.istore_n 2, 1) := by decide +kernel
theorem dX0_lesserPairs_31 : decode cX0_lesserPairs 31 = .ok (.iinc 3 1, 3) := by decide +kernel
theorem dX0_lesserPairs_34 : decode cX0_lesserPairs 34 = .ok (.goto (-30), 3) := by decide +kernel
theorem dX0_lesserPairs_37 : decode cX0_lesserPairs 37 = .ok (.iload_n 2, 1) := by decide +kernel
theorem dX0_lesserPairs_38 : decode cX0_lesserPairs 38 = .ok (.ireturn, 1) := by decide +kernel
set_option maxRecDepth 100000 in
set_option maxHeartbeats 4000000 in
theorem kb_X0_lesserPairs_4 {x0 : Int32} {x1 : Int32} {st : Int32 × Int32} {r : (Int32 × Int32) ⊕ ((Int32))} {H : Heap} {locs : List Loc} {ls : Array Slot} (C : CX p s m args meth c cX0_lesserPairs 4 RX0 wc_X0_lesserPairs (some .int))  (hG : Gd s G A N B E X H locs) (hl : lv_has ls 4 [(0, .int x0), (1, .int x1), (2, .int st.1), (3, .int st.2)]) (hf : sh_X0_lesserPairs_s4 x0 x1 st = some r)
    (kL : ∀ st' : Int32 × Int32, r = Sum.inl st' → ∀ (H : Heap) (locs : List Loc) (ls : Array Slot), Gd s G A N B E X H locs → lv_has ls 4 [(0, .int x0), (1, .int x1), (2, .int st'.1), (3, .int st'.2)] → W p l e rm_X0_lesserPairs s m args below meth c H locs 0 0 Q (F0 m 4 ls []))
    (kX0 : ∀ y' : Int32, r = Sum.inr y' → ∀ (H : Heap) (locs : List Loc) (ls : Array Slot), Gd s G A N B E X H locs → lv_has ls 4 [(2, .int y')] → W p l e rm_X0_lesserPairs s m args below meth c H locs 0 0 Q (F0 m 37 ls [])) :
    W p l e rm_X0_lesserPairs s m args below meth c H locs 0 0 Q (F0 m 4 ls []) := by
  refine lv_iload_n C.1 C.2.1 dX0_lesserPairs_4 rfl (lv_at hl 3 rfl) ?_
  refine lv_iconst (v := nI 2) C.1 C.2.1 dX0_lesserPairs_5 (by decide) ?_
  rcases of_ite hf with ⟨c1, hf⟩ | ⟨c1, hf⟩
  · refine lv_icmp_ge (tgt := 37) C.1 C.2.1 dX0_lesserPairs_6 (by decide) (fun _ => ?_) (fun q => absurd c1 q)
    obtain rfl := Option.some.inj hf
    exact kX0 _ rfl _ _ _ hG (lv_sub hl [2] rfl)
  · refine lv_icmp_ge (tgt := 37) C.1 C.2.1 dX0_lesserPairs_6 (by decide) (fun q => absurd q c1) (fun _ => ?_)
    refine lv_iload_n C.1 C.2.1 dX0_lesserPairs_9 rfl (lv_at hl 0 rfl) ?_
    refine lv_iload_n C.1 C.2.1 dX0_lesserPairs_10 rfl (lv_at hl 3 rfl) ?_
    refine lv_ishr C.1 C.2.1 dX0_lesserPairs_11 ?_
    refine lv_iconst (v := nI 1) C.1 C.2.1 dX0_lesserPairs_12 (by decide) ?_
    refine lv_iand C.1 C.2.1 dX0_lesserPairs_13 ?_
    refine lv_iconst (v := nI 1) C.1 C.2.1 dX0_lesserPairs_14 (by decide) ?_
    rcases of_ite hf with ⟨c2, hf⟩ | ⟨c2, hf⟩
    · refine lv_icmp_ne (tgt := 31) C.1 C.2.1 dX0_lesserPairs_15 (by decide) (fun q => absurd c2 q) (fun _ => ?_)
      refine lv_iload_n C.1 C.2.1 dX0_lesserPairs_18 rfl (lv_at hl 2 rfl) ?_
      refine lv_iload_n C.1 C.2.1 dX0_lesserPairs_19 rfl (lv_at hl 1 rfl) ?_
      refine lv_iconst (v := nI 1) C.1 C.2.1 dX0_lesserPairs_20 (by decide) ?_
      refine lv_iload_n C.1 C.2.1 dX0_lesserPairs_21 rfl (lv_at hl 3 rfl) ?_
      refine lv_ishl C.1 C.2.1 dX0_lesserPairs_22 ?_
      refine lv_iconst (v := nI 1) C.1 C.2.1 dX0_lesserPairs_23 (by decide) ?_
      refine lv_isub C.1 C.2.1 dX0_lesserPairs_24 ?_
      refine lv_iand C.1 C.2.1 dX0_lesserPairs_25 ?_
      obtain ⟨v4, hv4, hf⟩ := of_bind hf
      refine r_callS1 C hG hl.1 (As := [.int (x1 &&& (((nI 1) <<< (st.2 &&& 31)) - (nI 1)))]) (mt_J6_bitCount_0f7a4 l  hv4) (va_cwS 1 C.2.2.2.2.1 (gd_S tg_2_83 tg_2_84 tg_1_11 tg_2_85) rfl rfl rfl cd_J6_bitCount_0f7a4.2 ⟨Nat.le_of_ble_eq_true rfl, Nat.le_of_ble_eq_true rfl⟩) rfl rfl (Nat.le_of_ble_eq_true rfl) dX0_lesserPairs_26 (fun H locs hG => ?_)
      refine lv_iadd C.1 C.2.1 dX0_lesserPairs_29 ?_
      obtain ⟨v5, ev5, hf⟩ := of_letv hf
      refine r_top ev5 ?_
      refine lv_istore_n (lv' := [(2, .int v5), (0, .int x0), (1, .int x1), (3, .int st.2)]) C.1 C.2.1 dX0_lesserPairs_30 rfl hl (by decide) rfl (fun ls hl => ?_)
      obtain ⟨v6, ev6, hf⟩ := of_letv hf
      refine lv_iinc (v := v6) (lv' := [(3, .int v6), (2, .int v5), (0, .int x0), (1, .int x1)]) C.1 C.2.1 dX0_lesserPairs_31 hl (k := 3) rfl (by rw [ev6, show Int32.ofInt (1) = nI 1 from by decide]) (by decide) rfl (fun ls hl => ?_)
      refine lv_goto (tgt := 4) C.1 C.2.1 dX0_lesserPairs_34 (by decide) ?_
      obtain rfl := Option.some.inj hf
      exact kL _ rfl _ _ _ hG (lv_sub hl [2, 3, 1, 0] rfl)
    · refine lv_icmp_ne (tgt := 31) C.1 C.2.1 dX0_lesserPairs_15 (by decide) (fun _ => ?_) (fun q => absurd q c2)
      obtain ⟨v3, ev3, hf⟩ := of_letv hf
      refine lv_iinc (v := v3) (lv' := [(3, .int v3), (0, .int x0), (1, .int x1), (2, .int st.1)]) C.1 C.2.1 dX0_lesserPairs_31 hl (k := 3) rfl (by rw [ev3, show Int32.ofInt (1) = nI 1 from by decide]) (by decide) rfl (fun ls hl => ?_)
      refine lv_goto (tgt := 4) C.1 C.2.1 dX0_lesserPairs_34 (by decide) ?_
      obtain rfl := Option.some.inj hf
      exact kL _ rfl _ _ _ hG (lv_sub hl [1, 2, 3, 0] rfl)
set_option maxRecDepth 100000 in
set_option maxHeartbeats 4000000 in
theorem kl_X0_lesserPairs_4 {x0 : Int32} {x1 : Int32} (C : CX p s m args meth c cX0_lesserPairs 4 RX0 wc_X0_lesserPairs (some .int))  : ∀ (n : Nat) (st : Int32 × Int32) (x : (Int32)) (H : Heap) (locs : List Loc) (ls : Array Slot), Gd s G A N B E X H locs → lv_has ls 4 [(0, .int x0), (1, .int x1), (2, .int st.1), (3, .int st.2)] → lpw (sh_X0_lesserPairs_s4 x0 x1) n st = some x →
    (∀ y' : Int32, x = y' → ∀ (H : Heap) (locs : List Loc) (ls : Array Slot), Gd s G A N B E X H locs → lv_has ls 4 [(2, .int y')] → W p l e rm_X0_lesserPairs s m args below meth c H locs 0 0 Q (F0 m 37 ls [])) → W p l e rm_X0_lesserPairs s m args below meth c H locs 0 0 Q (F0 m 4 ls []) := by
  intro n
  induction n with
  | zero =>
    intro st x H locs ls hG hl hf
    cases hf
  | succ n ih =>
    intro st x H locs ls hG hl hf kX0
    obtain ⟨r, hr, hh⟩ := of_lpw hf
    refine kb_X0_lesserPairs_4 C  hG hl hr (fun st2 e1 H locs ls hG hl => ?_) (fun y2 e1 H locs ls hG hl => ?_)
    · rcases hh with ⟨s3, e2, hh⟩ | e2
      · rw [e2] at e1
        cases e1
        exact ih _ _ _ _ _ hG hl hh kX0
      · rw [e2] at e1
        cases e1
    · rcases hh with ⟨s3, e2, hh⟩ | e2
      · rw [e2] at e1
        cases e1
      · rw [e2] at e1
        cases e1
        exact kX0 _ rfl _ _ _ hG hl
set_option maxRecDepth 100000 in
set_option maxHeartbeats 4000000 in
theorem kb_X0_lesserPairs_0 {x0 : Int32} {x1 : Int32} {out : Int32} {H : Heap} {locs : List Loc} {ls : Array Slot} (C : CX p s m args meth c cX0_lesserPairs 4 RX0 wc_X0_lesserPairs (some .int))  (hG : Gd s G A N B E X H locs) (hl : lv_has ls 4 [(0, .int x0), (1, .int x1)]) (hf : sh_X0_lesserPairs x0 x1 = some out) :
    W p l e rm_X0_lesserPairs s m args below meth c H locs 0 0 (MQ below (CPost G A N B E X (some (.int out))) args s 0 0 A) (F0 m 0 ls []) := by
  refine lv_iconst (v := nI 0) C.1 C.2.1 dX0_lesserPairs_0 (by decide) ?_
  refine lv_istore_n (lv' := [(2, .int (nI 0)), (0, .int x0), (1, .int x1)]) C.1 C.2.1 dX0_lesserPairs_1 rfl hl (by decide) rfl (fun ls hl => ?_)
  refine lv_iconst (v := nI 0) C.1 C.2.1 dX0_lesserPairs_2 (by decide) ?_
  refine lv_istore_n (lv' := [(3, .int (nI 0)), (2, .int (nI 0)), (0, .int x0), (1, .int x1)]) C.1 C.2.1 dX0_lesserPairs_3 rfl hl (by decide) rfl (fun ls hl => ?_)
  obtain ⟨ex1, hex1, hf⟩ := of_bind hf
  refine kl_X0_lesserPairs_4 C  FU (nI 0, nI 0) ex1 _ _ _ hG (lv_sub hl [2, 3, 1, 0] rfl) hex1 (fun y e0 H locs ls hG hl => ?_)
  subst e0
  refine lv_iload_n C.1 C.2.1 dX0_lesserPairs_37 rfl (lv_at hl 0 rfl) ?_
  obtain rfl := Option.some.inj hf
  exact r_iret C hG dX0_lesserPairs_38
set_option maxRecDepth 100000 in
set_option maxHeartbeats 4000000 in
theorem mt_X0_lesserPairs (l : Launch) {G : GG} {A : Nat → Prop} {N B : Nat} {E : Nat → va_E} {X : va_W} {x0 : Int32} {x1 : Int32} {out : Int32}  (hf : sh_X0_lesserPairs x0 x1 = some out) : MetW l yX0_lesserPairs wc_X0_lesserPairs rm_X0_lesserPairs G A N B E X [.int x0, .int x1] (some (.int out)) E := by
  refine Met.ofW (cc := cX0_lesserPairs) (maxL := 4) (ret := (some .int)) (by decide) rfl ?_
  intro p e s m args below meth c s₁ B0 hml hv
  obtain ⟨rfl, hEv, hWd⟩ := hv
  have C : CX p s m _ meth c cX0_lesserPairs 4 RX0 wc_X0_lesserPairs (some .int) := ⟨B0.exec, B0.bytes, hml, findClass_of_methodNamed B0.named, atoms_spec (ws := wc_X0_lesserPairs) B0.pre, B0.returns, B0.notSynchronized⟩
  have hl := lv_entry [.int x0, .int x1] (n := 4) (Nat.le_of_ble_eq_true rfl)
  rw [lg_entry_eq]
  generalize (lg_sl [.int x0, .int x1] ++ List.replicate (4 - (lg_sl [.int x0, .int x1]).length) Slot.unset).toArray = ls at hl ⊢
  have hl : lv_has ls 4 [(0, .int x0), (1, .int x1)] := hl
  exact kb_X0_lesserPairs_0 C  ⟨hEv, hWd, va_S.rf⟩ hl hf
abbrev wc_X0_signed : List Cond := Cond.code yX0_signed cX0_signed 2 (some .int) :: TG
abbrev rm_X0_signed : Room := { frames := 2, cells := 0, slots := 0, locals := 100 }
theorem cd_X0_signed : yX0_signed.cls = RX0 ∧ yX0_signed.cls ≠ "java/lang/invoke/MethodHandle" ∧ yX0_signed.cls ≠ "java/lang/invoke/VarHandle" ∧ (parseMethodDescriptor yX0_signed.desc).map (fun d => d.parameters.length) = some 2 := by decide +kernel
theorem dX0_signed_0 : decode cX0_signed 0 = .ok (.iload_n 1, 1) := by decide +kernel
theorem dX0_signed_1 : decode cX0_signed 1 = .ok (.ifCond .eq 15, 3) := by decide +kernel
theorem dX0_signed_4 : decode cX0_signed 4 = .ok (.iload_n 0, 1) := by decide +kernel
theorem dX0_signed_5 : decode cX0_signed 5 = .ok (.ifCond .eq 11, 3) := by decide +kernel
theorem dX0_signed_8 : decode cX0_signed 8 = .ok (.sipush 9973, 3) := by decide +kernel
theorem dX0_signed_11 : decode cX0_signed 11 = .ok (.iload_n 0, 1) := by decide +kernel
theorem dX0_signed_12 : decode cX0_signed 12 = .ok (.isub, 1) := by decide +kernel
theorem dX0_signed_13 : decode cX0_signed 13 = .ok (.goto 4, 3) := by decide +kernel
theorem dX0_signed_16 : decode cX0_signed 16 = .ok (.iload_n 0, 1) := by decide +kernel
theorem dX0_signed_17 : decode cX0_signed 17 = .ok (.ireturn, 1) := by decide +kernel
set_option maxRecDepth 100000 in
set_option maxHeartbeats 4000000 in
theorem kb_X0_signed_0 {x0 : Int32} {x1 : Int32} {out : Int32} {H : Heap} {locs : List Loc} {ls : Array Slot} (C : CX p s m args meth c cX0_signed 2 RX0 wc_X0_signed (some .int))  (hG : Gd s G A N B E X H locs) (hl : lv_has ls 2 [(0, .int x0), (1, .int x1)]) (hf : sh_X0_signed x0 x1 = some out) :
    W p l e rm_X0_signed s m args below meth c H locs 0 0 (MQ below (CPost G A N B E X (some (.int out))) args s 0 0 A) (F0 m 0 ls []) := by
  refine lv_iload_n C.1 C.2.1 dX0_signed_0 rfl (lv_at hl 1 rfl) ?_
  rcases of_ite hf with ⟨c1, hf⟩ | ⟨c1, hf⟩
  · refine lv_if_eq (tgt := 16) C.1 C.2.1 dX0_signed_1 (by decide) (fun _ => ?_) (fun q => absurd c1 q)
    refine lv_iload_n C.1 C.2.1 dX0_signed_16 rfl (lv_at hl 0 rfl) ?_
    obtain rfl := Option.some.inj hf
    exact r_iret C hG dX0_signed_17
  · refine lv_if_eq (tgt := 16) C.1 C.2.1 dX0_signed_1 (by decide) (fun q => absurd q c1) (fun _ => ?_)
    refine lv_iload_n C.1 C.2.1 dX0_signed_4 rfl (lv_at hl 0 rfl) ?_
    rcases of_ite hf with ⟨c2, hf⟩ | ⟨c2, hf⟩
    · refine lv_if_eq (tgt := 16) C.1 C.2.1 dX0_signed_5 (by decide) (fun _ => ?_) (fun q => absurd c2 q)
      refine lv_iload_n C.1 C.2.1 dX0_signed_16 rfl (lv_at hl 0 rfl) ?_
      obtain rfl := Option.some.inj hf
      exact r_iret C hG dX0_signed_17
    · refine lv_if_eq (tgt := 16) C.1 C.2.1 dX0_signed_5 (by decide) (fun q => absurd q c2) (fun _ => ?_)
      refine lv_sipush (v := nI 9973) C.1 C.2.1 dX0_signed_8 (by decide) ?_
      refine lv_iload_n C.1 C.2.1 dX0_signed_11 rfl (lv_at hl 0 rfl) ?_
      refine lv_isub C.1 C.2.1 dX0_signed_12 ?_
      refine lv_goto (tgt := 17) C.1 C.2.1 dX0_signed_13 (by decide) ?_
      obtain rfl := Option.some.inj hf
      exact r_iret C hG dX0_signed_17
set_option maxRecDepth 100000 in
set_option maxHeartbeats 4000000 in
theorem mt_X0_signed (l : Launch) {G : GG} {A : Nat → Prop} {N B : Nat} {E : Nat → va_E} {X : va_W} {x0 : Int32} {x1 : Int32} {out : Int32}  (hf : sh_X0_signed x0 x1 = some out) : MetW l yX0_signed wc_X0_signed rm_X0_signed G A N B E X [.int x0, .int x1] (some (.int out)) E := by
  refine Met.ofW (cc := cX0_signed) (maxL := 2) (ret := (some .int)) (by decide) rfl ?_
  intro p e s m args below meth c s₁ B0 hml hv
  obtain ⟨rfl, hEv, hWd⟩ := hv
  have C : CX p s m _ meth c cX0_signed 2 RX0 wc_X0_signed (some .int) := ⟨B0.exec, B0.bytes, hml, findClass_of_methodNamed B0.named, atoms_spec (ws := wc_X0_signed) B0.pre, B0.returns, B0.notSynchronized⟩
  have hl := lv_entry [.int x0, .int x1] (n := 2) (Nat.le_of_ble_eq_true rfl)
  rw [lg_entry_eq]
  generalize (lg_sl [.int x0, .int x1] ++ List.replicate (2 - (lg_sl [.int x0, .int x1]).length) Slot.unset).toArray = ls at hl ⊢
  have hl : lv_has ls 2 [(0, .int x0), (1, .int x1)] := hl
  exact kb_X0_signed_0 C  ⟨hEv, hWd, va_S.rf⟩ hl hf
abbrev wc_X8_isOdd : List Cond := Cond.code yX8_isOdd cX8_isOdd 1 (some .boolean) :: TG
abbrev rm_X8_isOdd : Room := { frames := 2, cells := 0, slots := 0, locals := 100 }
theorem cd_X8_isOdd : yX8_isOdd.cls = RX8 ∧ yX8_isOdd.cls ≠ "java/lang/invoke/MethodHandle" ∧ yX8_isOdd.cls ≠ "java/lang/invoke/VarHandle" ∧ (parseMethodDescriptor yX8_isOdd.desc).map (fun d => d.parameters.length) = some 1 := by decide +kernel
theorem dX8_isOdd_0 : decode cX8_isOdd 0 = .ok (.iload_n 0, 1) := by decide +kernel
theorem dX8_isOdd_1 : decode cX8_isOdd 1 = .ok (.iconst 1, 1) := by decide +kernel
theorem dX8_isOdd_2 : decode cX8_isOdd 2 = .ok (.iand, 1) := by decide +kernel
theorem dX8_isOdd_3 : decode cX8_isOdd 3 = .ok (.iconst 1, 1) := by decide +kernel
theorem dX8_isOdd_4 : decode cX8_isOdd 4 = .ok (.if_icmp .ne 7, 3) := by decide +kernel
theorem dX8_isOdd_7 : decode cX8_isOdd 7 = .ok (.iconst 1, 1) := by decide +kernel
theorem dX8_isOdd_8 : decode cX8_isOdd 8 = .ok (.goto 4, 3) := by decide +kernel
theorem dX8_isOdd_11 : decode cX8_isOdd 11 = .ok (.iconst 0, 1) := by decide +kernel
theorem dX8_isOdd_12 : decode cX8_isOdd 12 = .ok (.ireturn, 1) := by decide +kernel
set_option maxRecDepth 100000 in
set_option maxHeartbeats 4000000 in
theorem kb_X8_isOdd_0 {x0 : Int32} {out : Int32} {H : Heap} {locs : List Loc} {ls : Array Slot} (C : CX p s m args meth c cX8_isOdd 1 RX8 wc_X8_isOdd (some .boolean))  (hG : Gd s G A N B E X H locs) (hl : lv_has ls 1 [(0, .int x0)]) (hf : sh_X8_isOdd x0 = some out) :
    W p l e rm_X8_isOdd s m args below meth c H locs 0 0 (MQ below (CPost G A N B E X (some (.int out))) args s 0 0 A) (F0 m 0 ls []) := by
  refine lv_iload_n C.1 C.2.1 dX8_isOdd_0 rfl (lv_at hl 0 rfl) ?_
  refine lv_iconst (v := nI 1) C.1 C.2.1 dX8_isOdd_1 (by decide) ?_
  refine lv_iand C.1 C.2.1 dX8_isOdd_2 ?_
  refine lv_iconst (v := nI 1) C.1 C.2.1 dX8_isOdd_3 (by decide) ?_
  rcases of_ite hf with ⟨c1, hf⟩ | ⟨c1, hf⟩
  · refine lv_icmp_ne (tgt := 11) C.1 C.2.1 dX8_isOdd_4 (by decide) (fun q => absurd c1 q) (fun _ => ?_)
    refine lv_iconst (v := nI 1) C.1 C.2.1 dX8_isOdd_7 (by decide) ?_
    refine lv_goto (tgt := 12) C.1 C.2.1 dX8_isOdd_8 (by decide) ?_
    obtain rfl := Option.some.inj hf
    exact r_zret C hG (Or.inr rfl) dX8_isOdd_12
  · refine lv_icmp_ne (tgt := 11) C.1 C.2.1 dX8_isOdd_4 (by decide) (fun _ => ?_) (fun q => absurd q c1)
    refine lv_iconst (v := nI 0) C.1 C.2.1 dX8_isOdd_11 (by decide) ?_
    obtain rfl := Option.some.inj hf
    exact r_zret C hG (Or.inl rfl) dX8_isOdd_12
set_option maxRecDepth 100000 in
set_option maxHeartbeats 4000000 in
theorem mt_X8_isOdd (l : Launch) {G : GG} {A : Nat → Prop} {N B : Nat} {E : Nat → va_E} {X : va_W} {x0 : Int32} {out : Int32}  (hf : sh_X8_isOdd x0 = some out) : MetW l yX8_isOdd wc_X8_isOdd rm_X8_isOdd G A N B E X [.int x0] (some (.int out)) E := by
  refine Met.ofW (cc := cX8_isOdd) (maxL := 1) (ret := (some .boolean)) (by decide) rfl ?_
  intro p e s m args below meth c s₁ B0 hml hv
  obtain ⟨rfl, hEv, hWd⟩ := hv
  have C : CX p s m _ meth c cX8_isOdd 1 RX8 wc_X8_isOdd (some .boolean) := ⟨B0.exec, B0.bytes, hml, findClass_of_methodNamed B0.named, atoms_spec (ws := wc_X8_isOdd) B0.pre, B0.returns, B0.notSynchronized⟩
  have hl := lv_entry [.int x0] (n := 1) (Nat.le_of_ble_eq_true rfl)
  rw [lg_entry_eq]
  generalize (lg_sl [.int x0] ++ List.replicate (1 - (lg_sl [.int x0]).length) Slot.unset).toArray = ls at hl ⊢
  have hl : lv_has ls 1 [(0, .int x0)] := hl
  exact kb_X8_isOdd_0 C  ⟨hEv, hWd, va_S.rf⟩ hl hf
abbrev wc_X0_factorByKind : List Cond := Cond.code yX0_factorByKind cX0_factorByKind 3 (some .int) :: TG
abbrev rm_X0_factorByKind : Room := { frames := 4, cells := 0, slots := 0, locals := 143 }
theorem cd_X0_factorByKind : yX0_factorByKind.cls = RX0 ∧ yX0_factorByKind.cls ≠ "java/lang/invoke/MethodHandle" ∧ yX0_factorByKind.cls ≠ "java/lang/invoke/VarHandle" ∧ (parseMethodDescriptor yX0_factorByKind.desc).map (fun d => d.parameters.length) = some 2 := by decide +kernel
theorem dX0_factorByKind_0 : decode cX0_factorByKind 0 = .ok (.aload_n 0, 1) := by decide +kernel
theorem dX0_factorByKind_1 : decode cX0_factorByKind 1 = .ok (.getfield 39, 3) := by decide +kernel
theorem dX0_factorByKind_4 : decode cX0_factorByKind 4 = .ok (.tableswitch 89 0 4 #[36, 36, 89, 47, 66], 36) := by decide +kernel
theorem dX0_factorByKind_40 : decode cX0_factorByKind 40 = .ok (.iload_n 1, 1) := by decide +kernel
theorem dX0_factorByKind_41 : decode cX0_factorByKind 41 = .ok (.iload_n 2, 1) := by decide +kernel
theorem dX0_factorByKind_42 : decode cX0_factorByKind 42 = .ok (.if_icmp .ne 7, 3) := by decide +kernel
theorem dX0_factorByKind_45 : decode cX0_factorByKind 45 = .ok (.iconst 1, 1) := by decide +kernel
theorem dX0_factorByKind_46 : decode cX0_factorByKind 46 = .ok (.goto 4, 3) := by decide +kernel
theorem dX0_factorByKind_49 : decode cX0_factorByKind 49 = .ok (.iconst 0, 1) := by decide +kernel
theorem dX0_factorByKind_50 : decode cX0_factorByKind 50 = .ok (.ireturn, 1) := by decide +kernel
theorem dX0_factorByKind_51 : decode cX0_factorByKind 51 = .ok (.iload_n 1, 1) := by decide +kernel
theorem dX0_factorByKind_52 : decode cX0_factorByKind 52 = .ok (.iload_n 2, 1) := by decide +kernel
theorem dX0_factorByKind_53 : decode cX0_factorByKind 53 = .ok (.iadd, 1) := by decide +kernel
theorem dX0_factorByKind_54 : decode cX0_factorByKind 54 = .ok (.aload_n 0, 1) := by decide +kernel
theorem dX0_factorByKind_55 : decode cX0_factorByKind 55 = .ok (.getfield 49, 3) := by decide +kernel
theorem dX0_factorByKind_58 : decode cX0_factorByKind 58 = .ok (.if_icmp .ge 7, 3) := by decide +kernel
theorem dX0_factorByKind_61 : decode cX0_factorByKind 61 = .ok (.iconst 1, 1) := by decide +kernel
theorem dX0_factorByKind_62 : decode cX0_factorByKind 62 = .ok (.goto 7, 3) := by decide +kernel
theorem dX0_factorByKind_65 : decode cX0_factorByKind 65 = .ok (.aload_n 0, 1) := by decide +kernel
theorem dX0_factorByKind_66 : decode cX0_factorByKind 66 = .ok (.getfield 46, 3) := by decide +kernel
theorem dX0_factorByKind_69 : decode cX0_factorByKind 69 = .ok (.ireturn, 1) := by decide +kernel
theorem dX0_factorByKind_70 : decode cX0_factorByKind 70 = .ok (.iload_n 1, 1) := by decide +kernel
theorem dX0_factorByKind_71 : decode cX0_factorByKind 71 = .ok (.iload_n 2, 1) := by decide +kernel
theorem dX0_factorByKind_72 : decode cX0_factorByKind 72 = .ok (.iand, 1) := by decide +kernel
theorem dX0_factorByKind_73 : decode cX0_factorByKind 73 = .ok (.ifCond .eq 7, 3) := by decide +kernel
theorem dX0_factorByKind_76 : decode cX0_factorByKind 76 = .ok (.iconst 0, 1) := by decide +kernel
theorem dX0_factorByKind_77 : decode cX0_factorByKind 77 = .ok (.goto 15, 3) := by decide +kernel
theorem dX0_factorByKind_80 : decode cX0_factorByKind 80 = .ok (.iconst 1, 1) := by decide +kernel
theorem dX0_factorByKind_81 : decode cX0_factorByKind 81 = .ok (.iload_n 1, 1) := by decide +kernel
theorem dX0_factorByKind_82 : decode cX0_factorByKind 82 = .ok (.iload_n 2, 1) := by decide +kernel
theorem dX0_factorByKind_83 : decode cX0_factorByKind 83 = .ok (.invokestatic 72, 3) := by decide +kernel
theorem dX0_factorByKind_86 : decode cX0_factorByKind 86 = .ok (.invokestatic 75, 3) := by decide +kernel
theorem dX0_factorByKind_89 : decode cX0_factorByKind 89 = .ok (.invokestatic 79, 3) := by decide +kernel
theorem dX0_factorByKind_92 : decode cX0_factorByKind 92 = .ok (.ireturn, 1) := by decide +kernel
theorem dX0_factorByKind_93 : decode cX0_factorByKind 93 = .ok (.iconst 1, 1) := by decide +kernel
theorem dX0_factorByKind_94 : decode cX0_factorByKind 94 = .ok (.ireturn, 1) := by decide +kernel
set_option maxRecDepth 100000 in
set_option maxHeartbeats 4000000 in
theorem kb_X0_factorByKind_0 {th : Nat} {x1 : Int32} {x2 : Int32} {w : WX} {out : Int32} {H : Heap} {locs : List Loc} {ls : Array Slot} (C : CX p s m args meth c cX0_factorByKind 3 RX0 wc_X0_factorByKind (some .int)) (hth : KDx th = (0, 13)) (hG : Gd s G A 153 B (entX G B w) X H locs) (hl : lv_has ls 3 [(0, .ref (B + th)), (1, .int x1), (2, .int x2)]) (hf : sh_X0_factorByKind th x1 x2 w = some out) :
    W p l e rm_X0_factorByKind s m args below meth c H locs 0 0 (MQ below (CPost G A 153 B (entX G B w) X (some (.int out))) args s 0 0 A) (F0 m 0 ls []) := by
  refine lv_aload_n C.1 C.2.1 dX0_factorByKind_0 rfl (lv_at hl 0 rfl) ?_
  refine gf_X0_39 C hG hth dX0_factorByKind_1 ?_
  rcases of_ite hf with ⟨c1, hf⟩ | ⟨c1, hf⟩
  · refine lv_tableIn (tgt := 40) (off := 36) C.1 C.2.1 dX0_factorByKind_4 (by rw [c1]; decide) (by rw [c1]; decide) (by rw [c1]; rfl) (by decide) ?_
    refine lv_iload_n C.1 C.2.1 dX0_factorByKind_40 rfl (lv_at hl 1 rfl) ?_
    refine lv_iload_n C.1 C.2.1 dX0_factorByKind_41 rfl (lv_at hl 2 rfl) ?_
    rcases of_ite hf with ⟨c2, hf⟩ | ⟨c2, hf⟩
    · refine lv_icmp_ne (tgt := 49) C.1 C.2.1 dX0_factorByKind_42 (by decide) (fun q => absurd c2 q) (fun _ => ?_)
      refine lv_iconst (v := nI 1) C.1 C.2.1 dX0_factorByKind_45 (by decide) ?_
      refine lv_goto (tgt := 50) C.1 C.2.1 dX0_factorByKind_46 (by decide) ?_
      obtain rfl := Option.some.inj hf
      exact r_iret C hG dX0_factorByKind_50
    · refine lv_icmp_ne (tgt := 49) C.1 C.2.1 dX0_factorByKind_42 (by decide) (fun _ => ?_) (fun q => absurd q c2)
      refine lv_iconst (v := nI 0) C.1 C.2.1 dX0_factorByKind_49 (by decide) ?_
      obtain rfl := Option.some.inj hf
      exact r_iret C hG dX0_factorByKind_50
  · skip
    rcases of_ite hf with ⟨c3, hf⟩ | ⟨c3, hf⟩
    · refine lv_tableIn (tgt := 40) (off := 36) C.1 C.2.1 dX0_factorByKind_4 (by rw [c3]; decide) (by rw [c3]; decide) (by rw [c3]; rfl) (by decide) ?_
      refine lv_iload_n C.1 C.2.1 dX0_factorByKind_40 rfl (lv_at hl 1 rfl) ?_
      refine lv_iload_n C.1 C.2.1 dX0_factorByKind_41 rfl (lv_at hl 2 rfl) ?_
      rcases of_ite hf with ⟨c4, hf⟩ | ⟨c4, hf⟩
      · refine lv_icmp_ne (tgt := 49) C.1 C.2.1 dX0_factorByKind_42 (by decide) (fun q => absurd c4 q) (fun _ => ?_)
        refine lv_iconst (v := nI 1) C.1 C.2.1 dX0_factorByKind_45 (by decide) ?_
        refine lv_goto (tgt := 50) C.1 C.2.1 dX0_factorByKind_46 (by decide) ?_
        obtain rfl := Option.some.inj hf
        exact r_iret C hG dX0_factorByKind_50
      · refine lv_icmp_ne (tgt := 49) C.1 C.2.1 dX0_factorByKind_42 (by decide) (fun _ => ?_) (fun q => absurd q c4)
        refine lv_iconst (v := nI 0) C.1 C.2.1 dX0_factorByKind_49 (by decide) ?_
        obtain rfl := Option.some.inj hf
        exact r_iret C hG dX0_factorByKind_50
    · skip
      rcases of_ite hf with ⟨c5, hf⟩ | ⟨c5, hf⟩
      · refine lv_tableIn (tgt := 93) (off := 89) C.1 C.2.1 dX0_factorByKind_4 (by rw [c5]; decide) (by rw [c5]; decide) (by rw [c5]; rfl) (by decide) ?_
        refine lv_iconst (v := nI 1) C.1 C.2.1 dX0_factorByKind_93 (by decide) ?_
        obtain rfl := Option.some.inj hf
        exact r_iret C hG dX0_factorByKind_94
      · skip
        rcases of_ite hf with ⟨c6, hf⟩ | ⟨c6, hf⟩
        · refine lv_tableIn (tgt := 51) (off := 47) C.1 C.2.1 dX0_factorByKind_4 (by rw [c6]; decide) (by rw [c6]; decide) (by rw [c6]; rfl) (by decide) ?_
          refine lv_iload_n C.1 C.2.1 dX0_factorByKind_51 rfl (lv_at hl 1 rfl) ?_
          refine lv_iload_n C.1 C.2.1 dX0_factorByKind_52 rfl (lv_at hl 2 rfl) ?_
          refine lv_iadd C.1 C.2.1 dX0_factorByKind_53 ?_
          refine lv_aload_n C.1 C.2.1 dX0_factorByKind_54 rfl (lv_at hl 0 rfl) ?_
          refine gf_X0_49 C hG hth dX0_factorByKind_55 ?_
          rcases of_ite hf with ⟨c7, hf⟩ | ⟨c7, hf⟩
          · refine lv_icmp_ge (tgt := 65) C.1 C.2.1 dX0_factorByKind_58 (by decide) (fun _ => ?_) (fun q => absurd c7 q)
            refine lv_aload_n C.1 C.2.1 dX0_factorByKind_65 rfl (lv_at hl 0 rfl) ?_
            refine gf_X0_46 C hG hth dX0_factorByKind_66 ?_
            obtain rfl := Option.some.inj hf
            exact r_iret C hG dX0_factorByKind_69
          · refine lv_icmp_ge (tgt := 65) C.1 C.2.1 dX0_factorByKind_58 (by decide) (fun q => absurd q c7) (fun _ => ?_)
            refine lv_iconst (v := nI 1) C.1 C.2.1 dX0_factorByKind_61 (by decide) ?_
            refine lv_goto (tgt := 69) C.1 C.2.1 dX0_factorByKind_62 (by decide) ?_
            obtain rfl := Option.some.inj hf
            exact r_iret C hG dX0_factorByKind_69
        · skip
          rcases of_ite hf with ⟨c8, hf⟩ | ⟨c8, hf⟩
          · refine lv_tableIn (tgt := 70) (off := 66) C.1 C.2.1 dX0_factorByKind_4 (by rw [c8]; decide) (by rw [c8]; decide) (by rw [c8]; rfl) (by decide) ?_
            refine lv_iload_n C.1 C.2.1 dX0_factorByKind_70 rfl (lv_at hl 1 rfl) ?_
            refine lv_iload_n C.1 C.2.1 dX0_factorByKind_71 rfl (lv_at hl 2 rfl) ?_
            refine lv_iand C.1 C.2.1 dX0_factorByKind_72 ?_
            rcases of_ite hf with ⟨c9, hf⟩ | ⟨c9, hf⟩
            · refine lv_if_eq (tgt := 80) C.1 C.2.1 dX0_factorByKind_73 (by decide) (fun _ => ?_) (fun q => absurd c9 q)
              refine lv_iconst (v := nI 1) C.1 C.2.1 dX0_factorByKind_80 (by decide) ?_
              refine lv_iload_n C.1 C.2.1 dX0_factorByKind_81 rfl (lv_at hl 1 rfl) ?_
              refine lv_iload_n C.1 C.2.1 dX0_factorByKind_82 rfl (lv_at hl 2 rfl) ?_
              obtain ⟨v10, hv10, hf⟩ := of_bind hf
              refine r_callS1 C hG hl.1 (As := [.int x1, .int x2]) (mt_X0_lesserPairs l  hv10) (va_cwS 2 C.2.2.2.2.1 (gd_S tg_2_80 tg_2_81 tg_1_4 tg_2_82) rfl rfl rfl cd_X0_lesserPairs.2 ⟨Nat.le_of_ble_eq_true rfl, Nat.le_of_ble_eq_true rfl⟩) rfl rfl (Nat.le_of_ble_eq_true rfl) dX0_factorByKind_83 (fun H locs hG => ?_)
              obtain ⟨v11, hv11, hf⟩ := of_bind hf
              refine r_callSN1 C hG hl.1 (As := [.int v10]) (mt_X8_isOdd l  hv11) (va_cnB 1 C.2.2.2.2.1 (gd_all tg_2_91) rfl rfl rfl (hG.1.2.1 _ nn_50) (C.2.2.2.2.1 _ (List.mem_cons_of_mem _ tg_1_1)) cd_X8_isOdd.2 ⟨Nat.le_of_ble_eq_true rfl, Nat.le_of_ble_eq_true rfl⟩) (C.2.2.2.2.1 _ (List.mem_cons_of_mem _ tg_2_90)) rfl rfl (Nat.le_of_ble_eq_true rfl) dX0_factorByKind_86 (fun H locs hG => ?_)
              obtain ⟨v12, hv12, hf⟩ := of_bind hf
              refine r_callS1 C hG hl.1 (As := [.int (nI 1), .int v11]) (mt_X0_signed l  hv12) (va_cwS 2 C.2.2.2.2.1 (gd_S tg_2_92 tg_2_93 tg_1_4 tg_2_94) rfl rfl rfl cd_X0_signed.2 ⟨Nat.le_of_ble_eq_true rfl, Nat.le_of_ble_eq_true rfl⟩) rfl rfl (Nat.le_of_ble_eq_true rfl) dX0_factorByKind_89 (fun H locs hG => ?_)
              obtain rfl := Option.some.inj hf
              exact r_iret C hG dX0_factorByKind_92
            · refine lv_if_eq (tgt := 80) C.1 C.2.1 dX0_factorByKind_73 (by decide) (fun q => absurd q c9) (fun _ => ?_)
              refine lv_iconst (v := nI 0) C.1 C.2.1 dX0_factorByKind_76 (by decide) ?_
              refine lv_goto (tgt := 92) C.1 C.2.1 dX0_factorByKind_77 (by decide) ?_
              obtain rfl := Option.some.inj hf
              exact r_iret C hG dX0_factorByKind_92
          · skip
            refine lv_tableOut (tgt := 93) C.1 C.2.1 dX0_factorByKind_4 (sw_out (n := 5) (by decide) (lt_s (lt_s (lt_s (lt_s (lt_s lt_0 c1) c3) c5) c6) c8)) (by decide) ?_
            refine lv_iconst (v := nI 1) C.1 C.2.1 dX0_factorByKind_93 (by decide) ?_
            obtain rfl := Option.some.inj hf
            exact r_iret C hG dX0_factorByKind_94
set_option maxRecDepth 100000 in
set_option maxHeartbeats 4000000 in
theorem mt_X0_factorByKind (l : Launch) {G : GG} {A : Nat → Prop} {B : Nat} {X : va_W} {th : Nat} {x1 : Int32} {x2 : Int32} {w : WX} {out : Int32} (hth : KDx th = (0, 13)) (hf : sh_X0_factorByKind th x1 x2 w = some out) : MetW l yX0_factorByKind wc_X0_factorByKind rm_X0_factorByKind G A 153 B (entX G B w) X [.ref (B + th), .int x1, .int x2] (some (.int out)) (entX G B w) := by
  refine Met.ofW (cc := cX0_factorByKind) (maxL := 3) (ret := (some .int)) (by decide) rfl ?_
  intro p e s m args below meth c s₁ B0 hml hv
  obtain ⟨rfl, hEv, hWd⟩ := hv
  have C : CX p s m _ meth c cX0_factorByKind 3 RX0 wc_X0_factorByKind (some .int) := ⟨B0.exec, B0.bytes, hml, findClass_of_methodNamed B0.named, atoms_spec (ws := wc_X0_factorByKind) B0.pre, B0.returns, B0.notSynchronized⟩
  have hl := lv_entry [.ref (B + th), .int x1, .int x2] (n := 3) (Nat.le_of_ble_eq_true rfl)
  rw [lg_entry_eq]
  generalize (lg_sl [.ref (B + th), .int x1, .int x2] ++ List.replicate (3 - (lg_sl [.ref (B + th), .int x1, .int x2]).length) Slot.unset).toArray = ls at hl ⊢
  have hl : lv_has ls 3 [(0, .ref (B + th)), (1, .int x1), (2, .int x2)] := hl
  exact kb_X0_factorByKind_0 C hth ⟨hEv, hWd, va_S.rf⟩ hl hf
abbrev wc_X8_plusTimes : List Cond := Cond.code yX8_plusTimes cX8_plusTimes 3 (some .int) :: TG
abbrev rm_X8_plusTimes : Room := { frames := 2, cells := 0, slots := 0, locals := 100 }
theorem cd_X8_plusTimes : yX8_plusTimes.cls = RX8 ∧ yX8_plusTimes.cls ≠ "java/lang/invoke/MethodHandle" ∧ yX8_plusTimes.cls ≠ "java/lang/invoke/VarHandle" ∧ (parseMethodDescriptor yX8_plusTimes.desc).map (fun d => d.parameters.length) = some 3 := by decide +kernel
theorem dX8_plusTimes_0 : decode cX8_plusTimes 0 = .ok (.iload_n 0, 1) := by decide +kernel
theorem dX8_plusTimes_1 : decode cX8_plusTimes 1 = .ok (.iload_n 1, 1) := by decide +kernel
theorem dX8_plusTimes_2 : decode cX8_plusTimes 2 = .ok (.iload_n 2, 1) := by decide +kernel
theorem dX8_plusTimes_3 : decode cX8_plusTimes 3 = .ok (.imul, 1) := by decide +kernel
theorem dX8_plusTimes_4 : decode cX8_plusTimes 4 = .ok (.iadd, 1) := by decide +kernel
theorem dX8_plusTimes_5 : decode cX8_plusTimes 5 = .ok (.sipush 9973, 3) := by decide +kernel
theorem dX8_plusTimes_8 : decode cX8_plusTimes 8 = .ok (.irem, 1) := by decide +kernel
theorem dX8_plusTimes_9 : decode cX8_plusTimes 9 = .ok (.ireturn, 1) := by decide +kernel
set_option maxRecDepth 100000 in
set_option maxHeartbeats 4000000 in
theorem kb_X8_plusTimes_0 {x0 : Int32} {x1 : Int32} {x2 : Int32} {out : Int32} {H : Heap} {locs : List Loc} {ls : Array Slot} (C : CX p s m args meth c cX8_plusTimes 3 RX8 wc_X8_plusTimes (some .int))  (hG : Gd s G A N B E X H locs) (hl : lv_has ls 3 [(0, .int x0), (1, .int x1), (2, .int x2)]) (hf : sh_X8_plusTimes x0 x1 x2 = some out) :
    W p l e rm_X8_plusTimes s m args below meth c H locs 0 0 (MQ below (CPost G A N B E X (some (.int out))) args s 0 0 A) (F0 m 0 ls []) := by
  refine lv_iload_n C.1 C.2.1 dX8_plusTimes_0 rfl (lv_at hl 0 rfl) ?_
  refine lv_iload_n C.1 C.2.1 dX8_plusTimes_1 rfl (lv_at hl 1 rfl) ?_
  refine lv_iload_n C.1 C.2.1 dX8_plusTimes_2 rfl (lv_at hl 2 rfl) ?_
  refine lv_imul C.1 C.2.1 dX8_plusTimes_3 ?_
  refine lv_iadd C.1 C.2.1 dX8_plusTimes_4 ?_
  refine lv_sipush (v := nI 9973) C.1 C.2.1 dX8_plusTimes_5 (by decide) ?_
  refine r_irem C dX8_plusTimes_8 (by decide) ?_
  obtain rfl := Option.some.inj hf
  exact r_iret C hG dX8_plusTimes_9
set_option maxRecDepth 100000 in
set_option maxHeartbeats 4000000 in
theorem mt_X8_plusTimes (l : Launch) {G : GG} {A : Nat → Prop} {N B : Nat} {E : Nat → va_E} {X : va_W} {x0 : Int32} {x1 : Int32} {x2 : Int32} {out : Int32}  (hf : sh_X8_plusTimes x0 x1 x2 = some out) : MetW l yX8_plusTimes wc_X8_plusTimes rm_X8_plusTimes G A N B E X [.int x0, .int x1, .int x2] (some (.int out)) E := by
  refine Met.ofW (cc := cX8_plusTimes) (maxL := 3) (ret := (some .int)) (by decide) rfl ?_
  intro p e s m args below meth c s₁ B0 hml hv
  obtain ⟨rfl, hEv, hWd⟩ := hv
  have C : CX p s m _ meth c cX8_plusTimes 3 RX8 wc_X8_plusTimes (some .int) := ⟨B0.exec, B0.bytes, hml, findClass_of_methodNamed B0.named, atoms_spec (ws := wc_X8_plusTimes) B0.pre, B0.returns, B0.notSynchronized⟩
  have hl := lv_entry [.int x0, .int x1, .int x2] (n := 3) (Nat.le_of_ble_eq_true rfl)
  rw [lg_entry_eq]
  generalize (lg_sl [.int x0, .int x1, .int x2] ++ List.replicate (3 - (lg_sl [.int x0, .int x1, .int x2]).length) Slot.unset).toArray = ls at hl ⊢
  have hl : lv_has ls 3 [(0, .int x0), (1, .int x1), (2, .int x2)] := hl
  exact kb_X8_plusTimes_0 C  ⟨hEv, hWd, va_S.rf⟩ hl hf
abbrev wc_X0_makeHandleAndCross : List Cond := Cond.code yX0_makeHandleAndCross cX0_makeHandleAndCross 4 none :: TG
abbrev rm_X0_makeHandleAndCross : Room := { frames := 3, cells := 0, slots := 0, locals := 122 }
theorem cd_X0_makeHandleAndCross : yX0_makeHandleAndCross.cls = RX0 ∧ yX0_makeHandleAndCross.cls ≠ "java/lang/invoke/MethodHandle" ∧ yX0_makeHandleAndCross.cls ≠ "java/lang/invoke/VarHandle" ∧ (parseMethodDescriptor yX0_makeHandleAndCross.desc).map (fun d => d.parameters.length) = some 0 := by decide +kernel
theorem dX0_makeHandleAndCross_0 : decode cX0_makeHandleAndCross 0 = .ok (.iconst 0, 1) := by decide +kernel
theorem dX0_makeHandleAndCross_1 : decode cX0_makeHandleAndCross 1 = .ok (.istore_n 1, 1) := by decide +kernel
theorem dX0_makeHandleAndCross_2 : decode cX0_makeHandleAndCross 2 = .ok (.iload_n 1, 1) := by decide +kernel
theorem dX0_makeHandleAndCross_3 : decode cX0_makeHandleAndCross 3 = .ok (.aload_n 0, 1) := by decide +kernel
theorem dX0_makeHandleAndCross_4 : decode cX0_makeHandleAndCross 4 = .ok (.getfield 49, 3) := by decide +kernel
theorem dX0_makeHandleAndCross_7 : decode cX0_makeHandleAndCross 7 = .ok (.if_icmp .ge 23, 3) := by decide +kernel
theorem dX0_makeHandleAndCross_10 : decode cX0_makeHandleAndCross 10 = .ok (.aload_n 0, 1) := by decide +kernel
theorem dX0_makeHandleAndCross_11 : decode cX0_makeHandleAndCross 11 = .ok (.getfield 27, 3) := by decide +kernel
theorem dX0_makeHandleAndCross_14 : decode cX0_makeHandleAndCross 14 = .ok (.iload_n 1, 1) := by decide +kernel
theorem dX0_makeHandleAndCross_15 : decode cX0_makeHandleAndCross 15 = .ok (.iconst 0, 1) := by decide +kernel
theorem dX0_makeHandleAndCross_16 : decode cX0_makeHandleAndCross 16 = .ok (.iastore, 1) := by decide +kernel
theorem dX0_makeHandleAndCross_17 : decode cX0_makeHandleAndCross 17 = .ok (.aload_n 0, 1) := by decide +kernel
theorem dX0_makeHandleAndCross_18 : decode cX0_makeHandleAndCross 18 = .ok (.getfield 30, 3) := by decide +kernel
theorem dX0_makeHandleAndCross_21 : decode cX0_makeHandleAndCross 21 = .ok (.iload_n 1, 1) := by decide +kernel
theorem dX0_makeHandleAndCross_22 : decode cX0_makeHandleAndCross 22 = .ok (.iconst 0, 1) := by decide +kernel
theorem dX0_makeHandleAndCross_23 : decode cX0_makeHandleAndCross 23 = .ok (.iastore, 1) := by decide +kernel
theorem dX0_makeHandleAndCross_24 : decode cX0_makeHandleAndCross 24 = .ok (.iinc 1 1, 3) := by decide +kernel
theorem dX0_makeHandleAndCross_27 : decode cX0_makeHandleAndCross 27 = .ok (.goto (-25), 3) := by decide +kernel
theorem dX0_makeHandleAndCross_30 : decode cX0_makeHandleAndCross 30 = .ok (.iconst 0, 1) := by decide +kernel
theorem dX0_makeHandleAndCross_31 : decode cX0_makeHandleAndCross 31 = .ok (.istore_n 1, 1) := by decide +kernel
theorem dX0_makeHandleAndCross_32 : decode cX0_makeHandleAndCross 32 = .ok (.iload_n 1, 1) := by decide +kernel
theorem dX0_makeHandleAndCross_33 : decode cX0_makeHandleAndCross 33 = .ok (.aload_n 0, 1) := by decide +kernel
theorem dX0_makeHandleAndCross_34 : decode cX0_makeHandleAndCross 34 = .ok (.getfield 49, 3) := by decide +kernel
theorem dX0_makeHandleAndCross_37 : decode cX0_makeHandleAndCross 37 = .ok (.if_icmp .ge 113, 3) := by decide +kernel
theorem dX0_makeHandleAndCross_40 : decode cX0_makeHandleAndCross 40 = .ok (.iconst 0, 1) := by decide +kernel
theorem dX0_makeHandleAndCross_41 : decode cX0_makeHandleAndCross 41 = .ok (.istore_n 2, 1) := by decide +kernel
theorem dX0_makeHandleAndCross_42 : decode cX0_makeHandleAndCross 42 = .ok (.iload_n 2, 1) := by decide +kernel
theorem dX0_makeHandleAndCross_43 : decode cX0_makeHandleAndCross 43 = .ok (.aload_n 0, 1) := by decide +kernel
theorem dX0_makeHandleAndCross_44 : decode cX0_makeHandleAndCross 44 = .ok (.getfield 49, 3) := by decide +kernel
theorem dX0_makeHandleAndCross_47 : decode cX0_makeHandleAndCross 47 = .ok (.if_icmp .ge 58, 3) := by decide +kernel
theorem dX0_makeHandleAndCross_50 : decode cX0_makeHandleAndCross 50 = .ok (.aload_n 0, 1) := by decide +kernel
theorem dX0_makeHandleAndCross_51 : decode cX0_makeHandleAndCross 51 = .ok (.getfield 9, 3) := by decide +kernel
theorem dX0_makeHandleAndCross_54 : decode cX0_makeHandleAndCross 54 = .ok (.aload_n 0, 1) := by decide +kernel
theorem dX0_makeHandleAndCross_55 : decode cX0_makeHandleAndCross 55 = .ok (.iload_n 1, 1) := by decide +kernel
theorem dX0_makeHandleAndCross_56 : decode cX0_makeHandleAndCross 56 = .ok (.iload_n 2, 1) := by decide +kernel
theorem dX0_makeHandleAndCross_57 : decode cX0_makeHandleAndCross 57 = .ok (.invokevirtual 56, 3) := by decide +kernel
theorem dX0_makeHandleAndCross_60 : decode cX0_makeHandleAndCross 60 = .ok (.iaload, 1) := by decide +kernel
theorem dX0_makeHandleAndCross_61 : decode cX0_makeHandleAndCross 61 = .ok (.istore_n 3, 1) := by decide +kernel
theorem dX0_makeHandleAndCross_62 : decode cX0_makeHandleAndCross 62 = .ok (.aload_n 0, 1) := by decide +kernel
theorem dX0_makeHandleAndCross_63 : decode cX0_makeHandleAndCross 63 = .ok (.getfield 27, 3) := by decide +kernel
theorem dX0_makeHandleAndCross_66 : decode cX0_makeHandleAndCross 66 = .ok (.iload_n 3, 1) := by decide +kernel
theorem dX0_makeHandleAndCross_67 : decode cX0_makeHandleAndCross 67 = .ok (.aload_n 0, 1) := by decide +kernel
theorem dX0_makeHandleAndCross_68 : decode cX0_makeHandleAndCross 68 = .ok (.getfield 27, 3) := by decide +kernel
theorem dX0_makeHandleAndCross_71 : decode cX0_makeHandleAndCross 71 = .ok (.iload_n 3, 1) := by decide +kernel
theorem dX0_makeHandleAndCross_72 : decode cX0_makeHandleAndCross 72 = .ok (.iaload, 1) := by decide +kernel
theorem dX0_makeHandleAndCross_73 : decode cX0_makeHandleAndCross 73 = .ok (.aload_n 0, 1) := by decide +kernel
theorem dX0_makeHandleAndCross_74 : decode cX0_makeHandleAndCross 74 = .ok (.getfield 18, 3) := by decide +kernel
theorem dX0_makeHandleAndCross_77 : decode cX0_makeHandleAndCross 77 = .ok (.aload_n 0, 1) := by decide +kernel
theorem dX0_makeHandleAndCross_78 : decode cX0_makeHandleAndCross 78 = .ok (.iload_n 1, 1) := by decide +kernel
theorem dX0_makeHandleAndCross_79 : decode cX0_makeHandleAndCross 79 = .ok (.iload_n 2, 1) := by decide +kernel
theorem dX0_makeHandleAndCross_80 : decode cX0_makeHandleAndCross 80 = .ok (.invokevirtual 56, 3) := by decide +kernel
theorem dX0_makeHandleAndCross_83 : decode cX0_makeHandleAndCross 83 = .ok (.iaload, 1) := by decide +kernel
theorem dX0_makeHandleAndCross_84 : decode cX0_makeHandleAndCross 84 = .ok (.aload_n 0, 1) := by decide +kernel
theorem dX0_makeHandleAndCross_85 : decode cX0_makeHandleAndCross 85 = .ok (.getfield 15, 3) := by decide +kernel
theorem dX0_makeHandleAndCross_88 : decode cX0_makeHandleAndCross 88 = .ok (.aload_n 0, 1) := by decide +kernel
theorem dX0_makeHandleAndCross_89 : decode cX0_makeHandleAndCross 89 = .ok (.iload_n 1, 1) := by decide +kernel
theorem dX0_makeHandleAndCross_90 : decode cX0_makeHandleAndCross 90 = .ok (.iload_n 2, 1) := by decide +kernel
theorem dX0_makeHandleAndCross_91 : decode cX0_makeHandleAndCross 91 = .ok (.invokevirtual 56, 3) := by decide +kernel
theorem dX0_makeHandleAndCross_94 : decode cX0_makeHandleAndCross 94 = .ok (.iaload, 1) := by decide +kernel
theorem dX0_makeHandleAndCross_95 : decode cX0_makeHandleAndCross 95 = .ok (.invokestatic 94, 3) := by decide +kernel
theorem dX0_makeHandleAndCross_98 : decode cX0_makeHandleAndCross 98 = .ok (.iastore, 1) := by decide +kernel
theorem dX0_makeHandleAndCross_99 : decode cX0_makeHandleAndCross 99 = .ok (.iinc 2 1, 3) := by decide +kernel
theorem dX0_makeHandleAndCross_102 : decode cX0_makeHandleAndCross 102 = .ok (.goto (-60), 3) := by decide +kernel
theorem dX0_makeHandleAndCross_105 : decode cX0_makeHandleAndCross 105 = .ok (.aload_n 0, 1) := by decide +kernel
theorem dX0_makeHandleAndCross_106 : decode cX0_makeHandleAndCross 106 = .ok (.getfield 9, 3) := by decide +kernel
theorem dX0_makeHandleAndCross_109 : decode cX0_makeHandleAndCross 109 = .ok (.aload_n 0, 1) := by decide +kernel
theorem dX0_makeHandleAndCross_110 : decode cX0_makeHandleAndCross 110 = .ok (.iload_n 1, 1) := by decide +kernel
theorem dX0_makeHandleAndCross_111 : decode cX0_makeHandleAndCross 111 = .ok (.iload_n 1, 1) := by decide +kernel
theorem dX0_makeHandleAndCross_112 : decode cX0_makeHandleAndCross 112 = .ok (.invokevirtual 56, 3) := by decide +kernel
theorem dX0_makeHandleAndCross_115 : decode cX0_makeHandleAndCross 115 = .ok (.iaload, 1) := by decide +kernel
theorem dX0_makeHandleAndCross_116 : decode cX0_makeHandleAndCross 116 = .ok (.istore_n 2, 1) := by decide +kernel
theorem dX0_makeHandleAndCross_117 : decode cX0_makeHandleAndCross 117 = .ok (.aload_n 0, 1) := by decide +kernel
theorem dX0_makeHandleAndCross_118 : decode cX0_makeHandleAndCross 118 = .ok (.getfield 30, 3) := by decide +kernel
theorem dX0_makeHandleAndCross_121 : decode cX0_makeHandleAndCross 121 = .ok (.iload_n 2, 1) := by decide +kernel
theorem dX0_makeHandleAndCross_122 : decode cX0_makeHandleAndCross 122 = .ok (.aload_n 0, 1) := by decide +kernel
theorem dX0_makeHandleAndCross_123 : decode cX0_makeHandleAndCross 123 = .ok (.getfield 30, 3) := by decide +kernel
theorem dX0_makeHandleAndCross_126 : decode cX0_makeHandleAndCross 126 = .ok (.iload_n 2, 1) := by decide +kernel
theorem dX0_makeHandleAndCross_127 : decode cX0_makeHandleAndCross 127 = .ok (.iaload, 1) := by decide +kernel
theorem dX0_makeHandleAndCross_128 : decode cX0_makeHandleAndCross 128 = .ok (.iconst 1, 1) := by decide +kernel
theorem dX0_makeHandleAndCross_129 : decode cX0_makeHandleAndCross 129 = .ok (.aload_n 0, 1) := by decide +kernel
theorem dX0_makeHandleAndCross_130 : decode cX0_makeHandleAndCross 130 = .ok (.getfield 15, 3) := by decide +kernel
theorem dX0_makeHandleAndCross_133 : decode cX0_makeHandleAndCross 133 = .ok (.aload_n 0, 1) := by decide +kernel
theorem dX0_makeHandleAndCross_134 : decode cX0_makeHandleAndCross 134 = .ok (.iload_n 1, 1) := by decide +kernel
theorem dX0_makeHandleAndCross_135 : decode cX0_makeHandleAndCross 135 = .ok (.iload_n 1, 1) := by decide +kernel
theorem dX0_makeHandleAndCross_136 : decode cX0_makeHandleAndCross 136 = .ok (.invokevirtual 56, 3) := by decide +kernel
theorem dX0_makeHandleAndCross_139 : decode cX0_makeHandleAndCross 139 = .ok (.iaload, 1) := by decide +kernel
theorem dX0_makeHandleAndCross_140 : decode cX0_makeHandleAndCross 140 = .ok (.invokestatic 94, 3) := by decide +kernel
theorem dX0_makeHandleAndCross_143 : decode cX0_makeHandleAndCross 143 = .ok (.iastore, 1) := by decide +kernel
theorem dX0_makeHandleAndCross_144 : decode cX0_makeHandleAndCross 144 = .ok (.iinc 1 1, 3) := by decide +kernel
theorem dX0_makeHandleAndCross_147 : decode cX0_makeHandleAndCross 147 = .ok (.goto (-115), 3) := by decide +kernel
theorem dX0_makeHandleAndCross_150 : decode cX0_makeHandleAndCross 150 = .ok (.return_, 1) := by decide +kernel
set_option maxRecDepth 100000 in
set_option maxHeartbeats 4000000 in
theorem kb_X0_makeHandleAndCross_2 {th : Nat} {st : Int32 × WX} {r : (Int32 × WX) ⊕ ((WX))} {H : Heap} {locs : List Loc} {ls : Array Slot} (C : CX p s m args meth c cX0_makeHandleAndCross 4 RX0 wc_X0_makeHandleAndCross none) (hth : KDx th = (0, 13)) (hG : Gd s G A 153 B (entX G B st.2) X H locs) (hl : lv_has ls 4 [(0, .ref (B + th)), (1, .int st.1)]) (hf : sh_X0_makeHandleAndCross_s2 th st = some r)
    (kL : ∀ st' : Int32 × WX, r = Sum.inl st' → ∀ (H : Heap) (locs : List Loc) (ls : Array Slot), Gd s G A 153 B (entX G B st'.2) X H locs → lv_has ls 4 [(0, .ref (B + th)), (1, .int st'.1)] → W p l e rm_X0_makeHandleAndCross s m args below meth c H locs 0 0 Q (F0 m 2 ls []))
    (kX0 : ∀ y' : WX, r = Sum.inr y' → ∀ (H : Heap) (locs : List Loc) (ls : Array Slot), Gd s G A 153 B (entX G B y') X H locs → lv_has ls 4 [(0, .ref (B + th))] → W p l e rm_X0_makeHandleAndCross s m args below meth c H locs 0 0 Q (F0 m 30 ls [])) :
    W p l e rm_X0_makeHandleAndCross s m args below meth c H locs 0 0 Q (F0 m 2 ls []) := by
  refine lv_iload_n C.1 C.2.1 dX0_makeHandleAndCross_2 rfl (lv_at hl 1 rfl) ?_
  refine lv_aload_n C.1 C.2.1 dX0_makeHandleAndCross_3 rfl (lv_at hl 0 rfl) ?_
  refine gf_X0_49 C hG hth dX0_makeHandleAndCross_4 ?_
  rcases of_ite hf with ⟨c1, hf⟩ | ⟨c1, hf⟩
  · refine lv_icmp_ge (tgt := 30) C.1 C.2.1 dX0_makeHandleAndCross_7 (by decide) (fun _ => ?_) (fun q => absurd c1 q)
    obtain rfl := Option.some.inj hf
    exact kX0 _ rfl _ _ _ hG (lv_sub hl [0] rfl)
  · refine lv_icmp_ge (tgt := 30) C.1 C.2.1 dX0_makeHandleAndCross_7 (by decide) (fun q => absurd q c1) (fun _ => ?_)
    refine lv_aload_n C.1 C.2.1 dX0_makeHandleAndCross_10 rfl (lv_at hl 0 rfl) ?_
    refine gf_X0_27 C hG hth dX0_makeHandleAndCross_11 ?_
    refine lv_iload_n C.1 C.2.1 dX0_makeHandleAndCross_14 rfl (lv_at hl 1 rfl) ?_
    refine lv_iconst (v := nI 0) C.1 C.2.1 dX0_makeHandleAndCross_15 (by decide) ?_
    obtain ⟨w2, hw2, hf⟩ := of_bind hf
    obtain ⟨bw2, ew2⟩ := of_stX hw2
    refine r_iast C hG (c0 := (th + 6)) (kdx_lt (kx_0_9 hth) (by decide)) (entX_I (kx_0_9 hth)) bw2 (E' := (entX G B w2)) (by rw [ew2]; exact upX_I (kx_0_9 hth)) dX0_makeHandleAndCross_16 (fun H locs hG => ?_)
    refine lv_aload_n C.1 C.2.1 dX0_makeHandleAndCross_17 rfl (lv_at hl 0 rfl) ?_
    refine gf_X0_30 C hG hth dX0_makeHandleAndCross_18 ?_
    refine lv_iload_n C.1 C.2.1 dX0_makeHandleAndCross_21 rfl (lv_at hl 1 rfl) ?_
    refine lv_iconst (v := nI 0) C.1 C.2.1 dX0_makeHandleAndCross_22 (by decide) ?_
    obtain ⟨w3, hw3, hf⟩ := of_bind hf
    obtain ⟨bw3, ew3⟩ := of_stX hw3
    refine r_iast C hG (c0 := (th + 7)) (kdx_lt (kx_0_10 hth) (by decide)) (entX_I (kx_0_10 hth)) bw3 (E' := (entX G B w3)) (by rw [ew3]; exact upX_I (kx_0_10 hth)) dX0_makeHandleAndCross_23 (fun H locs hG => ?_)
    obtain ⟨v4, ev4, hf⟩ := of_letv hf
    refine lv_iinc (v := v4) (lv' := [(1, .int v4), (0, .ref (B + th))]) C.1 C.2.1 dX0_makeHandleAndCross_24 hl (k := 1) rfl (by rw [ev4, show Int32.ofInt (1) = nI 1 from by decide]) (by decide) rfl (fun ls hl => ?_)
    refine lv_goto (tgt := 2) C.1 C.2.1 dX0_makeHandleAndCross_27 (by decide) ?_
    obtain rfl := Option.some.inj hf
    exact kL _ rfl _ _ _ hG (lv_sub hl [1, 0] rfl)
set_option maxRecDepth 100000 in
set_option maxHeartbeats 4000000 in
theorem kl_X0_makeHandleAndCross_2 {th : Nat} (C : CX p s m args meth c cX0_makeHandleAndCross 4 RX0 wc_X0_makeHandleAndCross none) (hth : KDx th = (0, 13)) : ∀ (n : Nat) (st : Int32 × WX) (x : (WX)) (H : Heap) (locs : List Loc) (ls : Array Slot), Gd s G A 153 B (entX G B st.2) X H locs → lv_has ls 4 [(0, .ref (B + th)), (1, .int st.1)] → lpw (sh_X0_makeHandleAndCross_s2 th) n st = some x →
    (∀ y' : WX, x = y' → ∀ (H : Heap) (locs : List Loc) (ls : Array Slot), Gd s G A 153 B (entX G B y') X H locs → lv_has ls 4 [(0, .ref (B + th))] → W p l e rm_X0_makeHandleAndCross s m args below meth c H locs 0 0 Q (F0 m 30 ls [])) → W p l e rm_X0_makeHandleAndCross s m args below meth c H locs 0 0 Q (F0 m 2 ls []) := by
  intro n
  induction n with
  | zero =>
    intro st x H locs ls hG hl hf
    cases hf
  | succ n ih =>
    intro st x H locs ls hG hl hf kX0
    obtain ⟨r, hr, hh⟩ := of_lpw hf
    refine kb_X0_makeHandleAndCross_2 C hth hG hl hr (fun st2 e1 H locs ls hG hl => ?_) (fun y2 e1 H locs ls hG hl => ?_)
    · rcases hh with ⟨s3, e2, hh⟩ | e2
      · rw [e2] at e1
        cases e1
        exact ih _ _ _ _ _ hG hl hh kX0
      · rw [e2] at e1
        cases e1
    · rcases hh with ⟨s3, e2, hh⟩ | e2
      · rw [e2] at e1
        cases e1
      · rw [e2] at e1
        cases e1
        exact kX0 _ rfl _ _ _ hG hl
set_option maxRecDepth 100000 in
set_option maxHeartbeats 4000000 in
theorem kb_X0_makeHandleAndCross_42 {th : Nat} {x1 : Int32} {st : Int32 × WX} {r : (Int32 × WX) ⊕ ((WX))} {H : Heap} {locs : List Loc} {ls : Array Slot} (C : CX p s m args meth c cX0_makeHandleAndCross 4 RX0 wc_X0_makeHandleAndCross none) (hth : KDx th = (0, 13)) (hG : Gd s G A 153 B (entX G B st.2) X H locs) (hl : lv_has ls 4 [(0, .ref (B + th)), (1, .int x1), (2, .int st.1)]) (hf : sh_X0_makeHandleAndCross_s42 th x1 st = some r)
    (kL : ∀ st' : Int32 × WX, r = Sum.inl st' → ∀ (H : Heap) (locs : List Loc) (ls : Array Slot), Gd s G A 153 B (entX G B st'.2) X H locs → lv_has ls 4 [(0, .ref (B + th)), (1, .int x1), (2, .int st'.1)] → W p l e rm_X0_makeHandleAndCross s m args below meth c H locs 0 0 Q (F0 m 42 ls []))
    (kX0 : ∀ y' : WX, r = Sum.inr y' → ∀ (H : Heap) (locs : List Loc) (ls : Array Slot), Gd s G A 153 B (entX G B y') X H locs → lv_has ls 4 [(0, .ref (B + th)), (1, .int x1)] → W p l e rm_X0_makeHandleAndCross s m args below meth c H locs 0 0 Q (F0 m 105 ls [])) :
    W p l e rm_X0_makeHandleAndCross s m args below meth c H locs 0 0 Q (F0 m 42 ls []) := by
  refine lv_iload_n C.1 C.2.1 dX0_makeHandleAndCross_42 rfl (lv_at hl 2 rfl) ?_
  refine lv_aload_n C.1 C.2.1 dX0_makeHandleAndCross_43 rfl (lv_at hl 0 rfl) ?_
  refine gf_X0_49 C hG hth dX0_makeHandleAndCross_44 ?_
  rcases of_ite hf with ⟨c1, hf⟩ | ⟨c1, hf⟩
  · refine lv_icmp_ge (tgt := 105) C.1 C.2.1 dX0_makeHandleAndCross_47 (by decide) (fun _ => ?_) (fun q => absurd c1 q)
    obtain rfl := Option.some.inj hf
    exact kX0 _ rfl _ _ _ hG (lv_sub hl [0, 1] rfl)
  · refine lv_icmp_ge (tgt := 105) C.1 C.2.1 dX0_makeHandleAndCross_47 (by decide) (fun q => absurd q c1) (fun _ => ?_)
    refine lv_aload_n C.1 C.2.1 dX0_makeHandleAndCross_50 rfl (lv_at hl 0 rfl) ?_
    refine gf_X0_9 C hG hth dX0_makeHandleAndCross_51 ?_
    refine lv_aload_n C.1 C.2.1 dX0_makeHandleAndCross_54 rfl (lv_at hl 0 rfl) ?_
    refine lv_iload_n C.1 C.2.1 dX0_makeHandleAndCross_55 rfl (lv_at hl 1 rfl) ?_
    refine lv_iload_n C.1 C.2.1 dX0_makeHandleAndCross_56 rfl (lv_at hl 2 rfl) ?_
    obtain ⟨v2, hv2, hf⟩ := of_bind hf
    refine r_callV1 C hG hl.1 (c0 := th) (As := [.int x1, .int st.1]) (kdx_lt hth (by decide)) (entX_O0 hth) rfl (mt_X0_at l hth hv2) (cwV 2 C.2.2.2.2.1 (gd_V tg_2_68 tg_2_70 tgp_1 tg_1_4 tg_2_71) rfl rfl rfl cd_X0_at ⟨Nat.le_of_ble_eq_true rfl, Nat.le_of_ble_eq_true rfl⟩) rfl rfl (Nat.le_of_ble_eq_true rfl) dX0_makeHandleAndCross_57 (fun H locs hG => ?_)
    obtain ⟨v3, hv3, hf⟩ := of_bind hf
    obtain ⟨bv3, ev3⟩ := of_ldS hv3
    refine r_iald C hG (c0 := (th + 1)) (kdx_lt (kx_0_4 hth) (by decide)) (entX_I (kx_0_4 hth)) bv3 dX0_makeHandleAndCross_60 ?_
    refine r_top ev3 ?_
    refine lv_istore_n (lv' := [(3, .int v3), (0, .ref (B + th)), (1, .int x1), (2, .int st.1)]) C.1 C.2.1 dX0_makeHandleAndCross_61 rfl hl (by decide) rfl (fun ls hl => ?_)
    refine lv_aload_n C.1 C.2.1 dX0_makeHandleAndCross_62 rfl (lv_at hl 1 rfl) ?_
    refine gf_X0_27 C hG hth dX0_makeHandleAndCross_63 ?_
    refine lv_iload_n C.1 C.2.1 dX0_makeHandleAndCross_66 rfl (lv_at hl 0 rfl) ?_
    refine lv_aload_n C.1 C.2.1 dX0_makeHandleAndCross_67 rfl (lv_at hl 1 rfl) ?_
    refine gf_X0_27 C hG hth dX0_makeHandleAndCross_68 ?_
    refine lv_iload_n C.1 C.2.1 dX0_makeHandleAndCross_71 rfl (lv_at hl 0 rfl) ?_
    obtain ⟨v4, hv4, hf⟩ := of_bind hf
    obtain ⟨bv4, ev4⟩ := of_ldS hv4
    refine r_iald C hG (c0 := (th + 6)) (kdx_lt (kx_0_9 hth) (by decide)) (entX_I (kx_0_9 hth)) bv4 dX0_makeHandleAndCross_72 ?_
    refine r_top ev4 ?_
    refine lv_aload_n C.1 C.2.1 dX0_makeHandleAndCross_73 rfl (lv_at hl 1 rfl) ?_
    refine gf_X0_18 C hG hth dX0_makeHandleAndCross_74 ?_
    refine lv_aload_n C.1 C.2.1 dX0_makeHandleAndCross_77 rfl (lv_at hl 1 rfl) ?_
    refine lv_iload_n C.1 C.2.1 dX0_makeHandleAndCross_78 rfl (lv_at hl 2 rfl) ?_
    refine lv_iload_n C.1 C.2.1 dX0_makeHandleAndCross_79 rfl (lv_at hl 3 rfl) ?_
    obtain ⟨v5, hv5, hf⟩ := of_bind hf
    refine r_callV1 C hG hl.1 (c0 := th) (As := [.int x1, .int st.1]) (kdx_lt hth (by decide)) (entX_O0 hth) rfl (mt_X0_at l hth hv5) (cwV 2 C.2.2.2.2.1 (gd_V tg_2_68 tg_2_70 tgp_1 tg_1_4 tg_2_71) rfl rfl rfl cd_X0_at ⟨Nat.le_of_ble_eq_true rfl, Nat.le_of_ble_eq_true rfl⟩) rfl rfl (Nat.le_of_ble_eq_true rfl) dX0_makeHandleAndCross_80 (fun H locs hG => ?_)
    obtain ⟨v6, hv6, hf⟩ := of_bind hf
    obtain ⟨bv6, ev6⟩ := of_ldS hv6
    refine r_iald C hG (c0 := (th + 3)) (kdx_lt (kx_0_6 hth) (by decide)) (entX_I (kx_0_6 hth)) bv6 dX0_makeHandleAndCross_83 ?_
    refine r_top ev6 ?_
    refine lv_aload_n C.1 C.2.1 dX0_makeHandleAndCross_84 rfl (lv_at hl 1 rfl) ?_
    refine gf_X0_15 C hG hth dX0_makeHandleAndCross_85 ?_
    refine lv_aload_n C.1 C.2.1 dX0_makeHandleAndCross_88 rfl (lv_at hl 1 rfl) ?_
    refine lv_iload_n C.1 C.2.1 dX0_makeHandleAndCross_89 rfl (lv_at hl 2 rfl) ?_
    refine lv_iload_n C.1 C.2.1 dX0_makeHandleAndCross_90 rfl (lv_at hl 3 rfl) ?_
    obtain ⟨v7, hv7, hf⟩ := of_bind hf
    refine r_callV1 C hG hl.1 (c0 := th) (As := [.int x1, .int st.1]) (kdx_lt hth (by decide)) (entX_O0 hth) rfl (mt_X0_at l hth hv7) (cwV 2 C.2.2.2.2.1 (gd_V tg_2_68 tg_2_70 tgp_1 tg_1_4 tg_2_71) rfl rfl rfl cd_X0_at ⟨Nat.le_of_ble_eq_true rfl, Nat.le_of_ble_eq_true rfl⟩) rfl rfl (Nat.le_of_ble_eq_true rfl) dX0_makeHandleAndCross_91 (fun H locs hG => ?_)
    obtain ⟨v8, hv8, hf⟩ := of_bind hf
    obtain ⟨bv8, ev8⟩ := of_ldS hv8
    refine r_iald C hG (c0 := (th + 2)) (kdx_lt (kx_0_5 hth) (by decide)) (entX_I (kx_0_5 hth)) bv8 dX0_makeHandleAndCross_94 ?_
    refine r_top ev8 ?_
    obtain ⟨v9, hv9, hf⟩ := of_bind hf
    refine r_callSN1 C hG hl.1 (As := [.int v4, .int v6, .int v8]) (mt_X8_plusTimes l  hv9) (va_cnB 3 C.2.2.2.2.1 (gd_all tg_2_105) rfl rfl rfl (hG.1.2.1 _ nn_51) (C.2.2.2.2.1 _ (List.mem_cons_of_mem _ tg_1_1)) cd_X8_plusTimes.2 ⟨Nat.le_of_ble_eq_true rfl, Nat.le_of_ble_eq_true rfl⟩) (C.2.2.2.2.1 _ (List.mem_cons_of_mem _ tg_2_104)) rfl rfl (Nat.le_of_ble_eq_true rfl) dX0_makeHandleAndCross_95 (fun H locs hG => ?_)
    obtain ⟨w10, hw10, hf⟩ := of_bind hf
    obtain ⟨bw10, ew10⟩ := of_stX hw10
    refine r_iast C hG (c0 := (th + 6)) (kdx_lt (kx_0_9 hth) (by decide)) (entX_I (kx_0_9 hth)) bw10 (E' := (entX G B w10)) (by rw [ew10]; exact upX_I (kx_0_9 hth)) dX0_makeHandleAndCross_98 (fun H locs hG => ?_)
    obtain ⟨v11, ev11, hf⟩ := of_letv hf
    refine lv_iinc (v := v11) (lv' := [(2, .int v11), (3, .int v3), (0, .ref (B + th)), (1, .int x1)]) C.1 C.2.1 dX0_makeHandleAndCross_99 hl (k := 3) rfl (by rw [ev11, show Int32.ofInt (1) = nI 1 from by decide]) (by decide) rfl (fun ls hl => ?_)
    refine lv_goto (tgt := 42) C.1 C.2.1 dX0_makeHandleAndCross_102 (by decide) ?_
    obtain rfl := Option.some.inj hf
    exact kL _ rfl _ _ _ hG (lv_sub hl [2, 3, 0] rfl)
set_option maxRecDepth 100000 in
set_option maxHeartbeats 4000000 in
theorem kl_X0_makeHandleAndCross_42 {th : Nat} {x1 : Int32} (C : CX p s m args meth c cX0_makeHandleAndCross 4 RX0 wc_X0_makeHandleAndCross none) (hth : KDx th = (0, 13)) : ∀ (n : Nat) (st : Int32 × WX) (x : (WX)) (H : Heap) (locs : List Loc) (ls : Array Slot), Gd s G A 153 B (entX G B st.2) X H locs → lv_has ls 4 [(0, .ref (B + th)), (1, .int x1), (2, .int st.1)] → lpw (sh_X0_makeHandleAndCross_s42 th x1) n st = some x →
    (∀ y' : WX, x = y' → ∀ (H : Heap) (locs : List Loc) (ls : Array Slot), Gd s G A 153 B (entX G B y') X H locs → lv_has ls 4 [(0, .ref (B + th)), (1, .int x1)] → W p l e rm_X0_makeHandleAndCross s m args below meth c H locs 0 0 Q (F0 m 105 ls [])) → W p l e rm_X0_makeHandleAndCross s m args below meth c H locs 0 0 Q (F0 m 42 ls []) := by
  intro n
  induction n with
  | zero =>
    intro st x H locs ls hG hl hf
    cases hf
  | succ n ih =>
    intro st x H locs ls hG hl hf kX0
    obtain ⟨r, hr, hh⟩ := of_lpw hf
    refine kb_X0_makeHandleAndCross_42 C hth hG hl hr (fun st2 e1 H locs ls hG hl => ?_) (fun y2 e1 H locs ls hG hl => ?_)
    · rcases hh with ⟨s3, e2, hh⟩ | e2
      · rw [e2] at e1
        cases e1
        exact ih _ _ _ _ _ hG hl hh kX0
      · rw [e2] at e1
        cases e1
    · rcases hh with ⟨s3, e2, hh⟩ | e2
      · rw [e2] at e1
        cases e1
      · rw [e2] at e1
        cases e1
        exact kX0 _ rfl _ _ _ hG hl
set_option maxRecDepth 100000 in
set_option maxHeartbeats 4000000 in
theorem kb_X0_makeHandleAndCross_32 {th : Nat} {st : Int32 × WX} {r : (Int32 × WX) ⊕ ((WX))} {H : Heap} {locs : List Loc} {ls : Array Slot} (C : CX p s m args meth c cX0_makeHandleAndCross 4 RX0 wc_X0_makeHandleAndCross none) (hth : KDx th = (0, 13)) (hG : Gd s G A 153 B (entX G B st.2) X H locs) (hl : lv_has ls 4 [(0, .ref (B + th)), (1, .int st.1)]) (hf : sh_X0_makeHandleAndCross_s32 th st = some r)
    (kL : ∀ st' : Int32 × WX, r = Sum.inl st' → ∀ (H : Heap) (locs : List Loc) (ls : Array Slot), Gd s G A 153 B (entX G B st'.2) X H locs → lv_has ls 4 [(0, .ref (B + th)), (1, .int st'.1)] → W p l e rm_X0_makeHandleAndCross s m args below meth c H locs 0 0 Q (F0 m 32 ls []))
    (kX0 : ∀ y' : WX, r = Sum.inr y' → ∀ (H : Heap) (locs : List Loc) (ls : Array Slot), Gd s G A 153 B (entX G B y') X H locs → lv_has ls 4 [] → W p l e rm_X0_makeHandleAndCross s m args below meth c H locs 0 0 Q (F0 m 150 ls [])) :
    W p l e rm_X0_makeHandleAndCross s m args below meth c H locs 0 0 Q (F0 m 32 ls []) := by
  refine lv_iload_n C.1 C.2.1 dX0_makeHandleAndCross_32 rfl (lv_at hl 1 rfl) ?_
  refine lv_aload_n C.1 C.2.1 dX0_makeHandleAndCross_33 rfl (lv_at hl 0 rfl) ?_
  refine gf_X0_49 C hG hth dX0_makeHandleAndCross_34 ?_
  rcases of_ite hf with ⟨c1, hf⟩ | ⟨c1, hf⟩
  · refine lv_icmp_ge (tgt := 150) C.1 C.2.1 dX0_makeHandleAndCross_37 (by decide) (fun _ => ?_) (fun q => absurd c1 q)
    obtain rfl := Option.some.inj hf
    exact kX0 _ rfl _ _ _ hG (lv_sub hl [] rfl)
  · refine lv_icmp_ge (tgt := 150) C.1 C.2.1 dX0_makeHandleAndCross_37 (by decide) (fun q => absurd q c1) (fun _ => ?_)
    refine lv_iconst (v := nI 0) C.1 C.2.1 dX0_makeHandleAndCross_40 (by decide) ?_
    refine lv_istore_n (lv' := [(2, .int (nI 0)), (0, .ref (B + th)), (1, .int st.1)]) C.1 C.2.1 dX0_makeHandleAndCross_41 rfl hl (by decide) rfl (fun ls hl => ?_)
    obtain ⟨ex2, hex2, hf⟩ := of_bind hf
    refine kl_X0_makeHandleAndCross_42 C hth FU (nI 0, st.2) ex2 _ _ _ hG (lv_sub hl [1, 2, 0] rfl) hex2 (fun y e0 H locs ls hG hl => ?_)
    subst e0
    refine lv_aload_n C.1 C.2.1 dX0_makeHandleAndCross_105 rfl (lv_at hl 0 rfl) ?_
    refine gf_X0_9 C hG hth dX0_makeHandleAndCross_106 ?_
    refine lv_aload_n C.1 C.2.1 dX0_makeHandleAndCross_109 rfl (lv_at hl 0 rfl) ?_
    refine lv_iload_n C.1 C.2.1 dX0_makeHandleAndCross_110 rfl (lv_at hl 1 rfl) ?_
    refine lv_iload_n C.1 C.2.1 dX0_makeHandleAndCross_111 rfl (lv_at hl 1 rfl) ?_
    obtain ⟨v3, hv3, hf⟩ := of_bind hf
    refine r_callV1 C hG hl.1 (c0 := th) (As := [.int st.1, .int st.1]) (kdx_lt hth (by decide)) (entX_O0 hth) rfl (mt_X0_at l hth hv3) (cwV 2 C.2.2.2.2.1 (gd_V tg_2_68 tg_2_70 tgp_1 tg_1_4 tg_2_71) rfl rfl rfl cd_X0_at ⟨Nat.le_of_ble_eq_true rfl, Nat.le_of_ble_eq_true rfl⟩) rfl rfl (Nat.le_of_ble_eq_true rfl) dX0_makeHandleAndCross_112 (fun H locs hG => ?_)
    obtain ⟨v4, hv4, hf⟩ := of_bind hf
    obtain ⟨bv4, ev4⟩ := of_ldS hv4
    refine r_iald C hG (c0 := (th + 1)) (kdx_lt (kx_0_4 hth) (by decide)) (entX_I (kx_0_4 hth)) bv4 dX0_makeHandleAndCross_115 ?_
    refine r_top ev4 ?_
    refine lv_istore_n (lv' := [(2, .int v4), (0, .ref (B + th)), (1, .int st.1)]) C.1 C.2.1 dX0_makeHandleAndCross_116 rfl hl (by decide) rfl (fun ls hl => ?_)
    refine lv_aload_n C.1 C.2.1 dX0_makeHandleAndCross_117 rfl (lv_at hl 1 rfl) ?_
    refine gf_X0_30 C hG hth dX0_makeHandleAndCross_118 ?_
    refine lv_iload_n C.1 C.2.1 dX0_makeHandleAndCross_121 rfl (lv_at hl 0 rfl) ?_
    refine lv_aload_n C.1 C.2.1 dX0_makeHandleAndCross_122 rfl (lv_at hl 1 rfl) ?_
    refine gf_X0_30 C hG hth dX0_makeHandleAndCross_123 ?_
    refine lv_iload_n C.1 C.2.1 dX0_makeHandleAndCross_126 rfl (lv_at hl 0 rfl) ?_
    obtain ⟨v5, hv5, hf⟩ := of_bind hf
    obtain ⟨bv5, ev5⟩ := of_ldS hv5
    refine r_iald C hG (c0 := (th + 7)) (kdx_lt (kx_0_10 hth) (by decide)) (entX_I (kx_0_10 hth)) bv5 dX0_makeHandleAndCross_127 ?_
    refine r_top ev5 ?_
    refine lv_iconst (v := nI 1) C.1 C.2.1 dX0_makeHandleAndCross_128 (by decide) ?_
    refine lv_aload_n C.1 C.2.1 dX0_makeHandleAndCross_129 rfl (lv_at hl 1 rfl) ?_
    refine gf_X0_15 C hG hth dX0_makeHandleAndCross_130 ?_
    refine lv_aload_n C.1 C.2.1 dX0_makeHandleAndCross_133 rfl (lv_at hl 1 rfl) ?_
    refine lv_iload_n C.1 C.2.1 dX0_makeHandleAndCross_134 rfl (lv_at hl 2 rfl) ?_
    refine lv_iload_n C.1 C.2.1 dX0_makeHandleAndCross_135 rfl (lv_at hl 2 rfl) ?_
    obtain ⟨v6, hv6, hf⟩ := of_bind hf
    refine r_callV1 C hG hl.1 (c0 := th) (As := [.int st.1, .int st.1]) (kdx_lt hth (by decide)) (entX_O0 hth) rfl (mt_X0_at l hth hv6) (cwV 2 C.2.2.2.2.1 (gd_V tg_2_68 tg_2_70 tgp_1 tg_1_4 tg_2_71) rfl rfl rfl cd_X0_at ⟨Nat.le_of_ble_eq_true rfl, Nat.le_of_ble_eq_true rfl⟩) rfl rfl (Nat.le_of_ble_eq_true rfl) dX0_makeHandleAndCross_136 (fun H locs hG => ?_)
    obtain ⟨v7, hv7, hf⟩ := of_bind hf
    obtain ⟨bv7, ev7⟩ := of_ldS hv7
    refine r_iald C hG (c0 := (th + 2)) (kdx_lt (kx_0_5 hth) (by decide)) (entX_I (kx_0_5 hth)) bv7 dX0_makeHandleAndCross_139 ?_
    refine r_top ev7 ?_
    obtain ⟨v8, hv8, hf⟩ := of_bind hf
    refine r_callSN1 C hG hl.1 (As := [.int v5, .int (nI 1), .int v7]) (mt_X8_plusTimes l  hv8) (va_cnB 3 C.2.2.2.2.1 (gd_all tg_2_105) rfl rfl rfl (hG.1.2.1 _ nn_51) (C.2.2.2.2.1 _ (List.mem_cons_of_mem _ tg_1_1)) cd_X8_plusTimes.2 ⟨Nat.le_of_ble_eq_true rfl, Nat.le_of_ble_eq_true rfl⟩) (C.2.2.2.2.1 _ (List.mem_cons_of_mem _ tg_2_104)) rfl rfl (Nat.le_of_ble_eq_true rfl) dX0_makeHandleAndCross_140 (fun H locs hG => ?_)
    obtain ⟨w9, hw9, hf⟩ := of_bind hf
    obtain ⟨bw9, ew9⟩ := of_stX hw9
    refine r_iast C hG (c0 := (th + 7)) (kdx_lt (kx_0_10 hth) (by decide)) (entX_I (kx_0_10 hth)) bw9 (E' := (entX G B w9)) (by rw [ew9]; exact upX_I (kx_0_10 hth)) dX0_makeHandleAndCross_143 (fun H locs hG => ?_)
    obtain ⟨v10, ev10, hf⟩ := of_letv hf
    refine lv_iinc (v := v10) (lv' := [(1, .int v10), (2, .int v4), (0, .ref (B + th))]) C.1 C.2.1 dX0_makeHandleAndCross_144 hl (k := 2) rfl (by rw [ev10, show Int32.ofInt (1) = nI 1 from by decide]) (by decide) rfl (fun ls hl => ?_)
    refine lv_goto (tgt := 32) C.1 C.2.1 dX0_makeHandleAndCross_147 (by decide) ?_
    obtain rfl := Option.some.inj hf
    exact kL _ rfl _ _ _ hG (lv_sub hl [2, 0] rfl)
set_option maxRecDepth 100000 in
set_option maxHeartbeats 4000000 in
theorem kl_X0_makeHandleAndCross_32 {th : Nat} (C : CX p s m args meth c cX0_makeHandleAndCross 4 RX0 wc_X0_makeHandleAndCross none) (hth : KDx th = (0, 13)) : ∀ (n : Nat) (st : Int32 × WX) (x : (WX)) (H : Heap) (locs : List Loc) (ls : Array Slot), Gd s G A 153 B (entX G B st.2) X H locs → lv_has ls 4 [(0, .ref (B + th)), (1, .int st.1)] → lpw (sh_X0_makeHandleAndCross_s32 th) n st = some x →
    (∀ y' : WX, x = y' → ∀ (H : Heap) (locs : List Loc) (ls : Array Slot), Gd s G A 153 B (entX G B y') X H locs → lv_has ls 4 [] → W p l e rm_X0_makeHandleAndCross s m args below meth c H locs 0 0 Q (F0 m 150 ls [])) → W p l e rm_X0_makeHandleAndCross s m args below meth c H locs 0 0 Q (F0 m 32 ls []) := by
  intro n
  induction n with
  | zero =>
    intro st x H locs ls hG hl hf
    cases hf
  | succ n ih =>
    intro st x H locs ls hG hl hf kX0
    obtain ⟨r, hr, hh⟩ := of_lpw hf
    refine kb_X0_makeHandleAndCross_32 C hth hG hl hr (fun st2 e1 H locs ls hG hl => ?_) (fun y2 e1 H locs ls hG hl => ?_)
    · rcases hh with ⟨s3, e2, hh⟩ | e2
      · rw [e2] at e1
        cases e1
        exact ih _ _ _ _ _ hG hl hh kX0
      · rw [e2] at e1
        cases e1
    · rcases hh with ⟨s3, e2, hh⟩ | e2
      · rw [e2] at e1
        cases e1
      · rw [e2] at e1
        cases e1
        exact kX0 _ rfl _ _ _ hG hl
set_option maxRecDepth 100000 in
set_option maxHeartbeats 4000000 in
theorem kb_X0_makeHandleAndCross_0 {th : Nat} {w : WX} {out : WX} {H : Heap} {locs : List Loc} {ls : Array Slot} (C : CX p s m args meth c cX0_makeHandleAndCross 4 RX0 wc_X0_makeHandleAndCross none) (hth : KDx th = (0, 13)) (hG : Gd s G A 153 B (entX G B w) X H locs) (hl : lv_has ls 4 [(0, .ref (B + th))]) (hf : sh_X0_makeHandleAndCross th w = some out) :
    W p l e rm_X0_makeHandleAndCross s m args below meth c H locs 0 0 (MQ below (CPost G A 153 B (entX G B out) X none) args s 0 0 A) (F0 m 0 ls []) := by
  refine lv_iconst (v := nI 0) C.1 C.2.1 dX0_makeHandleAndCross_0 (by decide) ?_
  refine lv_istore_n (lv' := [(1, .int (nI 0)), (0, .ref (B + th))]) C.1 C.2.1 dX0_makeHandleAndCross_1 rfl hl (by decide) rfl (fun ls hl => ?_)
  obtain ⟨ex1, hex1, hf⟩ := of_bind hf
  refine kl_X0_makeHandleAndCross_2 C hth FU (nI 0, w) ex1 _ _ _ hG (lv_sub hl [1, 0] rfl) hex1 (fun y e0 H locs ls hG hl => ?_)
  subst e0
  refine lv_iconst (v := nI 0) C.1 C.2.1 dX0_makeHandleAndCross_30 (by decide) ?_
  refine lv_istore_n (lv' := [(1, .int (nI 0)), (0, .ref (B + th))]) C.1 C.2.1 dX0_makeHandleAndCross_31 rfl hl (by decide) rfl (fun ls hl => ?_)
  obtain ⟨ex2, hex2, hf⟩ := of_bind hf
  refine kl_X0_makeHandleAndCross_32 C hth FU (nI 0, ex1) ex2 _ _ _ hG (lv_sub hl [1, 0] rfl) hex2 (fun y e0 H locs ls hG hl => ?_)
  subst e0
  obtain rfl := Option.some.inj hf
  exact r_vret C hG dX0_makeHandleAndCross_150
set_option maxRecDepth 100000 in
set_option maxHeartbeats 4000000 in
theorem mt_X0_makeHandleAndCross (l : Launch) {G : GG} {A : Nat → Prop} {B : Nat} {X : va_W} {th : Nat} {w : WX} {out : WX} (hth : KDx th = (0, 13)) (hf : sh_X0_makeHandleAndCross th w = some out) : MetW l yX0_makeHandleAndCross wc_X0_makeHandleAndCross rm_X0_makeHandleAndCross G A 153 B (entX G B w) X [.ref (B + th)] none (entX G B out) := by
  refine Met.ofW (cc := cX0_makeHandleAndCross) (maxL := 4) (ret := none) (by decide) rfl ?_
  intro p e s m args below meth c s₁ B0 hml hv
  obtain ⟨rfl, hEv, hWd⟩ := hv
  have C : CX p s m _ meth c cX0_makeHandleAndCross 4 RX0 wc_X0_makeHandleAndCross none := ⟨B0.exec, B0.bytes, hml, findClass_of_methodNamed B0.named, atoms_spec (ws := wc_X0_makeHandleAndCross) B0.pre, B0.returns, B0.notSynchronized⟩
  have hl := lv_entry [.ref (B + th)] (n := 4) (Nat.le_of_ble_eq_true rfl)
  rw [lg_entry_eq]
  generalize (lg_sl [.ref (B + th)] ++ List.replicate (4 - (lg_sl [.ref (B + th)]).length) Slot.unset).toArray = ls at hl ⊢
  have hl : lv_has ls 4 [(0, .ref (B + th))] := hl
  exact kb_X0_makeHandleAndCross_0 C hth ⟨hEv, hWd, va_S.rf⟩ hl hf
abbrev wc_X0_formOf : List Cond := Cond.code yX0_formOf cX0_formOf 3 (some .int) :: TG
abbrev rm_X0_formOf : Room := { frames := 3, cells := 0, slots := 0, locals := 122 }
theorem cd_X0_formOf : yX0_formOf.cls = RX0 ∧ yX0_formOf.cls ≠ "java/lang/invoke/MethodHandle" ∧ yX0_formOf.cls ≠ "java/lang/invoke/VarHandle" ∧ (parseMethodDescriptor yX0_formOf.desc).map (fun d => d.parameters.length) = some 2 := by decide +kernel
theorem dX0_formOf_0 : decode cX0_formOf 0 = .ok (.iconst 0, 1) := by decide +kernel
theorem dX0_formOf_1 : decode cX0_formOf 1 = .ok (.aload_n 0, 1) := by decide +kernel
theorem dX0_formOf_2 : decode cX0_formOf 2 = .ok (.getfield 15, 3) := by decide +kernel
theorem dX0_formOf_5 : decode cX0_formOf 5 = .ok (.aload_n 0, 1) := by decide +kernel
theorem dX0_formOf_6 : decode cX0_formOf 6 = .ok (.iload_n 1, 1) := by decide +kernel
theorem dX0_formOf_7 : decode cX0_formOf 7 = .ok (.iload_n 2, 1) := by decide +kernel
theorem dX0_formOf_8 : decode cX0_formOf 8 = .ok (.invokevirtual 56, 3) := by decide +kernel
theorem dX0_formOf_11 : decode cX0_formOf 11 = .ok (.iaload, 1) := by decide +kernel
theorem dX0_formOf_12 : decode cX0_formOf 12 = .ok (.aload_n 0, 1) := by decide +kernel
theorem dX0_formOf_13 : decode cX0_formOf 13 = .ok (.getfield 21, 3) := by decide +kernel
theorem dX0_formOf_16 : decode cX0_formOf 16 = .ok (.aload_n 0, 1) := by decide +kernel
theorem dX0_formOf_17 : decode cX0_formOf 17 = .ok (.getfield 9, 3) := by decide +kernel
theorem dX0_formOf_20 : decode cX0_formOf 20 = .ok (.aload_n 0, 1) := by decide +kernel
theorem dX0_formOf_21 : decode cX0_formOf 21 = .ok (.iload_n 1, 1) := by decide +kernel
theorem dX0_formOf_22 : decode cX0_formOf 22 = .ok (.iload_n 2, 1) := by decide +kernel
theorem dX0_formOf_23 : decode cX0_formOf 23 = .ok (.invokevirtual 56, 3) := by decide +kernel
theorem dX0_formOf_26 : decode cX0_formOf 26 = .ok (.iaload, 1) := by decide +kernel
theorem dX0_formOf_27 : decode cX0_formOf 27 = .ok (.iaload, 1) := by decide +kernel
theorem dX0_formOf_28 : decode cX0_formOf 28 = .ok (.invokestatic 94, 3) := by decide +kernel
theorem dX0_formOf_31 : decode cX0_formOf 31 = .ok (.ireturn, 1) := by decide +kernel
set_option maxRecDepth 100000 in
set_option maxHeartbeats 4000000 in
theorem kb_X0_formOf_0 {th : Nat} {x1 : Int32} {x2 : Int32} {w : WX} {out : Int32} {H : Heap} {locs : List Loc} {ls : Array Slot} (C : CX p s m args meth c cX0_formOf 3 RX0 wc_X0_formOf (some .int)) (hth : KDx th = (0, 13)) (hG : Gd s G A 153 B (entX G B w) X H locs) (hl : lv_has ls 3 [(0, .ref (B + th)), (1, .int x1), (2, .int x2)]) (hf : sh_X0_formOf th x1 x2 w = some out) :
    W p l e rm_X0_formOf s m args below meth c H locs 0 0 (MQ below (CPost G A 153 B (entX G B w) X (some (.int out))) args s 0 0 A) (F0 m 0 ls []) := by
  refine lv_iconst (v := nI 0) C.1 C.2.1 dX0_formOf_0 (by decide) ?_
  refine lv_aload_n C.1 C.2.1 dX0_formOf_1 rfl (lv_at hl 0 rfl) ?_
  refine gf_X0_15 C hG hth dX0_formOf_2 ?_
  refine lv_aload_n C.1 C.2.1 dX0_formOf_5 rfl (lv_at hl 0 rfl) ?_
  refine lv_iload_n C.1 C.2.1 dX0_formOf_6 rfl (lv_at hl 1 rfl) ?_
  refine lv_iload_n C.1 C.2.1 dX0_formOf_7 rfl (lv_at hl 2 rfl) ?_
  obtain ⟨v1, hv1, hf⟩ := of_bind hf
  refine r_callV1 C hG hl.1 (c0 := th) (As := [.int x1, .int x2]) (kdx_lt hth (by decide)) (entX_O0 hth) rfl (mt_X0_at l hth hv1) (cwV 2 C.2.2.2.2.1 (gd_V tg_2_68 tg_2_70 tgp_1 tg_1_4 tg_2_71) rfl rfl rfl cd_X0_at ⟨Nat.le_of_ble_eq_true rfl, Nat.le_of_ble_eq_true rfl⟩) rfl rfl (Nat.le_of_ble_eq_true rfl) dX0_formOf_8 (fun H locs hG => ?_)
  obtain ⟨v2, hv2, hf⟩ := of_bind hf
  obtain ⟨bv2, ev2⟩ := of_ldS hv2
  refine r_iald C hG (c0 := (th + 2)) (kdx_lt (kx_0_5 hth) (by decide)) (entX_I (kx_0_5 hth)) bv2 dX0_formOf_11 ?_
  refine r_top ev2 ?_
  refine lv_aload_n C.1 C.2.1 dX0_formOf_12 rfl (lv_at hl 0 rfl) ?_
  refine gf_X0_21 C hG hth dX0_formOf_13 ?_
  refine lv_aload_n C.1 C.2.1 dX0_formOf_16 rfl (lv_at hl 0 rfl) ?_
  refine gf_X0_9 C hG hth dX0_formOf_17 ?_
  refine lv_aload_n C.1 C.2.1 dX0_formOf_20 rfl (lv_at hl 0 rfl) ?_
  refine lv_iload_n C.1 C.2.1 dX0_formOf_21 rfl (lv_at hl 1 rfl) ?_
  refine lv_iload_n C.1 C.2.1 dX0_formOf_22 rfl (lv_at hl 2 rfl) ?_
  obtain ⟨v3, hv3, hf⟩ := of_bind hf
  refine r_callV1 C hG hl.1 (c0 := th) (As := [.int x1, .int x2]) (kdx_lt hth (by decide)) (entX_O0 hth) rfl (mt_X0_at l hth hv3) (cwV 2 C.2.2.2.2.1 (gd_V tg_2_68 tg_2_70 tgp_1 tg_1_4 tg_2_71) rfl rfl rfl cd_X0_at ⟨Nat.le_of_ble_eq_true rfl, Nat.le_of_ble_eq_true rfl⟩) rfl rfl (Nat.le_of_ble_eq_true rfl) dX0_formOf_23 (fun H locs hG => ?_)
  obtain ⟨v4, hv4, hf⟩ := of_bind hf
  obtain ⟨bv4, ev4⟩ := of_ldS hv4
  refine r_iald C hG (c0 := (th + 1)) (kdx_lt (kx_0_4 hth) (by decide)) (entX_I (kx_0_4 hth)) bv4 dX0_formOf_26 ?_
  refine r_top ev4 ?_
  obtain ⟨v5, hv5, hf⟩ := of_bind hf
  obtain ⟨bv5, ev5⟩ := of_ldS hv5
  refine r_iald C hG (c0 := (th + 4)) (kdx_lt (kx_0_7 hth) (by decide)) (entX_I (kx_0_7 hth)) bv5 dX0_formOf_27 ?_
  refine r_top ev5 ?_
  obtain ⟨v6, hv6, hf⟩ := of_bind hf
  refine r_callSN1 C hG hl.1 (As := [.int (nI 0), .int v2, .int v5]) (mt_X8_plusTimes l  hv6) (va_cnB 3 C.2.2.2.2.1 (gd_all tg_2_105) rfl rfl rfl (hG.1.2.1 _ nn_51) (C.2.2.2.2.1 _ (List.mem_cons_of_mem _ tg_1_1)) cd_X8_plusTimes.2 ⟨Nat.le_of_ble_eq_true rfl, Nat.le_of_ble_eq_true rfl⟩) (C.2.2.2.2.1 _ (List.mem_cons_of_mem _ tg_2_104)) rfl rfl (Nat.le_of_ble_eq_true rfl) dX0_formOf_28 (fun H locs hG => ?_)
  obtain rfl := Option.some.inj hf
  exact r_iret C hG dX0_formOf_31
set_option maxRecDepth 100000 in
set_option maxHeartbeats 4000000 in
theorem mt_X0_formOf (l : Launch) {G : GG} {A : Nat → Prop} {B : Nat} {X : va_W} {th : Nat} {x1 : Int32} {x2 : Int32} {w : WX} {out : Int32} (hth : KDx th = (0, 13)) (hf : sh_X0_formOf th x1 x2 w = some out) : MetW l yX0_formOf wc_X0_formOf rm_X0_formOf G A 153 B (entX G B w) X [.ref (B + th), .int x1, .int x2] (some (.int out)) (entX G B w) := by
  refine Met.ofW (cc := cX0_formOf) (maxL := 3) (ret := (some .int)) (by decide) rfl ?_
  intro p e s m args below meth c s₁ B0 hml hv
  obtain ⟨rfl, hEv, hWd⟩ := hv
  have C : CX p s m _ meth c cX0_formOf 3 RX0 wc_X0_formOf (some .int) := ⟨B0.exec, B0.bytes, hml, findClass_of_methodNamed B0.named, atoms_spec (ws := wc_X0_formOf) B0.pre, B0.returns, B0.notSynchronized⟩
  have hl := lv_entry [.ref (B + th), .int x1, .int x2] (n := 3) (Nat.le_of_ble_eq_true rfl)
  rw [lg_entry_eq]
  generalize (lg_sl [.ref (B + th), .int x1, .int x2] ++ List.replicate (3 - (lg_sl [.ref (B + th), .int x1, .int x2]).length) Slot.unset).toArray = ls at hl ⊢
  have hl : lv_has ls 3 [(0, .ref (B + th)), (1, .int x1), (2, .int x2)] := hl
  exact kb_X0_formOf_0 C hth ⟨hEv, hWd, va_S.rf⟩ hl hf
abbrev wc_X8_inverse : List Cond := Cond.code yX8_inverse cX8_inverse 4 (some .int) :: TG
abbrev rm_X8_inverse : Room := { frames := 3, cells := 0, slots := 0, locals := 122 }
theorem cd_X8_inverse : yX8_inverse.cls = RX8 ∧ yX8_inverse.cls ≠ "java/lang/invoke/MethodHandle" ∧ yX8_inverse.cls ≠ "java/lang/invoke/VarHandle" ∧ (parseMethodDescriptor yX8_inverse.desc).map (fun d => d.parameters.length) = some 1 := by decide +kernel
theorem dX8_inverse_0 : decode cX8_inverse 0 = .ok (.iconst 1, 1) := by decide +kernel
theorem dX8_inverse_1 : decode cX8_inverse 1 = .ok (.istore_n 1, 1) := by decide +kernel
theorem dX8_inverse_2 : decode cX8_inverse 2 = .ok (.iload_n 0, 1) := by decide +kernel
theorem dX8_inverse_3 : decode cX8_inverse 3 = .ok (.istore_n 2, 1) := by decide +kernel
theorem dX8_inverse_4 : decode cX8_inverse 4 = .ok (.sipush 9971, 3) := by decide +kernel
theorem dX8_inverse_7 : decode cX8_inverse 7 = .ok (.istore_n 3, 1) := by decide +kernel
theorem dX8_inverse_8 : decode cX8_inverse 8 = .ok (.iload_n 3, 1) := by decide +kernel
theorem dX8_inverse_9 : decode cX8_inverse 9 = .ok (.ifCond .le 31, 3) := by decide +kernel
theorem dX8_inverse_12 : decode cX8_inverse 12 = .ok (.iload_n 3, 1) := by decide +kernel
theorem dX8_inverse_13 : decode cX8_inverse 13 = .ok (.invokestatic 310, 3) := by decide +kernel
theorem dX8_inverse_16 : decode cX8_inverse 16 = .ok (.ifCond .eq 10, 3) := by decide +kernel
theorem dX8_inverse_19 : decode cX8_inverse 19 = .ok (.iconst 0, 1) := by decide +kernel
theorem dX8_inverse_20 : decode cX8_inverse 20 = .ok (.iload_n 1, 1) := by decide +kernel
theorem dX8_inverse_21 : decode cX8_inverse 21 = .ok (.iload_n 2, 1) := by decide +kernel
theorem dX8_inverse_22 : decode cX8_inverse 22 = .ok (.invokestatic 313, 3) := by decide +kernel
theorem dX8_inverse_25 : decode cX8_inverse 25 = .ok (.istore_n 1, 1) := by decide +kernel
theorem dX8_inverse_26 : decode cX8_inverse 26 = .ok (.iconst 0, 1) := by decide +kernel
theorem dX8_inverse_27 : decode cX8_inverse 27 = .ok (.iload_n 2, 1) := by decide +kernel
theorem dX8_inverse_28 : decode cX8_inverse 28 = .ok (.iload_n 2, 1) := by decide +kernel
theorem dX8_inverse_29 : decode cX8_inverse 29 = .ok (.invokestatic 313, 3) := by decide +kernel
theorem dX8_inverse_32 : decode cX8_inverse 32 = .ok (.istore_n 2, 1) := by decide +kernel
theorem dX8_inverse_33 : decode cX8_inverse 33 = .ok (.iload_n 3, 1) := by decide +kernel
theorem dX8_inverse_34 : decode cX8_inverse 34 = .ok (.iconst 1, 1) := by decide +kernel
theorem dX8_inverse_35 : decode cX8_inverse 35 = .ok (.ishr, 1) := by decide +kernel
theorem dX8_inverse_36 : decode cX8_inverse 36 = .ok (.istore_n 3, 1) := by decide +kernel
theorem dX8_inverse_37 : decode cX8_inverse 37 = .ok (.goto (-29), 3) := by decide +kernel
theorem dX8_inverse_40 : decode cX8_inverse 40 = .ok (.iload_n 1, 1) := by decide +kernel
theorem dX8_inverse_41 : decode cX8_inverse 41 = .ok (.ireturn, 1) := by decide +kernel
set_option maxRecDepth 100000 in
set_option maxHeartbeats 4000000 in
theorem kb_X8_inverse_26 {x1 : Int32} {x2 : Int32} {x3 : Int32} {r : (Int32 × Int32 × Int32) ⊕ ((Int32))} {H : Heap} {locs : List Loc} {ls : Array Slot} (C : CX p s m args meth c cX8_inverse 4 RX8 wc_X8_inverse (some .int))  (hG : Gd s G A N B E X H locs) (hl : lv_has ls 4 [(1, .int x1), (2, .int x2), (3, .int x3)]) (hf : sh_X8_inverse_j26 x1 x2 x3 = some r)
    (kL : ∀ st' : Int32 × Int32 × Int32, r = Sum.inl st' → ∀ (H : Heap) (locs : List Loc) (ls : Array Slot), Gd s G A N B E X H locs → lv_has ls 4 [(1, .int st'.1), (2, .int st'.2.1), (3, .int st'.2.2)] → W p l e rm_X8_inverse s m args below meth c H locs 0 0 Q (F0 m 8 ls []))
    (kX0 : ∀ y' : Int32, r = Sum.inr y' → ∀ (H : Heap) (locs : List Loc) (ls : Array Slot), Gd s G A N B E X H locs → lv_has ls 4 [(1, .int y')] → W p l e rm_X8_inverse s m args below meth c H locs 0 0 Q (F0 m 40 ls [])) :
    W p l e rm_X8_inverse s m args below meth c H locs 0 0 Q (F0 m 26 ls []) := by
  refine lv_iconst (v := nI 0) C.1 C.2.1 dX8_inverse_26 (by decide) ?_
  refine lv_iload_n C.1 C.2.1 dX8_inverse_27 rfl (lv_at hl 1 rfl) ?_
  refine lv_iload_n C.1 C.2.1 dX8_inverse_28 rfl (lv_at hl 1 rfl) ?_
  obtain ⟨v1, hv1, hf⟩ := of_bind hf
  refine r_callS1 C hG hl.1 (As := [.int (nI 0), .int x2, .int x2]) (mt_X8_plusTimes l  hv1) (va_cwS 3 C.2.2.2.2.1 (gd_S tg_2_110 tg_2_104 tg_1_1 tg_2_105) rfl rfl rfl cd_X8_plusTimes.2 ⟨Nat.le_of_ble_eq_true rfl, Nat.le_of_ble_eq_true rfl⟩) rfl rfl (Nat.le_of_ble_eq_true rfl) dX8_inverse_29 (fun H locs hG => ?_)
  refine lv_istore_n (lv' := [(2, .int v1), (1, .int x1), (3, .int x3)]) C.1 C.2.1 dX8_inverse_32 rfl hl (by decide) rfl (fun ls hl => ?_)
  refine lv_iload_n C.1 C.2.1 dX8_inverse_33 rfl (lv_at hl 2 rfl) ?_
  refine lv_iconst (v := nI 1) C.1 C.2.1 dX8_inverse_34 (by decide) ?_
  refine lv_ishr C.1 C.2.1 dX8_inverse_35 ?_
  obtain ⟨v2, ev2, hf⟩ := of_letv hf
  refine r_top ev2 ?_
  refine lv_istore_n (lv' := [(3, .int v2), (2, .int v1), (1, .int x1)]) C.1 C.2.1 dX8_inverse_36 rfl hl (by decide) rfl (fun ls hl => ?_)
  refine lv_goto (tgt := 8) C.1 C.2.1 dX8_inverse_37 (by decide) ?_
  obtain rfl := Option.some.inj hf
  exact kL _ rfl _ _ _ hG (lv_sub hl [2, 1, 0] rfl)
set_option maxRecDepth 100000 in
set_option maxHeartbeats 4000000 in
theorem kb_X8_inverse_8  {st : Int32 × Int32 × Int32} {r : (Int32 × Int32 × Int32) ⊕ ((Int32))} {H : Heap} {locs : List Loc} {ls : Array Slot} (C : CX p s m args meth c cX8_inverse 4 RX8 wc_X8_inverse (some .int))  (hG : Gd s G A N B E X H locs) (hl : lv_has ls 4 [(1, .int st.1), (2, .int st.2.1), (3, .int st.2.2)]) (hf : sh_X8_inverse_s8  st = some r)
    (kL : ∀ st' : Int32 × Int32 × Int32, r = Sum.inl st' → ∀ (H : Heap) (locs : List Loc) (ls : Array Slot), Gd s G A N B E X H locs → lv_has ls 4 [(1, .int st'.1), (2, .int st'.2.1), (3, .int st'.2.2)] → W p l e rm_X8_inverse s m args below meth c H locs 0 0 Q (F0 m 8 ls []))
    (kX0 : ∀ y' : Int32, r = Sum.inr y' → ∀ (H : Heap) (locs : List Loc) (ls : Array Slot), Gd s G A N B E X H locs → lv_has ls 4 [(1, .int y')] → W p l e rm_X8_inverse s m args below meth c H locs 0 0 Q (F0 m 40 ls [])) :
    W p l e rm_X8_inverse s m args below meth c H locs 0 0 Q (F0 m 8 ls []) := by
  refine lv_iload_n C.1 C.2.1 dX8_inverse_8 rfl (lv_at hl 2 rfl) ?_
  rcases of_ite hf with ⟨c1, hf⟩ | ⟨c1, hf⟩
  · refine lv_if_le (tgt := 40) C.1 C.2.1 dX8_inverse_9 (by decide) (fun _ => ?_) (fun q => absurd c1 q)
    obtain rfl := Option.some.inj hf
    exact kX0 _ rfl _ _ _ hG (lv_sub hl [0] rfl)
  · refine lv_if_le (tgt := 40) C.1 C.2.1 dX8_inverse_9 (by decide) (fun q => absurd q c1) (fun _ => ?_)
    refine lv_iload_n C.1 C.2.1 dX8_inverse_12 rfl (lv_at hl 2 rfl) ?_
    obtain ⟨v2, hv2, hf⟩ := of_bind hf
    refine r_callS1 C hG hl.1 (As := [.int st.2.2]) (mt_X8_isOdd l  hv2) (va_cwS 1 C.2.2.2.2.1 (gd_S tg_2_109 tg_2_90 tg_1_1 tg_2_91) rfl rfl rfl cd_X8_isOdd.2 ⟨Nat.le_of_ble_eq_true rfl, Nat.le_of_ble_eq_true rfl⟩) rfl rfl (Nat.le_of_ble_eq_true rfl) dX8_inverse_13 (fun H locs hG => ?_)
    rcases of_ite hf with ⟨c3, hf⟩ | ⟨c3, hf⟩
    · refine lv_if_eq (tgt := 26) C.1 C.2.1 dX8_inverse_16 (by decide) (fun _ => ?_) (fun q => absurd c3 q)
      exact kb_X8_inverse_26 C  hG hl hf kL kX0
    · refine lv_if_eq (tgt := 26) C.1 C.2.1 dX8_inverse_16 (by decide) (fun q => absurd q c3) (fun _ => ?_)
      refine lv_iconst (v := nI 0) C.1 C.2.1 dX8_inverse_19 (by decide) ?_
      refine lv_iload_n C.1 C.2.1 dX8_inverse_20 rfl (lv_at hl 0 rfl) ?_
      refine lv_iload_n C.1 C.2.1 dX8_inverse_21 rfl (lv_at hl 1 rfl) ?_
      obtain ⟨v4, hv4, hf⟩ := of_bind hf
      refine r_callS1 C hG hl.1 (As := [.int (nI 0), .int st.1, .int st.2.1]) (mt_X8_plusTimes l  hv4) (va_cwS 3 C.2.2.2.2.1 (gd_S tg_2_110 tg_2_104 tg_1_1 tg_2_105) rfl rfl rfl cd_X8_plusTimes.2 ⟨Nat.le_of_ble_eq_true rfl, Nat.le_of_ble_eq_true rfl⟩) rfl rfl (Nat.le_of_ble_eq_true rfl) dX8_inverse_22 (fun H locs hG => ?_)
      refine lv_istore_n (lv' := [(1, .int v4), (2, .int st.2.1), (3, .int st.2.2)]) C.1 C.2.1 dX8_inverse_25 rfl hl (by decide) rfl (fun ls hl => ?_)
      exact kb_X8_inverse_26 C  hG hl hf kL kX0
set_option maxRecDepth 100000 in
set_option maxHeartbeats 4000000 in
theorem kl_X8_inverse_8  (C : CX p s m args meth c cX8_inverse 4 RX8 wc_X8_inverse (some .int))  : ∀ (n : Nat) (st : Int32 × Int32 × Int32) (x : (Int32)) (H : Heap) (locs : List Loc) (ls : Array Slot), Gd s G A N B E X H locs → lv_has ls 4 [(1, .int st.1), (2, .int st.2.1), (3, .int st.2.2)] → lpw (sh_X8_inverse_s8 ) n st = some x →
    (∀ y' : Int32, x = y' → ∀ (H : Heap) (locs : List Loc) (ls : Array Slot), Gd s G A N B E X H locs → lv_has ls 4 [(1, .int y')] → W p l e rm_X8_inverse s m args below meth c H locs 0 0 Q (F0 m 40 ls [])) → W p l e rm_X8_inverse s m args below meth c H locs 0 0 Q (F0 m 8 ls []) := by
  intro n
  induction n with
  | zero =>
    intro st x H locs ls hG hl hf
    cases hf
  | succ n ih =>
    intro st x H locs ls hG hl hf kX0
    obtain ⟨r, hr, hh⟩ := of_lpw hf
    refine kb_X8_inverse_8 C  hG hl hr (fun st2 e1 H locs ls hG hl => ?_) (fun y2 e1 H locs ls hG hl => ?_)
    · rcases hh with ⟨s3, e2, hh⟩ | e2
      · rw [e2] at e1
        cases e1
        exact ih _ _ _ _ _ hG hl hh kX0
      · rw [e2] at e1
        cases e1
    · rcases hh with ⟨s3, e2, hh⟩ | e2
      · rw [e2] at e1
        cases e1
      · rw [e2] at e1
        cases e1
        exact kX0 _ rfl _ _ _ hG hl
set_option maxRecDepth 100000 in
set_option maxHeartbeats 4000000 in
theorem kb_X8_inverse_0 {x0 : Int32} {out : Int32} {H : Heap} {locs : List Loc} {ls : Array Slot} (C : CX p s m args meth c cX8_inverse 4 RX8 wc_X8_inverse (some .int))  (hG : Gd s G A N B E X H locs) (hl : lv_has ls 4 [(0, .int x0)]) (hf : sh_X8_inverse x0 = some out) :
    W p l e rm_X8_inverse s m args below meth c H locs 0 0 (MQ below (CPost G A N B E X (some (.int out))) args s 0 0 A) (F0 m 0 ls []) := by
  refine lv_iconst (v := nI 1) C.1 C.2.1 dX8_inverse_0 (by decide) ?_
  refine lv_istore_n (lv' := [(1, .int (nI 1)), (0, .int x0)]) C.1 C.2.1 dX8_inverse_1 rfl hl (by decide) rfl (fun ls hl => ?_)
  refine lv_iload_n C.1 C.2.1 dX8_inverse_2 rfl (lv_at hl 1 rfl) ?_
  refine lv_istore_n (lv' := [(2, .int x0), (1, .int (nI 1)), (0, .int x0)]) C.1 C.2.1 dX8_inverse_3 rfl hl (by decide) rfl (fun ls hl => ?_)
  refine lv_sipush (v := nI 9971) C.1 C.2.1 dX8_inverse_4 (by decide) ?_
  refine lv_istore_n (lv' := [(3, .int (nI 9971)), (2, .int x0), (1, .int (nI 1)), (0, .int x0)]) C.1 C.2.1 dX8_inverse_7 rfl hl (by decide) rfl (fun ls hl => ?_)
  obtain ⟨ex1, hex1, hf⟩ := of_bind hf
  refine kl_X8_inverse_8 C  FU (nI 1, x0, nI 9971) ex1 _ _ _ hG (lv_sub hl [2, 1, 0] rfl) hex1 (fun y e0 H locs ls hG hl => ?_)
  subst e0
  refine lv_iload_n C.1 C.2.1 dX8_inverse_40 rfl (lv_at hl 0 rfl) ?_
  obtain rfl := Option.some.inj hf
  exact r_iret C hG dX8_inverse_41
set_option maxRecDepth 100000 in
set_option maxHeartbeats 4000000 in
theorem mt_X8_inverse (l : Launch) {G : GG} {A : Nat → Prop} {N B : Nat} {E : Nat → va_E} {X : va_W} {x0 : Int32} {out : Int32}  (hf : sh_X8_inverse x0 = some out) : MetW l yX8_inverse wc_X8_inverse rm_X8_inverse G A N B E X [.int x0] (some (.int out)) E := by
  refine Met.ofW (cc := cX8_inverse) (maxL := 4) (ret := (some .int)) (by decide) rfl ?_
  intro p e s m args below meth c s₁ B0 hml hv
  obtain ⟨rfl, hEv, hWd⟩ := hv
  have C : CX p s m _ meth c cX8_inverse 4 RX8 wc_X8_inverse (some .int) := ⟨B0.exec, B0.bytes, hml, findClass_of_methodNamed B0.named, atoms_spec (ws := wc_X8_inverse) B0.pre, B0.returns, B0.notSynchronized⟩
  have hl := lv_entry [.int x0] (n := 4) (Nat.le_of_ble_eq_true rfl)
  rw [lg_entry_eq]
  generalize (lg_sl [.int x0] ++ List.replicate (4 - (lg_sl [.int x0]).length) Slot.unset).toArray = ls at hl ⊢
  have hl : lv_has ls 4 [(0, .int x0)] := hl
  exact kb_X8_inverse_0 C  ⟨hEv, hWd, va_S.rf⟩ hl hf
abbrev wc_X0_makeTurned : List Cond := Cond.code yX0_makeTurned cX0_makeTurned 4 none :: TG
abbrev rm_X0_makeTurned : Room := { frames := 4, cells := 0, slots := 0, locals := 145 }
theorem cd_X0_makeTurned : yX0_makeTurned.cls = RX0 ∧ yX0_makeTurned.cls ≠ "java/lang/invoke/MethodHandle" ∧ yX0_makeTurned.cls ≠ "java/lang/invoke/VarHandle" ∧ (parseMethodDescriptor yX0_makeTurned.desc).map (fun d => d.parameters.length) = some 0 := by decide +kernel
theorem dX0_makeTurned_0 : decode cX0_makeTurned 0 = .ok (.iconst 0, 1) := by decide +kernel
theorem dX0_makeTurned_1 : decode cX0_makeTurned 1 = .ok (.istore_n 1, 1) := by decide +kernel
theorem dX0_makeTurned_2 : decode cX0_makeTurned 2 = .ok (.iload_n 1, 1) := by decide +kernel
theorem dX0_makeTurned_3 : decode cX0_makeTurned 3 = .ok (.aload_n 0, 1) := by decide +kernel
theorem dX0_makeTurned_4 : decode cX0_makeTurned 4 = .ok (.getfield 49, 3) := by decide +kernel
theorem dX0_makeTurned_7 : decode cX0_makeTurned 7 = .ok (.if_icmp .ge 55, 3) := by decide +kernel
theorem dX0_makeTurned_10 : decode cX0_makeTurned 10 = .ok (.iconst 0, 1) := by decide +kernel
theorem dX0_makeTurned_11 : decode cX0_makeTurned 11 = .ok (.istore_n 2, 1) := by decide +kernel
theorem dX0_makeTurned_12 : decode cX0_makeTurned 12 = .ok (.iload_n 2, 1) := by decide +kernel
theorem dX0_makeTurned_13 : decode cX0_makeTurned 13 = .ok (.aload_n 0, 1) := by decide +kernel
theorem dX0_makeTurned_14 : decode cX0_makeTurned 14 = .ok (.getfield 49, 3) := by decide +kernel
theorem dX0_makeTurned_17 : decode cX0_makeTurned 17 = .ok (.if_icmp .ge 39, 3) := by decide +kernel
theorem dX0_makeTurned_20 : decode cX0_makeTurned 20 = .ok (.aload_n 0, 1) := by decide +kernel
theorem dX0_makeTurned_21 : decode cX0_makeTurned 21 = .ok (.iload_n 2, 1) := by decide +kernel
theorem dX0_makeTurned_22 : decode cX0_makeTurned 22 = .ok (.iload_n 1, 1) := by decide +kernel
theorem dX0_makeTurned_23 : decode cX0_makeTurned 23 = .ok (.invokevirtual 88, 3) := by decide +kernel
theorem dX0_makeTurned_26 : decode cX0_makeTurned 26 = .ok (.istore_n 3, 1) := by decide +kernel
theorem dX0_makeTurned_27 : decode cX0_makeTurned 27 = .ok (.aload_n 0, 1) := by decide +kernel
theorem dX0_makeTurned_28 : decode cX0_makeTurned 28 = .ok (.getfield 18, 3) := by decide +kernel
theorem dX0_makeTurned_31 : decode cX0_makeTurned 31 = .ok (.aload_n 0, 1) := by decide +kernel
theorem dX0_makeTurned_32 : decode cX0_makeTurned 32 = .ok (.iload_n 1, 1) := by decide +kernel
theorem dX0_makeTurned_33 : decode cX0_makeTurned 33 = .ok (.iload_n 2, 1) := by decide +kernel
theorem dX0_makeTurned_34 : decode cX0_makeTurned 34 = .ok (.invokevirtual 56, 3) := by decide +kernel
theorem dX0_makeTurned_37 : decode cX0_makeTurned 37 = .ok (.iload_n 3, 1) := by decide +kernel
theorem dX0_makeTurned_38 : decode cX0_makeTurned 38 = .ok (.ifCond .ne 7, 3) := by decide +kernel
theorem dX0_makeTurned_41 : decode cX0_makeTurned 41 = .ok (.iconst 0, 1) := by decide +kernel
theorem dX0_makeTurned_42 : decode cX0_makeTurned 42 = .ok (.goto 7, 3) := by decide +kernel
theorem dX0_makeTurned_45 : decode cX0_makeTurned 45 = .ok (.iload_n 3, 1) := by decide +kernel
theorem dX0_makeTurned_46 : decode cX0_makeTurned 46 = .ok (.invokestatic 91, 3) := by decide +kernel
theorem dX0_makeTurned_49 : decode cX0_makeTurned 49 = .ok (.iastore, 1) := by decide +kernel
theorem dX0_makeTurned_50 : decode cX0_makeTurned 50 = .ok (.iinc 2 1, 3) := by decide +kernel
theorem dX0_makeTurned_53 : decode cX0_makeTurned 53 = .ok (.goto (-41), 3) := by decide +kernel
theorem dX0_makeTurned_56 : decode cX0_makeTurned 56 = .ok (.iinc 1 1, 3) := by decide +kernel
theorem dX0_makeTurned_59 : decode cX0_makeTurned 59 = .ok (.goto (-57), 3) := by decide +kernel
theorem dX0_makeTurned_62 : decode cX0_makeTurned 62 = .ok (.return_, 1) := by decide +kernel
set_option maxRecDepth 100000 in
set_option maxHeartbeats 4000000 in
theorem kb_X0_makeTurned_49 {th : Nat} {x1 : Int32} {x2 : Int32} {s0 : Nat} {s1 : Int32} {s2 : Int32} {w : WX} {r : (Int32 × WX) ⊕ ((WX))} {H : Heap} {locs : List Loc} {ls : Array Slot} (C : CX p s m args meth c cX0_makeTurned 4 RX0 wc_X0_makeTurned none) (hth : KDx th = (0, 13)) (hs0 : KDx s0 = (10, 36)) (hG : Gd s G A 153 B (entX G B w) X H locs) (hl : lv_has ls 4 [(0, .ref (B + th)), (1, .int x1), (2, .int x2)]) (hf : sh_X0_makeTurned_j49 th x1 x2 s0 s1 s2 w = some r)
    (kL : ∀ st' : Int32 × WX, r = Sum.inl st' → ∀ (H : Heap) (locs : List Loc) (ls : Array Slot), Gd s G A 153 B (entX G B st'.2) X H locs → lv_has ls 4 [(0, .ref (B + th)), (1, .int x1), (2, .int st'.1)] → W p l e rm_X0_makeTurned s m args below meth c H locs 0 0 Q (F0 m 12 ls []))
    (kX0 : ∀ y' : WX, r = Sum.inr y' → ∀ (H : Heap) (locs : List Loc) (ls : Array Slot), Gd s G A 153 B (entX G B y') X H locs → lv_has ls 4 [(0, .ref (B + th)), (1, .int x1)] → W p l e rm_X0_makeTurned s m args below meth c H locs 0 0 Q (F0 m 56 ls [])) :
    W p l e rm_X0_makeTurned s m args below meth c H locs 0 0 Q (F0 m 49 ls [.int s2, .int s1, .ref (B + s0)]) := by
  obtain ⟨w1, hw1, hf⟩ := of_bind hf
  obtain ⟨bw1, ew1⟩ := of_stX hw1
  refine r_iast C hG (c0 := s0) (kdx_lt hs0 (by decide)) (entX_I hs0) bw1 (E' := (entX G B w1)) (by rw [ew1]; exact upX_I hs0) dX0_makeTurned_49 (fun H locs hG => ?_)
  obtain ⟨v2, ev2, hf⟩ := of_letv hf
  refine lv_iinc (v := v2) (lv' := [(2, .int v2), (0, .ref (B + th)), (1, .int x1)]) C.1 C.2.1 dX0_makeTurned_50 hl (k := 2) rfl (by rw [ev2, show Int32.ofInt (1) = nI 1 from by decide]) (by decide) rfl (fun ls hl => ?_)
  refine lv_goto (tgt := 12) C.1 C.2.1 dX0_makeTurned_53 (by decide) ?_
  obtain rfl := Option.some.inj hf
  exact kL _ rfl _ _ _ hG (lv_sub hl [1, 2, 0] rfl)
set_option maxRecDepth 100000 in
set_option maxHeartbeats 4000000 in
theorem kb_X0_makeTurned_12 {th : Nat} {x1 : Int32} {st : Int32 × WX} {r : (Int32 × WX) ⊕ ((WX))} {H : Heap} {locs : List Loc} {ls : Array Slot} (C : CX p s m args meth c cX0_makeTurned 4 RX0 wc_X0_makeTurned none) (hth : KDx th = (0, 13)) (hG : Gd s G A 153 B (entX G B st.2) X H locs) (hl : lv_has ls 4 [(0, .ref (B + th)), (1, .int x1), (2, .int st.1)]) (hf : sh_X0_makeTurned_s12 th x1 st = some r)
    (kL : ∀ st' : Int32 × WX, r = Sum.inl st' → ∀ (H : Heap) (locs : List Loc) (ls : Array Slot), Gd s G A 153 B (entX G B st'.2) X H locs → lv_has ls 4 [(0, .ref (B + th)), (1, .int x1), (2, .int st'.1)] → W p l e rm_X0_makeTurned s m args below meth c H locs 0 0 Q (F0 m 12 ls []))
    (kX0 : ∀ y' : WX, r = Sum.inr y' → ∀ (H : Heap) (locs : List Loc) (ls : Array Slot), Gd s G A 153 B (entX G B y') X H locs → lv_has ls 4 [(0, .ref (B + th)), (1, .int x1)] → W p l e rm_X0_makeTurned s m args below meth c H locs 0 0 Q (F0 m 56 ls [])) :
    W p l e rm_X0_makeTurned s m args below meth c H locs 0 0 Q (F0 m 12 ls []) := by
  refine lv_iload_n C.1 C.2.1 dX0_makeTurned_12 rfl (lv_at hl 2 rfl) ?_
  refine lv_aload_n C.1 C.2.1 dX0_makeTurned_13 rfl (lv_at hl 0 rfl) ?_
  refine gf_X0_49 C hG hth dX0_makeTurned_14 ?_
  rcases of_ite hf with ⟨c1, hf⟩ | ⟨c1, hf⟩
  · refine lv_icmp_ge (tgt := 56) C.1 C.2.1 dX0_makeTurned_17 (by decide) (fun _ => ?_) (fun q => absurd c1 q)
    obtain rfl := Option.some.inj hf
    exact kX0 _ rfl _ _ _ hG (lv_sub hl [0, 1] rfl)
  · refine lv_icmp_ge (tgt := 56) C.1 C.2.1 dX0_makeTurned_17 (by decide) (fun q => absurd q c1) (fun _ => ?_)
    refine lv_aload_n C.1 C.2.1 dX0_makeTurned_20 rfl (lv_at hl 0 rfl) ?_
    refine lv_iload_n C.1 C.2.1 dX0_makeTurned_21 rfl (lv_at hl 2 rfl) ?_
    refine lv_iload_n C.1 C.2.1 dX0_makeTurned_22 rfl (lv_at hl 1 rfl) ?_
    obtain ⟨v2, hv2, hf⟩ := of_bind hf
    refine r_callV1 C hG hl.1 (c0 := th) (As := [.int st.1, .int x1]) (kdx_lt hth (by decide)) (entX_O0 hth) rfl (mt_X0_formOf l hth hv2) (cwV 2 C.2.2.2.2.1 (gd_V tg_2_99 tg_2_100 tg_2_101 tg_1_4 tg_2_102) rfl rfl rfl cd_X0_formOf ⟨Nat.le_of_ble_eq_true rfl, Nat.le_of_ble_eq_true rfl⟩) rfl rfl (Nat.le_of_ble_eq_true rfl) dX0_makeTurned_23 (fun H locs hG => ?_)
    refine lv_istore_n (lv' := [(3, .int v2), (0, .ref (B + th)), (1, .int x1), (2, .int st.1)]) C.1 C.2.1 dX0_makeTurned_26 rfl hl (by decide) rfl (fun ls hl => ?_)
    refine lv_aload_n C.1 C.2.1 dX0_makeTurned_27 rfl (lv_at hl 1 rfl) ?_
    refine gf_X0_18 C hG hth dX0_makeTurned_28 ?_
    refine lv_aload_n C.1 C.2.1 dX0_makeTurned_31 rfl (lv_at hl 1 rfl) ?_
    refine lv_iload_n C.1 C.2.1 dX0_makeTurned_32 rfl (lv_at hl 2 rfl) ?_
    refine lv_iload_n C.1 C.2.1 dX0_makeTurned_33 rfl (lv_at hl 3 rfl) ?_
    obtain ⟨v3, hv3, hf⟩ := of_bind hf
    refine r_callV1 C hG hl.1 (c0 := th) (As := [.int x1, .int st.1]) (kdx_lt hth (by decide)) (entX_O0 hth) rfl (mt_X0_at l hth hv3) (cwV 2 C.2.2.2.2.1 (gd_V tg_2_68 tg_2_70 tgp_1 tg_1_4 tg_2_71) rfl rfl rfl cd_X0_at ⟨Nat.le_of_ble_eq_true rfl, Nat.le_of_ble_eq_true rfl⟩) rfl rfl (Nat.le_of_ble_eq_true rfl) dX0_makeTurned_34 (fun H locs hG => ?_)
    refine lv_iload_n C.1 C.2.1 dX0_makeTurned_37 rfl (lv_at hl 0 rfl) ?_
    rcases of_ite hf with ⟨c4, hf⟩ | ⟨c4, hf⟩
    · refine lv_if_ne (tgt := 45) C.1 C.2.1 dX0_makeTurned_38 (by decide) (fun q => absurd c4 q) (fun _ => ?_)
      refine lv_iconst (v := nI 0) C.1 C.2.1 dX0_makeTurned_41 (by decide) ?_
      refine lv_goto (tgt := 49) C.1 C.2.1 dX0_makeTurned_42 (by decide) ?_
      exact kb_X0_makeTurned_49 C hth (kx_0_6 hth) hG (lv_sub hl [1, 2, 3] rfl) hf kL kX0
    · refine lv_if_ne (tgt := 45) C.1 C.2.1 dX0_makeTurned_38 (by decide) (fun _ => ?_) (fun q => absurd q c4)
      refine lv_iload_n C.1 C.2.1 dX0_makeTurned_45 rfl (lv_at hl 0 rfl) ?_
      obtain ⟨v5, hv5, hf⟩ := of_bind hf
      refine r_callSN1 C hG hl.1 (As := [.int v2]) (mt_X8_inverse l  hv5) (va_cnB 1 C.2.2.2.2.1 (gd_all tg_2_108) rfl rfl rfl (hG.1.2.1 _ nn_52) (C.2.2.2.2.1 _ (List.mem_cons_of_mem _ tg_1_1)) cd_X8_inverse.2 ⟨Nat.le_of_ble_eq_true rfl, Nat.le_of_ble_eq_true rfl⟩) (C.2.2.2.2.1 _ (List.mem_cons_of_mem _ tg_2_107)) rfl rfl (Nat.le_of_ble_eq_true rfl) dX0_makeTurned_46 (fun H locs hG => ?_)
      exact kb_X0_makeTurned_49 C hth (kx_0_6 hth) hG (lv_sub hl [1, 2, 3] rfl) hf kL kX0
set_option maxRecDepth 100000 in
set_option maxHeartbeats 4000000 in
theorem kl_X0_makeTurned_12 {th : Nat} {x1 : Int32} (C : CX p s m args meth c cX0_makeTurned 4 RX0 wc_X0_makeTurned none) (hth : KDx th = (0, 13)) : ∀ (n : Nat) (st : Int32 × WX) (x : (WX)) (H : Heap) (locs : List Loc) (ls : Array Slot), Gd s G A 153 B (entX G B st.2) X H locs → lv_has ls 4 [(0, .ref (B + th)), (1, .int x1), (2, .int st.1)] → lpw (sh_X0_makeTurned_s12 th x1) n st = some x →
    (∀ y' : WX, x = y' → ∀ (H : Heap) (locs : List Loc) (ls : Array Slot), Gd s G A 153 B (entX G B y') X H locs → lv_has ls 4 [(0, .ref (B + th)), (1, .int x1)] → W p l e rm_X0_makeTurned s m args below meth c H locs 0 0 Q (F0 m 56 ls [])) → W p l e rm_X0_makeTurned s m args below meth c H locs 0 0 Q (F0 m 12 ls []) := by
  intro n
  induction n with
  | zero =>
    intro st x H locs ls hG hl hf
    cases hf
  | succ n ih =>
    intro st x H locs ls hG hl hf kX0
    obtain ⟨r, hr, hh⟩ := of_lpw hf
    refine kb_X0_makeTurned_12 C hth hG hl hr (fun st2 e1 H locs ls hG hl => ?_) (fun y2 e1 H locs ls hG hl => ?_)
    · rcases hh with ⟨s3, e2, hh⟩ | e2
      · rw [e2] at e1
        cases e1
        exact ih _ _ _ _ _ hG hl hh kX0
      · rw [e2] at e1
        cases e1
    · rcases hh with ⟨s3, e2, hh⟩ | e2
      · rw [e2] at e1
        cases e1
      · rw [e2] at e1
        cases e1
        exact kX0 _ rfl _ _ _ hG hl
set_option maxRecDepth 100000 in
set_option maxHeartbeats 4000000 in
theorem kb_X0_makeTurned_2 {th : Nat} {st : Int32 × WX} {r : (Int32 × WX) ⊕ ((WX))} {H : Heap} {locs : List Loc} {ls : Array Slot} (C : CX p s m args meth c cX0_makeTurned 4 RX0 wc_X0_makeTurned none) (hth : KDx th = (0, 13)) (hG : Gd s G A 153 B (entX G B st.2) X H locs) (hl : lv_has ls 4 [(0, .ref (B + th)), (1, .int st.1)]) (hf : sh_X0_makeTurned_s2 th st = some r)
    (kL : ∀ st' : Int32 × WX, r = Sum.inl st' → ∀ (H : Heap) (locs : List Loc) (ls : Array Slot), Gd s G A 153 B (entX G B st'.2) X H locs → lv_has ls 4 [(0, .ref (B + th)), (1, .int st'.1)] → W p l e rm_X0_makeTurned s m args below meth c H locs 0 0 Q (F0 m 2 ls []))
    (kX0 : ∀ y' : WX, r = Sum.inr y' → ∀ (H : Heap) (locs : List Loc) (ls : Array Slot), Gd s G A 153 B (entX G B y') X H locs → lv_has ls 4 [] → W p l e rm_X0_makeTurned s m args below meth c H locs 0 0 Q (F0 m 62 ls [])) :
    W p l e rm_X0_makeTurned s m args below meth c H locs 0 0 Q (F0 m 2 ls []) := by
  refine lv_iload_n C.1 C.2.1 dX0_makeTurned_2 rfl (lv_at hl 1 rfl) ?_
  refine lv_aload_n C.1 C.2.1 dX0_makeTurned_3 rfl (lv_at hl 0 rfl) ?_
  refine gf_X0_49 C hG hth dX0_makeTurned_4 ?_
  rcases of_ite hf with ⟨c1, hf⟩ | ⟨c1, hf⟩
  · refine lv_icmp_ge (tgt := 62) C.1 C.2.1 dX0_makeTurned_7 (by decide) (fun _ => ?_) (fun q => absurd c1 q)
    obtain rfl := Option.some.inj hf
    exact kX0 _ rfl _ _ _ hG (lv_sub hl [] rfl)
  · refine lv_icmp_ge (tgt := 62) C.1 C.2.1 dX0_makeTurned_7 (by decide) (fun q => absurd q c1) (fun _ => ?_)
    refine lv_iconst (v := nI 0) C.1 C.2.1 dX0_makeTurned_10 (by decide) ?_
    refine lv_istore_n (lv' := [(2, .int (nI 0)), (0, .ref (B + th)), (1, .int st.1)]) C.1 C.2.1 dX0_makeTurned_11 rfl hl (by decide) rfl (fun ls hl => ?_)
    obtain ⟨ex2, hex2, hf⟩ := of_bind hf
    refine kl_X0_makeTurned_12 C hth FU (nI 0, st.2) ex2 _ _ _ hG (lv_sub hl [1, 2, 0] rfl) hex2 (fun y e0 H locs ls hG hl => ?_)
    subst e0
    obtain ⟨v3, ev3, hf⟩ := of_letv hf
    refine lv_iinc (v := v3) (lv' := [(1, .int v3), (0, .ref (B + th))]) C.1 C.2.1 dX0_makeTurned_56 hl (k := 1) rfl (by rw [ev3, show Int32.ofInt (1) = nI 1 from by decide]) (by decide) rfl (fun ls hl => ?_)
    refine lv_goto (tgt := 2) C.1 C.2.1 dX0_makeTurned_59 (by decide) ?_
    obtain rfl := Option.some.inj hf
    exact kL _ rfl _ _ _ hG (lv_sub hl [1, 0] rfl)
set_option maxRecDepth 100000 in
set_option maxHeartbeats 4000000 in
theorem kl_X0_makeTurned_2 {th : Nat} (C : CX p s m args meth c cX0_makeTurned 4 RX0 wc_X0_makeTurned none) (hth : KDx th = (0, 13)) : ∀ (n : Nat) (st : Int32 × WX) (x : (WX)) (H : Heap) (locs : List Loc) (ls : Array Slot), Gd s G A 153 B (entX G B st.2) X H locs → lv_has ls 4 [(0, .ref (B + th)), (1, .int st.1)] → lpw (sh_X0_makeTurned_s2 th) n st = some x →
    (∀ y' : WX, x = y' → ∀ (H : Heap) (locs : List Loc) (ls : Array Slot), Gd s G A 153 B (entX G B y') X H locs → lv_has ls 4 [] → W p l e rm_X0_makeTurned s m args below meth c H locs 0 0 Q (F0 m 62 ls [])) → W p l e rm_X0_makeTurned s m args below meth c H locs 0 0 Q (F0 m 2 ls []) := by
  intro n
  induction n with
  | zero =>
    intro st x H locs ls hG hl hf
    cases hf
  | succ n ih =>
    intro st x H locs ls hG hl hf kX0
    obtain ⟨r, hr, hh⟩ := of_lpw hf
    refine kb_X0_makeTurned_2 C hth hG hl hr (fun st2 e1 H locs ls hG hl => ?_) (fun y2 e1 H locs ls hG hl => ?_)
    · rcases hh with ⟨s3, e2, hh⟩ | e2
      · rw [e2] at e1
        cases e1
        exact ih _ _ _ _ _ hG hl hh kX0
      · rw [e2] at e1
        cases e1
    · rcases hh with ⟨s3, e2, hh⟩ | e2
      · rw [e2] at e1
        cases e1
      · rw [e2] at e1
        cases e1
        exact kX0 _ rfl _ _ _ hG hl
set_option maxRecDepth 100000 in
set_option maxHeartbeats 4000000 in
theorem kb_X0_makeTurned_0 {th : Nat} {w : WX} {out : WX} {H : Heap} {locs : List Loc} {ls : Array Slot} (C : CX p s m args meth c cX0_makeTurned 4 RX0 wc_X0_makeTurned none) (hth : KDx th = (0, 13)) (hG : Gd s G A 153 B (entX G B w) X H locs) (hl : lv_has ls 4 [(0, .ref (B + th))]) (hf : sh_X0_makeTurned th w = some out) :
    W p l e rm_X0_makeTurned s m args below meth c H locs 0 0 (MQ below (CPost G A 153 B (entX G B out) X none) args s 0 0 A) (F0 m 0 ls []) := by
  refine lv_iconst (v := nI 0) C.1 C.2.1 dX0_makeTurned_0 (by decide) ?_
  refine lv_istore_n (lv' := [(1, .int (nI 0)), (0, .ref (B + th))]) C.1 C.2.1 dX0_makeTurned_1 rfl hl (by decide) rfl (fun ls hl => ?_)
  obtain ⟨ex1, hex1, hf⟩ := of_bind hf
  refine kl_X0_makeTurned_2 C hth FU (nI 0, w) ex1 _ _ _ hG (lv_sub hl [1, 0] rfl) hex1 (fun y e0 H locs ls hG hl => ?_)
  subst e0
  obtain rfl := Option.some.inj hf
  exact r_vret C hG dX0_makeTurned_62
set_option maxRecDepth 100000 in
set_option maxHeartbeats 4000000 in
theorem mt_X0_makeTurned (l : Launch) {G : GG} {A : Nat → Prop} {B : Nat} {X : va_W} {th : Nat} {w : WX} {out : WX} (hth : KDx th = (0, 13)) (hf : sh_X0_makeTurned th w = some out) : MetW l yX0_makeTurned wc_X0_makeTurned rm_X0_makeTurned G A 153 B (entX G B w) X [.ref (B + th)] none (entX G B out) := by
  refine Met.ofW (cc := cX0_makeTurned) (maxL := 4) (ret := none) (by decide) rfl ?_
  intro p e s m args below meth c s₁ B0 hml hv
  obtain ⟨rfl, hEv, hWd⟩ := hv
  have C : CX p s m _ meth c cX0_makeTurned 4 RX0 wc_X0_makeTurned none := ⟨B0.exec, B0.bytes, hml, findClass_of_methodNamed B0.named, atoms_spec (ws := wc_X0_makeTurned) B0.pre, B0.returns, B0.notSynchronized⟩
  have hl := lv_entry [.ref (B + th)] (n := 4) (Nat.le_of_ble_eq_true rfl)
  rw [lg_entry_eq]
  generalize (lg_sl [.ref (B + th)] ++ List.replicate (4 - (lg_sl [.ref (B + th)]).length) Slot.unset).toArray = ls at hl ⊢
  have hl : lv_has ls 4 [(0, .ref (B + th))] := hl
  exact kb_X0_makeTurned_0 C hth ⟨hEv, hWd, va_S.rf⟩ hl hf
abbrev wc_X0_targetByKind : List Cond := Cond.code yX0_targetByKind cX0_targetByKind 3 (some .int) :: TG
abbrev rm_X0_targetByKind : Room := { frames := 2, cells := 0, slots := 0, locals := 100 }
theorem cd_X0_targetByKind : yX0_targetByKind.cls = RX0 ∧ yX0_targetByKind.cls ≠ "java/lang/invoke/MethodHandle" ∧ yX0_targetByKind.cls ≠ "java/lang/invoke/VarHandle" ∧ (parseMethodDescriptor yX0_targetByKind.desc).map (fun d => d.parameters.length) = some 2 := by decide +kernel
theorem dX0_targetByKind_0 : decode cX0_targetByKind 0 = .ok (.aload_n 0, 1) := by decide +kernel
theorem dX0_targetByKind_1 : decode cX0_targetByKind 1 = .ok (.getfield 39, 3) := by decide +kernel
theorem dX0_targetByKind_4 : decode cX0_targetByKind 4 = .ok (.tableswitch 42 0 4 #[36, 36, 42, 42, 38], 36) := by decide +kernel
theorem dX0_targetByKind_40 : decode cX0_targetByKind 40 = .ok (.iload_n 1, 1) := by decide +kernel
theorem dX0_targetByKind_41 : decode cX0_targetByKind 41 = .ok (.ireturn, 1) := by decide +kernel
theorem dX0_targetByKind_42 : decode cX0_targetByKind 42 = .ok (.iload_n 1, 1) := by decide +kernel
theorem dX0_targetByKind_43 : decode cX0_targetByKind 43 = .ok (.iload_n 2, 1) := by decide +kernel
theorem dX0_targetByKind_44 : decode cX0_targetByKind 44 = .ok (.ior, 1) := by decide +kernel
theorem dX0_targetByKind_45 : decode cX0_targetByKind 45 = .ok (.ireturn, 1) := by decide +kernel
theorem dX0_targetByKind_46 : decode cX0_targetByKind 46 = .ok (.iload_n 1, 1) := by decide +kernel
theorem dX0_targetByKind_47 : decode cX0_targetByKind 47 = .ok (.iload_n 2, 1) := by decide +kernel
theorem dX0_targetByKind_48 : decode cX0_targetByKind 48 = .ok (.iadd, 1) := by decide +kernel
theorem dX0_targetByKind_49 : decode cX0_targetByKind 49 = .ok (.aload_n 0, 1) := by decide +kernel
theorem dX0_targetByKind_50 : decode cX0_targetByKind 50 = .ok (.getfield 49, 3) := by decide +kernel
theorem dX0_targetByKind_53 : decode cX0_targetByKind 53 = .ok (.if_icmp .ge 9, 3) := by decide +kernel
theorem dX0_targetByKind_56 : decode cX0_targetByKind 56 = .ok (.iload_n 1, 1) := by decide +kernel
theorem dX0_targetByKind_57 : decode cX0_targetByKind 57 = .ok (.iload_n 2, 1) := by decide +kernel
theorem dX0_targetByKind_58 : decode cX0_targetByKind 58 = .ok (.iadd, 1) := by decide +kernel
theorem dX0_targetByKind_59 : decode cX0_targetByKind 59 = .ok (.goto 11, 3) := by decide +kernel
theorem dX0_targetByKind_62 : decode cX0_targetByKind 62 = .ok (.iload_n 1, 1) := by decide +kernel
theorem dX0_targetByKind_63 : decode cX0_targetByKind 63 = .ok (.iload_n 2, 1) := by decide +kernel
theorem dX0_targetByKind_64 : decode cX0_targetByKind 64 = .ok (.iadd, 1) := by decide +kernel
theorem dX0_targetByKind_65 : decode cX0_targetByKind 65 = .ok (.aload_n 0, 1) := by decide +kernel
theorem dX0_targetByKind_66 : decode cX0_targetByKind 66 = .ok (.getfield 49, 3) := by decide +kernel
theorem dX0_targetByKind_69 : decode cX0_targetByKind 69 = .ok (.isub, 1) := by decide +kernel
theorem dX0_targetByKind_70 : decode cX0_targetByKind 70 = .ok (.ireturn, 1) := by decide +kernel
set_option maxRecDepth 100000 in
set_option maxHeartbeats 4000000 in
theorem kb_X0_targetByKind_0 {th : Nat} {x1 : Int32} {x2 : Int32} {w : WX} {out : Int32} {H : Heap} {locs : List Loc} {ls : Array Slot} (C : CX p s m args meth c cX0_targetByKind 3 RX0 wc_X0_targetByKind (some .int)) (hth : KDx th = (0, 13)) (hG : Gd s G A 153 B (entX G B w) X H locs) (hl : lv_has ls 3 [(0, .ref (B + th)), (1, .int x1), (2, .int x2)]) (hf : sh_X0_targetByKind th x1 x2 w = some out) :
    W p l e rm_X0_targetByKind s m args below meth c H locs 0 0 (MQ below (CPost G A 153 B (entX G B w) X (some (.int out))) args s 0 0 A) (F0 m 0 ls []) := by
  refine lv_aload_n C.1 C.2.1 dX0_targetByKind_0 rfl (lv_at hl 0 rfl) ?_
  refine gf_X0_39 C hG hth dX0_targetByKind_1 ?_
  rcases of_ite hf with ⟨c1, hf⟩ | ⟨c1, hf⟩
  · refine lv_tableIn (tgt := 40) (off := 36) C.1 C.2.1 dX0_targetByKind_4 (by rw [c1]; decide) (by rw [c1]; decide) (by rw [c1]; rfl) (by decide) ?_
    refine lv_iload_n C.1 C.2.1 dX0_targetByKind_40 rfl (lv_at hl 1 rfl) ?_
    obtain rfl := Option.some.inj hf
    exact r_iret C hG dX0_targetByKind_41
  · skip
    rcases of_ite hf with ⟨c2, hf⟩ | ⟨c2, hf⟩
    · refine lv_tableIn (tgt := 40) (off := 36) C.1 C.2.1 dX0_targetByKind_4 (by rw [c2]; decide) (by rw [c2]; decide) (by rw [c2]; rfl) (by decide) ?_
      refine lv_iload_n C.1 C.2.1 dX0_targetByKind_40 rfl (lv_at hl 1 rfl) ?_
      obtain rfl := Option.some.inj hf
      exact r_iret C hG dX0_targetByKind_41
    · skip
      rcases of_ite hf with ⟨c3, hf⟩ | ⟨c3, hf⟩
      · refine lv_tableIn (tgt := 46) (off := 42) C.1 C.2.1 dX0_targetByKind_4 (by rw [c3]; decide) (by rw [c3]; decide) (by rw [c3]; rfl) (by decide) ?_
        refine lv_iload_n C.1 C.2.1 dX0_targetByKind_46 rfl (lv_at hl 1 rfl) ?_
        refine lv_iload_n C.1 C.2.1 dX0_targetByKind_47 rfl (lv_at hl 2 rfl) ?_
        refine lv_iadd C.1 C.2.1 dX0_targetByKind_48 ?_
        refine lv_aload_n C.1 C.2.1 dX0_targetByKind_49 rfl (lv_at hl 0 rfl) ?_
        refine gf_X0_49 C hG hth dX0_targetByKind_50 ?_
        rcases of_ite hf with ⟨c4, hf⟩ | ⟨c4, hf⟩
        · refine lv_icmp_ge (tgt := 62) C.1 C.2.1 dX0_targetByKind_53 (by decide) (fun _ => ?_) (fun q => absurd c4 q)
          refine lv_iload_n C.1 C.2.1 dX0_targetByKind_62 rfl (lv_at hl 1 rfl) ?_
          refine lv_iload_n C.1 C.2.1 dX0_targetByKind_63 rfl (lv_at hl 2 rfl) ?_
          refine lv_iadd C.1 C.2.1 dX0_targetByKind_64 ?_
          refine lv_aload_n C.1 C.2.1 dX0_targetByKind_65 rfl (lv_at hl 0 rfl) ?_
          refine gf_X0_49 C hG hth dX0_targetByKind_66 ?_
          refine lv_isub C.1 C.2.1 dX0_targetByKind_69 ?_
          obtain rfl := Option.some.inj hf
          exact r_iret C hG dX0_targetByKind_70
        · refine lv_icmp_ge (tgt := 62) C.1 C.2.1 dX0_targetByKind_53 (by decide) (fun q => absurd q c4) (fun _ => ?_)
          refine lv_iload_n C.1 C.2.1 dX0_targetByKind_56 rfl (lv_at hl 1 rfl) ?_
          refine lv_iload_n C.1 C.2.1 dX0_targetByKind_57 rfl (lv_at hl 2 rfl) ?_
          refine lv_iadd C.1 C.2.1 dX0_targetByKind_58 ?_
          refine lv_goto (tgt := 70) C.1 C.2.1 dX0_targetByKind_59 (by decide) ?_
          obtain rfl := Option.some.inj hf
          exact r_iret C hG dX0_targetByKind_70
      · skip
        rcases of_ite hf with ⟨c5, hf⟩ | ⟨c5, hf⟩
        · refine lv_tableIn (tgt := 46) (off := 42) C.1 C.2.1 dX0_targetByKind_4 (by rw [c5]; decide) (by rw [c5]; decide) (by rw [c5]; rfl) (by decide) ?_
          refine lv_iload_n C.1 C.2.1 dX0_targetByKind_46 rfl (lv_at hl 1 rfl) ?_
          refine lv_iload_n C.1 C.2.1 dX0_targetByKind_47 rfl (lv_at hl 2 rfl) ?_
          refine lv_iadd C.1 C.2.1 dX0_targetByKind_48 ?_
          refine lv_aload_n C.1 C.2.1 dX0_targetByKind_49 rfl (lv_at hl 0 rfl) ?_
          refine gf_X0_49 C hG hth dX0_targetByKind_50 ?_
          rcases of_ite hf with ⟨c6, hf⟩ | ⟨c6, hf⟩
          · refine lv_icmp_ge (tgt := 62) C.1 C.2.1 dX0_targetByKind_53 (by decide) (fun _ => ?_) (fun q => absurd c6 q)
            refine lv_iload_n C.1 C.2.1 dX0_targetByKind_62 rfl (lv_at hl 1 rfl) ?_
            refine lv_iload_n C.1 C.2.1 dX0_targetByKind_63 rfl (lv_at hl 2 rfl) ?_
            refine lv_iadd C.1 C.2.1 dX0_targetByKind_64 ?_
            refine lv_aload_n C.1 C.2.1 dX0_targetByKind_65 rfl (lv_at hl 0 rfl) ?_
            refine gf_X0_49 C hG hth dX0_targetByKind_66 ?_
            refine lv_isub C.1 C.2.1 dX0_targetByKind_69 ?_
            obtain rfl := Option.some.inj hf
            exact r_iret C hG dX0_targetByKind_70
          · refine lv_icmp_ge (tgt := 62) C.1 C.2.1 dX0_targetByKind_53 (by decide) (fun q => absurd q c6) (fun _ => ?_)
            refine lv_iload_n C.1 C.2.1 dX0_targetByKind_56 rfl (lv_at hl 1 rfl) ?_
            refine lv_iload_n C.1 C.2.1 dX0_targetByKind_57 rfl (lv_at hl 2 rfl) ?_
            refine lv_iadd C.1 C.2.1 dX0_targetByKind_58 ?_
            refine lv_goto (tgt := 70) C.1 C.2.1 dX0_targetByKind_59 (by decide) ?_
            obtain rfl := Option.some.inj hf
            exact r_iret C hG dX0_targetByKind_70
        · skip
          rcases of_ite hf with ⟨c7, hf⟩ | ⟨c7, hf⟩
          · refine lv_tableIn (tgt := 42) (off := 38) C.1 C.2.1 dX0_targetByKind_4 (by rw [c7]; decide) (by rw [c7]; decide) (by rw [c7]; rfl) (by decide) ?_
            refine lv_iload_n C.1 C.2.1 dX0_targetByKind_42 rfl (lv_at hl 1 rfl) ?_
            refine lv_iload_n C.1 C.2.1 dX0_targetByKind_43 rfl (lv_at hl 2 rfl) ?_
            refine lv_ior C.1 C.2.1 dX0_targetByKind_44 ?_
            obtain rfl := Option.some.inj hf
            exact r_iret C hG dX0_targetByKind_45
          · skip
            refine lv_tableOut (tgt := 46) C.1 C.2.1 dX0_targetByKind_4 (sw_out (n := 5) (by decide) (lt_s (lt_s (lt_s (lt_s (lt_s lt_0 c1) c2) c3) c5) c7)) (by decide) ?_
            refine lv_iload_n C.1 C.2.1 dX0_targetByKind_46 rfl (lv_at hl 1 rfl) ?_
            refine lv_iload_n C.1 C.2.1 dX0_targetByKind_47 rfl (lv_at hl 2 rfl) ?_
            refine lv_iadd C.1 C.2.1 dX0_targetByKind_48 ?_
            refine lv_aload_n C.1 C.2.1 dX0_targetByKind_49 rfl (lv_at hl 0 rfl) ?_
            refine gf_X0_49 C hG hth dX0_targetByKind_50 ?_
            rcases of_ite hf with ⟨c8, hf⟩ | ⟨c8, hf⟩
            · refine lv_icmp_ge (tgt := 62) C.1 C.2.1 dX0_targetByKind_53 (by decide) (fun _ => ?_) (fun q => absurd c8 q)
              refine lv_iload_n C.1 C.2.1 dX0_targetByKind_62 rfl (lv_at hl 1 rfl) ?_
              refine lv_iload_n C.1 C.2.1 dX0_targetByKind_63 rfl (lv_at hl 2 rfl) ?_
              refine lv_iadd C.1 C.2.1 dX0_targetByKind_64 ?_
              refine lv_aload_n C.1 C.2.1 dX0_targetByKind_65 rfl (lv_at hl 0 rfl) ?_
              refine gf_X0_49 C hG hth dX0_targetByKind_66 ?_
              refine lv_isub C.1 C.2.1 dX0_targetByKind_69 ?_
              obtain rfl := Option.some.inj hf
              exact r_iret C hG dX0_targetByKind_70
            · refine lv_icmp_ge (tgt := 62) C.1 C.2.1 dX0_targetByKind_53 (by decide) (fun q => absurd q c8) (fun _ => ?_)
              refine lv_iload_n C.1 C.2.1 dX0_targetByKind_56 rfl (lv_at hl 1 rfl) ?_
              refine lv_iload_n C.1 C.2.1 dX0_targetByKind_57 rfl (lv_at hl 2 rfl) ?_
              refine lv_iadd C.1 C.2.1 dX0_targetByKind_58 ?_
              refine lv_goto (tgt := 70) C.1 C.2.1 dX0_targetByKind_59 (by decide) ?_
              obtain rfl := Option.some.inj hf
              exact r_iret C hG dX0_targetByKind_70
set_option maxRecDepth 100000 in
set_option maxHeartbeats 4000000 in
theorem mt_X0_targetByKind (l : Launch) {G : GG} {A : Nat → Prop} {B : Nat} {X : va_W} {th : Nat} {x1 : Int32} {x2 : Int32} {w : WX} {out : Int32} (hth : KDx th = (0, 13)) (hf : sh_X0_targetByKind th x1 x2 w = some out) : MetW l yX0_targetByKind wc_X0_targetByKind rm_X0_targetByKind G A 153 B (entX G B w) X [.ref (B + th), .int x1, .int x2] (some (.int out)) (entX G B w) := by
  refine Met.ofW (cc := cX0_targetByKind) (maxL := 3) (ret := (some .int)) (by decide) rfl ?_
  intro p e s m args below meth c s₁ B0 hml hv
  obtain ⟨rfl, hEv, hWd⟩ := hv
  have C : CX p s m _ meth c cX0_targetByKind 3 RX0 wc_X0_targetByKind (some .int) := ⟨B0.exec, B0.bytes, hml, findClass_of_methodNamed B0.named, atoms_spec (ws := wc_X0_targetByKind) B0.pre, B0.returns, B0.notSynchronized⟩
  have hl := lv_entry [.ref (B + th), .int x1, .int x2] (n := 3) (Nat.le_of_ble_eq_true rfl)
  rw [lg_entry_eq]
  generalize (lg_sl [.ref (B + th), .int x1, .int x2] ++ List.replicate (3 - (lg_sl [.ref (B + th), .int x1, .int x2]).length) Slot.unset).toArray = ls at hl ⊢
  have hl : lv_has ls 3 [(0, .ref (B + th)), (1, .int x1), (2, .int x2)] := hl
  exact kb_X0_targetByKind_0 C hth ⟨hEv, hWd, va_S.rf⟩ hl hf
abbrev wc_X0_traceByKind : List Cond := Cond.code yX0_traceByKind cX0_traceByKind 2 (some .int) :: TG
abbrev rm_X0_traceByKind : Room := { frames := 2, cells := 0, slots := 0, locals := 100 }
theorem cd_X0_traceByKind : yX0_traceByKind.cls = RX0 ∧ yX0_traceByKind.cls ≠ "java/lang/invoke/MethodHandle" ∧ yX0_traceByKind.cls ≠ "java/lang/invoke/VarHandle" ∧ (parseMethodDescriptor yX0_traceByKind.desc).map (fun d => d.parameters.length) = some 1 := by decide +kernel
theorem dX0_traceByKind_0 : decode cX0_traceByKind 0 = .ok (.aload_n 0, 1) := by decide +kernel
theorem dX0_traceByKind_1 : decode cX0_traceByKind 1 = .ok (.getfield 39, 3) := by decide +kernel
theorem dX0_traceByKind_4 : decode cX0_traceByKind 4 = .ok (.tableswitch 49 0 2 #[28, 30, 39], 28) := by decide +kernel
theorem dX0_traceByKind_32 : decode cX0_traceByKind 32 = .ok (.iconst 1, 1) := by decide +kernel
theorem dX0_traceByKind_33 : decode cX0_traceByKind 33 = .ok (.ireturn, 1) := by decide +kernel
theorem dX0_traceByKind_34 : decode cX0_traceByKind 34 = .ok (.aload_n 0, 1) := by decide +kernel
theorem dX0_traceByKind_35 : decode cX0_traceByKind 35 = .ok (.getfield 46, 3) := by decide +kernel
theorem dX0_traceByKind_38 : decode cX0_traceByKind 38 = .ok (.iload_n 1, 1) := by decide +kernel
theorem dX0_traceByKind_39 : decode cX0_traceByKind 39 = .ok (.iadd, 1) := by decide +kernel
theorem dX0_traceByKind_40 : decode cX0_traceByKind 40 = .ok (.iconst 1, 1) := by decide +kernel
theorem dX0_traceByKind_41 : decode cX0_traceByKind 41 = .ok (.iadd, 1) := by decide +kernel
theorem dX0_traceByKind_42 : decode cX0_traceByKind 42 = .ok (.ireturn, 1) := by decide +kernel
theorem dX0_traceByKind_43 : decode cX0_traceByKind 43 = .ok (.iload_n 1, 1) := by decide +kernel
theorem dX0_traceByKind_44 : decode cX0_traceByKind 44 = .ok (.ifCond .ne 7, 3) := by decide +kernel
theorem dX0_traceByKind_47 : decode cX0_traceByKind 47 = .ok (.iconst 1, 1) := by decide +kernel
theorem dX0_traceByKind_48 : decode cX0_traceByKind 48 = .ok (.goto 4, 3) := by decide +kernel
theorem dX0_traceByKind_51 : decode cX0_traceByKind 51 = .ok (.iconst 0, 1) := by decide +kernel
theorem dX0_traceByKind_52 : decode cX0_traceByKind 52 = .ok (.ireturn, 1) := by decide +kernel
theorem dX0_traceByKind_53 : decode cX0_traceByKind 53 = .ok (.iload_n 1, 1) := by decide +kernel
theorem dX0_traceByKind_54 : decode cX0_traceByKind 54 = .ok (.aload_n 0, 1) := by decide +kernel
theorem dX0_traceByKind_55 : decode cX0_traceByKind 55 = .ok (.getfield 49, 3) := by decide +kernel
theorem dX0_traceByKind_58 : decode cX0_traceByKind 58 = .ok (.iconst 1, 1) := by decide +kernel
theorem dX0_traceByKind_59 : decode cX0_traceByKind 59 = .ok (.isub, 1) := by decide +kernel
theorem dX0_traceByKind_60 : decode cX0_traceByKind 60 = .ok (.if_icmp .ne 7, 3) := by decide +kernel
theorem dX0_traceByKind_63 : decode cX0_traceByKind 63 = .ok (.iconst 1, 1) := by decide +kernel
theorem dX0_traceByKind_64 : decode cX0_traceByKind 64 = .ok (.goto 4, 3) := by decide +kernel
theorem dX0_traceByKind_67 : decode cX0_traceByKind 67 = .ok (.iconst 0, 1) := by decide +kernel
theorem dX0_traceByKind_68 : decode cX0_traceByKind 68 = .ok (.ireturn, 1) := by decide +kernel
set_option maxRecDepth 100000 in
set_option maxHeartbeats 4000000 in
theorem kb_X0_traceByKind_0 {th : Nat} {x1 : Int32} {w : WX} {out : Int32} {H : Heap} {locs : List Loc} {ls : Array Slot} (C : CX p s m args meth c cX0_traceByKind 2 RX0 wc_X0_traceByKind (some .int)) (hth : KDx th = (0, 13)) (hG : Gd s G A 153 B (entX G B w) X H locs) (hl : lv_has ls 2 [(0, .ref (B + th)), (1, .int x1)]) (hf : sh_X0_traceByKind th x1 w = some out) :
    W p l e rm_X0_traceByKind s m args below meth c H locs 0 0 (MQ below (CPost G A 153 B (entX G B w) X (some (.int out))) args s 0 0 A) (F0 m 0 ls []) := by
  refine lv_aload_n C.1 C.2.1 dX0_traceByKind_0 rfl (lv_at hl 0 rfl) ?_
  refine gf_X0_39 C hG hth dX0_traceByKind_1 ?_
  rcases of_ite hf with ⟨c1, hf⟩ | ⟨c1, hf⟩
  · refine lv_tableIn (tgt := 32) (off := 28) C.1 C.2.1 dX0_traceByKind_4 (by rw [c1]; decide) (by rw [c1]; decide) (by rw [c1]; rfl) (by decide) ?_
    refine lv_iconst (v := nI 1) C.1 C.2.1 dX0_traceByKind_32 (by decide) ?_
    obtain rfl := Option.some.inj hf
    exact r_iret C hG dX0_traceByKind_33
  · skip
    rcases of_ite hf with ⟨c2, hf⟩ | ⟨c2, hf⟩
    · refine lv_tableIn (tgt := 34) (off := 30) C.1 C.2.1 dX0_traceByKind_4 (by rw [c2]; decide) (by rw [c2]; decide) (by rw [c2]; rfl) (by decide) ?_
      refine lv_aload_n C.1 C.2.1 dX0_traceByKind_34 rfl (lv_at hl 0 rfl) ?_
      refine gf_X0_46 C hG hth dX0_traceByKind_35 ?_
      refine lv_iload_n C.1 C.2.1 dX0_traceByKind_38 rfl (lv_at hl 1 rfl) ?_
      refine lv_iadd C.1 C.2.1 dX0_traceByKind_39 ?_
      refine lv_iconst (v := nI 1) C.1 C.2.1 dX0_traceByKind_40 (by decide) ?_
      refine lv_iadd C.1 C.2.1 dX0_traceByKind_41 ?_
      obtain rfl := Option.some.inj hf
      exact r_iret C hG dX0_traceByKind_42
    · skip
      rcases of_ite hf with ⟨c3, hf⟩ | ⟨c3, hf⟩
      · refine lv_tableIn (tgt := 43) (off := 39) C.1 C.2.1 dX0_traceByKind_4 (by rw [c3]; decide) (by rw [c3]; decide) (by rw [c3]; rfl) (by decide) ?_
        refine lv_iload_n C.1 C.2.1 dX0_traceByKind_43 rfl (lv_at hl 1 rfl) ?_
        rcases of_ite hf with ⟨c4, hf⟩ | ⟨c4, hf⟩
        · refine lv_if_ne (tgt := 51) C.1 C.2.1 dX0_traceByKind_44 (by decide) (fun q => absurd c4 q) (fun _ => ?_)
          refine lv_iconst (v := nI 1) C.1 C.2.1 dX0_traceByKind_47 (by decide) ?_
          refine lv_goto (tgt := 52) C.1 C.2.1 dX0_traceByKind_48 (by decide) ?_
          obtain rfl := Option.some.inj hf
          exact r_iret C hG dX0_traceByKind_52
        · refine lv_if_ne (tgt := 51) C.1 C.2.1 dX0_traceByKind_44 (by decide) (fun _ => ?_) (fun q => absurd q c4)
          refine lv_iconst (v := nI 0) C.1 C.2.1 dX0_traceByKind_51 (by decide) ?_
          obtain rfl := Option.some.inj hf
          exact r_iret C hG dX0_traceByKind_52
      · skip
        refine lv_tableOut (tgt := 53) C.1 C.2.1 dX0_traceByKind_4 (sw_out (n := 3) (by decide) (lt_s (lt_s (lt_s lt_0 c1) c2) c3)) (by decide) ?_
        refine lv_iload_n C.1 C.2.1 dX0_traceByKind_53 rfl (lv_at hl 1 rfl) ?_
        refine lv_aload_n C.1 C.2.1 dX0_traceByKind_54 rfl (lv_at hl 0 rfl) ?_
        refine gf_X0_49 C hG hth dX0_traceByKind_55 ?_
        refine lv_iconst (v := nI 1) C.1 C.2.1 dX0_traceByKind_58 (by decide) ?_
        refine lv_isub C.1 C.2.1 dX0_traceByKind_59 ?_
        rcases of_ite hf with ⟨c5, hf⟩ | ⟨c5, hf⟩
        · refine lv_icmp_ne (tgt := 67) C.1 C.2.1 dX0_traceByKind_60 (by decide) (fun q => absurd c5 q) (fun _ => ?_)
          refine lv_iconst (v := nI 1) C.1 C.2.1 dX0_traceByKind_63 (by decide) ?_
          refine lv_goto (tgt := 68) C.1 C.2.1 dX0_traceByKind_64 (by decide) ?_
          obtain rfl := Option.some.inj hf
          exact r_iret C hG dX0_traceByKind_68
        · refine lv_icmp_ne (tgt := 67) C.1 C.2.1 dX0_traceByKind_60 (by decide) (fun _ => ?_) (fun q => absurd q c5)
          refine lv_iconst (v := nI 0) C.1 C.2.1 dX0_traceByKind_67 (by decide) ?_
          obtain rfl := Option.some.inj hf
          exact r_iret C hG dX0_traceByKind_68
set_option maxRecDepth 100000 in
set_option maxHeartbeats 4000000 in
theorem mt_X0_traceByKind (l : Launch) {G : GG} {A : Nat → Prop} {B : Nat} {X : va_W} {th : Nat} {x1 : Int32} {w : WX} {out : Int32} (hth : KDx th = (0, 13)) (hf : sh_X0_traceByKind th x1 w = some out) : MetW l yX0_traceByKind wc_X0_traceByKind rm_X0_traceByKind G A 153 B (entX G B w) X [.ref (B + th), .int x1] (some (.int out)) (entX G B w) := by
  refine Met.ofW (cc := cX0_traceByKind) (maxL := 2) (ret := (some .int)) (by decide) rfl ?_
  intro p e s m args below meth c s₁ B0 hml hv
  obtain ⟨rfl, hEv, hWd⟩ := hv
  have C : CX p s m _ meth c cX0_traceByKind 2 RX0 wc_X0_traceByKind (some .int) := ⟨B0.exec, B0.bytes, hml, findClass_of_methodNamed B0.named, atoms_spec (ws := wc_X0_traceByKind) B0.pre, B0.returns, B0.notSynchronized⟩
  have hl := lv_entry [.ref (B + th), .int x1] (n := 2) (Nat.le_of_ble_eq_true rfl)
  rw [lg_entry_eq]
  generalize (lg_sl [.ref (B + th), .int x1] ++ List.replicate (2 - (lg_sl [.ref (B + th), .int x1]).length) Slot.unset).toArray = ls at hl ⊢
  have hl : lv_has ls 2 [(0, .ref (B + th)), (1, .int x1)] := hl
  exact kb_X0_traceByKind_0 C hth ⟨hEv, hWd, va_S.rf⟩ hl hf
abbrev wc_X0_make : List Cond := Cond.code yX0_make cX0_make 6 none :: TG
abbrev rm_X0_make : Room := { frames := 5, cells := 0, slots := 0, locals := 168 }
theorem cd_X0_make : yX0_make.cls = RX0 ∧ yX0_make.cls ≠ "java/lang/invoke/MethodHandle" ∧ yX0_make.cls ≠ "java/lang/invoke/VarHandle" ∧ (parseMethodDescriptor yX0_make.desc).map (fun d => d.parameters.length) = some 3 := by decide +kernel
theorem dX0_make_0 : decode cX0_make 0 = .ok (.aload_n 0, 1) := by decide +kernel
theorem dX0_make_1 : decode cX0_make 1 = .ok (.iload_n 1, 1) := by decide +kernel
theorem dX0_make_2 : decode cX0_make 2 = .ok (.putfield 39, 3) := by decide +kernel
theorem dX0_make_5 : decode cX0_make 5 = .ok (.aload_n 0, 1) := by decide +kernel
theorem dX0_make_6 : decode cX0_make 6 = .ok (.iload_n 2, 1) := by decide +kernel
theorem dX0_make_7 : decode cX0_make 7 = .ok (.putfield 43, 3) := by decide +kernel
theorem dX0_make_10 : decode cX0_make 10 = .ok (.aload_n 0, 1) := by decide +kernel
theorem dX0_make_11 : decode cX0_make 11 = .ok (.iload_n 3, 1) := by decide +kernel
theorem dX0_make_12 : decode cX0_make 12 = .ok (.putfield 46, 3) := by decide +kernel
theorem dX0_make_15 : decode cX0_make 15 = .ok (.aload_n 0, 1) := by decide +kernel
theorem dX0_make_16 : decode cX0_make 16 = .ok (.iload_n 1, 1) := by decide +kernel
theorem dX0_make_17 : decode cX0_make 17 = .ok (.iconst 4, 1) := by decide +kernel
theorem dX0_make_18 : decode cX0_make 18 = .ok (.if_icmp .ne 9, 3) := by decide +kernel
theorem dX0_make_21 : decode cX0_make 21 = .ok (.iconst 1, 1) := by decide +kernel
theorem dX0_make_22 : decode cX0_make 22 = .ok (.iload_n 2, 1) := by decide +kernel
theorem dX0_make_23 : decode cX0_make 23 = .ok (.ishl, 1) := by decide +kernel
theorem dX0_make_24 : decode cX0_make 24 = .ok (.goto 4, 3) := by decide +kernel
theorem dX0_make_27 : decode cX0_make 27 = .ok (.iload_n 2, 1) := by decide +kernel
theorem dX0_make_28 : decode cX0_make 28 = .ok (.putfield 49, 3) := by decide +kernel
theorem dX0_make_31 : decode cX0_make 31 = .ok (.iconst 0, 1) := by decide +kernel
theorem dX0_make_32 : decode cX0_make 32 = .ok (.istore 4, 2) := by decide +kernel
theorem dX0_make_34 : decode cX0_make 34 = .ok (.iload 4, 2) := by decide +kernel
theorem dX0_make_36 : decode cX0_make 36 = .ok (.aload_n 0, 1) := by decide +kernel
theorem dX0_make_37 : decode cX0_make 37 = .ok (.getfield 49, 3) := by decide +kernel
theorem dX0_make_40 : decode cX0_make 40 = .ok (.if_icmp .ge 114, 3) := by decide +kernel
theorem dX0_make_43 : decode cX0_make 43 = .ok (.aload_n 0, 1) := by decide +kernel
theorem dX0_make_44 : decode cX0_make 44 = .ok (.getfield 21, 3) := by decide +kernel
theorem dX0_make_47 : decode cX0_make 47 = .ok (.iload 4, 2) := by decide +kernel
theorem dX0_make_49 : decode cX0_make 49 = .ok (.aload_n 0, 1) := by decide +kernel
theorem dX0_make_50 : decode cX0_make 50 = .ok (.iload 4, 2) := by decide +kernel
theorem dX0_make_52 : decode cX0_make 52 = .ok (.invokevirtual 52, 3) := by decide +kernel
theorem dX0_make_55 : decode cX0_make 55 = .ok (.iastore, 1) := by decide +kernel
theorem dX0_make_56 : decode cX0_make 56 = .ok (.aload_n 0, 1) := by decide +kernel
theorem dX0_make_57 : decode cX0_make 57 = .ok (.getfield 24, 3) := by decide +kernel
theorem dX0_make_60 : decode cX0_make 60 = .ok (.iload 4, 2) := by decide +kernel
theorem dX0_make_62 : decode cX0_make 62 = .ok (.iload 4, 2) := by decide +kernel
theorem dX0_make_64 : decode cX0_make 64 = .ok (.ifCond .eq 18, 3) := by decide +kernel
theorem dX0_make_67 : decode cX0_make 67 = .ok (.aload_n 0, 1) := by decide +kernel
theorem dX0_make_68 : decode cX0_make 68 = .ok (.getfield 39, 3) := by decide +kernel
theorem dX0_make_71 : decode cX0_make 71 = .ok (.ifCond .eq 11, 3) := by decide +kernel
theorem dX0_make_74 : decode cX0_make 74 = .ok (.aload_n 0, 1) := by decide +kernel
theorem dX0_make_75 : decode cX0_make 75 = .ok (.getfield 39, 3) := by decide +kernel
theorem dX0_make_78 : decode cX0_make 78 = .ok (.iconst 1, 1) := by decide +kernel
theorem dX0_make_79 : decode cX0_make 79 = .ok (.if_icmp .ne 7, 3) := by decide +kernel
theorem dX0_make_82 : decode cX0_make 82 = .ok (.iconst 1, 1) := by decide +kernel
theorem dX0_make_83 : decode cX0_make 83 = .ok (.goto 4, 3) := by decide +kernel
theorem dX0_make_86 : decode cX0_make 86 = .ok (.iconst 0, 1) := by decide +kernel
theorem dX0_make_87 : decode cX0_make 87 = .ok (.iastore, 1) := by decide +kernel
theorem dX0_make_88 : decode cX0_make 88 = .ok (.iconst 0, 1) := by decide +kernel
theorem dX0_make_89 : decode cX0_make 89 = .ok (.istore 5, 2) := by decide +kernel
theorem dX0_make_91 : decode cX0_make 91 = .ok (.iload 5, 2) := by decide +kernel
theorem dX0_make_93 : decode cX0_make 93 = .ok (.aload_n 0, 1) := by decide +kernel
theorem dX0_make_94 : decode cX0_make 94 = .ok (.getfield 49, 3) := by decide +kernel
theorem dX0_make_97 : decode cX0_make 97 = .ok (.if_icmp .ge 51, 3) := by decide +kernel
theorem dX0_make_100 : decode cX0_make 100 = .ok (.aload_n 0, 1) := by decide +kernel
theorem dX0_make_101 : decode cX0_make 101 = .ok (.getfield 9, 3) := by decide +kernel
theorem dX0_make_104 : decode cX0_make 104 = .ok (.aload_n 0, 1) := by decide +kernel
theorem dX0_make_105 : decode cX0_make 105 = .ok (.iload 4, 2) := by decide +kernel
theorem dX0_make_107 : decode cX0_make 107 = .ok (.iload 5, 2) := by decide +kernel
theorem dX0_make_109 : decode cX0_make 109 = .ok (.invokevirtual 56, 3) := by decide +kernel
theorem dX0_make_112 : decode cX0_make 112 = .ok (.aload_n 0, 1) := by decide +kernel
theorem dX0_make_113 : decode cX0_make 113 = .ok (.iload 4, 2) := by decide +kernel
theorem dX0_make_115 : decode cX0_make 115 = .ok (.iload 5, 2) := by decide +kernel
theorem dX0_make_117 : decode cX0_make 117 = .ok (.invokevirtual 60, 3) := by decide +kernel
theorem dX0_make_120 : decode cX0_make 120 = .ok (.iastore, 1) := by decide +kernel
theorem dX0_make_121 : decode cX0_make 121 = .ok (.aload_n 0, 1) := by decide +kernel
theorem dX0_make_122 : decode cX0_make 122 = .ok (.getfield 15, 3) := by decide +kernel
theorem dX0_make_125 : decode cX0_make 125 = .ok (.aload_n 0, 1) := by decide +kernel
theorem dX0_make_126 : decode cX0_make 126 = .ok (.iload 4, 2) := by decide +kernel
theorem dX0_make_128 : decode cX0_make 128 = .ok (.iload 5, 2) := by decide +kernel
theorem dX0_make_130 : decode cX0_make 130 = .ok (.invokevirtual 56, 3) := by decide +kernel
theorem dX0_make_133 : decode cX0_make 133 = .ok (.aload_n 0, 1) := by decide +kernel
theorem dX0_make_134 : decode cX0_make 134 = .ok (.iload 4, 2) := by decide +kernel
theorem dX0_make_136 : decode cX0_make 136 = .ok (.iload 5, 2) := by decide +kernel
theorem dX0_make_138 : decode cX0_make 138 = .ok (.invokevirtual 63, 3) := by decide +kernel
theorem dX0_make_141 : decode cX0_make 141 = .ok (.iastore, 1) := by decide +kernel
theorem dX0_make_142 : decode cX0_make 142 = .ok (.iinc 5 1, 3) := by decide +kernel
theorem dX0_make_145 : decode cX0_make 145 = .ok (.goto (-54), 3) := by decide +kernel
theorem dX0_make_148 : decode cX0_make 148 = .ok (.iinc 4 1, 3) := by decide +kernel
theorem dX0_make_151 : decode cX0_make 151 = .ok (.goto (-117), 3) := by decide +kernel
theorem dX0_make_154 : decode cX0_make 154 = .ok (.aload_n 0, 1) := by decide +kernel
theorem dX0_make_155 : decode cX0_make 155 = .ok (.invokevirtual 66, 3) := by decide +kernel
theorem dX0_make_158 : decode cX0_make 158 = .ok (.aload_n 0, 1) := by decide +kernel
theorem dX0_make_159 : decode cX0_make 159 = .ok (.invokevirtual 69, 3) := by decide +kernel
theorem dX0_make_162 : decode cX0_make 162 = .ok (.return_, 1) := by decide +kernel
set_option maxRecDepth 100000 in
set_option maxHeartbeats 4000000 in
theorem kb_X0_make_91 {th : Nat} {x4 : Int32} {st : Int32 × WX} {r : (Int32 × WX) ⊕ ((WX))} {H : Heap} {locs : List Loc} {ls : Array Slot} (C : CX p s m args meth c cX0_make 6 RX0 wc_X0_make none) (hth : KDx th = (0, 13)) (hG : Gd s G A 153 B (entX G B st.2) X H locs) (hl : lv_has ls 6 [(0, .ref (B + th)), (4, .int x4), (5, .int st.1)]) (hf : sh_X0_make_s91 th x4 st = some r)
    (kL : ∀ st' : Int32 × WX, r = Sum.inl st' → ∀ (H : Heap) (locs : List Loc) (ls : Array Slot), Gd s G A 153 B (entX G B st'.2) X H locs → lv_has ls 6 [(0, .ref (B + th)), (4, .int x4), (5, .int st'.1)] → W p l e rm_X0_make s m args below meth c H locs 0 0 Q (F0 m 91 ls []))
    (kX0 : ∀ y' : WX, r = Sum.inr y' → ∀ (H : Heap) (locs : List Loc) (ls : Array Slot), Gd s G A 153 B (entX G B y') X H locs → lv_has ls 6 [(0, .ref (B + th)), (4, .int x4)] → W p l e rm_X0_make s m args below meth c H locs 0 0 Q (F0 m 148 ls [])) :
    W p l e rm_X0_make s m args below meth c H locs 0 0 Q (F0 m 91 ls []) := by
  refine lv_iload C.1 C.2.1 dX0_make_91 (lv_at hl 2 rfl) ?_
  refine lv_aload_n C.1 C.2.1 dX0_make_93 rfl (lv_at hl 0 rfl) ?_
  refine gf_X0_49 C hG hth dX0_make_94 ?_
  rcases of_ite hf with ⟨c1, hf⟩ | ⟨c1, hf⟩
  · refine lv_icmp_ge (tgt := 148) C.1 C.2.1 dX0_make_97 (by decide) (fun _ => ?_) (fun q => absurd c1 q)
    obtain rfl := Option.some.inj hf
    exact kX0 _ rfl _ _ _ hG (lv_sub hl [0, 1] rfl)
  · refine lv_icmp_ge (tgt := 148) C.1 C.2.1 dX0_make_97 (by decide) (fun q => absurd q c1) (fun _ => ?_)
    refine lv_aload_n C.1 C.2.1 dX0_make_100 rfl (lv_at hl 0 rfl) ?_
    refine gf_X0_9 C hG hth dX0_make_101 ?_
    refine lv_aload_n C.1 C.2.1 dX0_make_104 rfl (lv_at hl 0 rfl) ?_
    refine lv_iload C.1 C.2.1 dX0_make_105 (lv_at hl 1 rfl) ?_
    refine lv_iload C.1 C.2.1 dX0_make_107 (lv_at hl 2 rfl) ?_
    obtain ⟨v2, hv2, hf⟩ := of_bind hf
    refine r_callV1 C hG hl.1 (c0 := th) (As := [.int x4, .int st.1]) (kdx_lt hth (by decide)) (entX_O0 hth) rfl (mt_X0_at l hth hv2) (cwV 2 C.2.2.2.2.1 (gd_V tg_2_68 tg_2_70 tgp_1 tg_1_4 tg_2_71) rfl rfl rfl cd_X0_at ⟨Nat.le_of_ble_eq_true rfl, Nat.le_of_ble_eq_true rfl⟩) rfl rfl (Nat.le_of_ble_eq_true rfl) dX0_make_109 (fun H locs hG => ?_)
    refine lv_aload_n C.1 C.2.1 dX0_make_112 rfl (lv_at hl 0 rfl) ?_
    refine lv_iload C.1 C.2.1 dX0_make_113 (lv_at hl 1 rfl) ?_
    refine lv_iload C.1 C.2.1 dX0_make_115 (lv_at hl 2 rfl) ?_
    obtain ⟨v3, hv3, hf⟩ := of_bind hf
    refine r_callV1 C hG hl.1 (c0 := th) (As := [.int x4, .int st.1]) (kdx_lt hth (by decide)) (entX_O0 hth) rfl (mt_X0_targetByKind l hth hv3) (cwV 2 C.2.2.2.2.1 (gd_V tg_2_72 tg_2_74 tgp_2 tg_1_4 tg_2_75) rfl rfl rfl cd_X0_targetByKind ⟨Nat.le_of_ble_eq_true rfl, Nat.le_of_ble_eq_true rfl⟩) rfl rfl (Nat.le_of_ble_eq_true rfl) dX0_make_117 (fun H locs hG => ?_)
    obtain ⟨w4, hw4, hf⟩ := of_bind hf
    obtain ⟨bw4, ew4⟩ := of_stX hw4
    refine r_iast C hG (c0 := (th + 1)) (kdx_lt (kx_0_4 hth) (by decide)) (entX_I (kx_0_4 hth)) bw4 (E' := (entX G B w4)) (by rw [ew4]; exact upX_I (kx_0_4 hth)) dX0_make_120 (fun H locs hG => ?_)
    refine lv_aload_n C.1 C.2.1 dX0_make_121 rfl (lv_at hl 0 rfl) ?_
    refine gf_X0_15 C hG hth dX0_make_122 ?_
    refine lv_aload_n C.1 C.2.1 dX0_make_125 rfl (lv_at hl 0 rfl) ?_
    refine lv_iload C.1 C.2.1 dX0_make_126 (lv_at hl 1 rfl) ?_
    refine lv_iload C.1 C.2.1 dX0_make_128 (lv_at hl 2 rfl) ?_
    obtain ⟨v5, hv5, hf⟩ := of_bind hf
    refine r_callV1 C hG hl.1 (c0 := th) (As := [.int x4, .int st.1]) (kdx_lt hth (by decide)) (entX_O0 hth) rfl (mt_X0_at l hth hv5) (cwV 2 C.2.2.2.2.1 (gd_V tg_2_68 tg_2_70 tgp_1 tg_1_4 tg_2_71) rfl rfl rfl cd_X0_at ⟨Nat.le_of_ble_eq_true rfl, Nat.le_of_ble_eq_true rfl⟩) rfl rfl (Nat.le_of_ble_eq_true rfl) dX0_make_130 (fun H locs hG => ?_)
    refine lv_aload_n C.1 C.2.1 dX0_make_133 rfl (lv_at hl 0 rfl) ?_
    refine lv_iload C.1 C.2.1 dX0_make_134 (lv_at hl 1 rfl) ?_
    refine lv_iload C.1 C.2.1 dX0_make_136 (lv_at hl 2 rfl) ?_
    obtain ⟨v6, hv6, hf⟩ := of_bind hf
    refine r_callV1 C hG hl.1 (c0 := th) (As := [.int x4, .int st.1]) (kdx_lt hth (by decide)) (entX_O0 hth) rfl (mt_X0_factorByKind l hth hv6) (cwV 2 C.2.2.2.2.1 (gd_V tg_2_76 tg_2_78 tgp_3 tg_1_4 tg_2_79) rfl rfl rfl cd_X0_factorByKind ⟨Nat.le_of_ble_eq_true rfl, Nat.le_of_ble_eq_true rfl⟩) rfl rfl (Nat.le_of_ble_eq_true rfl) dX0_make_138 (fun H locs hG => ?_)
    obtain ⟨w7, hw7, hf⟩ := of_bind hf
    obtain ⟨bw7, ew7⟩ := of_stX hw7
    refine r_iast C hG (c0 := (th + 2)) (kdx_lt (kx_0_5 hth) (by decide)) (entX_I (kx_0_5 hth)) bw7 (E' := (entX G B w7)) (by rw [ew7]; exact upX_I (kx_0_5 hth)) dX0_make_141 (fun H locs hG => ?_)
    obtain ⟨v8, ev8, hf⟩ := of_letv hf
    refine lv_iinc (v := v8) (lv' := [(5, .int v8), (0, .ref (B + th)), (4, .int x4)]) C.1 C.2.1 dX0_make_142 hl (k := 2) rfl (by rw [ev8, show Int32.ofInt (1) = nI 1 from by decide]) (by decide) rfl (fun ls hl => ?_)
    refine lv_goto (tgt := 91) C.1 C.2.1 dX0_make_145 (by decide) ?_
    obtain rfl := Option.some.inj hf
    exact kL _ rfl _ _ _ hG (lv_sub hl [1, 2, 0] rfl)
set_option maxRecDepth 100000 in
set_option maxHeartbeats 4000000 in
theorem kl_X0_make_91 {th : Nat} {x4 : Int32} (C : CX p s m args meth c cX0_make 6 RX0 wc_X0_make none) (hth : KDx th = (0, 13)) : ∀ (n : Nat) (st : Int32 × WX) (x : (WX)) (H : Heap) (locs : List Loc) (ls : Array Slot), Gd s G A 153 B (entX G B st.2) X H locs → lv_has ls 6 [(0, .ref (B + th)), (4, .int x4), (5, .int st.1)] → lpw (sh_X0_make_s91 th x4) n st = some x →
    (∀ y' : WX, x = y' → ∀ (H : Heap) (locs : List Loc) (ls : Array Slot), Gd s G A 153 B (entX G B y') X H locs → lv_has ls 6 [(0, .ref (B + th)), (4, .int x4)] → W p l e rm_X0_make s m args below meth c H locs 0 0 Q (F0 m 148 ls [])) → W p l e rm_X0_make s m args below meth c H locs 0 0 Q (F0 m 91 ls []) := by
  intro n
  induction n with
  | zero =>
    intro st x H locs ls hG hl hf
    cases hf
  | succ n ih =>
    intro st x H locs ls hG hl hf kX0
    obtain ⟨r, hr, hh⟩ := of_lpw hf
    refine kb_X0_make_91 C hth hG hl hr (fun st2 e1 H locs ls hG hl => ?_) (fun y2 e1 H locs ls hG hl => ?_)
    · rcases hh with ⟨s3, e2, hh⟩ | e2
      · rw [e2] at e1
        cases e1
        exact ih _ _ _ _ _ hG hl hh kX0
      · rw [e2] at e1
        cases e1
    · rcases hh with ⟨s3, e2, hh⟩ | e2
      · rw [e2] at e1
        cases e1
      · rw [e2] at e1
        cases e1
        exact kX0 _ rfl _ _ _ hG hl
set_option maxRecDepth 100000 in
set_option maxHeartbeats 4000000 in
theorem kb_X0_make_87 {th : Nat} {x4 : Int32} {s0 : Nat} {s1 : Int32} {s2 : Int32} {w : WX} {r : (Int32 × WX) ⊕ ((WX))} {H : Heap} {locs : List Loc} {ls : Array Slot} (C : CX p s m args meth c cX0_make 6 RX0 wc_X0_make none) (hth : KDx th = (0, 13)) (hs0 : KDx s0 = (10, 6)) (hG : Gd s G A 153 B (entX G B w) X H locs) (hl : lv_has ls 6 [(0, .ref (B + th)), (4, .int x4)]) (hf : sh_X0_make_j87 th x4 s0 s1 s2 w = some r)
    (kL : ∀ st' : Int32 × WX, r = Sum.inl st' → ∀ (H : Heap) (locs : List Loc) (ls : Array Slot), Gd s G A 153 B (entX G B st'.2) X H locs → lv_has ls 6 [(0, .ref (B + th)), (4, .int st'.1)] → W p l e rm_X0_make s m args below meth c H locs 0 0 Q (F0 m 34 ls []))
    (kX0 : ∀ y' : WX, r = Sum.inr y' → ∀ (H : Heap) (locs : List Loc) (ls : Array Slot), Gd s G A 153 B (entX G B y') X H locs → lv_has ls 6 [(0, .ref (B + th))] → W p l e rm_X0_make s m args below meth c H locs 0 0 Q (F0 m 154 ls [])) :
    W p l e rm_X0_make s m args below meth c H locs 0 0 Q (F0 m 87 ls [.int s2, .int s1, .ref (B + s0)]) := by
  obtain ⟨w1, hw1, hf⟩ := of_bind hf
  obtain ⟨bw1, ew1⟩ := of_stX hw1
  refine r_iast C hG (c0 := s0) (kdx_lt hs0 (by decide)) (entX_I hs0) bw1 (E' := (entX G B w1)) (by rw [ew1]; exact upX_I hs0) dX0_make_87 (fun H locs hG => ?_)
  refine lv_iconst (v := nI 0) C.1 C.2.1 dX0_make_88 (by decide) ?_
  refine lv_istore (lv' := [(5, .int (nI 0)), (0, .ref (B + th)), (4, .int x4)]) C.1 C.2.1 dX0_make_89 hl (by decide) rfl (fun ls hl => ?_)
  obtain ⟨ex2, hex2, hf⟩ := of_bind hf
  refine kl_X0_make_91 C hth FU (nI 0, w1) ex2 _ _ _ hG (lv_sub hl [1, 2, 0] rfl) hex2 (fun y e0 H locs ls hG hl => ?_)
  subst e0
  obtain ⟨v3, ev3, hf⟩ := of_letv hf
  refine lv_iinc (v := v3) (lv' := [(4, .int v3), (0, .ref (B + th))]) C.1 C.2.1 dX0_make_148 hl (k := 1) rfl (by rw [ev3, show Int32.ofInt (1) = nI 1 from by decide]) (by decide) rfl (fun ls hl => ?_)
  refine lv_goto (tgt := 34) C.1 C.2.1 dX0_make_151 (by decide) ?_
  obtain rfl := Option.some.inj hf
  exact kL _ rfl _ _ _ hG (lv_sub hl [1, 0] rfl)
set_option maxRecDepth 100000 in
set_option maxHeartbeats 4000000 in
theorem kb_X0_make_82 {th : Nat} {x4 : Int32} {s0 : Nat} {s1 : Int32} {w : WX} {r : (Int32 × WX) ⊕ ((WX))} {H : Heap} {locs : List Loc} {ls : Array Slot} (C : CX p s m args meth c cX0_make 6 RX0 wc_X0_make none) (hth : KDx th = (0, 13)) (hs0 : KDx s0 = (10, 6)) (hG : Gd s G A 153 B (entX G B w) X H locs) (hl : lv_has ls 6 [(0, .ref (B + th)), (4, .int x4)]) (hf : sh_X0_make_j82 th x4 s0 s1 w = some r)
    (kL : ∀ st' : Int32 × WX, r = Sum.inl st' → ∀ (H : Heap) (locs : List Loc) (ls : Array Slot), Gd s G A 153 B (entX G B st'.2) X H locs → lv_has ls 6 [(0, .ref (B + th)), (4, .int st'.1)] → W p l e rm_X0_make s m args below meth c H locs 0 0 Q (F0 m 34 ls []))
    (kX0 : ∀ y' : WX, r = Sum.inr y' → ∀ (H : Heap) (locs : List Loc) (ls : Array Slot), Gd s G A 153 B (entX G B y') X H locs → lv_has ls 6 [(0, .ref (B + th))] → W p l e rm_X0_make s m args below meth c H locs 0 0 Q (F0 m 154 ls [])) :
    W p l e rm_X0_make s m args below meth c H locs 0 0 Q (F0 m 82 ls [.int s1, .ref (B + s0)]) := by
  refine lv_iconst (v := nI 1) C.1 C.2.1 dX0_make_82 (by decide) ?_
  refine lv_goto (tgt := 87) C.1 C.2.1 dX0_make_83 (by decide) ?_
  exact kb_X0_make_87 C hth hs0 hG hl hf kL kX0
set_option maxRecDepth 100000 in
set_option maxHeartbeats 4000000 in
theorem kb_X0_make_34 {th : Nat} {st : Int32 × WX} {r : (Int32 × WX) ⊕ ((WX))} {H : Heap} {locs : List Loc} {ls : Array Slot} (C : CX p s m args meth c cX0_make 6 RX0 wc_X0_make none) (hth : KDx th = (0, 13)) (hG : Gd s G A 153 B (entX G B st.2) X H locs) (hl : lv_has ls 6 [(0, .ref (B + th)), (4, .int st.1)]) (hf : sh_X0_make_s34 th st = some r)
    (kL : ∀ st' : Int32 × WX, r = Sum.inl st' → ∀ (H : Heap) (locs : List Loc) (ls : Array Slot), Gd s G A 153 B (entX G B st'.2) X H locs → lv_has ls 6 [(0, .ref (B + th)), (4, .int st'.1)] → W p l e rm_X0_make s m args below meth c H locs 0 0 Q (F0 m 34 ls []))
    (kX0 : ∀ y' : WX, r = Sum.inr y' → ∀ (H : Heap) (locs : List Loc) (ls : Array Slot), Gd s G A 153 B (entX G B y') X H locs → lv_has ls 6 [(0, .ref (B + th))] → W p l e rm_X0_make s m args below meth c H locs 0 0 Q (F0 m 154 ls [])) :
    W p l e rm_X0_make s m args below meth c H locs 0 0 Q (F0 m 34 ls []) := by
  refine lv_iload C.1 C.2.1 dX0_make_34 (lv_at hl 1 rfl) ?_
  refine lv_aload_n C.1 C.2.1 dX0_make_36 rfl (lv_at hl 0 rfl) ?_
  refine gf_X0_49 C hG hth dX0_make_37 ?_
  rcases of_ite hf with ⟨c1, hf⟩ | ⟨c1, hf⟩
  · refine lv_icmp_ge (tgt := 154) C.1 C.2.1 dX0_make_40 (by decide) (fun _ => ?_) (fun q => absurd c1 q)
    obtain rfl := Option.some.inj hf
    exact kX0 _ rfl _ _ _ hG (lv_sub hl [0] rfl)
  · refine lv_icmp_ge (tgt := 154) C.1 C.2.1 dX0_make_40 (by decide) (fun q => absurd q c1) (fun _ => ?_)
    refine lv_aload_n C.1 C.2.1 dX0_make_43 rfl (lv_at hl 0 rfl) ?_
    refine gf_X0_21 C hG hth dX0_make_44 ?_
    refine lv_iload C.1 C.2.1 dX0_make_47 (lv_at hl 1 rfl) ?_
    refine lv_aload_n C.1 C.2.1 dX0_make_49 rfl (lv_at hl 0 rfl) ?_
    refine lv_iload C.1 C.2.1 dX0_make_50 (lv_at hl 1 rfl) ?_
    obtain ⟨v2, hv2, hf⟩ := of_bind hf
    refine r_callV1 C hG hl.1 (c0 := th) (As := [.int st.1]) (kdx_lt hth (by decide)) (entX_O0 hth) rfl (mt_X0_traceByKind l hth hv2) (cwV 1 C.2.2.2.2.1 (gd_V tg_2_64 tg_2_66 tgp_0 tg_1_4 tg_2_67) rfl rfl rfl cd_X0_traceByKind ⟨Nat.le_of_ble_eq_true rfl, Nat.le_of_ble_eq_true rfl⟩) rfl rfl (Nat.le_of_ble_eq_true rfl) dX0_make_52 (fun H locs hG => ?_)
    obtain ⟨w3, hw3, hf⟩ := of_bind hf
    obtain ⟨bw3, ew3⟩ := of_stX hw3
    refine r_iast C hG (c0 := (th + 4)) (kdx_lt (kx_0_7 hth) (by decide)) (entX_I (kx_0_7 hth)) bw3 (E' := (entX G B w3)) (by rw [ew3]; exact upX_I (kx_0_7 hth)) dX0_make_55 (fun H locs hG => ?_)
    refine lv_aload_n C.1 C.2.1 dX0_make_56 rfl (lv_at hl 0 rfl) ?_
    refine gf_X0_24 C hG hth dX0_make_57 ?_
    refine lv_iload C.1 C.2.1 dX0_make_60 (lv_at hl 1 rfl) ?_
    refine lv_iload C.1 C.2.1 dX0_make_62 (lv_at hl 1 rfl) ?_
    rcases of_ite hf with ⟨c4, hf⟩ | ⟨c4, hf⟩
    · refine lv_if_eq (tgt := 82) C.1 C.2.1 dX0_make_64 (by decide) (fun _ => ?_) (fun q => absurd c4 q)
      exact kb_X0_make_82 C hth (kx_0_8 hth) hG hl hf kL kX0
    · refine lv_if_eq (tgt := 82) C.1 C.2.1 dX0_make_64 (by decide) (fun q => absurd q c4) (fun _ => ?_)
      refine lv_aload_n C.1 C.2.1 dX0_make_67 rfl (lv_at hl 0 rfl) ?_
      refine gf_X0_39 C hG hth dX0_make_68 ?_
      rcases of_ite hf with ⟨c5, hf⟩ | ⟨c5, hf⟩
      · refine lv_if_eq (tgt := 82) C.1 C.2.1 dX0_make_71 (by decide) (fun _ => ?_) (fun q => absurd c5 q)
        exact kb_X0_make_82 C hth (kx_0_8 hth) hG hl hf kL kX0
      · refine lv_if_eq (tgt := 82) C.1 C.2.1 dX0_make_71 (by decide) (fun q => absurd q c5) (fun _ => ?_)
        refine lv_aload_n C.1 C.2.1 dX0_make_74 rfl (lv_at hl 0 rfl) ?_
        refine gf_X0_39 C hG hth dX0_make_75 ?_
        refine lv_iconst (v := nI 1) C.1 C.2.1 dX0_make_78 (by decide) ?_
        rcases of_ite hf with ⟨c6, hf⟩ | ⟨c6, hf⟩
        · refine lv_icmp_ne (tgt := 86) C.1 C.2.1 dX0_make_79 (by decide) (fun q => absurd c6 q) (fun _ => ?_)
          exact kb_X0_make_82 C hth (kx_0_8 hth) hG hl hf kL kX0
        · refine lv_icmp_ne (tgt := 86) C.1 C.2.1 dX0_make_79 (by decide) (fun _ => ?_) (fun q => absurd q c6)
          refine lv_iconst (v := nI 0) C.1 C.2.1 dX0_make_86 (by decide) ?_
          exact kb_X0_make_87 C hth (kx_0_8 hth) hG hl hf kL kX0
set_option maxRecDepth 100000 in
set_option maxHeartbeats 4000000 in
theorem kl_X0_make_34 {th : Nat} (C : CX p s m args meth c cX0_make 6 RX0 wc_X0_make none) (hth : KDx th = (0, 13)) : ∀ (n : Nat) (st : Int32 × WX) (x : (WX)) (H : Heap) (locs : List Loc) (ls : Array Slot), Gd s G A 153 B (entX G B st.2) X H locs → lv_has ls 6 [(0, .ref (B + th)), (4, .int st.1)] → lpw (sh_X0_make_s34 th) n st = some x →
    (∀ y' : WX, x = y' → ∀ (H : Heap) (locs : List Loc) (ls : Array Slot), Gd s G A 153 B (entX G B y') X H locs → lv_has ls 6 [(0, .ref (B + th))] → W p l e rm_X0_make s m args below meth c H locs 0 0 Q (F0 m 154 ls [])) → W p l e rm_X0_make s m args below meth c H locs 0 0 Q (F0 m 34 ls []) := by
  intro n
  induction n with
  | zero =>
    intro st x H locs ls hG hl hf
    cases hf
  | succ n ih =>
    intro st x H locs ls hG hl hf kX0
    obtain ⟨r, hr, hh⟩ := of_lpw hf
    refine kb_X0_make_34 C hth hG hl hr (fun st2 e1 H locs ls hG hl => ?_) (fun y2 e1 H locs ls hG hl => ?_)
    · rcases hh with ⟨s3, e2, hh⟩ | e2
      · rw [e2] at e1
        cases e1
        exact ih _ _ _ _ _ hG hl hh kX0
      · rw [e2] at e1
        cases e1
    · rcases hh with ⟨s3, e2, hh⟩ | e2
      · rw [e2] at e1
        cases e1
      · rw [e2] at e1
        cases e1
        exact kX0 _ rfl _ _ _ hG hl
set_option maxRecDepth 100000 in
set_option maxHeartbeats 4000000 in
theorem kb_X0_make_28 {th : Nat} {s0 : Nat} {s1 : Int32} {w : WX} {out : WX} {H : Heap} {locs : List Loc} {ls : Array Slot} (C : CX p s m args meth c cX0_make 6 RX0 wc_X0_make none) (hth : KDx th = (0, 13)) (hs0 : KDx s0 = (0, 13)) (hG : Gd s G A 153 B (entX G B w) X H locs) (hl : lv_has ls 6 [(0, .ref (B + th))]) (hf : sh_X0_make_j28 th s0 s1 w = some out) :
    W p l e rm_X0_make s m args below meth c H locs 0 0 (MQ below (CPost G A 153 B (entX G B out) X none) args s 0 0 A) (F0 m 28 ls [.int s1, .ref (B + s0)]) := by
  obtain ⟨w1, ew1, hf⟩ := of_letv hf
  refine pf_X0_49 C hG hs0 dX0_make_28 (fun H locs hG => ?_)
  rw [← ew1] at hG
  refine lv_iconst (v := nI 0) C.1 C.2.1 dX0_make_31 (by decide) ?_
  refine lv_istore (lv' := [(4, .int (nI 0)), (0, .ref (B + th))]) C.1 C.2.1 dX0_make_32 hl (by decide) rfl (fun ls hl => ?_)
  obtain ⟨ex2, hex2, hf⟩ := of_bind hf
  refine kl_X0_make_34 C hth FU (nI 0, w1) ex2 _ _ _ hG (lv_sub hl [1, 0] rfl) hex2 (fun y e0 H locs ls hG hl => ?_)
  subst e0
  refine lv_aload_n C.1 C.2.1 dX0_make_154 rfl (lv_at hl 0 rfl) ?_
  obtain ⟨w3, hw3, hf⟩ := of_bind hf
  refine r_callV0 C hG hl.1 (c0 := th) (As := []) (kdx_lt hth (by decide)) (entX_O0 hth) rfl (mt_X0_makeTurned l hth hw3) (cwV 0 C.2.2.2.2.1 (gd_V tg_2_95 tg_2_97 tgp_4 tg_1_4 tg_2_98) rfl rfl rfl cd_X0_makeTurned ⟨Nat.le_of_ble_eq_true rfl, Nat.le_of_ble_eq_true rfl⟩) rfl rfl (Nat.le_of_ble_eq_true rfl) dX0_make_155 (fun H locs hG => ?_)
  refine lv_aload_n C.1 C.2.1 dX0_make_158 rfl (lv_at hl 0 rfl) ?_
  obtain ⟨w4, hw4, hf⟩ := of_bind hf
  refine r_callV0 C hG hl.1 (c0 := th) (As := []) (kdx_lt hth (by decide)) (entX_O0 hth) rfl (mt_X0_makeHandleAndCross l hth hw4) (cwV 0 C.2.2.2.2.1 (gd_V tg_2_111 tg_2_113 tgp_5 tg_1_4 tg_2_114) rfl rfl rfl cd_X0_makeHandleAndCross ⟨Nat.le_of_ble_eq_true rfl, Nat.le_of_ble_eq_true rfl⟩) rfl rfl (Nat.le_of_ble_eq_true rfl) dX0_make_159 (fun H locs hG => ?_)
  obtain rfl := Option.some.inj hf
  exact r_vret C hG dX0_make_162
set_option maxRecDepth 100000 in
set_option maxHeartbeats 4000000 in
theorem kb_X0_make_0 {th : Nat} {x1 : Int32} {x2 : Int32} {x3 : Int32} {w : WX} {out : WX} {H : Heap} {locs : List Loc} {ls : Array Slot} (C : CX p s m args meth c cX0_make 6 RX0 wc_X0_make none) (hth : KDx th = (0, 13)) (hG : Gd s G A 153 B (entX G B w) X H locs) (hl : lv_has ls 6 [(0, .ref (B + th)), (1, .int x1), (2, .int x2), (3, .int x3)]) (hf : sh_X0_make th x1 x2 x3 w = some out) :
    W p l e rm_X0_make s m args below meth c H locs 0 0 (MQ below (CPost G A 153 B (entX G B out) X none) args s 0 0 A) (F0 m 0 ls []) := by
  refine lv_aload_n C.1 C.2.1 dX0_make_0 rfl (lv_at hl 0 rfl) ?_
  refine lv_iload_n C.1 C.2.1 dX0_make_1 rfl (lv_at hl 1 rfl) ?_
  obtain ⟨w1, ew1, hf⟩ := of_letv hf
  refine pf_X0_39 C hG hth dX0_make_2 (fun H locs hG => ?_)
  rw [← ew1] at hG
  refine lv_aload_n C.1 C.2.1 dX0_make_5 rfl (lv_at hl 0 rfl) ?_
  refine lv_iload_n C.1 C.2.1 dX0_make_6 rfl (lv_at hl 2 rfl) ?_
  obtain ⟨w2, ew2, hf⟩ := of_letv hf
  refine pf_X0_43 C hG hth dX0_make_7 (fun H locs hG => ?_)
  rw [← ew2] at hG
  refine lv_aload_n C.1 C.2.1 dX0_make_10 rfl (lv_at hl 0 rfl) ?_
  refine lv_iload_n C.1 C.2.1 dX0_make_11 rfl (lv_at hl 3 rfl) ?_
  obtain ⟨w3, ew3, hf⟩ := of_letv hf
  refine pf_X0_46 C hG hth dX0_make_12 (fun H locs hG => ?_)
  rw [← ew3] at hG
  refine lv_aload_n C.1 C.2.1 dX0_make_15 rfl (lv_at hl 0 rfl) ?_
  refine lv_iload_n C.1 C.2.1 dX0_make_16 rfl (lv_at hl 1 rfl) ?_
  refine lv_iconst (v := nI 4) C.1 C.2.1 dX0_make_17 (by decide) ?_
  rcases of_ite hf with ⟨c4, hf⟩ | ⟨c4, hf⟩
  · refine lv_icmp_ne (tgt := 27) C.1 C.2.1 dX0_make_18 (by decide) (fun q => absurd c4 q) (fun _ => ?_)
    refine lv_iconst (v := nI 1) C.1 C.2.1 dX0_make_21 (by decide) ?_
    refine lv_iload_n C.1 C.2.1 dX0_make_22 rfl (lv_at hl 2 rfl) ?_
    refine lv_ishl C.1 C.2.1 dX0_make_23 ?_
    refine lv_goto (tgt := 28) C.1 C.2.1 dX0_make_24 (by decide) ?_
    exact kb_X0_make_28 C hth hth hG (lv_sub hl [0] rfl) hf
  · refine lv_icmp_ne (tgt := 27) C.1 C.2.1 dX0_make_18 (by decide) (fun _ => ?_) (fun q => absurd q c4)
    refine lv_iload_n C.1 C.2.1 dX0_make_27 rfl (lv_at hl 2 rfl) ?_
    exact kb_X0_make_28 C hth hth hG (lv_sub hl [0] rfl) hf
set_option maxRecDepth 100000 in
set_option maxHeartbeats 4000000 in
theorem mt_X0_make (l : Launch) {G : GG} {A : Nat → Prop} {B : Nat} {X : va_W} {th : Nat} {x1 : Int32} {x2 : Int32} {x3 : Int32} {w : WX} {out : WX} (hth : KDx th = (0, 13)) (hf : sh_X0_make th x1 x2 x3 w = some out) : MetW l yX0_make wc_X0_make rm_X0_make G A 153 B (entX G B w) X [.ref (B + th), .int x1, .int x2, .int x3] none (entX G B out) := by
  refine Met.ofW (cc := cX0_make) (maxL := 6) (ret := none) (by decide) rfl ?_
  intro p e s m args below meth c s₁ B0 hml hv
  obtain ⟨rfl, hEv, hWd⟩ := hv
  have C : CX p s m _ meth c cX0_make 6 RX0 wc_X0_make none := ⟨B0.exec, B0.bytes, hml, findClass_of_methodNamed B0.named, atoms_spec (ws := wc_X0_make) B0.pre, B0.returns, B0.notSynchronized⟩
  have hl := lv_entry [.ref (B + th), .int x1, .int x2, .int x3] (n := 6) (Nat.le_of_ble_eq_true rfl)
  rw [lg_entry_eq]
  generalize (lg_sl [.ref (B + th), .int x1, .int x2, .int x3] ++ List.replicate (6 - (lg_sl [.ref (B + th), .int x1, .int x2, .int x3]).length) Slot.unset).toArray = ls at hl ⊢
  have hl : lv_has ls 6 [(0, .ref (B + th)), (1, .int x1), (2, .int x2), (3, .int x3)] := hl
  exact kb_X0_make_0 C hth ⟨hEv, hWd, va_S.rf⟩ hl hf
abbrev wc_X0_has : List Cond := Cond.code yX0_has cX0_has 2 (some .boolean) :: TG
abbrev rm_X0_has : Room := { frames := 2, cells := 0, slots := 0, locals := 100 }
theorem cd_X0_has : yX0_has.cls = RX0 ∧ yX0_has.cls ≠ "java/lang/invoke/MethodHandle" ∧ yX0_has.cls ≠ "java/lang/invoke/VarHandle" ∧ (parseMethodDescriptor yX0_has.desc).map (fun d => d.parameters.length) = some 1 := by decide +kernel
theorem dX0_has_0 : decode cX0_has 0 = .ok (.iload_n 1, 1) := by decide +kernel
theorem dX0_has_1 : decode cX0_has 1 = .ok (.ifCond .lt 15, 3) := by decide +kernel
theorem dX0_has_4 : decode cX0_has 4 = .ok (.iload_n 1, 1) := by decide +kernel
theorem dX0_has_5 : decode cX0_has 5 = .ok (.aload_n 0, 1) := by decide +kernel
theorem dX0_has_6 : decode cX0_has 6 = .ok (.getfield 49, 3) := by decide +kernel
theorem dX0_has_9 : decode cX0_has 9 = .ok (.if_icmp .ge 7, 3) := by decide +kernel
theorem dX0_has_12 : decode cX0_has 12 = .ok (.iconst 1, 1) := by decide +kernel
theorem dX0_has_13 : decode cX0_has 13 = .ok (.goto 4, 3) := by decide +kernel
theorem dX0_has_16 : decode cX0_has 16 = .ok (.iconst 0, 1) := by decide +kernel
theorem dX0_has_17 : decode cX0_has 17 = .ok (.ireturn, 1) := by decide +kernel
set_option maxRecDepth 100000 in
set_option maxHeartbeats 4000000 in
theorem kb_X0_has_0 {th : Nat} {x1 : Int32} {w : WX} {out : Int32} {H : Heap} {locs : List Loc} {ls : Array Slot} (C : CX p s m args meth c cX0_has 2 RX0 wc_X0_has (some .boolean)) (hth : KDx th = (0, 13)) (hG : Gd s G A 153 B (entX G B w) X H locs) (hl : lv_has ls 2 [(0, .ref (B + th)), (1, .int x1)]) (hf : sh_X0_has th x1 w = some out) :
    W p l e rm_X0_has s m args below meth c H locs 0 0 (MQ below (CPost G A 153 B (entX G B w) X (some (.int out))) args s 0 0 A) (F0 m 0 ls []) := by
  refine lv_iload_n C.1 C.2.1 dX0_has_0 rfl (lv_at hl 1 rfl) ?_
  rcases of_ite hf with ⟨c1, hf⟩ | ⟨c1, hf⟩
  · refine lv_if_lt (tgt := 16) C.1 C.2.1 dX0_has_1 (by decide) (fun _ => ?_) (fun q => absurd c1 q)
    refine lv_iconst (v := nI 0) C.1 C.2.1 dX0_has_16 (by decide) ?_
    obtain rfl := Option.some.inj hf
    exact r_zret C hG (Or.inl rfl) dX0_has_17
  · refine lv_if_lt (tgt := 16) C.1 C.2.1 dX0_has_1 (by decide) (fun q => absurd q c1) (fun _ => ?_)
    refine lv_iload_n C.1 C.2.1 dX0_has_4 rfl (lv_at hl 1 rfl) ?_
    refine lv_aload_n C.1 C.2.1 dX0_has_5 rfl (lv_at hl 0 rfl) ?_
    refine gf_X0_49 C hG hth dX0_has_6 ?_
    rcases of_ite hf with ⟨c2, hf⟩ | ⟨c2, hf⟩
    · refine lv_icmp_ge (tgt := 16) C.1 C.2.1 dX0_has_9 (by decide) (fun _ => ?_) (fun q => absurd c2 q)
      refine lv_iconst (v := nI 0) C.1 C.2.1 dX0_has_16 (by decide) ?_
      obtain rfl := Option.some.inj hf
      exact r_zret C hG (Or.inl rfl) dX0_has_17
    · refine lv_icmp_ge (tgt := 16) C.1 C.2.1 dX0_has_9 (by decide) (fun q => absurd q c2) (fun _ => ?_)
      refine lv_iconst (v := nI 1) C.1 C.2.1 dX0_has_12 (by decide) ?_
      refine lv_goto (tgt := 17) C.1 C.2.1 dX0_has_13 (by decide) ?_
      obtain rfl := Option.some.inj hf
      exact r_zret C hG (Or.inr rfl) dX0_has_17
set_option maxRecDepth 100000 in
set_option maxHeartbeats 4000000 in
theorem mt_X0_has (l : Launch) {G : GG} {A : Nat → Prop} {B : Nat} {X : va_W} {th : Nat} {x1 : Int32} {w : WX} {out : Int32} (hth : KDx th = (0, 13)) (hf : sh_X0_has th x1 w = some out) : MetW l yX0_has wc_X0_has rm_X0_has G A 153 B (entX G B w) X [.ref (B + th), .int x1] (some (.int out)) (entX G B w) := by
  refine Met.ofW (cc := cX0_has) (maxL := 2) (ret := (some .boolean)) (by decide) rfl ?_
  intro p e s m args below meth c s₁ B0 hml hv
  obtain ⟨rfl, hEv, hWd⟩ := hv
  have C : CX p s m _ meth c cX0_has 2 RX0 wc_X0_has (some .boolean) := ⟨B0.exec, B0.bytes, hml, findClass_of_methodNamed B0.named, atoms_spec (ws := wc_X0_has) B0.pre, B0.returns, B0.notSynchronized⟩
  have hl := lv_entry [.ref (B + th), .int x1] (n := 2) (Nat.le_of_ble_eq_true rfl)
  rw [lg_entry_eq]
  generalize (lg_sl [.ref (B + th), .int x1] ++ List.replicate (2 - (lg_sl [.ref (B + th), .int x1]).length) Slot.unset).toArray = ls at hl ⊢
  have hl : lv_has ls 2 [(0, .ref (B + th)), (1, .int x1)] := hl
  exact kb_X0_has_0 C hth ⟨hEv, hWd, va_S.rf⟩ hl hf
abbrev wc_X0_timesInProduct : List Cond := Cond.code yX0_timesInProduct cX0_timesInProduct 4 (some .int) :: TG
abbrev rm_X0_timesInProduct : Room := { frames := 3, cells := 0, slots := 0, locals := 122 }
theorem cd_X0_timesInProduct : yX0_timesInProduct.cls = RX0 ∧ yX0_timesInProduct.cls ≠ "java/lang/invoke/MethodHandle" ∧ yX0_timesInProduct.cls ≠ "java/lang/invoke/VarHandle" ∧ (parseMethodDescriptor yX0_timesInProduct.desc).map (fun d => d.parameters.length) = some 3 := by decide +kernel
theorem dX0_timesInProduct_0 : decode cX0_timesInProduct 0 = .ok (.aload_n 0, 1) := by decide +kernel
theorem dX0_timesInProduct_1 : decode cX0_timesInProduct 1 = .ok (.getfield 9, 3) := by decide +kernel
theorem dX0_timesInProduct_4 : decode cX0_timesInProduct 4 = .ok (.aload_n 0, 1) := by decide +kernel
theorem dX0_timesInProduct_5 : decode cX0_timesInProduct 5 = .ok (.iload_n 1, 1) := by decide +kernel
theorem dX0_timesInProduct_6 : decode cX0_timesInProduct 6 = .ok (.iload_n 2, 1) := by decide +kernel
theorem dX0_timesInProduct_7 : decode cX0_timesInProduct 7 = .ok (.invokevirtual 56, 3) := by decide +kernel
theorem dX0_timesInProduct_10 : decode cX0_timesInProduct 10 = .ok (.iaload, 1) := by decide +kernel
theorem dX0_timesInProduct_11 : decode cX0_timesInProduct 11 = .ok (.iload_n 3, 1) := by decide +kernel
theorem dX0_timesInProduct_12 : decode cX0_timesInProduct 12 = .ok (.if_icmp .ne 17, 3) := by decide +kernel
theorem dX0_timesInProduct_15 : decode cX0_timesInProduct 15 = .ok (.aload_n 0, 1) := by decide +kernel
theorem dX0_timesInProduct_16 : decode cX0_timesInProduct 16 = .ok (.getfield 15, 3) := by decide +kernel
theorem dX0_timesInProduct_19 : decode cX0_timesInProduct 19 = .ok (.aload_n 0, 1) := by decide +kernel
theorem dX0_timesInProduct_20 : decode cX0_timesInProduct 20 = .ok (.iload_n 1, 1) := by decide +kernel
theorem dX0_timesInProduct_21 : decode cX0_timesInProduct 21 = .ok (.iload_n 2, 1) := by decide +kernel
theorem dX0_timesInProduct_22 : decode cX0_timesInProduct 22 = .ok (.invokevirtual 56, 3) := by decide +kernel
theorem dX0_timesInProduct_25 : decode cX0_timesInProduct 25 = .ok (.iaload, 1) := by decide +kernel
theorem dX0_timesInProduct_26 : decode cX0_timesInProduct 26 = .ok (.goto 4, 3) := by decide +kernel
theorem dX0_timesInProduct_29 : decode cX0_timesInProduct 29 = .ok (.iconst 0, 1) := by decide +kernel
theorem dX0_timesInProduct_30 : decode cX0_timesInProduct 30 = .ok (.ireturn, 1) := by decide +kernel
set_option maxRecDepth 100000 in
set_option maxHeartbeats 4000000 in
theorem kb_X0_timesInProduct_0 {th : Nat} {x1 : Int32} {x2 : Int32} {x3 : Int32} {w : WX} {out : Int32} {H : Heap} {locs : List Loc} {ls : Array Slot} (C : CX p s m args meth c cX0_timesInProduct 4 RX0 wc_X0_timesInProduct (some .int)) (hth : KDx th = (0, 13)) (hG : Gd s G A 153 B (entX G B w) X H locs) (hl : lv_has ls 4 [(0, .ref (B + th)), (1, .int x1), (2, .int x2), (3, .int x3)]) (hf : sh_X0_timesInProduct th x1 x2 x3 w = some out) :
    W p l e rm_X0_timesInProduct s m args below meth c H locs 0 0 (MQ below (CPost G A 153 B (entX G B w) X (some (.int out))) args s 0 0 A) (F0 m 0 ls []) := by
  refine lv_aload_n C.1 C.2.1 dX0_timesInProduct_0 rfl (lv_at hl 0 rfl) ?_
  refine gf_X0_9 C hG hth dX0_timesInProduct_1 ?_
  refine lv_aload_n C.1 C.2.1 dX0_timesInProduct_4 rfl (lv_at hl 0 rfl) ?_
  refine lv_iload_n C.1 C.2.1 dX0_timesInProduct_5 rfl (lv_at hl 1 rfl) ?_
  refine lv_iload_n C.1 C.2.1 dX0_timesInProduct_6 rfl (lv_at hl 2 rfl) ?_
  obtain ⟨v1, hv1, hf⟩ := of_bind hf
  refine r_callV1 C hG hl.1 (c0 := th) (As := [.int x1, .int x2]) (kdx_lt hth (by decide)) (entX_O0 hth) rfl (mt_X0_at l hth hv1) (cwV 2 C.2.2.2.2.1 (gd_V tg_2_68 tg_2_70 tgp_1 tg_1_4 tg_2_71) rfl rfl rfl cd_X0_at ⟨Nat.le_of_ble_eq_true rfl, Nat.le_of_ble_eq_true rfl⟩) rfl rfl (Nat.le_of_ble_eq_true rfl) dX0_timesInProduct_7 (fun H locs hG => ?_)
  obtain ⟨v2, hv2, hf⟩ := of_bind hf
  obtain ⟨bv2, ev2⟩ := of_ldS hv2
  refine r_iald C hG (c0 := (th + 1)) (kdx_lt (kx_0_4 hth) (by decide)) (entX_I (kx_0_4 hth)) bv2 dX0_timesInProduct_10 ?_
  refine r_top ev2 ?_
  refine lv_iload_n C.1 C.2.1 dX0_timesInProduct_11 rfl (lv_at hl 3 rfl) ?_
  rcases of_ite hf with ⟨c3, hf⟩ | ⟨c3, hf⟩
  · refine lv_icmp_ne (tgt := 29) C.1 C.2.1 dX0_timesInProduct_12 (by decide) (fun q => absurd c3 q) (fun _ => ?_)
    refine lv_aload_n C.1 C.2.1 dX0_timesInProduct_15 rfl (lv_at hl 0 rfl) ?_
    refine gf_X0_15 C hG hth dX0_timesInProduct_16 ?_
    refine lv_aload_n C.1 C.2.1 dX0_timesInProduct_19 rfl (lv_at hl 0 rfl) ?_
    refine lv_iload_n C.1 C.2.1 dX0_timesInProduct_20 rfl (lv_at hl 1 rfl) ?_
    refine lv_iload_n C.1 C.2.1 dX0_timesInProduct_21 rfl (lv_at hl 2 rfl) ?_
    obtain ⟨v4, hv4, hf⟩ := of_bind hf
    refine r_callV1 C hG hl.1 (c0 := th) (As := [.int x1, .int x2]) (kdx_lt hth (by decide)) (entX_O0 hth) rfl (mt_X0_at l hth hv4) (cwV 2 C.2.2.2.2.1 (gd_V tg_2_68 tg_2_70 tgp_1 tg_1_4 tg_2_71) rfl rfl rfl cd_X0_at ⟨Nat.le_of_ble_eq_true rfl, Nat.le_of_ble_eq_true rfl⟩) rfl rfl (Nat.le_of_ble_eq_true rfl) dX0_timesInProduct_22 (fun H locs hG => ?_)
    obtain ⟨v5, hv5, hf⟩ := of_bind hf
    obtain ⟨bv5, ev5⟩ := of_ldS hv5
    refine r_iald C hG (c0 := (th + 2)) (kdx_lt (kx_0_5 hth) (by decide)) (entX_I (kx_0_5 hth)) bv5 dX0_timesInProduct_25 ?_
    refine r_top ev5 ?_
    refine lv_goto (tgt := 30) C.1 C.2.1 dX0_timesInProduct_26 (by decide) ?_
    obtain rfl := Option.some.inj hf
    exact r_iret C hG dX0_timesInProduct_30
  · refine lv_icmp_ne (tgt := 29) C.1 C.2.1 dX0_timesInProduct_12 (by decide) (fun _ => ?_) (fun q => absurd q c3)
    refine lv_iconst (v := nI 0) C.1 C.2.1 dX0_timesInProduct_29 (by decide) ?_
    obtain rfl := Option.some.inj hf
    exact r_iret C hG dX0_timesInProduct_30
set_option maxRecDepth 100000 in
set_option maxHeartbeats 4000000 in
theorem mt_X0_timesInProduct (l : Launch) {G : GG} {A : Nat → Prop} {B : Nat} {X : va_W} {th : Nat} {x1 : Int32} {x2 : Int32} {x3 : Int32} {w : WX} {out : Int32} (hth : KDx th = (0, 13)) (hf : sh_X0_timesInProduct th x1 x2 x3 w = some out) : MetW l yX0_timesInProduct wc_X0_timesInProduct rm_X0_timesInProduct G A 153 B (entX G B w) X [.ref (B + th), .int x1, .int x2, .int x3] (some (.int out)) (entX G B w) := by
  refine Met.ofW (cc := cX0_timesInProduct) (maxL := 4) (ret := (some .int)) (by decide) rfl ?_
  intro p e s m args below meth c s₁ B0 hml hv
  obtain ⟨rfl, hEv, hWd⟩ := hv
  have C : CX p s m _ meth c cX0_timesInProduct 4 RX0 wc_X0_timesInProduct (some .int) := ⟨B0.exec, B0.bytes, hml, findClass_of_methodNamed B0.named, atoms_spec (ws := wc_X0_timesInProduct) B0.pre, B0.returns, B0.notSynchronized⟩
  have hl := lv_entry [.ref (B + th), .int x1, .int x2, .int x3] (n := 4) (Nat.le_of_ble_eq_true rfl)
  rw [lg_entry_eq]
  generalize (lg_sl [.ref (B + th), .int x1, .int x2, .int x3] ++ List.replicate (4 - (lg_sl [.ref (B + th), .int x1, .int x2, .int x3]).length) Slot.unset).toArray = ls at hl ⊢
  have hl : lv_has ls 4 [(0, .ref (B + th)), (1, .int x1), (2, .int x2), (3, .int x3)] := hl
  exact kb_X0_timesInProduct_0 C hth ⟨hEv, hWd, va_S.rf⟩ hl hf
abbrev wc_X0_turnedOf : List Cond := Cond.code yX0_turnedOf cX0_turnedOf 3 (some .int) :: TG
abbrev rm_X0_turnedOf : Room := { frames := 3, cells := 0, slots := 0, locals := 122 }
theorem cd_X0_turnedOf : yX0_turnedOf.cls = RX0 ∧ yX0_turnedOf.cls ≠ "java/lang/invoke/MethodHandle" ∧ yX0_turnedOf.cls ≠ "java/lang/invoke/VarHandle" ∧ (parseMethodDescriptor yX0_turnedOf.desc).map (fun d => d.parameters.length) = some 2 := by decide +kernel
theorem dX0_turnedOf_0 : decode cX0_turnedOf 0 = .ok (.aload_n 0, 1) := by decide +kernel
theorem dX0_turnedOf_1 : decode cX0_turnedOf 1 = .ok (.getfield 18, 3) := by decide +kernel
theorem dX0_turnedOf_4 : decode cX0_turnedOf 4 = .ok (.aload_n 0, 1) := by decide +kernel
theorem dX0_turnedOf_5 : decode cX0_turnedOf 5 = .ok (.iload_n 1, 1) := by decide +kernel
theorem dX0_turnedOf_6 : decode cX0_turnedOf 6 = .ok (.iload_n 2, 1) := by decide +kernel
theorem dX0_turnedOf_7 : decode cX0_turnedOf 7 = .ok (.invokevirtual 56, 3) := by decide +kernel
theorem dX0_turnedOf_10 : decode cX0_turnedOf 10 = .ok (.iaload, 1) := by decide +kernel
theorem dX0_turnedOf_11 : decode cX0_turnedOf 11 = .ok (.ireturn, 1) := by decide +kernel
set_option maxRecDepth 100000 in
set_option maxHeartbeats 4000000 in
theorem kb_X0_turnedOf_0 {th : Nat} {x1 : Int32} {x2 : Int32} {w : WX} {out : Int32} {H : Heap} {locs : List Loc} {ls : Array Slot} (C : CX p s m args meth c cX0_turnedOf 3 RX0 wc_X0_turnedOf (some .int)) (hth : KDx th = (0, 13)) (hG : Gd s G A 153 B (entX G B w) X H locs) (hl : lv_has ls 3 [(0, .ref (B + th)), (1, .int x1), (2, .int x2)]) (hf : sh_X0_turnedOf th x1 x2 w = some out) :
    W p l e rm_X0_turnedOf s m args below meth c H locs 0 0 (MQ below (CPost G A 153 B (entX G B w) X (some (.int out))) args s 0 0 A) (F0 m 0 ls []) := by
  refine lv_aload_n C.1 C.2.1 dX0_turnedOf_0 rfl (lv_at hl 0 rfl) ?_
  refine gf_X0_18 C hG hth dX0_turnedOf_1 ?_
  refine lv_aload_n C.1 C.2.1 dX0_turnedOf_4 rfl (lv_at hl 0 rfl) ?_
  refine lv_iload_n C.1 C.2.1 dX0_turnedOf_5 rfl (lv_at hl 1 rfl) ?_
  refine lv_iload_n C.1 C.2.1 dX0_turnedOf_6 rfl (lv_at hl 2 rfl) ?_
  obtain ⟨v1, hv1, hf⟩ := of_bind hf
  refine r_callV1 C hG hl.1 (c0 := th) (As := [.int x1, .int x2]) (kdx_lt hth (by decide)) (entX_O0 hth) rfl (mt_X0_at l hth hv1) (cwV 2 C.2.2.2.2.1 (gd_V tg_2_68 tg_2_70 tgp_1 tg_1_4 tg_2_71) rfl rfl rfl cd_X0_at ⟨Nat.le_of_ble_eq_true rfl, Nat.le_of_ble_eq_true rfl⟩) rfl rfl (Nat.le_of_ble_eq_true rfl) dX0_turnedOf_7 (fun H locs hG => ?_)
  obtain ⟨v2, hv2, hf⟩ := of_bind hf
  obtain ⟨bv2, ev2⟩ := of_ldS hv2
  refine r_iald C hG (c0 := (th + 3)) (kdx_lt (kx_0_6 hth) (by decide)) (entX_I (kx_0_6 hth)) bv2 dX0_turnedOf_10 ?_
  refine r_top ev2 ?_
  obtain rfl := Option.some.inj hf
  exact r_iret C hG dX0_turnedOf_11
set_option maxRecDepth 100000 in
set_option maxHeartbeats 4000000 in
theorem mt_X0_turnedOf (l : Launch) {G : GG} {A : Nat → Prop} {B : Nat} {X : va_W} {th : Nat} {x1 : Int32} {x2 : Int32} {w : WX} {out : Int32} (hth : KDx th = (0, 13)) (hf : sh_X0_turnedOf th x1 x2 w = some out) : MetW l yX0_turnedOf wc_X0_turnedOf rm_X0_turnedOf G A 153 B (entX G B w) X [.ref (B + th), .int x1, .int x2] (some (.int out)) (entX G B w) := by
  refine Met.ofW (cc := cX0_turnedOf) (maxL := 3) (ret := (some .int)) (by decide) rfl ?_
  intro p e s m args below meth c s₁ B0 hml hv
  obtain ⟨rfl, hEv, hWd⟩ := hv
  have C : CX p s m _ meth c cX0_turnedOf 3 RX0 wc_X0_turnedOf (some .int) := ⟨B0.exec, B0.bytes, hml, findClass_of_methodNamed B0.named, atoms_spec (ws := wc_X0_turnedOf) B0.pre, B0.returns, B0.notSynchronized⟩
  have hl := lv_entry [.ref (B + th), .int x1, .int x2] (n := 3) (Nat.le_of_ble_eq_true rfl)
  rw [lg_entry_eq]
  generalize (lg_sl [.ref (B + th), .int x1, .int x2] ++ List.replicate (3 - (lg_sl [.ref (B + th), .int x1, .int x2]).length) Slot.unset).toArray = ls at hl ⊢
  have hl : lv_has ls 3 [(0, .ref (B + th)), (1, .int x1), (2, .int x2)] := hl
  exact kb_X0_turnedOf_0 C hth ⟨hEv, hWd, va_S.rf⟩ hl hf
abbrev wc_X0_timesInSplit : List Cond := Cond.code yX0_timesInSplit cX0_timesInSplit 6 (some .int) :: TG
abbrev rm_X0_timesInSplit : Room := { frames := 3, cells := 0, slots := 0, locals := 122 }
theorem cd_X0_timesInSplit : yX0_timesInSplit.cls = RX0 ∧ yX0_timesInSplit.cls ≠ "java/lang/invoke/MethodHandle" ∧ yX0_timesInSplit.cls ≠ "java/lang/invoke/VarHandle" ∧ (parseMethodDescriptor yX0_timesInSplit.desc).map (fun d => d.parameters.length) = some 3 := by decide +kernel
theorem dX0_timesInSplit_0 : decode cX0_timesInSplit 0 = .ok (.iconst 0, 1) := by decide +kernel
theorem dX0_timesInSplit_1 : decode cX0_timesInSplit 1 = .ok (.istore 4, 2) := by decide +kernel
theorem dX0_timesInSplit_3 : decode cX0_timesInSplit 3 = .ok (.iconst 0, 1) := by decide +kernel
theorem dX0_timesInSplit_4 : decode cX0_timesInSplit 4 = .ok (.istore 5, 2) := by decide +kernel
theorem dX0_timesInSplit_6 : decode cX0_timesInSplit 6 = .ok (.iload 5, 2) := by decide +kernel
theorem dX0_timesInSplit_8 : decode cX0_timesInSplit 8 = .ok (.aload_n 0, 1) := by decide +kernel
theorem dX0_timesInSplit_9 : decode cX0_timesInSplit 9 = .ok (.getfield 49, 3) := by decide +kernel
theorem dX0_timesInSplit_12 : decode cX0_timesInSplit 12 = .ok (.if_icmp .ge 56, 3) := by decide +kernel
theorem dX0_timesInSplit_15 : decode cX0_timesInSplit 15 = .ok (.aload_n 0, 1) := by decide +kernel
theorem dX0_timesInSplit_16 : decode cX0_timesInSplit 16 = .ok (.getfield 9, 3) := by decide +kernel
theorem dX0_timesInSplit_19 : decode cX0_timesInSplit 19 = .ok (.aload_n 0, 1) := by decide +kernel
theorem dX0_timesInSplit_20 : decode cX0_timesInSplit 20 = .ok (.iload_n 1, 1) := by decide +kernel
theorem dX0_timesInSplit_21 : decode cX0_timesInSplit 21 = .ok (.iload 5, 2) := by decide +kernel
theorem dX0_timesInSplit_23 : decode cX0_timesInSplit 23 = .ok (.invokevirtual 56, 3) := by decide +kernel
theorem dX0_timesInSplit_26 : decode cX0_timesInSplit 26 = .ok (.iaload, 1) := by decide +kernel
theorem dX0_timesInSplit_27 : decode cX0_timesInSplit 27 = .ok (.iload_n 2, 1) := by decide +kernel
theorem dX0_timesInSplit_28 : decode cX0_timesInSplit 28 = .ok (.if_icmp .ne 34, 3) := by decide +kernel
theorem dX0_timesInSplit_31 : decode cX0_timesInSplit 31 = .ok (.iload 4, 2) := by decide +kernel
theorem dX0_timesInSplit_33 : decode cX0_timesInSplit 33 = .ok (.aload_n 0, 1) := by decide +kernel
theorem dX0_timesInSplit_34 : decode cX0_timesInSplit 34 = .ok (.getfield 18, 3) := by decide +kernel
theorem dX0_timesInSplit_37 : decode cX0_timesInSplit 37 = .ok (.aload_n 0, 1) := by decide +kernel
theorem dX0_timesInSplit_38 : decode cX0_timesInSplit 38 = .ok (.iload 5, 2) := by decide +kernel
theorem dX0_timesInSplit_40 : decode cX0_timesInSplit 40 = .ok (.iload_n 3, 1) := by decide +kernel
theorem dX0_timesInSplit_41 : decode cX0_timesInSplit 41 = .ok (.invokevirtual 56, 3) := by decide +kernel
theorem dX0_timesInSplit_44 : decode cX0_timesInSplit 44 = .ok (.iaload, 1) := by decide +kernel
theorem dX0_timesInSplit_45 : decode cX0_timesInSplit 45 = .ok (.aload_n 0, 1) := by decide +kernel
theorem dX0_timesInSplit_46 : decode cX0_timesInSplit 46 = .ok (.getfield 15, 3) := by decide +kernel
theorem dX0_timesInSplit_49 : decode cX0_timesInSplit 49 = .ok (.aload_n 0, 1) := by decide +kernel
theorem dX0_timesInSplit_50 : decode cX0_timesInSplit 50 = .ok (.iload_n 1, 1) := by decide +kernel
theorem dX0_timesInSplit_51 : decode cX0_timesInSplit 51 = .ok (.iload 5, 2) := by decide +kernel
theorem dX0_timesInSplit_53 : decode cX0_timesInSplit 53 = .ok (.invokevirtual 56, 3) := by decide +kernel
theorem dX0_timesInSplit_56 : decode cX0_timesInSplit 56 = .ok (.iaload, 1) := by decide +kernel
theorem dX0_timesInSplit_57 : decode cX0_timesInSplit 57 = .ok (.invokestatic 94, 3) := by decide +kernel
theorem dX0_timesInSplit_60 : decode cX0_timesInSplit 60 = .ok (.istore 4, 2) := by decide +kernel
theorem dX0_timesInSplit_62 : decode cX0_timesInSplit 62 = .ok (.iinc 5 1, 3) := by decide +kernel
theorem dX0_timesInSplit_65 : decode cX0_timesInSplit 65 = .ok (.goto (-59), 3) := by decide +kernel
theorem dX0_timesInSplit_68 : decode cX0_timesInSplit 68 = .ok (.iload 4, 2) := by decide +kernel
theorem dX0_timesInSplit_70 : decode cX0_timesInSplit 70 = .ok (.ireturn, 1) := by decide +kernel
set_option maxRecDepth 100000 in
set_option maxHeartbeats 4000000 in
theorem kb_X0_timesInSplit_6 {th : Nat} {x1 : Int32} {x2 : Int32} {x3 : Int32} {w : WX} {st : Int32 × Int32} {r : (Int32 × Int32) ⊕ ((Int32))} {H : Heap} {locs : List Loc} {ls : Array Slot} (C : CX p s m args meth c cX0_timesInSplit 6 RX0 wc_X0_timesInSplit (some .int)) (hth : KDx th = (0, 13)) (hG : Gd s G A 153 B (entX G B w) X H locs) (hl : lv_has ls 6 [(0, .ref (B + th)), (1, .int x1), (2, .int x2), (3, .int x3), (4, .int st.1), (5, .int st.2)]) (hf : sh_X0_timesInSplit_s6 th x1 x2 x3 w st = some r)
    (kL : ∀ st' : Int32 × Int32, r = Sum.inl st' → ∀ (H : Heap) (locs : List Loc) (ls : Array Slot), Gd s G A 153 B (entX G B w) X H locs → lv_has ls 6 [(0, .ref (B + th)), (1, .int x1), (2, .int x2), (3, .int x3), (4, .int st'.1), (5, .int st'.2)] → W p l e rm_X0_timesInSplit s m args below meth c H locs 0 0 Q (F0 m 6 ls []))
    (kX0 : ∀ y' : Int32, r = Sum.inr y' → ∀ (H : Heap) (locs : List Loc) (ls : Array Slot), Gd s G A 153 B (entX G B w) X H locs → lv_has ls 6 [(4, .int y')] → W p l e rm_X0_timesInSplit s m args below meth c H locs 0 0 Q (F0 m 68 ls [])) :
    W p l e rm_X0_timesInSplit s m args below meth c H locs 0 0 Q (F0 m 6 ls []) := by
  refine lv_iload C.1 C.2.1 dX0_timesInSplit_6 (lv_at hl 5 rfl) ?_
  refine lv_aload_n C.1 C.2.1 dX0_timesInSplit_8 rfl (lv_at hl 0 rfl) ?_
  refine gf_X0_49 C hG hth dX0_timesInSplit_9 ?_
  rcases of_ite hf with ⟨c1, hf⟩ | ⟨c1, hf⟩
  · refine lv_icmp_ge (tgt := 68) C.1 C.2.1 dX0_timesInSplit_12 (by decide) (fun _ => ?_) (fun q => absurd c1 q)
    obtain rfl := Option.some.inj hf
    exact kX0 _ rfl _ _ _ hG (lv_sub hl [4] rfl)
  · refine lv_icmp_ge (tgt := 68) C.1 C.2.1 dX0_timesInSplit_12 (by decide) (fun q => absurd q c1) (fun _ => ?_)
    refine lv_aload_n C.1 C.2.1 dX0_timesInSplit_15 rfl (lv_at hl 0 rfl) ?_
    refine gf_X0_9 C hG hth dX0_timesInSplit_16 ?_
    refine lv_aload_n C.1 C.2.1 dX0_timesInSplit_19 rfl (lv_at hl 0 rfl) ?_
    refine lv_iload_n C.1 C.2.1 dX0_timesInSplit_20 rfl (lv_at hl 1 rfl) ?_
    refine lv_iload C.1 C.2.1 dX0_timesInSplit_21 (lv_at hl 5 rfl) ?_
    obtain ⟨v2, hv2, hf⟩ := of_bind hf
    refine r_callV1 C hG hl.1 (c0 := th) (As := [.int x1, .int st.2]) (kdx_lt hth (by decide)) (entX_O0 hth) rfl (mt_X0_at l hth hv2) (cwV 2 C.2.2.2.2.1 (gd_V tg_2_68 tg_2_70 tgp_1 tg_1_4 tg_2_71) rfl rfl rfl cd_X0_at ⟨Nat.le_of_ble_eq_true rfl, Nat.le_of_ble_eq_true rfl⟩) rfl rfl (Nat.le_of_ble_eq_true rfl) dX0_timesInSplit_23 (fun H locs hG => ?_)
    obtain ⟨v3, hv3, hf⟩ := of_bind hf
    obtain ⟨bv3, ev3⟩ := of_ldS hv3
    refine r_iald C hG (c0 := (th + 1)) (kdx_lt (kx_0_4 hth) (by decide)) (entX_I (kx_0_4 hth)) bv3 dX0_timesInSplit_26 ?_
    refine r_top ev3 ?_
    refine lv_iload_n C.1 C.2.1 dX0_timesInSplit_27 rfl (lv_at hl 2 rfl) ?_
    rcases of_ite hf with ⟨c4, hf⟩ | ⟨c4, hf⟩
    · refine lv_icmp_ne (tgt := 62) C.1 C.2.1 dX0_timesInSplit_28 (by decide) (fun q => absurd c4 q) (fun _ => ?_)
      refine lv_iload C.1 C.2.1 dX0_timesInSplit_31 (lv_at hl 4 rfl) ?_
      refine lv_aload_n C.1 C.2.1 dX0_timesInSplit_33 rfl (lv_at hl 0 rfl) ?_
      refine gf_X0_18 C hG hth dX0_timesInSplit_34 ?_
      refine lv_aload_n C.1 C.2.1 dX0_timesInSplit_37 rfl (lv_at hl 0 rfl) ?_
      refine lv_iload C.1 C.2.1 dX0_timesInSplit_38 (lv_at hl 5 rfl) ?_
      refine lv_iload_n C.1 C.2.1 dX0_timesInSplit_40 rfl (lv_at hl 3 rfl) ?_
      obtain ⟨v6, hv6, hf⟩ := of_bind hf
      refine r_callV1 C hG hl.1 (c0 := th) (As := [.int st.2, .int x3]) (kdx_lt hth (by decide)) (entX_O0 hth) rfl (mt_X0_at l hth hv6) (cwV 2 C.2.2.2.2.1 (gd_V tg_2_68 tg_2_70 tgp_1 tg_1_4 tg_2_71) rfl rfl rfl cd_X0_at ⟨Nat.le_of_ble_eq_true rfl, Nat.le_of_ble_eq_true rfl⟩) rfl rfl (Nat.le_of_ble_eq_true rfl) dX0_timesInSplit_41 (fun H locs hG => ?_)
      obtain ⟨v7, hv7, hf⟩ := of_bind hf
      obtain ⟨bv7, ev7⟩ := of_ldS hv7
      refine r_iald C hG (c0 := (th + 3)) (kdx_lt (kx_0_6 hth) (by decide)) (entX_I (kx_0_6 hth)) bv7 dX0_timesInSplit_44 ?_
      refine r_top ev7 ?_
      refine lv_aload_n C.1 C.2.1 dX0_timesInSplit_45 rfl (lv_at hl 0 rfl) ?_
      refine gf_X0_15 C hG hth dX0_timesInSplit_46 ?_
      refine lv_aload_n C.1 C.2.1 dX0_timesInSplit_49 rfl (lv_at hl 0 rfl) ?_
      refine lv_iload_n C.1 C.2.1 dX0_timesInSplit_50 rfl (lv_at hl 1 rfl) ?_
      refine lv_iload C.1 C.2.1 dX0_timesInSplit_51 (lv_at hl 5 rfl) ?_
      obtain ⟨v8, hv8, hf⟩ := of_bind hf
      refine r_callV1 C hG hl.1 (c0 := th) (As := [.int x1, .int st.2]) (kdx_lt hth (by decide)) (entX_O0 hth) rfl (mt_X0_at l hth hv8) (cwV 2 C.2.2.2.2.1 (gd_V tg_2_68 tg_2_70 tgp_1 tg_1_4 tg_2_71) rfl rfl rfl cd_X0_at ⟨Nat.le_of_ble_eq_true rfl, Nat.le_of_ble_eq_true rfl⟩) rfl rfl (Nat.le_of_ble_eq_true rfl) dX0_timesInSplit_53 (fun H locs hG => ?_)
      obtain ⟨v9, hv9, hf⟩ := of_bind hf
      obtain ⟨bv9, ev9⟩ := of_ldS hv9
      refine r_iald C hG (c0 := (th + 2)) (kdx_lt (kx_0_5 hth) (by decide)) (entX_I (kx_0_5 hth)) bv9 dX0_timesInSplit_56 ?_
      refine r_top ev9 ?_
      obtain ⟨v10, hv10, hf⟩ := of_bind hf
      refine r_callSN1 C hG hl.1 (As := [.int st.1, .int v7, .int v9]) (mt_X8_plusTimes l  hv10) (va_cnB 3 C.2.2.2.2.1 (gd_all tg_2_105) rfl rfl rfl (hG.1.2.1 _ nn_51) (C.2.2.2.2.1 _ (List.mem_cons_of_mem _ tg_1_1)) cd_X8_plusTimes.2 ⟨Nat.le_of_ble_eq_true rfl, Nat.le_of_ble_eq_true rfl⟩) (C.2.2.2.2.1 _ (List.mem_cons_of_mem _ tg_2_104)) rfl rfl (Nat.le_of_ble_eq_true rfl) dX0_timesInSplit_57 (fun H locs hG => ?_)
      refine lv_istore (lv' := [(4, .int v10), (0, .ref (B + th)), (1, .int x1), (2, .int x2), (3, .int x3), (5, .int st.2)]) C.1 C.2.1 dX0_timesInSplit_60 hl (by decide) rfl (fun ls hl => ?_)
      obtain ⟨v11, ev11, hf⟩ := of_letv hf
      refine lv_iinc (v := v11) (lv' := [(5, .int v11), (4, .int v10), (0, .ref (B + th)), (1, .int x1), (2, .int x2), (3, .int x3)]) C.1 C.2.1 dX0_timesInSplit_62 hl (k := 5) rfl (by rw [ev11, show Int32.ofInt (1) = nI 1 from by decide]) (by decide) rfl (fun ls hl => ?_)
      refine lv_goto (tgt := 6) C.1 C.2.1 dX0_timesInSplit_65 (by decide) ?_
      obtain rfl := Option.some.inj hf
      exact kL _ rfl _ _ _ hG (lv_sub hl [2, 3, 4, 5, 1, 0] rfl)
    · refine lv_icmp_ne (tgt := 62) C.1 C.2.1 dX0_timesInSplit_28 (by decide) (fun _ => ?_) (fun q => absurd q c4)
      obtain ⟨v5, ev5, hf⟩ := of_letv hf
      refine lv_iinc (v := v5) (lv' := [(5, .int v5), (0, .ref (B + th)), (1, .int x1), (2, .int x2), (3, .int x3), (4, .int st.1)]) C.1 C.2.1 dX0_timesInSplit_62 hl (k := 5) rfl (by rw [ev5, show Int32.ofInt (1) = nI 1 from by decide]) (by decide) rfl (fun ls hl => ?_)
      refine lv_goto (tgt := 6) C.1 C.2.1 dX0_timesInSplit_65 (by decide) ?_
      obtain rfl := Option.some.inj hf
      exact kL _ rfl _ _ _ hG (lv_sub hl [1, 2, 3, 4, 5, 0] rfl)
set_option maxRecDepth 100000 in
set_option maxHeartbeats 4000000 in
theorem kl_X0_timesInSplit_6 {th : Nat} {x1 : Int32} {x2 : Int32} {x3 : Int32} {w : WX} (C : CX p s m args meth c cX0_timesInSplit 6 RX0 wc_X0_timesInSplit (some .int)) (hth : KDx th = (0, 13)) : ∀ (n : Nat) (st : Int32 × Int32) (x : (Int32)) (H : Heap) (locs : List Loc) (ls : Array Slot), Gd s G A 153 B (entX G B w) X H locs → lv_has ls 6 [(0, .ref (B + th)), (1, .int x1), (2, .int x2), (3, .int x3), (4, .int st.1), (5, .int st.2)] → lpw (sh_X0_timesInSplit_s6 th x1 x2 x3 w) n st = some x →
    (∀ y' : Int32, x = y' → ∀ (H : Heap) (locs : List Loc) (ls : Array Slot), Gd s G A 153 B (entX G B w) X H locs → lv_has ls 6 [(4, .int y')] → W p l e rm_X0_timesInSplit s m args below meth c H locs 0 0 Q (F0 m 68 ls [])) → W p l e rm_X0_timesInSplit s m args below meth c H locs 0 0 Q (F0 m 6 ls []) := by
  intro n
  induction n with
  | zero =>
    intro st x H locs ls hG hl hf
    cases hf
  | succ n ih =>
    intro st x H locs ls hG hl hf kX0
    obtain ⟨r, hr, hh⟩ := of_lpw hf
    refine kb_X0_timesInSplit_6 C hth hG hl hr (fun st2 e1 H locs ls hG hl => ?_) (fun y2 e1 H locs ls hG hl => ?_)
    · rcases hh with ⟨s3, e2, hh⟩ | e2
      · rw [e2] at e1
        cases e1
        exact ih _ _ _ _ _ hG hl hh kX0
      · rw [e2] at e1
        cases e1
    · rcases hh with ⟨s3, e2, hh⟩ | e2
      · rw [e2] at e1
        cases e1
      · rw [e2] at e1
        cases e1
        exact kX0 _ rfl _ _ _ hG hl
set_option maxRecDepth 100000 in
set_option maxHeartbeats 4000000 in
theorem kb_X0_timesInSplit_0 {th : Nat} {x1 : Int32} {x2 : Int32} {x3 : Int32} {w : WX} {out : Int32} {H : Heap} {locs : List Loc} {ls : Array Slot} (C : CX p s m args meth c cX0_timesInSplit 6 RX0 wc_X0_timesInSplit (some .int)) (hth : KDx th = (0, 13)) (hG : Gd s G A 153 B (entX G B w) X H locs) (hl : lv_has ls 6 [(0, .ref (B + th)), (1, .int x1), (2, .int x2), (3, .int x3)]) (hf : sh_X0_timesInSplit th x1 x2 x3 w = some out) :
    W p l e rm_X0_timesInSplit s m args below meth c H locs 0 0 (MQ below (CPost G A 153 B (entX G B w) X (some (.int out))) args s 0 0 A) (F0 m 0 ls []) := by
  refine lv_iconst (v := nI 0) C.1 C.2.1 dX0_timesInSplit_0 (by decide) ?_
  refine lv_istore (lv' := [(4, .int (nI 0)), (0, .ref (B + th)), (1, .int x1), (2, .int x2), (3, .int x3)]) C.1 C.2.1 dX0_timesInSplit_1 hl (by decide) rfl (fun ls hl => ?_)
  refine lv_iconst (v := nI 0) C.1 C.2.1 dX0_timesInSplit_3 (by decide) ?_
  refine lv_istore (lv' := [(5, .int (nI 0)), (4, .int (nI 0)), (0, .ref (B + th)), (1, .int x1), (2, .int x2), (3, .int x3)]) C.1 C.2.1 dX0_timesInSplit_4 hl (by decide) rfl (fun ls hl => ?_)
  obtain ⟨ex1, hex1, hf⟩ := of_bind hf
  refine kl_X0_timesInSplit_6 C hth FU (nI 0, nI 0) ex1 _ _ _ hG (lv_sub hl [2, 3, 4, 5, 1, 0] rfl) hex1 (fun y e0 H locs ls hG hl => ?_)
  subst e0
  refine lv_iload C.1 C.2.1 dX0_timesInSplit_68 (lv_at hl 0 rfl) ?_
  obtain rfl := Option.some.inj hf
  exact r_iret C hG dX0_timesInSplit_70
set_option maxRecDepth 100000 in
set_option maxHeartbeats 4000000 in
theorem mt_X0_timesInSplit (l : Launch) {G : GG} {A : Nat → Prop} {B : Nat} {X : va_W} {th : Nat} {x1 : Int32} {x2 : Int32} {x3 : Int32} {w : WX} {out : Int32} (hth : KDx th = (0, 13)) (hf : sh_X0_timesInSplit th x1 x2 x3 w = some out) : MetW l yX0_timesInSplit wc_X0_timesInSplit rm_X0_timesInSplit G A 153 B (entX G B w) X [.ref (B + th), .int x1, .int x2, .int x3] (some (.int out)) (entX G B w) := by
  refine Met.ofW (cc := cX0_timesInSplit) (maxL := 6) (ret := (some .int)) (by decide) rfl ?_
  intro p e s m args below meth c s₁ B0 hml hv
  obtain ⟨rfl, hEv, hWd⟩ := hv
  have C : CX p s m _ meth c cX0_timesInSplit 6 RX0 wc_X0_timesInSplit (some .int) := ⟨B0.exec, B0.bytes, hml, findClass_of_methodNamed B0.named, atoms_spec (ws := wc_X0_timesInSplit) B0.pre, B0.returns, B0.notSynchronized⟩
  have hl := lv_entry [.ref (B + th), .int x1, .int x2, .int x3] (n := 6) (Nat.le_of_ble_eq_true rfl)
  rw [lg_entry_eq]
  generalize (lg_sl [.ref (B + th), .int x1, .int x2, .int x3] ++ List.replicate (6 - (lg_sl [.ref (B + th), .int x1, .int x2, .int x3]).length) Slot.unset).toArray = ls at hl ⊢
  have hl : lv_has ls 6 [(0, .ref (B + th)), (1, .int x1), (2, .int x2), (3, .int x3)] := hl
  exact kb_X0_timesInSplit_0 C hth ⟨hEv, hWd, va_S.rf⟩ hl hf
end
