section
variable {p : Program} {l : Launch} {e : Env} {s : State} {m : MethodId} {args : Array Value} {below : List Frame} {meth : Method} {c : Code} {Q : State → Prop} {G : GG} {A : Nat → Prop} {N B : Nat} {E : Nat → va_E} {X : va_W}
abbrev wc_X9_isIn : List Cond := Cond.code yX9_isIn cX9_isIn 6 (some .boolean) :: TG
abbrev rm_X9_isIn : Room := { frames := 2, cells := 0, slots := 0, locals := 100 }
theorem cd_X9_isIn : yX9_isIn.cls = RX9 ∧ yX9_isIn.cls ≠ "java/lang/invoke/MethodHandle" ∧ yX9_isIn.cls ≠ "java/lang/invoke/VarHandle" ∧ (parseMethodDescriptor yX9_isIn.desc).map (fun d => d.parameters.length) = some 3 := by decide +kernel
theorem dX9_isIn_0 : decode cX9_isIn 0 = .ok (.lload_n 0, 1) := by decide +kernel
theorem dX9_isIn_1 : decode cX9_isIn 1 = .ok (.lload_n 2, 1) := by decide +kernel
theorem dX9_isIn_2 : decode cX9_isIn 2 = .ok (.lcmp, 1) := by decide +kernel
theorem dX9_isIn_3 : decode cX9_isIn 3 = .ok (.ifCond .lt 14, 3) := by decide +kernel
theorem dX9_isIn_6 : decode cX9_isIn 6 = .ok (.lload_n 0, 1) := by decide +kernel
theorem dX9_isIn_7 : decode cX9_isIn 7 = .ok (.lload 4, 2) := by decide +kernel
theorem dX9_isIn_9 : decode cX9_isIn 9 = .ok (.lcmp, 1) := by decide +kernel
theorem dX9_isIn_10 : decode cX9_isIn 10 = .ok (.ifCond .gt 7, 3) := by decide +kernel
theorem dX9_isIn_13 : decode cX9_isIn 13 = .ok (.iconst 1, 1) := by decide +kernel
theorem dX9_isIn_14 : decode cX9_isIn 14 = .ok (.goto 4, 3) := by decide +kernel
theorem dX9_isIn_17 : decode cX9_isIn 17 = .ok (.iconst 0, 1) := by decide +kernel
theorem dX9_isIn_18 : decode cX9_isIn 18 = .ok (.ireturn, 1) := by decide +kernel
set_option maxRecDepth 100000 in
set_option maxHeartbeats 4000000 in
theorem kb_X9_isIn_0 {x0 : Int64} {x2 : Int64} {x4 : Int64} {out : Int32} {H : Heap} {locs : List Loc} {ls : Array Slot} (C : CX p s m args meth c cX9_isIn 6 RX9 wc_X9_isIn (some .boolean))  (hG : Gd s G A N B E X H locs) (hl : lv_has ls 6 [(0, .long x0), (2, .long x2), (4, .long x4)]) (hf : sh_X9_isIn x0 x2 x4 = some out) :
    W p l e rm_X9_isIn s m args below meth c H locs 0 0 (MQ below (CPost G A N B E X (some (.int out))) args s 0 0 A) (F0 m 0 ls []) := by
  refine lv_lload_n C.1 C.2.1 dX9_isIn_0 rfl (lv_at hl 0 rfl) ?_
  refine lv_lload_n C.1 C.2.1 dX9_isIn_1 rfl (lv_at hl 1 rfl) ?_
  refine W.lcmp C.1 C.2.1 dX9_isIn_2 ?_
  rcases of_ite hf with ⟨c1, hf⟩ | ⟨c1, hf⟩
  · refine lv_if_lt (tgt := 17) C.1 C.2.1 dX9_isIn_3 (by decide) (fun _ => ?_) (fun q => absurd c1 q)
    refine lv_iconst (v := nI 0) C.1 C.2.1 dX9_isIn_17 (by decide) ?_
    obtain rfl := Option.some.inj hf
    exact r_zret C hG (Or.inl rfl) dX9_isIn_18
  · refine lv_if_lt (tgt := 17) C.1 C.2.1 dX9_isIn_3 (by decide) (fun q => absurd q c1) (fun _ => ?_)
    refine lv_lload_n C.1 C.2.1 dX9_isIn_6 rfl (lv_at hl 0 rfl) ?_
    refine lv_lload C.1 C.2.1 dX9_isIn_7 (lv_at hl 2 rfl) ?_
    refine W.lcmp C.1 C.2.1 dX9_isIn_9 ?_
    rcases of_ite hf with ⟨c2, hf⟩ | ⟨c2, hf⟩
    · refine lv_if_gt (tgt := 17) C.1 C.2.1 dX9_isIn_10 (by decide) (fun _ => ?_) (fun q => absurd c2 q)
      refine lv_iconst (v := nI 0) C.1 C.2.1 dX9_isIn_17 (by decide) ?_
      obtain rfl := Option.some.inj hf
      exact r_zret C hG (Or.inl rfl) dX9_isIn_18
    · refine lv_if_gt (tgt := 17) C.1 C.2.1 dX9_isIn_10 (by decide) (fun q => absurd q c2) (fun _ => ?_)
      refine lv_iconst (v := nI 1) C.1 C.2.1 dX9_isIn_13 (by decide) ?_
      refine lv_goto (tgt := 18) C.1 C.2.1 dX9_isIn_14 (by decide) ?_
      obtain rfl := Option.some.inj hf
      exact r_zret C hG (Or.inr rfl) dX9_isIn_18
set_option maxRecDepth 100000 in
set_option maxHeartbeats 4000000 in
theorem mt_X9_isIn (l : Launch) {G : GG} {A : Nat → Prop} {N B : Nat} {E : Nat → va_E} {X : va_W} {x0 : Int64} {x2 : Int64} {x4 : Int64} {out : Int32}  (hf : sh_X9_isIn x0 x2 x4 = some out) : MetW l yX9_isIn wc_X9_isIn rm_X9_isIn G A N B E X [.long x0, .long x2, .long x4] (some (.int out)) E := by
  refine Met.ofW (cc := cX9_isIn) (maxL := 6) (ret := (some .boolean)) (by decide) rfl ?_
  intro p e s m args below meth c s₁ B0 hml hv
  obtain ⟨rfl, hEv, hWd⟩ := hv
  have C : CX p s m _ meth c cX9_isIn 6 RX9 wc_X9_isIn (some .boolean) := ⟨B0.exec, B0.bytes, hml, findClass_of_methodNamed B0.named, atoms_spec (ws := wc_X9_isIn) B0.pre, B0.returns, B0.notSynchronized⟩
  have hl := lv_entry [.long x0, .long x2, .long x4] (n := 6) (Nat.le_of_ble_eq_true rfl)
  rw [lg_entry_eq]
  generalize (lg_sl [.long x0, .long x2, .long x4] ++ List.replicate (6 - (lg_sl [.long x0, .long x2, .long x4]).length) Slot.unset).toArray = ls at hl ⊢
  have hl : lv_has ls 6 [(0, .long x0), (2, .long x2), (4, .long x4)] := hl
  exact kb_X9_isIn_0 C  ⟨hEv, hWd, va_S.rf⟩ hl hf
abbrev wc_X9_isAlgebra : List Cond := Cond.code yX9_isAlgebra cX9_isAlgebra 2 (some .boolean) :: TG
abbrev rm_X9_isAlgebra : Room := { frames := 3, cells := 0, slots := 0, locals := 125 }
theorem cd_X9_isAlgebra : yX9_isAlgebra.cls = RX9 ∧ yX9_isAlgebra.cls ≠ "java/lang/invoke/MethodHandle" ∧ yX9_isAlgebra.cls ≠ "java/lang/invoke/VarHandle" ∧ (parseMethodDescriptor yX9_isAlgebra.desc).map (fun d => d.parameters.length) = some 1 := by decide +kernel
theorem dX9_isAlgebra_0 : decode cX9_isAlgebra 0 = .ok (.iload_n 1, 1) := by decide +kernel
theorem dX9_isAlgebra_1 : decode cX9_isAlgebra 1 = .ok (.i2l, 1) := by decide +kernel
theorem dX9_isAlgebra_2 : decode cX9_isAlgebra 2 = .ok (.lconst 0, 1) := by decide +kernel
theorem dX9_isAlgebra_3 : decode cX9_isAlgebra 3 = .ok (.aload_n 0, 1) := by decide +kernel
theorem dX9_isAlgebra_4 : decode cX9_isAlgebra 4 = .ok (.getfield 11, 3) := by decide +kernel
theorem dX9_isAlgebra_7 : decode cX9_isAlgebra 7 = .ok (.iconst 0, 1) := by decide +kernel
theorem dX9_isAlgebra_8 : decode cX9_isAlgebra 8 = .ok (.iaload, 1) := by decide +kernel
theorem dX9_isAlgebra_9 : decode cX9_isAlgebra 9 = .ok (.iconst 1, 1) := by decide +kernel
theorem dX9_isAlgebra_10 : decode cX9_isAlgebra 10 = .ok (.isub, 1) := by decide +kernel
theorem dX9_isAlgebra_11 : decode cX9_isAlgebra 11 = .ok (.i2l, 1) := by decide +kernel
theorem dX9_isAlgebra_12 : decode cX9_isAlgebra 12 = .ok (.invokestatic 93, 3) := by decide +kernel
theorem dX9_isAlgebra_15 : decode cX9_isAlgebra 15 = .ok (.ireturn, 1) := by decide +kernel
set_option maxRecDepth 100000 in
set_option maxHeartbeats 4000000 in
theorem kb_X9_isAlgebra_0 {x1 : Int32} {w : Mem} {out : Int32} {H : Heap} {locs : List Loc} {ls : Array Slot} (C : CX p s m args meth c cX9_isAlgebra 2 RX9 wc_X9_isAlgebra (some .boolean))  (hG : Gd s G A 28 B (entM G B w) X H locs) (hl : lv_has ls 2 [(0, .ref (B + 0)), (1, .int x1)]) (hf : sh_X9_isAlgebra x1 w = some out) :
    W p l e rm_X9_isAlgebra s m args below meth c H locs 0 0 (MQ below (CPost G A 28 B (entM G B w) X (some (.int out))) args s 0 0 A) (F0 m 0 ls []) := by
  refine lv_iload_n C.1 C.2.1 dX9_isAlgebra_0 rfl (lv_at hl 1 rfl) ?_
  refine lv_i2l C.1 C.2.1 dX9_isAlgebra_1 rfl ?_
  refine lv_lconst (v := lN 0) C.1 C.2.1 dX9_isAlgebra_2 rfl ?_
  refine lv_aload_n C.1 C.2.1 dX9_isAlgebra_3 rfl (lv_at hl 0 rfl) ?_
  refine gf_X9_11 C hG rfl dX9_isAlgebra_4 ?_
  refine lv_iconst (v := nI 0) C.1 C.2.1 dX9_isAlgebra_7 (by decide) ?_
  obtain ⟨v1, hv1, hf⟩ := of_bind hf
  obtain ⟨bv1, ev1⟩ := of_ldS hv1
  refine r_iald C hG (c0 := 1) (by decide) (entM_I (n := 130) rfl) bv1 dX9_isAlgebra_8 ?_
  refine r_top ev1 ?_
  refine lv_iconst (v := nI 1) C.1 C.2.1 dX9_isAlgebra_9 (by decide) ?_
  refine lv_isub C.1 C.2.1 dX9_isAlgebra_10 ?_
  refine lv_i2l C.1 C.2.1 dX9_isAlgebra_11 rfl ?_
  obtain ⟨v2, hv2, hf⟩ := of_bind hf
  refine r_callS1 C hG hl.1 (As := [.long x1.toInt64, .long (lN 0), .long ((v1 - (nI 1)).toInt64)]) (mt_X9_isIn l  hv2) (va_cwS 3 C.2.2.2.2.1 (gd_S tg_4_195 tg_4_196 tg_1_10 tg_4_197) rfl rfl rfl cd_X9_isIn.2 ⟨Nat.le_of_ble_eq_true rfl, Nat.le_of_ble_eq_true rfl⟩) rfl rfl (Nat.le_of_ble_eq_true rfl) dX9_isAlgebra_12 (fun H locs hG => ?_)
  obtain ⟨c3, hf⟩ := of_grd hf
  obtain rfl := Option.some.inj hf
  exact r_zret C hG c3 dX9_isAlgebra_15
set_option maxRecDepth 100000 in
set_option maxHeartbeats 4000000 in
theorem mt_X9_isAlgebra (l : Launch) {G : GG} {A : Nat → Prop} {B : Nat} {X : va_W} {x1 : Int32} {w : Mem} {out : Int32}  (hf : sh_X9_isAlgebra x1 w = some out) : MetW l yX9_isAlgebra wc_X9_isAlgebra rm_X9_isAlgebra G A 28 B (entM G B w) X [.ref (B + 0), .int x1] (some (.int out)) (entM G B w) := by
  refine Met.ofW (cc := cX9_isAlgebra) (maxL := 2) (ret := (some .boolean)) (by decide) rfl ?_
  intro p e s m args below meth c s₁ B0 hml hv
  obtain ⟨rfl, hEv, hWd⟩ := hv
  have C : CX p s m _ meth c cX9_isAlgebra 2 RX9 wc_X9_isAlgebra (some .boolean) := ⟨B0.exec, B0.bytes, hml, findClass_of_methodNamed B0.named, atoms_spec (ws := wc_X9_isAlgebra) B0.pre, B0.returns, B0.notSynchronized⟩
  have hl := lv_entry [.ref (B + 0), .int x1] (n := 2) (Nat.le_of_ble_eq_true rfl)
  rw [lg_entry_eq]
  generalize (lg_sl [.ref (B + 0), .int x1] ++ List.replicate (2 - (lg_sl [.ref (B + 0), .int x1]).length) Slot.unset).toArray = ls at hl ⊢
  have hl : lv_has ls 2 [(0, .ref (B + 0)), (1, .int x1)] := hl
  exact kb_X9_isAlgebra_0 C  ⟨hEv, hWd, va_S.rf⟩ hl hf
abbrev wc_X9_isSurface : List Cond := Cond.code yX9_isSurface cX9_isSurface 1 (some .boolean) :: TG
abbrev rm_X9_isSurface : Room := { frames := 3, cells := 0, slots := 0, locals := 125 }
theorem cd_X9_isSurface : yX9_isSurface.cls = RX9 ∧ yX9_isSurface.cls ≠ "java/lang/invoke/MethodHandle" ∧ yX9_isSurface.cls ≠ "java/lang/invoke/VarHandle" ∧ (parseMethodDescriptor yX9_isSurface.desc).map (fun d => d.parameters.length) = some 1 := by decide +kernel
theorem dX9_isSurface_0 : decode cX9_isSurface 0 = .ok (.iload_n 0, 1) := by decide +kernel
theorem dX9_isSurface_1 : decode cX9_isSurface 1 = .ok (.i2l, 1) := by decide +kernel
theorem dX9_isSurface_2 : decode cX9_isSurface 2 = .ok (.lconst 0, 1) := by decide +kernel
theorem dX9_isSurface_3 : decode cX9_isSurface 3 = .ok (.ldc2_w 97, 3) := by decide +kernel
theorem dX9_isSurface_6 : decode cX9_isSurface 6 = .ok (.invokestatic 93, 3) := by decide +kernel
theorem dX9_isSurface_9 : decode cX9_isSurface 9 = .ok (.ireturn, 1) := by decide +kernel
set_option maxRecDepth 100000 in
set_option maxHeartbeats 4000000 in
theorem kb_X9_isSurface_0 {x0 : Int32} {out : Int32} {H : Heap} {locs : List Loc} {ls : Array Slot} (C : CX p s m args meth c cX9_isSurface 1 RX9 wc_X9_isSurface (some .boolean))  (hG : Gd s G A N B E X H locs) (hl : lv_has ls 1 [(0, .int x0)]) (hf : sh_X9_isSurface x0 = some out) :
    W p l e rm_X9_isSurface s m args below meth c H locs 0 0 (MQ below (CPost G A N B E X (some (.int out))) args s 0 0 A) (F0 m 0 ls []) := by
  refine lv_iload_n C.1 C.2.1 dX9_isSurface_0 rfl (lv_at hl 0 rfl) ?_
  refine lv_i2l C.1 C.2.1 dX9_isSurface_1 rfl ?_
  refine lv_lconst (v := lN 0) C.1 C.2.1 dX9_isSurface_2 rfl ?_
  refine lv_ldc2 (v := lN 3) C.1 C.2.1 C.2.2.2.1 (C.2.2.2.2.1 _ (List.mem_cons_of_mem _ tg_5_67)) dX9_isSurface_3 ?_
  obtain ⟨v1, hv1, hf⟩ := of_bind hf
  refine r_callS1 C hG hl.1 (As := [.long x0.toInt64, .long (lN 0), .long (lN 3)]) (mt_X9_isIn l  hv1) (va_cwS 3 C.2.2.2.2.1 (gd_S tg_4_195 tg_4_196 tg_1_10 tg_4_197) rfl rfl rfl cd_X9_isIn.2 ⟨Nat.le_of_ble_eq_true rfl, Nat.le_of_ble_eq_true rfl⟩) rfl rfl (Nat.le_of_ble_eq_true rfl) dX9_isSurface_6 (fun H locs hG => ?_)
  obtain ⟨c2, hf⟩ := of_grd hf
  obtain rfl := Option.some.inj hf
  exact r_zret C hG c2 dX9_isSurface_9
set_option maxRecDepth 100000 in
set_option maxHeartbeats 4000000 in
theorem mt_X9_isSurface (l : Launch) {G : GG} {A : Nat → Prop} {N B : Nat} {E : Nat → va_E} {X : va_W} {x0 : Int32} {out : Int32}  (hf : sh_X9_isSurface x0 = some out) : MetW l yX9_isSurface wc_X9_isSurface rm_X9_isSurface G A N B E X [.int x0] (some (.int out)) E := by
  refine Met.ofW (cc := cX9_isSurface) (maxL := 1) (ret := (some .boolean)) (by decide) rfl ?_
  intro p e s m args below meth c s₁ B0 hml hv
  obtain ⟨rfl, hEv, hWd⟩ := hv
  have C : CX p s m _ meth c cX9_isSurface 1 RX9 wc_X9_isSurface (some .boolean) := ⟨B0.exec, B0.bytes, hml, findClass_of_methodNamed B0.named, atoms_spec (ws := wc_X9_isSurface) B0.pre, B0.returns, B0.notSynchronized⟩
  have hl := lv_entry [.int x0] (n := 1) (Nat.le_of_ble_eq_true rfl)
  rw [lg_entry_eq]
  generalize (lg_sl [.int x0] ++ List.replicate (1 - (lg_sl [.int x0]).length) Slot.unset).toArray = ls at hl ⊢
  have hl : lv_has ls 1 [(0, .int x0)] := hl
  exact kb_X9_isSurface_0 C  ⟨hEv, hWd, va_S.rf⟩ hl hf
abbrev wc_X9_mod : List Cond := Cond.code yX9_mod cX9_mod 2 (some .int) :: TG
abbrev rm_X9_mod : Room := { frames := 2, cells := 0, slots := 0, locals := 100 }
theorem cd_X9_mod : yX9_mod.cls = RX9 ∧ yX9_mod.cls ≠ "java/lang/invoke/MethodHandle" ∧ yX9_mod.cls ≠ "java/lang/invoke/VarHandle" ∧ (parseMethodDescriptor yX9_mod.desc).map (fun d => d.parameters.length) = some 1 := by decide +kernel
theorem dX9_mod_0 : decode cX9_mod 0 = .ok (.lload_n 0, 1) := by decide +kernel
theorem dX9_mod_1 : decode cX9_mod 1 = .ok (.ldc2_w 99, 3) := by decide +kernel
theorem dX9_mod_4 : decode cX9_mod 4 = .ok (.lrem, 1) := by decide +kernel
theorem dX9_mod_5 : decode cX9_mod 5 = .ok (.ldc2_w 99, 3) := by decide +kernel
theorem dX9_mod_8 : decode cX9_mod 8 = .ok (.ladd, 1) := by decide +kernel
theorem dX9_mod_9 : decode cX9_mod 9 = .ok (.ldc2_w 99, 3) := by decide +kernel
theorem dX9_mod_12 : decode cX9_mod 12 = .ok (.lrem, 1) := by decide +kernel
theorem dX9_mod_13 : decode cX9_mod 13 = .ok (.l2i, 1) := by decide +kernel
theorem dX9_mod_14 : decode cX9_mod 14 = .ok (.ireturn, 1) := by decide +kernel
set_option maxRecDepth 100000 in
set_option maxHeartbeats 4000000 in
theorem kb_X9_mod_0 {x0 : Int64} {out : Int32} {H : Heap} {locs : List Loc} {ls : Array Slot} (C : CX p s m args meth c cX9_mod 2 RX9 wc_X9_mod (some .int))  (hG : Gd s G A N B E X H locs) (hl : lv_has ls 2 [(0, .long x0)]) (hf : sh_X9_mod x0 = some out) :
    W p l e rm_X9_mod s m args below meth c H locs 0 0 (MQ below (CPost G A N B E X (some (.int out))) args s 0 0 A) (F0 m 0 ls []) := by
  refine lv_lload_n C.1 C.2.1 dX9_mod_0 rfl (lv_at hl 0 rfl) ?_
  refine lv_ldc2 (v := lN 9973) C.1 C.2.1 C.2.2.2.1 (C.2.2.2.2.1 _ (List.mem_cons_of_mem _ tg_5_6)) dX9_mod_1 ?_
  refine r_lrem C dX9_mod_4 (by decide) ?_
  refine lv_ldc2 (v := lN 9973) C.1 C.2.1 C.2.2.2.1 (C.2.2.2.2.1 _ (List.mem_cons_of_mem _ tg_5_6)) dX9_mod_5 ?_
  refine lv_ladd C.1 C.2.1 dX9_mod_8 ?_
  refine lv_ldc2 (v := lN 9973) C.1 C.2.1 C.2.2.2.1 (C.2.2.2.2.1 _ (List.mem_cons_of_mem _ tg_5_6)) dX9_mod_9 ?_
  refine r_lrem C dX9_mod_12 (by decide) ?_
  refine lv_l2i C.1 C.2.1 dX9_mod_13 rfl ?_
  obtain rfl := Option.some.inj hf
  exact r_iret C hG dX9_mod_14
set_option maxRecDepth 100000 in
set_option maxHeartbeats 4000000 in
theorem mt_X9_mod (l : Launch) {G : GG} {A : Nat → Prop} {N B : Nat} {E : Nat → va_E} {X : va_W} {x0 : Int64} {out : Int32}  (hf : sh_X9_mod x0 = some out) : MetW l yX9_mod wc_X9_mod rm_X9_mod G A N B E X [.long x0] (some (.int out)) E := by
  refine Met.ofW (cc := cX9_mod) (maxL := 2) (ret := (some .int)) (by decide) rfl ?_
  intro p e s m args below meth c s₁ B0 hml hv
  obtain ⟨rfl, hEv, hWd⟩ := hv
  have C : CX p s m _ meth c cX9_mod 2 RX9 wc_X9_mod (some .int) := ⟨B0.exec, B0.bytes, hml, findClass_of_methodNamed B0.named, atoms_spec (ws := wc_X9_mod) B0.pre, B0.returns, B0.notSynchronized⟩
  have hl := lv_entry [.long x0] (n := 2) (Nat.le_of_ble_eq_true rfl)
  rw [lg_entry_eq]
  generalize (lg_sl [.long x0] ++ List.replicate (2 - (lg_sl [.long x0]).length) Slot.unset).toArray = ls at hl ⊢
  have hl : lv_has ls 2 [(0, .long x0)] := hl
  exact kb_X9_mod_0 C  ⟨hEv, hWd, va_S.rf⟩ hl hf
abbrev wc_X9_odd : List Cond := Cond.code yX9_odd cX9_odd 3 (some .int) :: TG
abbrev rm_X9_odd : Room := { frames := 2, cells := 0, slots := 0, locals := 100 }
theorem cd_X9_odd : yX9_odd.cls = RX9 ∧ yX9_odd.cls ≠ "java/lang/invoke/MethodHandle" ∧ yX9_odd.cls ≠ "java/lang/invoke/VarHandle" ∧ (parseMethodDescriptor yX9_odd.desc).map (fun d => d.parameters.length) = some 1 := by decide +kernel
theorem dX9_odd_0 : decode cX9_odd 0 = .ok (.iconst 0, 1) := by decide +kernel
theorem dX9_odd_1 : decode cX9_odd 1 = .ok (.istore_n 1, 1) := by decide +kernel
theorem dX9_odd_2 : decode cX9_odd 2 = .ok (.iload_n 0, 1) := by decide +kernel
theorem dX9_odd_3 : decode cX9_odd 3 = .ok (.istore_n 2, 1) := by decide +kernel
theorem dX9_odd_4 : decode cX9_odd 4 = .ok (.iload_n 2, 1) := by decide +kernel
theorem dX9_odd_5 : decode cX9_odd 5 = .ok (.ifCond .eq 16, 3) := by decide +kernel
theorem dX9_odd_8 : decode cX9_odd 8 = .ok (.iload_n 1, 1) := by decide +kernel
theorem dX9_odd_9 : decode cX9_odd 9 = .ok (.iconst 1, 1) := by decide +kernel
theorem dX9_odd_10 : decode cX9_odd 10 = .ok (.ixor, 1) := by decide +kernel
theorem dX9_odd_11 : decode cX9_odd 11 = .ok (.istore_n 1, 1) := by decide +kernel
theorem dX9_odd_12 : decode cX9_odd 12 = .ok (.iload_n 2, 1) := by decide +kernel
theorem dX9_odd_13 : decode cX9_odd 13 = .ok (.iload_n 2, 1) := by decide +kernel
theorem dX9_odd_14 : decode cX9_odd 14 = .ok (.iconst 1, 1) := by decide +kernel
theorem dX9_odd_15 : decode cX9_odd 15 = .ok (.isub, 1) := by decide +kernel
theorem dX9_odd_16 : decode cX9_odd 16 = .ok (.iand, 1) := by decide +kernel
theorem dX9_odd_17 : decode cX9_odd 17 = .ok (.istore_n 2, 1) := by decide +kernel
theorem dX9_odd_18 : decode cX9_odd 18 = .ok (.goto (-14), 3) := by decide +kernel
theorem dX9_odd_21 : decode cX9_odd 21 = .ok (.iload_n 1, 1) := by decide +kernel
theorem dX9_odd_22 : decode cX9_odd 22 = .ok (.ireturn, 1) := by decide +kernel
set_option maxRecDepth 100000 in
set_option maxHeartbeats 4000000 in
theorem kb_X9_odd_4  {st : Int32 × Int32} {r : (Int32 × Int32) ⊕ ((Int32))} {H : Heap} {locs : List Loc} {ls : Array Slot} (C : CX p s m args meth c cX9_odd 3 RX9 wc_X9_odd (some .int))  (hG : Gd s G A N B E X H locs) (hl : lv_has ls 3 [(1, .int st.1), (2, .int st.2)]) (hf : sh_X9_odd_s4  st = some r)
    (kL : ∀ st' : Int32 × Int32, r = Sum.inl st' → ∀ (H : Heap) (locs : List Loc) (ls : Array Slot), Gd s G A N B E X H locs → lv_has ls 3 [(1, .int st'.1), (2, .int st'.2)] → W p l e rm_X9_odd s m args below meth c H locs 0 0 Q (F0 m 4 ls []))
    (kX0 : ∀ y' : Int32, r = Sum.inr y' → ∀ (H : Heap) (locs : List Loc) (ls : Array Slot), Gd s G A N B E X H locs → lv_has ls 3 [(1, .int y')] → W p l e rm_X9_odd s m args below meth c H locs 0 0 Q (F0 m 21 ls [])) :
    W p l e rm_X9_odd s m args below meth c H locs 0 0 Q (F0 m 4 ls []) := by
  refine lv_iload_n C.1 C.2.1 dX9_odd_4 rfl (lv_at hl 1 rfl) ?_
  rcases of_ite hf with ⟨c1, hf⟩ | ⟨c1, hf⟩
  · refine lv_if_eq (tgt := 21) C.1 C.2.1 dX9_odd_5 (by decide) (fun _ => ?_) (fun q => absurd c1 q)
    obtain rfl := Option.some.inj hf
    exact kX0 _ rfl _ _ _ hG (lv_sub hl [0] rfl)
  · refine lv_if_eq (tgt := 21) C.1 C.2.1 dX9_odd_5 (by decide) (fun q => absurd q c1) (fun _ => ?_)
    refine lv_iload_n C.1 C.2.1 dX9_odd_8 rfl (lv_at hl 0 rfl) ?_
    refine lv_iconst (v := nI 1) C.1 C.2.1 dX9_odd_9 (by decide) ?_
    refine lv_ixor C.1 C.2.1 dX9_odd_10 ?_
    obtain ⟨v2, ev2, hf⟩ := of_letv hf
    refine r_top ev2 ?_
    refine lv_istore_n (lv' := [(1, .int v2), (2, .int st.2)]) C.1 C.2.1 dX9_odd_11 rfl hl (by decide) rfl (fun ls hl => ?_)
    refine lv_iload_n C.1 C.2.1 dX9_odd_12 rfl (lv_at hl 1 rfl) ?_
    refine lv_iload_n C.1 C.2.1 dX9_odd_13 rfl (lv_at hl 1 rfl) ?_
    refine lv_iconst (v := nI 1) C.1 C.2.1 dX9_odd_14 (by decide) ?_
    refine lv_isub C.1 C.2.1 dX9_odd_15 ?_
    refine lv_iand C.1 C.2.1 dX9_odd_16 ?_
    obtain ⟨v3, ev3, hf⟩ := of_letv hf
    refine r_top ev3 ?_
    refine lv_istore_n (lv' := [(2, .int v3), (1, .int v2)]) C.1 C.2.1 dX9_odd_17 rfl hl (by decide) rfl (fun ls hl => ?_)
    refine lv_goto (tgt := 4) C.1 C.2.1 dX9_odd_18 (by decide) ?_
    obtain rfl := Option.some.inj hf
    exact kL _ rfl _ _ _ hG (lv_sub hl [1, 0] rfl)
set_option maxRecDepth 100000 in
set_option maxHeartbeats 4000000 in
theorem kl_X9_odd_4  (C : CX p s m args meth c cX9_odd 3 RX9 wc_X9_odd (some .int))  : ∀ (n : Nat) (st : Int32 × Int32) (x : (Int32)) (H : Heap) (locs : List Loc) (ls : Array Slot), Gd s G A N B E X H locs → lv_has ls 3 [(1, .int st.1), (2, .int st.2)] → lpw (sh_X9_odd_s4 ) n st = some x →
    (∀ y' : Int32, x = y' → ∀ (H : Heap) (locs : List Loc) (ls : Array Slot), Gd s G A N B E X H locs → lv_has ls 3 [(1, .int y')] → W p l e rm_X9_odd s m args below meth c H locs 0 0 Q (F0 m 21 ls [])) → W p l e rm_X9_odd s m args below meth c H locs 0 0 Q (F0 m 4 ls []) := by
  intro n
  induction n with
  | zero =>
    intro st x H locs ls hG hl hf
    cases hf
  | succ n ih =>
    intro st x H locs ls hG hl hf kX0
    obtain ⟨r, hr, hh⟩ := of_lpw hf
    refine kb_X9_odd_4 C  hG hl hr (fun st2 e1 H locs ls hG hl => ?_) (fun y2 e1 H locs ls hG hl => ?_)
    · rcases hh with ⟨s3, e2, hh⟩ | e2
      · rw [e2] at e1
        cases e1
        exact ih _ _ _ _ _ hG hl hh kX0
      · rw [e2] at e1
        cases e1
    · rcases hh with ⟨s3, e2, hh⟩ | e2
      · rw [e2] at e1
        cases e1
      · rw [e2] at e1
        cases e1
        exact kX0 _ rfl _ _ _ hG hl
set_option maxRecDepth 100000 in
set_option maxHeartbeats 4000000 in
theorem kb_X9_odd_0 {x0 : Int32} {out : Int32} {H : Heap} {locs : List Loc} {ls : Array Slot} (C : CX p s m args meth c cX9_odd 3 RX9 wc_X9_odd (some .int))  (hG : Gd s G A N B E X H locs) (hl : lv_has ls 3 [(0, .int x0)]) (hf : sh_X9_odd x0 = some out) :
    W p l e rm_X9_odd s m args below meth c H locs 0 0 (MQ below (CPost G A N B E X (some (.int out))) args s 0 0 A) (F0 m 0 ls []) := by
  refine lv_iconst (v := nI 0) C.1 C.2.1 dX9_odd_0 (by decide) ?_
  refine lv_istore_n (lv' := [(1, .int (nI 0)), (0, .int x0)]) C.1 C.2.1 dX9_odd_1 rfl hl (by decide) rfl (fun ls hl => ?_)
  refine lv_iload_n C.1 C.2.1 dX9_odd_2 rfl (lv_at hl 1 rfl) ?_
  refine lv_istore_n (lv' := [(2, .int x0), (1, .int (nI 0)), (0, .int x0)]) C.1 C.2.1 dX9_odd_3 rfl hl (by decide) rfl (fun ls hl => ?_)
  obtain ⟨ex1, hex1, hf⟩ := of_bind hf
  refine kl_X9_odd_4 C  FU (nI 0, x0) ex1 _ _ _ hG (lv_sub hl [1, 0] rfl) hex1 (fun y e0 H locs ls hG hl => ?_)
  subst e0
  refine lv_iload_n C.1 C.2.1 dX9_odd_21 rfl (lv_at hl 0 rfl) ?_
  obtain rfl := Option.some.inj hf
  exact r_iret C hG dX9_odd_22
set_option maxRecDepth 100000 in
set_option maxHeartbeats 4000000 in
theorem mt_X9_odd (l : Launch) {G : GG} {A : Nat → Prop} {N B : Nat} {E : Nat → va_E} {X : va_W} {x0 : Int32} {out : Int32}  (hf : sh_X9_odd x0 = some out) : MetW l yX9_odd wc_X9_odd rm_X9_odd G A N B E X [.int x0] (some (.int out)) E := by
  refine Met.ofW (cc := cX9_odd) (maxL := 3) (ret := (some .int)) (by decide) rfl ?_
  intro p e s m args below meth c s₁ B0 hml hv
  obtain ⟨rfl, hEv, hWd⟩ := hv
  have C : CX p s m _ meth c cX9_odd 3 RX9 wc_X9_odd (some .int) := ⟨B0.exec, B0.bytes, hml, findClass_of_methodNamed B0.named, atoms_spec (ws := wc_X9_odd) B0.pre, B0.returns, B0.notSynchronized⟩
  have hl := lv_entry [.int x0] (n := 3) (Nat.le_of_ble_eq_true rfl)
  rw [lg_entry_eq]
  generalize (lg_sl [.int x0] ++ List.replicate (3 - (lg_sl [.int x0]).length) Slot.unset).toArray = ls at hl ⊢
  have hl : lv_has ls 3 [(0, .int x0)] := hl
  exact kb_X9_odd_0 C  ⟨hEv, hWd, va_S.rf⟩ hl hf
abbrev wc_X9_algebra : List Cond := Cond.code yX9_algebra cX9_algebra 5 (some .int) :: TG
abbrev rm_X9_algebra : Room := { frames := 3, cells := 0, slots := 0, locals := 125 }
theorem cd_X9_algebra : yX9_algebra.cls = RX9 ∧ yX9_algebra.cls ≠ "java/lang/invoke/MethodHandle" ∧ yX9_algebra.cls ≠ "java/lang/invoke/VarHandle" ∧ (parseMethodDescriptor yX9_algebra.desc).map (fun d => d.parameters.length) = some 3 := by decide +kernel
theorem dX9_algebra_0 : decode cX9_algebra 0 = .ok (.iload_n 1, 1) := by decide +kernel
theorem dX9_algebra_1 : decode cX9_algebra 1 = .ok (.i2l, 1) := by decide +kernel
theorem dX9_algebra_2 : decode cX9_algebra 2 = .ok (.lconst 0, 1) := by decide +kernel
theorem dX9_algebra_3 : decode cX9_algebra 3 = .ok (.ldc2_w 101, 3) := by decide +kernel
theorem dX9_algebra_6 : decode cX9_algebra 6 = .ok (.invokestatic 93, 3) := by decide +kernel
theorem dX9_algebra_9 : decode cX9_algebra 9 = .ok (.ifCond .ne 5, 3) := by decide +kernel
theorem dX9_algebra_12 : decode cX9_algebra 12 = .ok (.iconst (-1), 1) := by decide +kernel
theorem dX9_algebra_13 : decode cX9_algebra 13 = .ok (.ireturn, 1) := by decide +kernel
theorem dX9_algebra_14 : decode cX9_algebra 14 = .ok (.iload_n 2, 1) := by decide +kernel
theorem dX9_algebra_15 : decode cX9_algebra 15 = .ok (.i2l, 1) := by decide +kernel
theorem dX9_algebra_16 : decode cX9_algebra 16 = .ok (.lconst 1, 1) := by decide +kernel
theorem dX9_algebra_17 : decode cX9_algebra 17 = .ok (.iload_n 1, 1) := by decide +kernel
theorem dX9_algebra_18 : decode cX9_algebra 18 = .ok (.iconst 4, 1) := by decide +kernel
theorem dX9_algebra_19 : decode cX9_algebra 19 = .ok (.if_icmp .ne 9, 3) := by decide +kernel
theorem dX9_algebra_22 : decode cX9_algebra 22 = .ok (.ldc2_w 103, 3) := by decide +kernel
theorem dX9_algebra_25 : decode cX9_algebra 25 = .ok (.goto 6, 3) := by decide +kernel
theorem dX9_algebra_28 : decode cX9_algebra 28 = .ok (.ldc2_w 105, 3) := by decide +kernel
theorem dX9_algebra_31 : decode cX9_algebra 31 = .ok (.invokestatic 93, 3) := by decide +kernel
theorem dX9_algebra_34 : decode cX9_algebra 34 = .ok (.ifCond .eq 15, 3) := by decide +kernel
theorem dX9_algebra_37 : decode cX9_algebra 37 = .ok (.iload_n 3, 1) := by decide +kernel
theorem dX9_algebra_38 : decode cX9_algebra 38 = .ok (.i2l, 1) := by decide +kernel
theorem dX9_algebra_39 : decode cX9_algebra 39 = .ok (.lconst 0, 1) := by decide +kernel
theorem dX9_algebra_40 : decode cX9_algebra 40 = .ok (.ldc2_w 107, 3) := by decide +kernel
theorem dX9_algebra_43 : decode cX9_algebra 43 = .ok (.invokestatic 93, 3) := by decide +kernel
theorem dX9_algebra_46 : decode cX9_algebra 46 = .ok (.ifCond .ne 6, 3) := by decide +kernel
theorem dX9_algebra_49 : decode cX9_algebra 49 = .ok (.bipush (-2), 2) := by decide +kernel
theorem dX9_algebra_51 : decode cX9_algebra 51 = .ok (.ireturn, 1) := by decide +kernel
theorem dX9_algebra_52 : decode cX9_algebra 52 = .ok (.aload_n 0, 1) := by decide +kernel
theorem dX9_algebra_53 : decode cX9_algebra 53 = .ok (.getfield 11, 3) := by decide +kernel
theorem dX9_algebra_56 : decode cX9_algebra 56 = .ok (.iconst 0, 1) := by decide +kernel
theorem dX9_algebra_57 : decode cX9_algebra 57 = .ok (.iaload, 1) := by decide +kernel
theorem dX9_algebra_58 : decode cX9_algebra 58 = .ok (.iconst 4, 1) := by decide +kernel
theorem dX9_algebra_59 : decode cX9_algebra 59 = .ok (.if_icmp .ne 6, 3) := by decide +kernel
theorem dX9_algebra_62 : decode cX9_algebra 62 = .ok (.bipush (-4), 2) := by decide +kernel
theorem dX9_algebra_64 : decode cX9_algebra 64 = .ok (.ireturn, 1) := by decide +kernel
theorem dX9_algebra_65 : decode cX9_algebra 65 = .ok (.aload_n 0, 1) := by decide +kernel
theorem dX9_algebra_66 : decode cX9_algebra 66 = .ok (.getfield 11, 3) := by decide +kernel
theorem dX9_algebra_69 : decode cX9_algebra 69 = .ok (.iconst 0, 1) := by decide +kernel
theorem dX9_algebra_70 : decode cX9_algebra 70 = .ok (.iaload, 1) := by decide +kernel
theorem dX9_algebra_71 : decode cX9_algebra 71 = .ok (.istore 4, 2) := by decide +kernel
theorem dX9_algebra_73 : decode cX9_algebra 73 = .ok (.aload_n 0, 1) := by decide +kernel
theorem dX9_algebra_74 : decode cX9_algebra 74 = .ok (.getfield 11, 3) := by decide +kernel
theorem dX9_algebra_77 : decode cX9_algebra 77 = .ok (.iconst 1, 1) := by decide +kernel
theorem dX9_algebra_78 : decode cX9_algebra 78 = .ok (.iload 4, 2) := by decide +kernel
theorem dX9_algebra_80 : decode cX9_algebra 80 = .ok (.iadd, 1) := by decide +kernel
theorem dX9_algebra_81 : decode cX9_algebra 81 = .ok (.iload_n 1, 1) := by decide +kernel
theorem dX9_algebra_82 : decode cX9_algebra 82 = .ok (.iastore, 1) := by decide +kernel
theorem dX9_algebra_83 : decode cX9_algebra 83 = .ok (.aload_n 0, 1) := by decide +kernel
theorem dX9_algebra_84 : decode cX9_algebra 84 = .ok (.getfield 11, 3) := by decide +kernel
theorem dX9_algebra_87 : decode cX9_algebra 87 = .ok (.iconst 5, 1) := by decide +kernel
theorem dX9_algebra_88 : decode cX9_algebra 88 = .ok (.iload 4, 2) := by decide +kernel
theorem dX9_algebra_90 : decode cX9_algebra 90 = .ok (.iadd, 1) := by decide +kernel
theorem dX9_algebra_91 : decode cX9_algebra 91 = .ok (.iload_n 2, 1) := by decide +kernel
theorem dX9_algebra_92 : decode cX9_algebra 92 = .ok (.iastore, 1) := by decide +kernel
theorem dX9_algebra_93 : decode cX9_algebra 93 = .ok (.aload_n 0, 1) := by decide +kernel
theorem dX9_algebra_94 : decode cX9_algebra 94 = .ok (.getfield 11, 3) := by decide +kernel
theorem dX9_algebra_97 : decode cX9_algebra 97 = .ok (.bipush 9, 2) := by decide +kernel
theorem dX9_algebra_99 : decode cX9_algebra 99 = .ok (.iload 4, 2) := by decide +kernel
theorem dX9_algebra_101 : decode cX9_algebra 101 = .ok (.iadd, 1) := by decide +kernel
theorem dX9_algebra_102 : decode cX9_algebra 102 = .ok (.iload_n 3, 1) := by decide +kernel
theorem dX9_algebra_103 : decode cX9_algebra 103 = .ok (.iastore, 1) := by decide +kernel
theorem dX9_algebra_104 : decode cX9_algebra 104 = .ok (.aload_n 0, 1) := by decide +kernel
theorem dX9_algebra_105 : decode cX9_algebra 105 = .ok (.getfield 11, 3) := by decide +kernel
theorem dX9_algebra_108 : decode cX9_algebra 108 = .ok (.iconst 0, 1) := by decide +kernel
theorem dX9_algebra_109 : decode cX9_algebra 109 = .ok (.dup2, 1) := by decide +kernel
theorem dX9_algebra_110 : decode cX9_algebra 110 = .ok (.iaload, 1) := by decide +kernel
theorem dX9_algebra_111 : decode cX9_algebra 111 = .ok (.iconst 1, 1) := by decide +kernel
theorem dX9_algebra_112 : decode cX9_algebra 112 = .ok (.iadd, 1) := by decide +kernel
theorem dX9_algebra_113 : decode cX9_algebra 113 = .ok (.iastore, 1) := by decide +kernel
theorem dX9_algebra_114 : decode cX9_algebra 114 = .ok (.iload 4, 2) := by decide +kernel
theorem dX9_algebra_116 : decode cX9_algebra 116 = .ok (.ireturn, 1) := by decide +kernel
set_option maxRecDepth 100000 in
set_option maxHeartbeats 4000000 in
theorem kb_X9_algebra_31 {x1 : Int32} {x2 : Int32} {x3 : Int32} {s0 : Int64} {s1 : Int64} {s2 : Int64} {w : Mem} {out : Int32 × Mem} {H : Heap} {locs : List Loc} {ls : Array Slot} (C : CX p s m args meth c cX9_algebra 5 RX9 wc_X9_algebra (some .int))  (hG : Gd s G A 28 B (entM G B w) X H locs) (hl : lv_has ls 5 [(0, .ref (B + 0)), (1, .int x1), (2, .int x2), (3, .int x3)]) (hf : sh_X9_algebra_j31 x1 x2 x3 s0 s1 s2 w = some out) :
    W p l e rm_X9_algebra s m args below meth c H locs 0 0 (MQ below (CPost G A 28 B (entM G B out.2) X (some (.int out.1))) args s 0 0 A) (F0 m 31 ls [.long s2, .long s1, .long s0]) := by
  obtain ⟨v1, hv1, hf⟩ := of_bind hf
  refine r_callS1 C hG hl.1 (As := [.long s0, .long s1, .long s2]) (mt_X9_isIn l  hv1) (va_cwS 3 C.2.2.2.2.1 (gd_S tg_4_195 tg_4_196 tg_1_10 tg_4_197) rfl rfl rfl cd_X9_isIn.2 ⟨Nat.le_of_ble_eq_true rfl, Nat.le_of_ble_eq_true rfl⟩) rfl rfl (Nat.le_of_ble_eq_true rfl) dX9_algebra_31 (fun H locs hG => ?_)
  rcases of_ite hf with ⟨c2, hf⟩ | ⟨c2, hf⟩
  · refine lv_if_eq (tgt := 49) C.1 C.2.1 dX9_algebra_34 (by decide) (fun _ => ?_) (fun q => absurd c2 q)
    refine lv_bipush (v := (-2 : Int32)) C.1 C.2.1 dX9_algebra_49 (by decide) ?_
    obtain rfl := Option.some.inj hf
    exact r_iret C hG dX9_algebra_51
  · refine lv_if_eq (tgt := 49) C.1 C.2.1 dX9_algebra_34 (by decide) (fun q => absurd q c2) (fun _ => ?_)
    refine lv_iload_n C.1 C.2.1 dX9_algebra_37 rfl (lv_at hl 3 rfl) ?_
    refine lv_i2l C.1 C.2.1 dX9_algebra_38 rfl ?_
    refine lv_lconst (v := lN 0) C.1 C.2.1 dX9_algebra_39 rfl ?_
    refine lv_ldc2 (v := lN 9) C.1 C.2.1 C.2.2.2.1 (C.2.2.2.2.1 _ (List.mem_cons_of_mem _ tg_4_200)) dX9_algebra_40 ?_
    obtain ⟨v3, hv3, hf⟩ := of_bind hf
    refine r_callS1 C hG hl.1 (As := [.long x3.toInt64, .long (lN 0), .long (lN 9)]) (mt_X9_isIn l  hv3) (va_cwS 3 C.2.2.2.2.1 (gd_S tg_4_195 tg_4_196 tg_1_10 tg_4_197) rfl rfl rfl cd_X9_isIn.2 ⟨Nat.le_of_ble_eq_true rfl, Nat.le_of_ble_eq_true rfl⟩) rfl rfl (Nat.le_of_ble_eq_true rfl) dX9_algebra_43 (fun H locs hG => ?_)
    rcases of_ite hf with ⟨c4, hf⟩ | ⟨c4, hf⟩
    · refine lv_if_ne (tgt := 52) C.1 C.2.1 dX9_algebra_46 (by decide) (fun q => absurd c4 q) (fun _ => ?_)
      refine lv_bipush (v := (-2 : Int32)) C.1 C.2.1 dX9_algebra_49 (by decide) ?_
      obtain rfl := Option.some.inj hf
      exact r_iret C hG dX9_algebra_51
    · refine lv_if_ne (tgt := 52) C.1 C.2.1 dX9_algebra_46 (by decide) (fun _ => ?_) (fun q => absurd q c4)
      refine lv_aload_n C.1 C.2.1 dX9_algebra_52 rfl (lv_at hl 0 rfl) ?_
      refine gf_X9_11 C hG rfl dX9_algebra_53 ?_
      refine lv_iconst (v := nI 0) C.1 C.2.1 dX9_algebra_56 (by decide) ?_
      obtain ⟨v5, hv5, hf⟩ := of_bind hf
      obtain ⟨bv5, ev5⟩ := of_ldS hv5
      refine r_iald C hG (c0 := 1) (by decide) (entM_I (n := 130) rfl) bv5 dX9_algebra_57 ?_
      refine r_top ev5 ?_
      refine lv_iconst (v := nI 4) C.1 C.2.1 dX9_algebra_58 (by decide) ?_
      rcases of_ite hf with ⟨c6, hf⟩ | ⟨c6, hf⟩
      · refine lv_icmp_ne (tgt := 65) C.1 C.2.1 dX9_algebra_59 (by decide) (fun q => absurd c6 q) (fun _ => ?_)
        refine lv_bipush (v := (-4 : Int32)) C.1 C.2.1 dX9_algebra_62 (by decide) ?_
        obtain rfl := Option.some.inj hf
        exact r_iret C hG dX9_algebra_64
      · refine lv_icmp_ne (tgt := 65) C.1 C.2.1 dX9_algebra_59 (by decide) (fun _ => ?_) (fun q => absurd q c6)
        refine lv_aload_n C.1 C.2.1 dX9_algebra_65 rfl (lv_at hl 0 rfl) ?_
        refine gf_X9_11 C hG rfl dX9_algebra_66 ?_
        refine lv_iconst (v := nI 0) C.1 C.2.1 dX9_algebra_69 (by decide) ?_
        obtain ⟨v7, hv7, hf⟩ := of_bind hf
        obtain ⟨bv7, ev7⟩ := of_ldS hv7
        refine r_iald C hG (c0 := 1) (by decide) (entM_I (n := 130) rfl) bv7 dX9_algebra_70 ?_
        refine r_top ev7 ?_
        refine lv_istore (lv' := [(4, .int v7), (0, .ref (B + 0)), (1, .int x1), (2, .int x2), (3, .int x3)]) C.1 C.2.1 dX9_algebra_71 hl (by decide) rfl (fun ls hl => ?_)
        refine lv_aload_n C.1 C.2.1 dX9_algebra_73 rfl (lv_at hl 1 rfl) ?_
        refine gf_X9_11 C hG rfl dX9_algebra_74 ?_
        refine lv_iconst (v := nI 1) C.1 C.2.1 dX9_algebra_77 (by decide) ?_
        refine lv_iload C.1 C.2.1 dX9_algebra_78 (lv_at hl 0 rfl) ?_
        refine lv_iadd C.1 C.2.1 dX9_algebra_80 ?_
        refine lv_iload_n C.1 C.2.1 dX9_algebra_81 rfl (lv_at hl 2 rfl) ?_
        obtain ⟨w8, hw8, hf⟩ := of_bind hf
        obtain ⟨bw8, ew8⟩ := of_stM hw8
        refine r_iast C hG (c0 := 1) (by decide) (entM_I (n := 130) rfl) bw8 (E' := (entM G B w8)) (by rw [ew8]; exact upM_I (n := 130) rfl) dX9_algebra_82 (fun H locs hG => ?_)
        refine lv_aload_n C.1 C.2.1 dX9_algebra_83 rfl (lv_at hl 1 rfl) ?_
        refine gf_X9_11 C hG rfl dX9_algebra_84 ?_
        refine lv_iconst (v := nI 5) C.1 C.2.1 dX9_algebra_87 (by decide) ?_
        refine lv_iload C.1 C.2.1 dX9_algebra_88 (lv_at hl 0 rfl) ?_
        refine lv_iadd C.1 C.2.1 dX9_algebra_90 ?_
        refine lv_iload_n C.1 C.2.1 dX9_algebra_91 rfl (lv_at hl 3 rfl) ?_
        obtain ⟨w9, hw9, hf⟩ := of_bind hf
        obtain ⟨bw9, ew9⟩ := of_stM hw9
        refine r_iast C hG (c0 := 1) (by decide) (entM_I (n := 130) rfl) bw9 (E' := (entM G B w9)) (by rw [ew9]; exact upM_I (n := 130) rfl) dX9_algebra_92 (fun H locs hG => ?_)
        refine lv_aload_n C.1 C.2.1 dX9_algebra_93 rfl (lv_at hl 1 rfl) ?_
        refine gf_X9_11 C hG rfl dX9_algebra_94 ?_
        refine lv_bipush (v := nI 9) C.1 C.2.1 dX9_algebra_97 (by decide) ?_
        refine lv_iload C.1 C.2.1 dX9_algebra_99 (lv_at hl 0 rfl) ?_
        refine lv_iadd C.1 C.2.1 dX9_algebra_101 ?_
        refine lv_iload_n C.1 C.2.1 dX9_algebra_102 rfl (lv_at hl 4 rfl) ?_
        obtain ⟨w10, hw10, hf⟩ := of_bind hf
        obtain ⟨bw10, ew10⟩ := of_stM hw10
        refine r_iast C hG (c0 := 1) (by decide) (entM_I (n := 130) rfl) bw10 (E' := (entM G B w10)) (by rw [ew10]; exact upM_I (n := 130) rfl) dX9_algebra_103 (fun H locs hG => ?_)
        refine lv_aload_n C.1 C.2.1 dX9_algebra_104 rfl (lv_at hl 1 rfl) ?_
        refine gf_X9_11 C hG rfl dX9_algebra_105 ?_
        refine lv_iconst (v := nI 0) C.1 C.2.1 dX9_algebra_108 (by decide) ?_
        refine lv_dup2_11 C.1 C.2.1 dX9_algebra_109 rfl rfl ?_
        obtain ⟨v11, hv11, hf⟩ := of_bind hf
        obtain ⟨bv11, ev11⟩ := of_ldS hv11
        refine r_iald C hG (c0 := 1) (by decide) (entM_I (n := 130) rfl) bv11 dX9_algebra_110 ?_
        refine r_top ev11 ?_
        refine lv_iconst (v := nI 1) C.1 C.2.1 dX9_algebra_111 (by decide) ?_
        refine lv_iadd C.1 C.2.1 dX9_algebra_112 ?_
        obtain ⟨w12, hw12, hf⟩ := of_bind hf
        obtain ⟨bw12, ew12⟩ := of_stM hw12
        refine r_iast C hG (c0 := 1) (by decide) (entM_I (n := 130) rfl) bw12 (E' := (entM G B w12)) (by rw [ew12]; exact upM_I (n := 130) rfl) dX9_algebra_113 (fun H locs hG => ?_)
        refine lv_iload C.1 C.2.1 dX9_algebra_114 (lv_at hl 0 rfl) ?_
        obtain rfl := Option.some.inj hf
        exact r_iret C hG dX9_algebra_116
set_option maxRecDepth 100000 in
set_option maxHeartbeats 4000000 in
theorem kb_X9_algebra_0 {x1 : Int32} {x2 : Int32} {x3 : Int32} {w : Mem} {out : Int32 × Mem} {H : Heap} {locs : List Loc} {ls : Array Slot} (C : CX p s m args meth c cX9_algebra 5 RX9 wc_X9_algebra (some .int))  (hG : Gd s G A 28 B (entM G B w) X H locs) (hl : lv_has ls 5 [(0, .ref (B + 0)), (1, .int x1), (2, .int x2), (3, .int x3)]) (hf : sh_X9_algebra x1 x2 x3 w = some out) :
    W p l e rm_X9_algebra s m args below meth c H locs 0 0 (MQ below (CPost G A 28 B (entM G B out.2) X (some (.int out.1))) args s 0 0 A) (F0 m 0 ls []) := by
  refine lv_iload_n C.1 C.2.1 dX9_algebra_0 rfl (lv_at hl 1 rfl) ?_
  refine lv_i2l C.1 C.2.1 dX9_algebra_1 rfl ?_
  refine lv_lconst (v := lN 0) C.1 C.2.1 dX9_algebra_2 rfl ?_
  refine lv_ldc2 (v := lN 4) C.1 C.2.1 C.2.2.2.1 (C.2.2.2.2.1 _ (List.mem_cons_of_mem _ tg_4_194)) dX9_algebra_3 ?_
  obtain ⟨v1, hv1, hf⟩ := of_bind hf
  refine r_callS1 C hG hl.1 (As := [.long x1.toInt64, .long (lN 0), .long (lN 4)]) (mt_X9_isIn l  hv1) (va_cwS 3 C.2.2.2.2.1 (gd_S tg_4_195 tg_4_196 tg_1_10 tg_4_197) rfl rfl rfl cd_X9_isIn.2 ⟨Nat.le_of_ble_eq_true rfl, Nat.le_of_ble_eq_true rfl⟩) rfl rfl (Nat.le_of_ble_eq_true rfl) dX9_algebra_6 (fun H locs hG => ?_)
  rcases of_ite hf with ⟨c2, hf⟩ | ⟨c2, hf⟩
  · refine lv_if_ne (tgt := 14) C.1 C.2.1 dX9_algebra_9 (by decide) (fun q => absurd c2 q) (fun _ => ?_)
    refine lv_iconst (v := (-1 : Int32)) C.1 C.2.1 dX9_algebra_12 (by decide) ?_
    obtain rfl := Option.some.inj hf
    exact r_iret C hG dX9_algebra_13
  · refine lv_if_ne (tgt := 14) C.1 C.2.1 dX9_algebra_9 (by decide) (fun _ => ?_) (fun q => absurd q c2)
    refine lv_iload_n C.1 C.2.1 dX9_algebra_14 rfl (lv_at hl 2 rfl) ?_
    refine lv_i2l C.1 C.2.1 dX9_algebra_15 rfl ?_
    refine lv_lconst (v := lN 1) C.1 C.2.1 dX9_algebra_16 rfl ?_
    refine lv_iload_n C.1 C.2.1 dX9_algebra_17 rfl (lv_at hl 1 rfl) ?_
    refine lv_iconst (v := nI 4) C.1 C.2.1 dX9_algebra_18 (by decide) ?_
    rcases of_ite hf with ⟨c3, hf⟩ | ⟨c3, hf⟩
    · refine lv_icmp_ne (tgt := 28) C.1 C.2.1 dX9_algebra_19 (by decide) (fun q => absurd c3 q) (fun _ => ?_)
      refine lv_ldc2 (v := lN 2) C.1 C.2.1 C.2.2.2.1 (C.2.2.2.2.1 _ (List.mem_cons_of_mem _ tg_4_198)) dX9_algebra_22 ?_
      refine lv_goto (tgt := 31) C.1 C.2.1 dX9_algebra_25 (by decide) ?_
      exact kb_X9_algebra_31 C  hG hl hf
    · refine lv_icmp_ne (tgt := 28) C.1 C.2.1 dX9_algebra_19 (by decide) (fun _ => ?_) (fun q => absurd q c3)
      refine lv_ldc2 (v := lN 6) C.1 C.2.1 C.2.2.2.1 (C.2.2.2.2.1 _ (List.mem_cons_of_mem _ tg_4_199)) dX9_algebra_28 ?_
      exact kb_X9_algebra_31 C  hG hl hf
set_option maxRecDepth 100000 in
set_option maxHeartbeats 4000000 in
theorem mt_X9_algebra (l : Launch) {G : GG} {A : Nat → Prop} {B : Nat} {X : va_W} {x1 : Int32} {x2 : Int32} {x3 : Int32} {w : Mem} {out : Int32 × Mem}  (hf : sh_X9_algebra x1 x2 x3 w = some out) : MetW l yX9_algebra wc_X9_algebra rm_X9_algebra G A 28 B (entM G B w) X [.ref (B + 0), .int x1, .int x2, .int x3] (some (.int out.1)) (entM G B out.2) := by
  refine Met.ofW (cc := cX9_algebra) (maxL := 5) (ret := (some .int)) (by decide) rfl ?_
  intro p e s m args below meth c s₁ B0 hml hv
  obtain ⟨rfl, hEv, hWd⟩ := hv
  have C : CX p s m _ meth c cX9_algebra 5 RX9 wc_X9_algebra (some .int) := ⟨B0.exec, B0.bytes, hml, findClass_of_methodNamed B0.named, atoms_spec (ws := wc_X9_algebra) B0.pre, B0.returns, B0.notSynchronized⟩
  have hl := lv_entry [.ref (B + 0), .int x1, .int x2, .int x3] (n := 5) (Nat.le_of_ble_eq_true rfl)
  rw [lg_entry_eq]
  generalize (lg_sl [.ref (B + 0), .int x1, .int x2, .int x3] ++ List.replicate (5 - (lg_sl [.ref (B + 0), .int x1, .int x2, .int x3]).length) Slot.unset).toArray = ls at hl ⊢
  have hl : lv_has ls 5 [(0, .ref (B + 0)), (1, .int x1), (2, .int x2), (3, .int x3)] := hl
  exact kb_X9_algebra_0 C  ⟨hEv, hWd, va_S.rf⟩ hl hf
abbrev wc_X9_becomes : List Cond := Cond.code yX9_becomes cX9_becomes 4 (some .int) :: TG
abbrev rm_X9_becomes : Room := { frames := 4, cells := 0, slots := 0, locals := 146 }
theorem cd_X9_becomes : yX9_becomes.cls = RX9 ∧ yX9_becomes.cls ≠ "java/lang/invoke/MethodHandle" ∧ yX9_becomes.cls ≠ "java/lang/invoke/VarHandle" ∧ (parseMethodDescriptor yX9_becomes.desc).map (fun d => d.parameters.length) = some 2 := by decide +kernel
theorem dX9_becomes_0 : decode cX9_becomes 0 = .ok (.aload_n 0, 1) := by decide +kernel
theorem dX9_becomes_1 : decode cX9_becomes 1 = .ok (.iload_n 1, 1) := by decide +kernel
theorem dX9_becomes_2 : decode cX9_becomes 2 = .ok (.invokevirtual 109, 3) := by decide +kernel
theorem dX9_becomes_5 : decode cX9_becomes 5 = .ok (.ifCond .ne 5, 3) := by decide +kernel
theorem dX9_becomes_8 : decode cX9_becomes 8 = .ok (.iconst (-1), 1) := by decide +kernel
theorem dX9_becomes_9 : decode cX9_becomes 9 = .ok (.ireturn, 1) := by decide +kernel
theorem dX9_becomes_10 : decode cX9_becomes 10 = .ok (.iload_n 2, 1) := by decide +kernel
theorem dX9_becomes_11 : decode cX9_becomes 11 = .ok (.i2l, 1) := by decide +kernel
theorem dX9_becomes_12 : decode cX9_becomes 12 = .ok (.lconst 0, 1) := by decide +kernel
theorem dX9_becomes_13 : decode cX9_becomes 13 = .ok (.ldc2_w 107, 3) := by decide +kernel
theorem dX9_becomes_16 : decode cX9_becomes 16 = .ok (.invokestatic 93, 3) := by decide +kernel
theorem dX9_becomes_19 : decode cX9_becomes 19 = .ok (.ifCond .ne 6, 3) := by decide +kernel
theorem dX9_becomes_22 : decode cX9_becomes 22 = .ok (.bipush (-2), 2) := by decide +kernel
theorem dX9_becomes_24 : decode cX9_becomes 24 = .ok (.ireturn, 1) := by decide +kernel
theorem dX9_becomes_25 : decode cX9_becomes 25 = .ok (.aload_n 0, 1) := by decide +kernel
theorem dX9_becomes_26 : decode cX9_becomes 26 = .ok (.getfield 11, 3) := by decide +kernel
theorem dX9_becomes_29 : decode cX9_becomes 29 = .ok (.bipush 9, 2) := by decide +kernel
theorem dX9_becomes_31 : decode cX9_becomes 31 = .ok (.iload_n 1, 1) := by decide +kernel
theorem dX9_becomes_32 : decode cX9_becomes 32 = .ok (.iadd, 1) := by decide +kernel
theorem dX9_becomes_33 : decode cX9_becomes 33 = .ok (.iaload, 1) := by decide +kernel
theorem dX9_becomes_34 : decode cX9_becomes 34 = .ok (.istore_n 3, 1) := by decide +kernel
theorem dX9_becomes_35 : decode cX9_becomes 35 = .ok (.aload_n 0, 1) := by decide +kernel
theorem dX9_becomes_36 : decode cX9_becomes 36 = .ok (.getfield 11, 3) := by decide +kernel
theorem dX9_becomes_39 : decode cX9_becomes 39 = .ok (.bipush 9, 2) := by decide +kernel
theorem dX9_becomes_41 : decode cX9_becomes 41 = .ok (.iload_n 1, 1) := by decide +kernel
theorem dX9_becomes_42 : decode cX9_becomes 42 = .ok (.iadd, 1) := by decide +kernel
theorem dX9_becomes_43 : decode cX9_becomes 43 = .ok (.iload_n 2, 1) := by decide +kernel
theorem dX9_becomes_44 : decode cX9_becomes 44 = .ok (.iastore, 1) := by decide +kernel
theorem dX9_becomes_45 : decode cX9_becomes 45 = .ok (.iload_n 3, 1) := by decide +kernel
theorem dX9_becomes_46 : decode cX9_becomes 46 = .ok (.ireturn, 1) := by decide +kernel
set_option maxRecDepth 100000 in
set_option maxHeartbeats 4000000 in
theorem kb_X9_becomes_0 {x1 : Int32} {x2 : Int32} {w : Mem} {out : Int32 × Mem} {H : Heap} {locs : List Loc} {ls : Array Slot} (C : CX p s m args meth c cX9_becomes 4 RX9 wc_X9_becomes (some .int))  (hG : Gd s G A 28 B (entM G B w) X H locs) (hl : lv_has ls 4 [(0, .ref (B + 0)), (1, .int x1), (2, .int x2)]) (hf : sh_X9_becomes x1 x2 w = some out) :
    W p l e rm_X9_becomes s m args below meth c H locs 0 0 (MQ below (CPost G A 28 B (entM G B out.2) X (some (.int out.1))) args s 0 0 A) (F0 m 0 ls []) := by
  refine lv_aload_n C.1 C.2.1 dX9_becomes_0 rfl (lv_at hl 0 rfl) ?_
  refine lv_iload_n C.1 C.2.1 dX9_becomes_1 rfl (lv_at hl 1 rfl) ?_
  obtain ⟨v1, hv1, hf⟩ := of_bind hf
  refine r_callV1 C hG hl.1 (c0 := 0) (As := [.int x1]) (by decide) (entM_O (n := 35) rfl) rfl (mt_X9_isAlgebra l  hv1) (cwV 1 C.2.2.2.2.1 (gd_V tg_4_205 tg_4_207 tgp_27 tg_1_10 tg_4_208) rfl rfl rfl cd_X9_isAlgebra ⟨Nat.le_of_ble_eq_true rfl, Nat.le_of_ble_eq_true rfl⟩) rfl rfl (Nat.le_of_ble_eq_true rfl) dX9_becomes_2 (fun H locs hG => ?_)
  rcases of_ite hf with ⟨c2, hf⟩ | ⟨c2, hf⟩
  · refine lv_if_ne (tgt := 10) C.1 C.2.1 dX9_becomes_5 (by decide) (fun q => absurd c2 q) (fun _ => ?_)
    refine lv_iconst (v := (-1 : Int32)) C.1 C.2.1 dX9_becomes_8 (by decide) ?_
    obtain rfl := Option.some.inj hf
    exact r_iret C hG dX9_becomes_9
  · refine lv_if_ne (tgt := 10) C.1 C.2.1 dX9_becomes_5 (by decide) (fun _ => ?_) (fun q => absurd q c2)
    refine lv_iload_n C.1 C.2.1 dX9_becomes_10 rfl (lv_at hl 2 rfl) ?_
    refine lv_i2l C.1 C.2.1 dX9_becomes_11 rfl ?_
    refine lv_lconst (v := lN 0) C.1 C.2.1 dX9_becomes_12 rfl ?_
    refine lv_ldc2 (v := lN 9) C.1 C.2.1 C.2.2.2.1 (C.2.2.2.2.1 _ (List.mem_cons_of_mem _ tg_4_200)) dX9_becomes_13 ?_
    obtain ⟨v3, hv3, hf⟩ := of_bind hf
    refine r_callS1 C hG hl.1 (As := [.long x2.toInt64, .long (lN 0), .long (lN 9)]) (mt_X9_isIn l  hv3) (va_cwS 3 C.2.2.2.2.1 (gd_S tg_4_195 tg_4_196 tg_1_10 tg_4_197) rfl rfl rfl cd_X9_isIn.2 ⟨Nat.le_of_ble_eq_true rfl, Nat.le_of_ble_eq_true rfl⟩) rfl rfl (Nat.le_of_ble_eq_true rfl) dX9_becomes_16 (fun H locs hG => ?_)
    rcases of_ite hf with ⟨c4, hf⟩ | ⟨c4, hf⟩
    · refine lv_if_ne (tgt := 25) C.1 C.2.1 dX9_becomes_19 (by decide) (fun q => absurd c4 q) (fun _ => ?_)
      refine lv_bipush (v := (-2 : Int32)) C.1 C.2.1 dX9_becomes_22 (by decide) ?_
      obtain rfl := Option.some.inj hf
      exact r_iret C hG dX9_becomes_24
    · refine lv_if_ne (tgt := 25) C.1 C.2.1 dX9_becomes_19 (by decide) (fun _ => ?_) (fun q => absurd q c4)
      refine lv_aload_n C.1 C.2.1 dX9_becomes_25 rfl (lv_at hl 0 rfl) ?_
      refine gf_X9_11 C hG rfl dX9_becomes_26 ?_
      refine lv_bipush (v := nI 9) C.1 C.2.1 dX9_becomes_29 (by decide) ?_
      refine lv_iload_n C.1 C.2.1 dX9_becomes_31 rfl (lv_at hl 1 rfl) ?_
      refine lv_iadd C.1 C.2.1 dX9_becomes_32 ?_
      obtain ⟨v5, hv5, hf⟩ := of_bind hf
      obtain ⟨bv5, ev5⟩ := of_ldS hv5
      refine r_iald C hG (c0 := 1) (by decide) (entM_I (n := 130) rfl) bv5 dX9_becomes_33 ?_
      refine r_top ev5 ?_
      refine lv_istore_n (lv' := [(3, .int v5), (0, .ref (B + 0)), (1, .int x1), (2, .int x2)]) C.1 C.2.1 dX9_becomes_34 rfl hl (by decide) rfl (fun ls hl => ?_)
      refine lv_aload_n C.1 C.2.1 dX9_becomes_35 rfl (lv_at hl 1 rfl) ?_
      refine gf_X9_11 C hG rfl dX9_becomes_36 ?_
      refine lv_bipush (v := nI 9) C.1 C.2.1 dX9_becomes_39 (by decide) ?_
      refine lv_iload_n C.1 C.2.1 dX9_becomes_41 rfl (lv_at hl 2 rfl) ?_
      refine lv_iadd C.1 C.2.1 dX9_becomes_42 ?_
      refine lv_iload_n C.1 C.2.1 dX9_becomes_43 rfl (lv_at hl 3 rfl) ?_
      obtain ⟨w6, hw6, hf⟩ := of_bind hf
      obtain ⟨bw6, ew6⟩ := of_stM hw6
      refine r_iast C hG (c0 := 1) (by decide) (entM_I (n := 130) rfl) bw6 (E' := (entM G B w6)) (by rw [ew6]; exact upM_I (n := 130) rfl) dX9_becomes_44 (fun H locs hG => ?_)
      refine lv_iload_n C.1 C.2.1 dX9_becomes_45 rfl (lv_at hl 0 rfl) ?_
      obtain rfl := Option.some.inj hf
      exact r_iret C hG dX9_becomes_46
set_option maxRecDepth 100000 in
set_option maxHeartbeats 4000000 in
theorem mt_X9_becomes (l : Launch) {G : GG} {A : Nat → Prop} {B : Nat} {X : va_W} {x1 : Int32} {x2 : Int32} {w : Mem} {out : Int32 × Mem}  (hf : sh_X9_becomes x1 x2 w = some out) : MetW l yX9_becomes wc_X9_becomes rm_X9_becomes G A 28 B (entM G B w) X [.ref (B + 0), .int x1, .int x2] (some (.int out.1)) (entM G B out.2) := by
  refine Met.ofW (cc := cX9_becomes) (maxL := 4) (ret := (some .int)) (by decide) rfl ?_
  intro p e s m args below meth c s₁ B0 hml hv
  obtain ⟨rfl, hEv, hWd⟩ := hv
  have C : CX p s m _ meth c cX9_becomes 4 RX9 wc_X9_becomes (some .int) := ⟨B0.exec, B0.bytes, hml, findClass_of_methodNamed B0.named, atoms_spec (ws := wc_X9_becomes) B0.pre, B0.returns, B0.notSynchronized⟩
  have hl := lv_entry [.ref (B + 0), .int x1, .int x2] (n := 4) (Nat.le_of_ble_eq_true rfl)
  rw [lg_entry_eq]
  generalize (lg_sl [.ref (B + 0), .int x1, .int x2] ++ List.replicate (4 - (lg_sl [.ref (B + 0), .int x1, .int x2]).length) Slot.unset).toArray = ls at hl ⊢
  have hl : lv_has ls 4 [(0, .ref (B + 0)), (1, .int x1), (2, .int x2)] := hl
  exact kb_X9_becomes_0 C  ⟨hEv, hWd, va_S.rf⟩ hl hf
abbrev wc_X9_elements : List Cond := Cond.code yX9_elements cX9_elements 2 (some .int) :: TG
abbrev rm_X9_elements : Room := { frames := 2, cells := 0, slots := 0, locals := 100 }
theorem cd_X9_elements : yX9_elements.cls = RX9 ∧ yX9_elements.cls ≠ "java/lang/invoke/MethodHandle" ∧ yX9_elements.cls ≠ "java/lang/invoke/VarHandle" ∧ (parseMethodDescriptor yX9_elements.desc).map (fun d => d.parameters.length) = some 1 := by decide +kernel
theorem dX9_elements_0 : decode cX9_elements 0 = .ok (.aload_n 0, 1) := by decide +kernel
theorem dX9_elements_1 : decode cX9_elements 1 = .ok (.getfield 11, 3) := by decide +kernel
theorem dX9_elements_4 : decode cX9_elements 4 = .ok (.iconst 1, 1) := by decide +kernel
theorem dX9_elements_5 : decode cX9_elements 5 = .ok (.iload_n 1, 1) := by decide +kernel
theorem dX9_elements_6 : decode cX9_elements 6 = .ok (.iadd, 1) := by decide +kernel
theorem dX9_elements_7 : decode cX9_elements 7 = .ok (.iaload, 1) := by decide +kernel
theorem dX9_elements_8 : decode cX9_elements 8 = .ok (.iconst 4, 1) := by decide +kernel
theorem dX9_elements_9 : decode cX9_elements 9 = .ok (.if_icmp .ne 16, 3) := by decide +kernel
theorem dX9_elements_12 : decode cX9_elements 12 = .ok (.iconst 1, 1) := by decide +kernel
theorem dX9_elements_13 : decode cX9_elements 13 = .ok (.aload_n 0, 1) := by decide +kernel
theorem dX9_elements_14 : decode cX9_elements 14 = .ok (.getfield 11, 3) := by decide +kernel
theorem dX9_elements_17 : decode cX9_elements 17 = .ok (.iconst 5, 1) := by decide +kernel
theorem dX9_elements_18 : decode cX9_elements 18 = .ok (.iload_n 1, 1) := by decide +kernel
theorem dX9_elements_19 : decode cX9_elements 19 = .ok (.iadd, 1) := by decide +kernel
theorem dX9_elements_20 : decode cX9_elements 20 = .ok (.iaload, 1) := by decide +kernel
theorem dX9_elements_21 : decode cX9_elements 21 = .ok (.ishl, 1) := by decide +kernel
theorem dX9_elements_22 : decode cX9_elements 22 = .ok (.goto 11, 3) := by decide +kernel
theorem dX9_elements_25 : decode cX9_elements 25 = .ok (.aload_n 0, 1) := by decide +kernel
theorem dX9_elements_26 : decode cX9_elements 26 = .ok (.getfield 11, 3) := by decide +kernel
theorem dX9_elements_29 : decode cX9_elements 29 = .ok (.iconst 5, 1) := by decide +kernel
theorem dX9_elements_30 : decode cX9_elements 30 = .ok (.iload_n 1, 1) := by decide +kernel
theorem dX9_elements_31 : decode cX9_elements 31 = .ok (.iadd, 1) := by decide +kernel
theorem dX9_elements_32 : decode cX9_elements 32 = .ok (.iaload, 1) := by decide +kernel
theorem dX9_elements_33 : decode cX9_elements 33 = .ok (.ireturn, 1) := by decide +kernel
set_option maxRecDepth 100000 in
set_option maxHeartbeats 4000000 in
theorem kb_X9_elements_0 {x1 : Int32} {w : Mem} {out : Int32} {H : Heap} {locs : List Loc} {ls : Array Slot} (C : CX p s m args meth c cX9_elements 2 RX9 wc_X9_elements (some .int))  (hG : Gd s G A 28 B (entM G B w) X H locs) (hl : lv_has ls 2 [(0, .ref (B + 0)), (1, .int x1)]) (hf : sh_X9_elements x1 w = some out) :
    W p l e rm_X9_elements s m args below meth c H locs 0 0 (MQ below (CPost G A 28 B (entM G B w) X (some (.int out))) args s 0 0 A) (F0 m 0 ls []) := by
  refine lv_aload_n C.1 C.2.1 dX9_elements_0 rfl (lv_at hl 0 rfl) ?_
  refine gf_X9_11 C hG rfl dX9_elements_1 ?_
  refine lv_iconst (v := nI 1) C.1 C.2.1 dX9_elements_4 (by decide) ?_
  refine lv_iload_n C.1 C.2.1 dX9_elements_5 rfl (lv_at hl 1 rfl) ?_
  refine lv_iadd C.1 C.2.1 dX9_elements_6 ?_
  obtain ⟨v1, hv1, hf⟩ := of_bind hf
  obtain ⟨bv1, ev1⟩ := of_ldS hv1
  refine r_iald C hG (c0 := 1) (by decide) (entM_I (n := 130) rfl) bv1 dX9_elements_7 ?_
  refine r_top ev1 ?_
  refine lv_iconst (v := nI 4) C.1 C.2.1 dX9_elements_8 (by decide) ?_
  rcases of_ite hf with ⟨c2, hf⟩ | ⟨c2, hf⟩
  · refine lv_icmp_ne (tgt := 25) C.1 C.2.1 dX9_elements_9 (by decide) (fun q => absurd c2 q) (fun _ => ?_)
    refine lv_iconst (v := nI 1) C.1 C.2.1 dX9_elements_12 (by decide) ?_
    refine lv_aload_n C.1 C.2.1 dX9_elements_13 rfl (lv_at hl 0 rfl) ?_
    refine gf_X9_11 C hG rfl dX9_elements_14 ?_
    refine lv_iconst (v := nI 5) C.1 C.2.1 dX9_elements_17 (by decide) ?_
    refine lv_iload_n C.1 C.2.1 dX9_elements_18 rfl (lv_at hl 1 rfl) ?_
    refine lv_iadd C.1 C.2.1 dX9_elements_19 ?_
    obtain ⟨v4, hv4, hf⟩ := of_bind hf
    obtain ⟨bv4, ev4⟩ := of_ldS hv4
    refine r_iald C hG (c0 := 1) (by decide) (entM_I (n := 130) rfl) bv4 dX9_elements_20 ?_
    refine r_top ev4 ?_
    refine lv_ishl C.1 C.2.1 dX9_elements_21 ?_
    refine lv_goto (tgt := 33) C.1 C.2.1 dX9_elements_22 (by decide) ?_
    obtain rfl := Option.some.inj hf
    exact r_iret C hG dX9_elements_33
  · refine lv_icmp_ne (tgt := 25) C.1 C.2.1 dX9_elements_9 (by decide) (fun _ => ?_) (fun q => absurd q c2)
    refine lv_aload_n C.1 C.2.1 dX9_elements_25 rfl (lv_at hl 0 rfl) ?_
    refine gf_X9_11 C hG rfl dX9_elements_26 ?_
    refine lv_iconst (v := nI 5) C.1 C.2.1 dX9_elements_29 (by decide) ?_
    refine lv_iload_n C.1 C.2.1 dX9_elements_30 rfl (lv_at hl 1 rfl) ?_
    refine lv_iadd C.1 C.2.1 dX9_elements_31 ?_
    obtain ⟨v3, hv3, hf⟩ := of_bind hf
    obtain ⟨bv3, ev3⟩ := of_ldS hv3
    refine r_iald C hG (c0 := 1) (by decide) (entM_I (n := 130) rfl) bv3 dX9_elements_32 ?_
    refine r_top ev3 ?_
    obtain rfl := Option.some.inj hf
    exact r_iret C hG dX9_elements_33
set_option maxRecDepth 100000 in
set_option maxHeartbeats 4000000 in
theorem mt_X9_elements (l : Launch) {G : GG} {A : Nat → Prop} {B : Nat} {X : va_W} {x1 : Int32} {w : Mem} {out : Int32}  (hf : sh_X9_elements x1 w = some out) : MetW l yX9_elements wc_X9_elements rm_X9_elements G A 28 B (entM G B w) X [.ref (B + 0), .int x1] (some (.int out)) (entM G B w) := by
  refine Met.ofW (cc := cX9_elements) (maxL := 2) (ret := (some .int)) (by decide) rfl ?_
  intro p e s m args below meth c s₁ B0 hml hv
  obtain ⟨rfl, hEv, hWd⟩ := hv
  have C : CX p s m _ meth c cX9_elements 2 RX9 wc_X9_elements (some .int) := ⟨B0.exec, B0.bytes, hml, findClass_of_methodNamed B0.named, atoms_spec (ws := wc_X9_elements) B0.pre, B0.returns, B0.notSynchronized⟩
  have hl := lv_entry [.ref (B + 0), .int x1] (n := 2) (Nat.le_of_ble_eq_true rfl)
  rw [lg_entry_eq]
  generalize (lg_sl [.ref (B + 0), .int x1] ++ List.replicate (2 - (lg_sl [.ref (B + 0), .int x1]).length) Slot.unset).toArray = ls at hl ⊢
  have hl : lv_has ls 2 [(0, .ref (B + 0)), (1, .int x1)] := hl
  exact kb_X9_elements_0 C  ⟨hEv, hWd, va_S.rf⟩ hl hf
abbrev wc_X9_of : List Cond := Cond.code yX9_of cX9_of 3 (some .int) :: TG
abbrev rm_X9_of : Room := { frames := 4, cells := 0, slots := 0, locals := 146 }
theorem cd_X9_of : yX9_of.cls = RX9 ∧ yX9_of.cls ≠ "java/lang/invoke/MethodHandle" ∧ yX9_of.cls ≠ "java/lang/invoke/VarHandle" ∧ (parseMethodDescriptor yX9_of.desc).map (fun d => d.parameters.length) = some 2 := by decide +kernel
theorem dX9_of_0 : decode cX9_of 0 = .ok (.aload_n 0, 1) := by decide +kernel
theorem dX9_of_1 : decode cX9_of 1 = .ok (.iload_n 1, 1) := by decide +kernel
theorem dX9_of_2 : decode cX9_of 2 = .ok (.invokevirtual 109, 3) := by decide +kernel
theorem dX9_of_5 : decode cX9_of 5 = .ok (.ifCond .ne 5, 3) := by decide +kernel
theorem dX9_of_8 : decode cX9_of 8 = .ok (.iconst (-1), 1) := by decide +kernel
theorem dX9_of_9 : decode cX9_of 9 = .ok (.ireturn, 1) := by decide +kernel
theorem dX9_of_10 : decode cX9_of 10 = .ok (.iload_n 2, 1) := by decide +kernel
theorem dX9_of_11 : decode cX9_of 11 = .ok (.tableswitch 63 0 3 #[29, 38, 47, 57], 29) := by decide +kernel
theorem dX9_of_40 : decode cX9_of 40 = .ok (.aload_n 0, 1) := by decide +kernel
theorem dX9_of_41 : decode cX9_of 41 = .ok (.getfield 11, 3) := by decide +kernel
theorem dX9_of_44 : decode cX9_of 44 = .ok (.iconst 1, 1) := by decide +kernel
theorem dX9_of_45 : decode cX9_of 45 = .ok (.iload_n 1, 1) := by decide +kernel
theorem dX9_of_46 : decode cX9_of 46 = .ok (.iadd, 1) := by decide +kernel
theorem dX9_of_47 : decode cX9_of 47 = .ok (.iaload, 1) := by decide +kernel
theorem dX9_of_48 : decode cX9_of 48 = .ok (.ireturn, 1) := by decide +kernel
theorem dX9_of_49 : decode cX9_of 49 = .ok (.aload_n 0, 1) := by decide +kernel
theorem dX9_of_50 : decode cX9_of 50 = .ok (.getfield 11, 3) := by decide +kernel
theorem dX9_of_53 : decode cX9_of 53 = .ok (.iconst 5, 1) := by decide +kernel
theorem dX9_of_54 : decode cX9_of 54 = .ok (.iload_n 1, 1) := by decide +kernel
theorem dX9_of_55 : decode cX9_of 55 = .ok (.iadd, 1) := by decide +kernel
theorem dX9_of_56 : decode cX9_of 56 = .ok (.iaload, 1) := by decide +kernel
theorem dX9_of_57 : decode cX9_of 57 = .ok (.ireturn, 1) := by decide +kernel
theorem dX9_of_58 : decode cX9_of 58 = .ok (.aload_n 0, 1) := by decide +kernel
theorem dX9_of_59 : decode cX9_of 59 = .ok (.getfield 11, 3) := by decide +kernel
theorem dX9_of_62 : decode cX9_of 62 = .ok (.bipush 9, 2) := by decide +kernel
theorem dX9_of_64 : decode cX9_of 64 = .ok (.iload_n 1, 1) := by decide +kernel
theorem dX9_of_65 : decode cX9_of 65 = .ok (.iadd, 1) := by decide +kernel
theorem dX9_of_66 : decode cX9_of 66 = .ok (.iaload, 1) := by decide +kernel
theorem dX9_of_67 : decode cX9_of 67 = .ok (.ireturn, 1) := by decide +kernel
theorem dX9_of_68 : decode cX9_of 68 = .ok (.aload_n 0, 1) := by decide +kernel
theorem dX9_of_69 : decode cX9_of 69 = .ok (.iload_n 1, 1) := by decide +kernel
theorem dX9_of_70 : decode cX9_of 70 = .ok (.invokevirtual 113, 3) := by decide +kernel
theorem dX9_of_73 : decode cX9_of 73 = .ok (.ireturn, 1) := by decide +kernel
theorem dX9_of_74 : decode cX9_of 74 = .ok (.iconst (-1), 1) := by decide +kernel
theorem dX9_of_75 : decode cX9_of 75 = .ok (.ireturn, 1) := by decide +kernel
set_option maxRecDepth 100000 in
set_option maxHeartbeats 4000000 in
theorem kb_X9_of_0 {x1 : Int32} {x2 : Int32} {w : Mem} {out : Int32} {H : Heap} {locs : List Loc} {ls : Array Slot} (C : CX p s m args meth c cX9_of 3 RX9 wc_X9_of (some .int))  (hG : Gd s G A 28 B (entM G B w) X H locs) (hl : lv_has ls 3 [(0, .ref (B + 0)), (1, .int x1), (2, .int x2)]) (hf : sh_X9_of x1 x2 w = some out) :
    W p l e rm_X9_of s m args below meth c H locs 0 0 (MQ below (CPost G A 28 B (entM G B w) X (some (.int out))) args s 0 0 A) (F0 m 0 ls []) := by
  refine lv_aload_n C.1 C.2.1 dX9_of_0 rfl (lv_at hl 0 rfl) ?_
  refine lv_iload_n C.1 C.2.1 dX9_of_1 rfl (lv_at hl 1 rfl) ?_
  obtain ⟨v1, hv1, hf⟩ := of_bind hf
  refine r_callV1 C hG hl.1 (c0 := 0) (As := [.int x1]) (by decide) (entM_O (n := 35) rfl) rfl (mt_X9_isAlgebra l  hv1) (cwV 1 C.2.2.2.2.1 (gd_V tg_4_205 tg_4_207 tgp_27 tg_1_10 tg_4_208) rfl rfl rfl cd_X9_isAlgebra ⟨Nat.le_of_ble_eq_true rfl, Nat.le_of_ble_eq_true rfl⟩) rfl rfl (Nat.le_of_ble_eq_true rfl) dX9_of_2 (fun H locs hG => ?_)
  rcases of_ite hf with ⟨c2, hf⟩ | ⟨c2, hf⟩
  · refine lv_if_ne (tgt := 10) C.1 C.2.1 dX9_of_5 (by decide) (fun q => absurd c2 q) (fun _ => ?_)
    refine lv_iconst (v := (-1 : Int32)) C.1 C.2.1 dX9_of_8 (by decide) ?_
    obtain rfl := Option.some.inj hf
    exact r_iret C hG dX9_of_9
  · refine lv_if_ne (tgt := 10) C.1 C.2.1 dX9_of_5 (by decide) (fun _ => ?_) (fun q => absurd q c2)
    refine lv_iload_n C.1 C.2.1 dX9_of_10 rfl (lv_at hl 2 rfl) ?_
    rcases of_ite hf with ⟨c3, hf⟩ | ⟨c3, hf⟩
    · refine lv_tableIn (tgt := 40) (off := 29) C.1 C.2.1 dX9_of_11 (by rw [c3]; decide) (by rw [c3]; decide) (by rw [c3]; rfl) (by decide) ?_
      refine lv_aload_n C.1 C.2.1 dX9_of_40 rfl (lv_at hl 0 rfl) ?_
      refine gf_X9_11 C hG rfl dX9_of_41 ?_
      refine lv_iconst (v := nI 1) C.1 C.2.1 dX9_of_44 (by decide) ?_
      refine lv_iload_n C.1 C.2.1 dX9_of_45 rfl (lv_at hl 1 rfl) ?_
      refine lv_iadd C.1 C.2.1 dX9_of_46 ?_
      obtain ⟨v4, hv4, hf⟩ := of_bind hf
      obtain ⟨bv4, ev4⟩ := of_ldS hv4
      refine r_iald C hG (c0 := 1) (by decide) (entM_I (n := 130) rfl) bv4 dX9_of_47 ?_
      refine r_top ev4 ?_
      obtain rfl := Option.some.inj hf
      exact r_iret C hG dX9_of_48
    · skip
      rcases of_ite hf with ⟨c5, hf⟩ | ⟨c5, hf⟩
      · refine lv_tableIn (tgt := 49) (off := 38) C.1 C.2.1 dX9_of_11 (by rw [c5]; decide) (by rw [c5]; decide) (by rw [c5]; rfl) (by decide) ?_
        refine lv_aload_n C.1 C.2.1 dX9_of_49 rfl (lv_at hl 0 rfl) ?_
        refine gf_X9_11 C hG rfl dX9_of_50 ?_
        refine lv_iconst (v := nI 5) C.1 C.2.1 dX9_of_53 (by decide) ?_
        refine lv_iload_n C.1 C.2.1 dX9_of_54 rfl (lv_at hl 1 rfl) ?_
        refine lv_iadd C.1 C.2.1 dX9_of_55 ?_
        obtain ⟨v6, hv6, hf⟩ := of_bind hf
        obtain ⟨bv6, ev6⟩ := of_ldS hv6
        refine r_iald C hG (c0 := 1) (by decide) (entM_I (n := 130) rfl) bv6 dX9_of_56 ?_
        refine r_top ev6 ?_
        obtain rfl := Option.some.inj hf
        exact r_iret C hG dX9_of_57
      · skip
        rcases of_ite hf with ⟨c7, hf⟩ | ⟨c7, hf⟩
        · refine lv_tableIn (tgt := 58) (off := 47) C.1 C.2.1 dX9_of_11 (by rw [c7]; decide) (by rw [c7]; decide) (by rw [c7]; rfl) (by decide) ?_
          refine lv_aload_n C.1 C.2.1 dX9_of_58 rfl (lv_at hl 0 rfl) ?_
          refine gf_X9_11 C hG rfl dX9_of_59 ?_
          refine lv_bipush (v := nI 9) C.1 C.2.1 dX9_of_62 (by decide) ?_
          refine lv_iload_n C.1 C.2.1 dX9_of_64 rfl (lv_at hl 1 rfl) ?_
          refine lv_iadd C.1 C.2.1 dX9_of_65 ?_
          obtain ⟨v8, hv8, hf⟩ := of_bind hf
          obtain ⟨bv8, ev8⟩ := of_ldS hv8
          refine r_iald C hG (c0 := 1) (by decide) (entM_I (n := 130) rfl) bv8 dX9_of_66 ?_
          refine r_top ev8 ?_
          obtain rfl := Option.some.inj hf
          exact r_iret C hG dX9_of_67
        · skip
          rcases of_ite hf with ⟨c9, hf⟩ | ⟨c9, hf⟩
          · refine lv_tableIn (tgt := 68) (off := 57) C.1 C.2.1 dX9_of_11 (by rw [c9]; decide) (by rw [c9]; decide) (by rw [c9]; rfl) (by decide) ?_
            refine lv_aload_n C.1 C.2.1 dX9_of_68 rfl (lv_at hl 0 rfl) ?_
            refine lv_iload_n C.1 C.2.1 dX9_of_69 rfl (lv_at hl 1 rfl) ?_
            obtain ⟨v10, hv10, hf⟩ := of_bind hf
            refine r_callV1 C hG hl.1 (c0 := 0) (As := [.int x1]) (by decide) (entM_O (n := 35) rfl) rfl (mt_X9_elements l  hv10) (cwV 1 C.2.2.2.2.1 (gd_V tg_4_213 tg_4_215 tgp_28 tg_1_10 tg_4_216) rfl rfl rfl cd_X9_elements ⟨Nat.le_of_ble_eq_true rfl, Nat.le_of_ble_eq_true rfl⟩) rfl rfl (Nat.le_of_ble_eq_true rfl) dX9_of_70 (fun H locs hG => ?_)
            obtain rfl := Option.some.inj hf
            exact r_iret C hG dX9_of_73
          · skip
            refine lv_tableOut (tgt := 74) C.1 C.2.1 dX9_of_11 (sw_out (n := 4) (by decide) (lt_s (lt_s (lt_s (lt_s lt_0 c3) c5) c7) c9)) (by decide) ?_
            refine lv_iconst (v := (-1 : Int32)) C.1 C.2.1 dX9_of_74 (by decide) ?_
            obtain rfl := Option.some.inj hf
            exact r_iret C hG dX9_of_75
set_option maxRecDepth 100000 in
set_option maxHeartbeats 4000000 in
theorem mt_X9_of (l : Launch) {G : GG} {A : Nat → Prop} {B : Nat} {X : va_W} {x1 : Int32} {x2 : Int32} {w : Mem} {out : Int32}  (hf : sh_X9_of x1 x2 w = some out) : MetW l yX9_of wc_X9_of rm_X9_of G A 28 B (entM G B w) X [.ref (B + 0), .int x1, .int x2] (some (.int out)) (entM G B w) := by
  refine Met.ofW (cc := cX9_of) (maxL := 3) (ret := (some .int)) (by decide) rfl ?_
  intro p e s m args below meth c s₁ B0 hml hv
  obtain ⟨rfl, hEv, hWd⟩ := hv
  have C : CX p s m _ meth c cX9_of 3 RX9 wc_X9_of (some .int) := ⟨B0.exec, B0.bytes, hml, findClass_of_methodNamed B0.named, atoms_spec (ws := wc_X9_of) B0.pre, B0.returns, B0.notSynchronized⟩
  have hl := lv_entry [.ref (B + 0), .int x1, .int x2] (n := 3) (Nat.le_of_ble_eq_true rfl)
  rw [lg_entry_eq]
  generalize (lg_sl [.ref (B + 0), .int x1, .int x2] ++ List.replicate (3 - (lg_sl [.ref (B + 0), .int x1, .int x2]).length) Slot.unset).toArray = ls at hl ⊢
  have hl : lv_has ls 3 [(0, .ref (B + 0)), (1, .int x1), (2, .int x2)] := hl
  exact kb_X9_of_0 C  ⟨hEv, hWd, va_S.rf⟩ hl hf
abbrev wc_X9_at : List Cond := Cond.code yX9_at cX9_at 3 (some .int) :: TG
abbrev rm_X9_at : Room := { frames := 2, cells := 0, slots := 0, locals := 100 }
theorem cd_X9_at : yX9_at.cls = RX9 ∧ yX9_at.cls ≠ "java/lang/invoke/MethodHandle" ∧ yX9_at.cls ≠ "java/lang/invoke/VarHandle" ∧ (parseMethodDescriptor yX9_at.desc).map (fun d => d.parameters.length) = some 2 := by decide +kernel
theorem dX9_at_0 : decode cX9_at 0 = .ok (.bipush 6, 2) := by decide +kernel
theorem dX9_at_2 : decode cX9_at 2 = .ok (.iload_n 1, 1) := by decide +kernel
theorem dX9_at_3 : decode cX9_at 3 = .ok (.imul, 1) := by decide +kernel
theorem dX9_at_4 : decode cX9_at 4 = .ok (.iload_n 2, 1) := by decide +kernel
theorem dX9_at_5 : decode cX9_at 5 = .ok (.iadd, 1) := by decide +kernel
theorem dX9_at_6 : decode cX9_at 6 = .ok (.ireturn, 1) := by decide +kernel
set_option maxRecDepth 100000 in
set_option maxHeartbeats 4000000 in
theorem kb_X9_at_0 {x1 : Int32} {x2 : Int32} {out : Int32} {H : Heap} {locs : List Loc} {ls : Array Slot} (C : CX p s m args meth c cX9_at 3 RX9 wc_X9_at (some .int))  (hG : Gd s G A N B E X H locs) (hl : lv_has ls 3 [(0, .ref (B + 0)), (1, .int x1), (2, .int x2)]) (hf : sh_X9_at x1 x2 = some out) :
    W p l e rm_X9_at s m args below meth c H locs 0 0 (MQ below (CPost G A N B E X (some (.int out))) args s 0 0 A) (F0 m 0 ls []) := by
  refine lv_bipush (v := nI 6) C.1 C.2.1 dX9_at_0 (by decide) ?_
  refine lv_iload_n C.1 C.2.1 dX9_at_2 rfl (lv_at hl 1 rfl) ?_
  refine lv_imul C.1 C.2.1 dX9_at_3 ?_
  refine lv_iload_n C.1 C.2.1 dX9_at_4 rfl (lv_at hl 2 rfl) ?_
  refine lv_iadd C.1 C.2.1 dX9_at_5 ?_
  obtain rfl := Option.some.inj hf
  exact r_iret C hG dX9_at_6
set_option maxRecDepth 100000 in
set_option maxHeartbeats 4000000 in
theorem mt_X9_at (l : Launch) {G : GG} {A : Nat → Prop} {N B : Nat} {E : Nat → va_E} {X : va_W} {x1 : Int32} {x2 : Int32} {out : Int32}  (hf : sh_X9_at x1 x2 = some out) : MetW l yX9_at wc_X9_at rm_X9_at G A N B E X [.ref (B + 0), .int x1, .int x2] (some (.int out)) E := by
  refine Met.ofW (cc := cX9_at) (maxL := 3) (ret := (some .int)) (by decide) rfl ?_
  intro p e s m args below meth c s₁ B0 hml hv
  obtain ⟨rfl, hEv, hWd⟩ := hv
  have C : CX p s m _ meth c cX9_at 3 RX9 wc_X9_at (some .int) := ⟨B0.exec, B0.bytes, hml, findClass_of_methodNamed B0.named, atoms_spec (ws := wc_X9_at) B0.pre, B0.returns, B0.notSynchronized⟩
  have hl := lv_entry [.ref (B + 0), .int x1, .int x2] (n := 3) (Nat.le_of_ble_eq_true rfl)
  rw [lg_entry_eq]
  generalize (lg_sl [.ref (B + 0), .int x1, .int x2] ++ List.replicate (3 - (lg_sl [.ref (B + 0), .int x1, .int x2]).length) Slot.unset).toArray = ls at hl ⊢
  have hl : lv_has ls 3 [(0, .ref (B + 0)), (1, .int x1), (2, .int x2)] := hl
  exact kb_X9_at_0 C  ⟨hEv, hWd, va_S.rf⟩ hl hf
abbrev wc_X9_sign : List Cond := Cond.code yX9_sign cX9_sign 4 (some .int) :: TG
abbrev rm_X9_sign : Room := { frames := 3, cells := 0, slots := 0, locals := 122 }
theorem cd_X9_sign : yX9_sign.cls = RX9 ∧ yX9_sign.cls ≠ "java/lang/invoke/MethodHandle" ∧ yX9_sign.cls ≠ "java/lang/invoke/VarHandle" ∧ (parseMethodDescriptor yX9_sign.desc).map (fun d => d.parameters.length) = some 2 := by decide +kernel
theorem dX9_sign_0 : decode cX9_sign 0 = .ok (.iconst 0, 1) := by decide +kernel
theorem dX9_sign_1 : decode cX9_sign 1 = .ok (.istore_n 2, 1) := by decide +kernel
theorem dX9_sign_2 : decode cX9_sign 2 = .ok (.iconst 0, 1) := by decide +kernel
theorem dX9_sign_3 : decode cX9_sign 3 = .ok (.istore_n 3, 1) := by decide +kernel
theorem dX9_sign_4 : decode cX9_sign 4 = .ok (.iload_n 3, 1) := by decide +kernel
theorem dX9_sign_5 : decode cX9_sign 5 = .ok (.iconst 3, 1) := by decide +kernel
theorem dX9_sign_6 : decode cX9_sign 6 = .ok (.if_icmp .ge 35, 3) := by decide +kernel
theorem dX9_sign_9 : decode cX9_sign 9 = .ok (.iload_n 2, 1) := by decide +kernel
theorem dX9_sign_10 : decode cX9_sign 10 = .ok (.iload_n 0, 1) := by decide +kernel
theorem dX9_sign_11 : decode cX9_sign 11 = .ok (.iload_n 3, 1) := by decide +kernel
theorem dX9_sign_12 : decode cX9_sign 12 = .ok (.ishr, 1) := by decide +kernel
theorem dX9_sign_13 : decode cX9_sign 13 = .ok (.iconst 1, 1) := by decide +kernel
theorem dX9_sign_14 : decode cX9_sign 14 = .ok (.iand, 1) := by decide +kernel
theorem dX9_sign_15 : decode cX9_sign 15 = .ok (.iconst 1, 1) := by decide +kernel
theorem dX9_sign_16 : decode cX9_sign 16 = .ok (.if_icmp .ne 16, 3) := by decide +kernel
theorem dX9_sign_19 : decode cX9_sign 19 = .ok (.iload_n 1, 1) := by decide +kernel
theorem dX9_sign_20 : decode cX9_sign 20 = .ok (.iconst 1, 1) := by decide +kernel
theorem dX9_sign_21 : decode cX9_sign 21 = .ok (.iload_n 3, 1) := by decide +kernel
theorem dX9_sign_22 : decode cX9_sign 22 = .ok (.ishl, 1) := by decide +kernel
theorem dX9_sign_23 : decode cX9_sign 23 = .ok (.iconst 1, 1) := by decide +kernel
theorem dX9_sign_24 : decode cX9_sign 24 = .ok (.isub, 1) := by decide +kernel
theorem dX9_sign_25 : decode cX9_sign 25 = .ok (.iand, 1) := by decide +kernel
theorem dX9_sign_26 : decode cX9_sign 26 = .ok (.invokestatic 135, 3) := by decide +kernel
theorem dX9_sign_29 : decode cX9_sign 29 = .ok (.goto 4, 3) := by decide +kernel
theorem dX9_sign_32 : decode cX9_sign 32 = .ok (.iconst 0, 1) := by decide +kernel
theorem dX9_sign_33 : decode cX9_sign 33 = .ok (.ixor, 1) := by decide +kernel
theorem dX9_sign_34 : decode cX9_sign 34 = .ok (.istore_n 2, 1) := by decide +kernel
theorem dX9_sign_35 : decode cX9_sign 35 = .ok (.iinc 3 1, 3) := by decide +kernel
theorem dX9_sign_38 : decode cX9_sign 38 = .ok (.goto (-34), 3) := by decide +kernel
theorem dX9_sign_41 : decode cX9_sign 41 = .ok (.iload_n 2, 1) := by decide +kernel
theorem dX9_sign_42 : decode cX9_sign 42 = .ok (.ifCond .ne 7, 3) := by decide +kernel
theorem dX9_sign_45 : decode cX9_sign 45 = .ok (.iconst 1, 1) := by decide +kernel
theorem dX9_sign_46 : decode cX9_sign 46 = .ok (.goto 4, 3) := by decide +kernel
theorem dX9_sign_49 : decode cX9_sign 49 = .ok (.iconst (-1), 1) := by decide +kernel
theorem dX9_sign_50 : decode cX9_sign 50 = .ok (.ireturn, 1) := by decide +kernel
set_option maxRecDepth 100000 in
set_option maxHeartbeats 4000000 in
theorem kb_X9_sign_4 {x0 : Int32} {x1 : Int32} {st : Int32 × Int32} {r : (Int32 × Int32) ⊕ ((Int32))} {H : Heap} {locs : List Loc} {ls : Array Slot} (C : CX p s m args meth c cX9_sign 4 RX9 wc_X9_sign (some .int))  (hG : Gd s G A N B E X H locs) (hl : lv_has ls 4 [(0, .int x0), (1, .int x1), (2, .int st.1), (3, .int st.2)]) (hf : sh_X9_sign_s4 x0 x1 st = some r)
    (kL : ∀ st' : Int32 × Int32, r = Sum.inl st' → ∀ (H : Heap) (locs : List Loc) (ls : Array Slot), Gd s G A N B E X H locs → lv_has ls 4 [(0, .int x0), (1, .int x1), (2, .int st'.1), (3, .int st'.2)] → W p l e rm_X9_sign s m args below meth c H locs 0 0 Q (F0 m 4 ls []))
    (kX0 : ∀ y' : Int32, r = Sum.inr y' → ∀ (H : Heap) (locs : List Loc) (ls : Array Slot), Gd s G A N B E X H locs → lv_has ls 4 [(2, .int y')] → W p l e rm_X9_sign s m args below meth c H locs 0 0 Q (F0 m 41 ls [])) :
    W p l e rm_X9_sign s m args below meth c H locs 0 0 Q (F0 m 4 ls []) := by
  refine lv_iload_n C.1 C.2.1 dX9_sign_4 rfl (lv_at hl 3 rfl) ?_
  refine lv_iconst (v := nI 3) C.1 C.2.1 dX9_sign_5 (by decide) ?_
  rcases of_ite hf with ⟨c1, hf⟩ | ⟨c1, hf⟩
  · refine lv_icmp_ge (tgt := 41) C.1 C.2.1 dX9_sign_6 (by decide) (fun _ => ?_) (fun q => absurd c1 q)
    obtain rfl := Option.some.inj hf
    exact kX0 _ rfl _ _ _ hG (lv_sub hl [2] rfl)
  · refine lv_icmp_ge (tgt := 41) C.1 C.2.1 dX9_sign_6 (by decide) (fun q => absurd q c1) (fun _ => ?_)
    refine lv_iload_n C.1 C.2.1 dX9_sign_9 rfl (lv_at hl 2 rfl) ?_
    refine lv_iload_n C.1 C.2.1 dX9_sign_10 rfl (lv_at hl 0 rfl) ?_
    refine lv_iload_n C.1 C.2.1 dX9_sign_11 rfl (lv_at hl 3 rfl) ?_
    refine lv_ishr C.1 C.2.1 dX9_sign_12 ?_
    refine lv_iconst (v := nI 1) C.1 C.2.1 dX9_sign_13 (by decide) ?_
    refine lv_iand C.1 C.2.1 dX9_sign_14 ?_
    refine lv_iconst (v := nI 1) C.1 C.2.1 dX9_sign_15 (by decide) ?_
    rcases of_ite hf with ⟨c2, hf⟩ | ⟨c2, hf⟩
    · refine lv_icmp_ne (tgt := 32) C.1 C.2.1 dX9_sign_16 (by decide) (fun q => absurd c2 q) (fun _ => ?_)
      refine lv_iload_n C.1 C.2.1 dX9_sign_19 rfl (lv_at hl 1 rfl) ?_
      refine lv_iconst (v := nI 1) C.1 C.2.1 dX9_sign_20 (by decide) ?_
      refine lv_iload_n C.1 C.2.1 dX9_sign_21 rfl (lv_at hl 3 rfl) ?_
      refine lv_ishl C.1 C.2.1 dX9_sign_22 ?_
      refine lv_iconst (v := nI 1) C.1 C.2.1 dX9_sign_23 (by decide) ?_
      refine lv_isub C.1 C.2.1 dX9_sign_24 ?_
      refine lv_iand C.1 C.2.1 dX9_sign_25 ?_
      obtain ⟨v5, hv5, hf⟩ := of_bind hf
      refine r_callS1 C hG hl.1 (As := [.int (x1 &&& (((nI 1) <<< (st.2 &&& 31)) - (nI 1)))]) (mt_X9_odd l  hv5) (va_cwS 1 C.2.2.2.2.1 (gd_S tg_4_236 tg_4_237 tg_1_10 tg_4_238) rfl rfl rfl cd_X9_odd.2 ⟨Nat.le_of_ble_eq_true rfl, Nat.le_of_ble_eq_true rfl⟩) rfl rfl (Nat.le_of_ble_eq_true rfl) dX9_sign_26 (fun H locs hG => ?_)
      refine lv_goto (tgt := 33) C.1 C.2.1 dX9_sign_29 (by decide) ?_
      refine lv_ixor C.1 C.2.1 dX9_sign_33 ?_
      obtain ⟨v6, ev6, hf⟩ := of_letv hf
      refine r_top ev6 ?_
      refine lv_istore_n (lv' := [(2, .int v6), (0, .int x0), (1, .int x1), (3, .int st.2)]) C.1 C.2.1 dX9_sign_34 rfl hl (by decide) rfl (fun ls hl => ?_)
      obtain ⟨v7, ev7, hf⟩ := of_letv hf
      refine lv_iinc (v := v7) (lv' := [(3, .int v7), (2, .int v6), (0, .int x0), (1, .int x1)]) C.1 C.2.1 dX9_sign_35 hl (k := 3) rfl (by rw [ev7, show Int32.ofInt (1) = nI 1 from by decide]) (by decide) rfl (fun ls hl => ?_)
      refine lv_goto (tgt := 4) C.1 C.2.1 dX9_sign_38 (by decide) ?_
      obtain rfl := Option.some.inj hf
      exact kL _ rfl _ _ _ hG (lv_sub hl [2, 3, 1, 0] rfl)
    · refine lv_icmp_ne (tgt := 32) C.1 C.2.1 dX9_sign_16 (by decide) (fun _ => ?_) (fun q => absurd q c2)
      refine lv_iconst (v := nI 0) C.1 C.2.1 dX9_sign_32 (by decide) ?_
      refine lv_ixor C.1 C.2.1 dX9_sign_33 ?_
      obtain ⟨v3, ev3, hf⟩ := of_letv hf
      refine r_top ev3 ?_
      refine lv_istore_n (lv' := [(2, .int v3), (0, .int x0), (1, .int x1), (3, .int st.2)]) C.1 C.2.1 dX9_sign_34 rfl hl (by decide) rfl (fun ls hl => ?_)
      obtain ⟨v4, ev4, hf⟩ := of_letv hf
      refine lv_iinc (v := v4) (lv' := [(3, .int v4), (2, .int v3), (0, .int x0), (1, .int x1)]) C.1 C.2.1 dX9_sign_35 hl (k := 3) rfl (by rw [ev4, show Int32.ofInt (1) = nI 1 from by decide]) (by decide) rfl (fun ls hl => ?_)
      refine lv_goto (tgt := 4) C.1 C.2.1 dX9_sign_38 (by decide) ?_
      obtain rfl := Option.some.inj hf
      exact kL _ rfl _ _ _ hG (lv_sub hl [2, 3, 1, 0] rfl)
set_option maxRecDepth 100000 in
set_option maxHeartbeats 4000000 in
theorem kl_X9_sign_4 {x0 : Int32} {x1 : Int32} (C : CX p s m args meth c cX9_sign 4 RX9 wc_X9_sign (some .int))  : ∀ (n : Nat) (st : Int32 × Int32) (x : (Int32)) (H : Heap) (locs : List Loc) (ls : Array Slot), Gd s G A N B E X H locs → lv_has ls 4 [(0, .int x0), (1, .int x1), (2, .int st.1), (3, .int st.2)] → lpw (sh_X9_sign_s4 x0 x1) n st = some x →
    (∀ y' : Int32, x = y' → ∀ (H : Heap) (locs : List Loc) (ls : Array Slot), Gd s G A N B E X H locs → lv_has ls 4 [(2, .int y')] → W p l e rm_X9_sign s m args below meth c H locs 0 0 Q (F0 m 41 ls [])) → W p l e rm_X9_sign s m args below meth c H locs 0 0 Q (F0 m 4 ls []) := by
  intro n
  induction n with
  | zero =>
    intro st x H locs ls hG hl hf
    cases hf
  | succ n ih =>
    intro st x H locs ls hG hl hf kX0
    obtain ⟨r, hr, hh⟩ := of_lpw hf
    refine kb_X9_sign_4 C  hG hl hr (fun st2 e1 H locs ls hG hl => ?_) (fun y2 e1 H locs ls hG hl => ?_)
    · rcases hh with ⟨s3, e2, hh⟩ | e2
      · rw [e2] at e1
        cases e1
        exact ih _ _ _ _ _ hG hl hh kX0
      · rw [e2] at e1
        cases e1
    · rcases hh with ⟨s3, e2, hh⟩ | e2
      · rw [e2] at e1
        cases e1
      · rw [e2] at e1
        cases e1
        exact kX0 _ rfl _ _ _ hG hl
set_option maxRecDepth 100000 in
set_option maxHeartbeats 4000000 in
theorem kb_X9_sign_0 {x0 : Int32} {x1 : Int32} {out : Int32} {H : Heap} {locs : List Loc} {ls : Array Slot} (C : CX p s m args meth c cX9_sign 4 RX9 wc_X9_sign (some .int))  (hG : Gd s G A N B E X H locs) (hl : lv_has ls 4 [(0, .int x0), (1, .int x1)]) (hf : sh_X9_sign x0 x1 = some out) :
    W p l e rm_X9_sign s m args below meth c H locs 0 0 (MQ below (CPost G A N B E X (some (.int out))) args s 0 0 A) (F0 m 0 ls []) := by
  refine lv_iconst (v := nI 0) C.1 C.2.1 dX9_sign_0 (by decide) ?_
  refine lv_istore_n (lv' := [(2, .int (nI 0)), (0, .int x0), (1, .int x1)]) C.1 C.2.1 dX9_sign_1 rfl hl (by decide) rfl (fun ls hl => ?_)
  refine lv_iconst (v := nI 0) C.1 C.2.1 dX9_sign_2 (by decide) ?_
  refine lv_istore_n (lv' := [(3, .int (nI 0)), (2, .int (nI 0)), (0, .int x0), (1, .int x1)]) C.1 C.2.1 dX9_sign_3 rfl hl (by decide) rfl (fun ls hl => ?_)
  obtain ⟨ex1, hex1, hf⟩ := of_bind hf
  refine kl_X9_sign_4 C  FU (nI 0, nI 0) ex1 _ _ _ hG (lv_sub hl [2, 3, 1, 0] rfl) hex1 (fun y e0 H locs ls hG hl => ?_)
  subst e0
  refine lv_iload_n C.1 C.2.1 dX9_sign_41 rfl (lv_at hl 0 rfl) ?_
  rcases of_ite hf with ⟨c2, hf⟩ | ⟨c2, hf⟩
  · refine lv_if_ne (tgt := 49) C.1 C.2.1 dX9_sign_42 (by decide) (fun q => absurd c2 q) (fun _ => ?_)
    refine lv_iconst (v := nI 1) C.1 C.2.1 dX9_sign_45 (by decide) ?_
    refine lv_goto (tgt := 50) C.1 C.2.1 dX9_sign_46 (by decide) ?_
    obtain rfl := Option.some.inj hf
    exact r_iret C hG dX9_sign_50
  · refine lv_if_ne (tgt := 49) C.1 C.2.1 dX9_sign_42 (by decide) (fun _ => ?_) (fun q => absurd q c2)
    refine lv_iconst (v := (-1 : Int32)) C.1 C.2.1 dX9_sign_49 (by decide) ?_
    obtain rfl := Option.some.inj hf
    exact r_iret C hG dX9_sign_50
set_option maxRecDepth 100000 in
set_option maxHeartbeats 4000000 in
theorem mt_X9_sign (l : Launch) {G : GG} {A : Nat → Prop} {N B : Nat} {E : Nat → va_E} {X : va_W} {x0 : Int32} {x1 : Int32} {out : Int32}  (hf : sh_X9_sign x0 x1 = some out) : MetW l yX9_sign wc_X9_sign rm_X9_sign G A N B E X [.int x0, .int x1] (some (.int out)) E := by
  refine Met.ofW (cc := cX9_sign) (maxL := 4) (ret := (some .int)) (by decide) rfl ?_
  intro p e s m args below meth c s₁ B0 hml hv
  obtain ⟨rfl, hEv, hWd⟩ := hv
  have C : CX p s m _ meth c cX9_sign 4 RX9 wc_X9_sign (some .int) := ⟨B0.exec, B0.bytes, hml, findClass_of_methodNamed B0.named, atoms_spec (ws := wc_X9_sign) B0.pre, B0.returns, B0.notSynchronized⟩
  have hl := lv_entry [.int x0, .int x1] (n := 4) (Nat.le_of_ble_eq_true rfl)
  rw [lg_entry_eq]
  generalize (lg_sl [.int x0, .int x1] ++ List.replicate (4 - (lg_sl [.int x0, .int x1]).length) Slot.unset).toArray = ls at hl ⊢
  have hl : lv_has ls 4 [(0, .int x0), (1, .int x1)] := hl
  exact kb_X9_sign_0 C  ⟨hEv, hWd, va_S.rf⟩ hl hf
abbrev wc_X9_products : List Cond := Cond.code yX9_products cX9_products 6 none :: TG
abbrev rm_X9_products : Room := { frames := 4, cells := 0, slots := 0, locals := 145 }
theorem cd_X9_products : yX9_products.cls = RX9 ∧ yX9_products.cls ≠ "java/lang/invoke/MethodHandle" ∧ yX9_products.cls ≠ "java/lang/invoke/VarHandle" ∧ (parseMethodDescriptor yX9_products.desc).map (fun d => d.parameters.length) = some 1 := by decide +kernel
theorem dX9_products_0 : decode cX9_products 0 = .ok (.iconst 0, 1) := by decide +kernel
theorem dX9_products_1 : decode cX9_products 1 = .ok (.istore_n 2, 1) := by decide +kernel
theorem dX9_products_2 : decode cX9_products 2 = .ok (.iload_n 2, 1) := by decide +kernel
theorem dX9_products_3 : decode cX9_products 3 = .ok (.aload_n 0, 1) := by decide +kernel
theorem dX9_products_4 : decode cX9_products 4 = .ok (.getfield 117, 3) := by decide +kernel
theorem dX9_products_7 : decode cX9_products 7 = .ok (.if_icmp .ge 151, 3) := by decide +kernel
theorem dX9_products_10 : decode cX9_products 10 = .ok (.iconst 0, 1) := by decide +kernel
theorem dX9_products_11 : decode cX9_products 11 = .ok (.istore_n 3, 1) := by decide +kernel
theorem dX9_products_12 : decode cX9_products 12 = .ok (.iload_n 3, 1) := by decide +kernel
theorem dX9_products_13 : decode cX9_products 13 = .ok (.aload_n 0, 1) := by decide +kernel
theorem dX9_products_14 : decode cX9_products 14 = .ok (.getfield 117, 3) := by decide +kernel
theorem dX9_products_17 : decode cX9_products 17 = .ok (.if_icmp .ge 135, 3) := by decide +kernel
theorem dX9_products_20 : decode cX9_products 20 = .ok (.iload_n 2, 1) := by decide +kernel
theorem dX9_products_21 : decode cX9_products 21 = .ok (.istore 4, 2) := by decide +kernel
theorem dX9_products_23 : decode cX9_products 23 = .ok (.iload_n 2, 1) := by decide +kernel
theorem dX9_products_24 : decode cX9_products 24 = .ok (.iload_n 3, 1) := by decide +kernel
theorem dX9_products_25 : decode cX9_products 25 = .ok (.if_icmp .ne 7, 3) := by decide +kernel
theorem dX9_products_28 : decode cX9_products 28 = .ok (.iconst 1, 1) := by decide +kernel
theorem dX9_products_29 : decode cX9_products 29 = .ok (.goto 4, 3) := by decide +kernel
theorem dX9_products_32 : decode cX9_products 32 = .ok (.iconst 0, 1) := by decide +kernel
theorem dX9_products_33 : decode cX9_products 33 = .ok (.istore 5, 2) := by decide +kernel
theorem dX9_products_35 : decode cX9_products 35 = .ok (.aload_n 0, 1) := by decide +kernel
theorem dX9_products_36 : decode cX9_products 36 = .ok (.getfield 121, 3) := by decide +kernel
theorem dX9_products_39 : decode cX9_products 39 = .ok (.iconst 2, 1) := by decide +kernel
theorem dX9_products_40 : decode cX9_products 40 = .ok (.if_icmp .eq 11, 3) := by decide +kernel
theorem dX9_products_43 : decode cX9_products 43 = .ok (.aload_n 0, 1) := by decide +kernel
theorem dX9_products_44 : decode cX9_products 44 = .ok (.getfield 121, 3) := by decide +kernel
theorem dX9_products_47 : decode cX9_products 47 = .ok (.iconst 3, 1) := by decide +kernel
theorem dX9_products_48 : decode cX9_products 48 = .ok (.if_icmp .ne 38, 3) := by decide +kernel
theorem dX9_products_51 : decode cX9_products 51 = .ok (.iload_n 2, 1) := by decide +kernel
theorem dX9_products_52 : decode cX9_products 52 = .ok (.iload_n 3, 1) := by decide +kernel
theorem dX9_products_53 : decode cX9_products 53 = .ok (.iadd, 1) := by decide +kernel
theorem dX9_products_54 : decode cX9_products 54 = .ok (.aload_n 0, 1) := by decide +kernel
theorem dX9_products_55 : decode cX9_products 55 = .ok (.getfield 117, 3) := by decide +kernel
theorem dX9_products_58 : decode cX9_products 58 = .ok (.irem, 1) := by decide +kernel
theorem dX9_products_59 : decode cX9_products 59 = .ok (.istore 4, 2) := by decide +kernel
theorem dX9_products_61 : decode cX9_products 61 = .ok (.aload_n 0, 1) := by decide +kernel
theorem dX9_products_62 : decode cX9_products 62 = .ok (.getfield 121, 3) := by decide +kernel
theorem dX9_products_65 : decode cX9_products 65 = .ok (.iconst 3, 1) := by decide +kernel
theorem dX9_products_66 : decode cX9_products 66 = .ok (.if_icmp .ne 17, 3) := by decide +kernel
theorem dX9_products_69 : decode cX9_products 69 = .ok (.iload_n 2, 1) := by decide +kernel
theorem dX9_products_70 : decode cX9_products 70 = .ok (.iload_n 3, 1) := by decide +kernel
theorem dX9_products_71 : decode cX9_products 71 = .ok (.iadd, 1) := by decide +kernel
theorem dX9_products_72 : decode cX9_products 72 = .ok (.aload_n 0, 1) := by decide +kernel
theorem dX9_products_73 : decode cX9_products 73 = .ok (.getfield 117, 3) := by decide +kernel
theorem dX9_products_76 : decode cX9_products 76 = .ok (.if_icmp .lt 7, 3) := by decide +kernel
theorem dX9_products_79 : decode cX9_products 79 = .ok (.iload_n 1, 1) := by decide +kernel
theorem dX9_products_80 : decode cX9_products 80 = .ok (.goto 4, 3) := by decide +kernel
theorem dX9_products_83 : decode cX9_products 83 = .ok (.iconst 1, 1) := by decide +kernel
theorem dX9_products_84 : decode cX9_products 84 = .ok (.istore 5, 2) := by decide +kernel
theorem dX9_products_86 : decode cX9_products 86 = .ok (.aload_n 0, 1) := by decide +kernel
theorem dX9_products_87 : decode cX9_products 87 = .ok (.getfield 121, 3) := by decide +kernel
theorem dX9_products_90 : decode cX9_products 90 = .ok (.iconst 4, 1) := by decide +kernel
theorem dX9_products_91 : decode cX9_products 91 = .ok (.if_icmp .ne 25, 3) := by decide +kernel
theorem dX9_products_94 : decode cX9_products 94 = .ok (.iload_n 2, 1) := by decide +kernel
theorem dX9_products_95 : decode cX9_products 95 = .ok (.iload_n 3, 1) := by decide +kernel
theorem dX9_products_96 : decode cX9_products 96 = .ok (.ior, 1) := by decide +kernel
theorem dX9_products_97 : decode cX9_products 97 = .ok (.istore 4, 2) := by decide +kernel
theorem dX9_products_99 : decode cX9_products 99 = .ok (.iload_n 2, 1) := by decide +kernel
theorem dX9_products_100 : decode cX9_products 100 = .ok (.iload_n 3, 1) := by decide +kernel
theorem dX9_products_101 : decode cX9_products 101 = .ok (.iand, 1) := by decide +kernel
theorem dX9_products_102 : decode cX9_products 102 = .ok (.ifCond .eq 7, 3) := by decide +kernel
theorem dX9_products_105 : decode cX9_products 105 = .ok (.iconst 0, 1) := by decide +kernel
theorem dX9_products_106 : decode cX9_products 106 = .ok (.goto 8, 3) := by decide +kernel
theorem dX9_products_109 : decode cX9_products 109 = .ok (.iload_n 2, 1) := by decide +kernel
theorem dX9_products_110 : decode cX9_products 110 = .ok (.iload_n 3, 1) := by decide +kernel
theorem dX9_products_111 : decode cX9_products 111 = .ok (.invokestatic 124, 3) := by decide +kernel
theorem dX9_products_114 : decode cX9_products 114 = .ok (.istore 5, 2) := by decide +kernel
theorem dX9_products_116 : decode cX9_products 116 = .ok (.aload_n 0, 1) := by decide +kernel
theorem dX9_products_117 : decode cX9_products 117 = .ok (.getfield 18, 3) := by decide +kernel
theorem dX9_products_120 : decode cX9_products 120 = .ok (.aload_n 0, 1) := by decide +kernel
theorem dX9_products_121 : decode cX9_products 121 = .ok (.iload_n 2, 1) := by decide +kernel
theorem dX9_products_122 : decode cX9_products 122 = .ok (.iload_n 3, 1) := by decide +kernel
theorem dX9_products_123 : decode cX9_products 123 = .ok (.invokevirtual 128, 3) := by decide +kernel
theorem dX9_products_126 : decode cX9_products 126 = .ok (.iload 4, 2) := by decide +kernel
theorem dX9_products_128 : decode cX9_products 128 = .ok (.iastore, 1) := by decide +kernel
theorem dX9_products_129 : decode cX9_products 129 = .ok (.aload_n 0, 1) := by decide +kernel
theorem dX9_products_130 : decode cX9_products 130 = .ok (.getfield 21, 3) := by decide +kernel
theorem dX9_products_133 : decode cX9_products 133 = .ok (.aload_n 0, 1) := by decide +kernel
theorem dX9_products_134 : decode cX9_products 134 = .ok (.iload_n 2, 1) := by decide +kernel
theorem dX9_products_135 : decode cX9_products 135 = .ok (.iload_n 3, 1) := by decide +kernel
theorem dX9_products_136 : decode cX9_products 136 = .ok (.invokevirtual 128, 3) := by decide +kernel
theorem dX9_products_139 : decode cX9_products 139 = .ok (.iload 5, 2) := by decide +kernel
theorem dX9_products_141 : decode cX9_products 141 = .ok (.i2l, 1) := by decide +kernel
theorem dX9_products_142 : decode cX9_products 142 = .ok (.invokestatic 131, 3) := by decide +kernel
theorem dX9_products_145 : decode cX9_products 145 = .ok (.iastore, 1) := by decide +kernel
theorem dX9_products_146 : decode cX9_products 146 = .ok (.iinc 3 1, 3) := by decide +kernel
theorem dX9_products_149 : decode cX9_products 149 = .ok (.goto (-137), 3) := by decide +kernel
theorem dX9_products_152 : decode cX9_products 152 = .ok (.iinc 2 1, 3) := by decide +kernel
theorem dX9_products_155 : decode cX9_products 155 = .ok (.goto (-153), 3) := by decide +kernel
theorem dX9_products_158 : decode cX9_products 158 = .ok (.return_, 1) := by decide +kernel
set_option maxRecDepth 100000 in
set_option maxHeartbeats 4000000 in
theorem kb_X9_products_116 {x1 : Int32} {x2 : Int32} {x3 : Int32} {x4 : Int32} {x5 : Int32} {w : Mem} {r : (Int32 × Mem) ⊕ ((Mem))} {H : Heap} {locs : List Loc} {ls : Array Slot} (C : CX p s m args meth c cX9_products 6 RX9 wc_X9_products none)  (hG : Gd s G A 28 B (entM G B w) X H locs) (hl : lv_has ls 6 [(0, .ref (B + 0)), (1, .int x1), (2, .int x2), (3, .int x3), (4, .int x4), (5, .int x5)]) (hf : sh_X9_products_j116 x1 x2 x3 x4 x5 w = some r)
    (kL : ∀ st' : Int32 × Mem, r = Sum.inl st' → ∀ (H : Heap) (locs : List Loc) (ls : Array Slot), Gd s G A 28 B (entM G B st'.2) X H locs → lv_has ls 6 [(0, .ref (B + 0)), (1, .int x1), (2, .int x2), (3, .int st'.1)] → W p l e rm_X9_products s m args below meth c H locs 0 0 Q (F0 m 12 ls []))
    (kX0 : ∀ y' : Mem, r = Sum.inr y' → ∀ (H : Heap) (locs : List Loc) (ls : Array Slot), Gd s G A 28 B (entM G B y') X H locs → lv_has ls 6 [(0, .ref (B + 0)), (1, .int x1), (2, .int x2)] → W p l e rm_X9_products s m args below meth c H locs 0 0 Q (F0 m 152 ls [])) :
    W p l e rm_X9_products s m args below meth c H locs 0 0 Q (F0 m 116 ls []) := by
  refine lv_aload_n C.1 C.2.1 dX9_products_116 rfl (lv_at hl 0 rfl) ?_
  refine gf_X9_18 C hG rfl dX9_products_117 ?_
  refine lv_aload_n C.1 C.2.1 dX9_products_120 rfl (lv_at hl 0 rfl) ?_
  refine lv_iload_n C.1 C.2.1 dX9_products_121 rfl (lv_at hl 2 rfl) ?_
  refine lv_iload_n C.1 C.2.1 dX9_products_122 rfl (lv_at hl 3 rfl) ?_
  obtain ⟨v1, hv1, hf⟩ := of_bind hf
  refine r_callV1 C hG hl.1 (c0 := 0) (As := [.int x2, .int x3]) (by decide) (entM_O (n := 35) rfl) rfl (mt_X9_at l  hv1) (cwV 2 C.2.2.2.2.1 (gd_V tg_4_239 tg_5_1 tgp_32 tg_1_10 tg_5_2) rfl rfl rfl cd_X9_at ⟨Nat.le_of_ble_eq_true rfl, Nat.le_of_ble_eq_true rfl⟩) rfl rfl (Nat.le_of_ble_eq_true rfl) dX9_products_123 (fun H locs hG => ?_)
  refine lv_iload C.1 C.2.1 dX9_products_126 (lv_at hl 4 rfl) ?_
  obtain ⟨w2, hw2, hf⟩ := of_bind hf
  obtain ⟨bw2, ew2⟩ := of_stM hw2
  refine r_iast C hG (c0 := 3) (by decide) (entM_I (n := 36) rfl) bw2 (E' := (entM G B w2)) (by rw [ew2]; exact upM_I (n := 36) rfl) dX9_products_128 (fun H locs hG => ?_)
  refine lv_aload_n C.1 C.2.1 dX9_products_129 rfl (lv_at hl 0 rfl) ?_
  refine gf_X9_21 C hG rfl dX9_products_130 ?_
  refine lv_aload_n C.1 C.2.1 dX9_products_133 rfl (lv_at hl 0 rfl) ?_
  refine lv_iload_n C.1 C.2.1 dX9_products_134 rfl (lv_at hl 2 rfl) ?_
  refine lv_iload_n C.1 C.2.1 dX9_products_135 rfl (lv_at hl 3 rfl) ?_
  obtain ⟨v3, hv3, hf⟩ := of_bind hf
  refine r_callV1 C hG hl.1 (c0 := 0) (As := [.int x2, .int x3]) (by decide) (entM_O (n := 35) rfl) rfl (mt_X9_at l  hv3) (cwV 2 C.2.2.2.2.1 (gd_V tg_4_239 tg_5_1 tgp_32 tg_1_10 tg_5_2) rfl rfl rfl cd_X9_at ⟨Nat.le_of_ble_eq_true rfl, Nat.le_of_ble_eq_true rfl⟩) rfl rfl (Nat.le_of_ble_eq_true rfl) dX9_products_136 (fun H locs hG => ?_)
  refine lv_iload C.1 C.2.1 dX9_products_139 (lv_at hl 5 rfl) ?_
  refine lv_i2l C.1 C.2.1 dX9_products_141 rfl ?_
  obtain ⟨v4, hv4, hf⟩ := of_bind hf
  refine r_callS1 C hG hl.1 (As := [.long x5.toInt64]) (mt_X9_mod l  hv4) (va_cwS 1 C.2.2.2.2.1 (gd_S tg_5_3 tg_5_4 tg_1_10 tg_5_5) rfl rfl rfl cd_X9_mod.2 ⟨Nat.le_of_ble_eq_true rfl, Nat.le_of_ble_eq_true rfl⟩) rfl rfl (Nat.le_of_ble_eq_true rfl) dX9_products_142 (fun H locs hG => ?_)
  obtain ⟨w5, hw5, hf⟩ := of_bind hf
  obtain ⟨bw5, ew5⟩ := of_stM hw5
  refine r_iast C hG (c0 := 4) (by decide) (entM_I (n := 36) rfl) bw5 (E' := (entM G B w5)) (by rw [ew5]; exact upM_I (n := 36) rfl) dX9_products_145 (fun H locs hG => ?_)
  obtain ⟨v6, ev6, hf⟩ := of_letv hf
  refine lv_iinc (v := v6) (lv' := [(3, .int v6), (0, .ref (B + 0)), (1, .int x1), (2, .int x2), (4, .int x4), (5, .int x5)]) C.1 C.2.1 dX9_products_146 hl (k := 3) rfl (by rw [ev6, show Int32.ofInt (1) = nI 1 from by decide]) (by decide) rfl (fun ls hl => ?_)
  refine lv_goto (tgt := 12) C.1 C.2.1 dX9_products_149 (by decide) ?_
  obtain rfl := Option.some.inj hf
  exact kL _ rfl _ _ _ hG (lv_sub hl [1, 2, 3, 0] rfl)
set_option maxRecDepth 100000 in
set_option maxHeartbeats 4000000 in
theorem kb_X9_products_114 {x1 : Int32} {x2 : Int32} {x3 : Int32} {x4 : Int32} {s0 : Int32} {w : Mem} {r : (Int32 × Mem) ⊕ ((Mem))} {H : Heap} {locs : List Loc} {ls : Array Slot} (C : CX p s m args meth c cX9_products 6 RX9 wc_X9_products none)  (hG : Gd s G A 28 B (entM G B w) X H locs) (hl : lv_has ls 6 [(0, .ref (B + 0)), (1, .int x1), (2, .int x2), (3, .int x3), (4, .int x4)]) (hf : sh_X9_products_j114 x1 x2 x3 x4 s0 w = some r)
    (kL : ∀ st' : Int32 × Mem, r = Sum.inl st' → ∀ (H : Heap) (locs : List Loc) (ls : Array Slot), Gd s G A 28 B (entM G B st'.2) X H locs → lv_has ls 6 [(0, .ref (B + 0)), (1, .int x1), (2, .int x2), (3, .int st'.1)] → W p l e rm_X9_products s m args below meth c H locs 0 0 Q (F0 m 12 ls []))
    (kX0 : ∀ y' : Mem, r = Sum.inr y' → ∀ (H : Heap) (locs : List Loc) (ls : Array Slot), Gd s G A 28 B (entM G B y') X H locs → lv_has ls 6 [(0, .ref (B + 0)), (1, .int x1), (2, .int x2)] → W p l e rm_X9_products s m args below meth c H locs 0 0 Q (F0 m 152 ls [])) :
    W p l e rm_X9_products s m args below meth c H locs 0 0 Q (F0 m 114 ls [.int s0]) := by
  refine lv_istore (lv' := [(5, .int s0), (0, .ref (B + 0)), (1, .int x1), (2, .int x2), (3, .int x3), (4, .int x4)]) C.1 C.2.1 dX9_products_114 hl (by decide) rfl (fun ls hl => ?_)
  exact kb_X9_products_116 C  hG (lv_sub hl [1, 2, 3, 4, 5, 0] rfl) hf kL kX0
set_option maxRecDepth 100000 in
set_option maxHeartbeats 4000000 in
theorem kb_X9_products_86 {x1 : Int32} {x2 : Int32} {x3 : Int32} {x4 : Int32} {x5 : Int32} {w : Mem} {r : (Int32 × Mem) ⊕ ((Mem))} {H : Heap} {locs : List Loc} {ls : Array Slot} (C : CX p s m args meth c cX9_products 6 RX9 wc_X9_products none)  (hG : Gd s G A 28 B (entM G B w) X H locs) (hl : lv_has ls 6 [(0, .ref (B + 0)), (1, .int x1), (2, .int x2), (3, .int x3), (4, .int x4), (5, .int x5)]) (hf : sh_X9_products_j86 x1 x2 x3 x4 x5 w = some r)
    (kL : ∀ st' : Int32 × Mem, r = Sum.inl st' → ∀ (H : Heap) (locs : List Loc) (ls : Array Slot), Gd s G A 28 B (entM G B st'.2) X H locs → lv_has ls 6 [(0, .ref (B + 0)), (1, .int x1), (2, .int x2), (3, .int st'.1)] → W p l e rm_X9_products s m args below meth c H locs 0 0 Q (F0 m 12 ls []))
    (kX0 : ∀ y' : Mem, r = Sum.inr y' → ∀ (H : Heap) (locs : List Loc) (ls : Array Slot), Gd s G A 28 B (entM G B y') X H locs → lv_has ls 6 [(0, .ref (B + 0)), (1, .int x1), (2, .int x2)] → W p l e rm_X9_products s m args below meth c H locs 0 0 Q (F0 m 152 ls [])) :
    W p l e rm_X9_products s m args below meth c H locs 0 0 Q (F0 m 86 ls []) := by
  refine lv_aload_n C.1 C.2.1 dX9_products_86 rfl (lv_at hl 0 rfl) ?_
  refine gf_X9_121 C hG rfl dX9_products_87 ?_
  refine lv_iconst (v := nI 4) C.1 C.2.1 dX9_products_90 (by decide) ?_
  rcases of_ite hf with ⟨c1, hf⟩ | ⟨c1, hf⟩
  · refine lv_icmp_ne (tgt := 116) C.1 C.2.1 dX9_products_91 (by decide) (fun q => absurd c1 q) (fun _ => ?_)
    refine lv_iload_n C.1 C.2.1 dX9_products_94 rfl (lv_at hl 2 rfl) ?_
    refine lv_iload_n C.1 C.2.1 dX9_products_95 rfl (lv_at hl 3 rfl) ?_
    refine lv_ior C.1 C.2.1 dX9_products_96 ?_
    obtain ⟨v2, ev2, hf⟩ := of_letv hf
    refine r_top ev2 ?_
    refine lv_istore (lv' := [(4, .int v2), (0, .ref (B + 0)), (1, .int x1), (2, .int x2), (3, .int x3), (5, .int x5)]) C.1 C.2.1 dX9_products_97 hl (by decide) rfl (fun ls hl => ?_)
    refine lv_iload_n C.1 C.2.1 dX9_products_99 rfl (lv_at hl 3 rfl) ?_
    refine lv_iload_n C.1 C.2.1 dX9_products_100 rfl (lv_at hl 4 rfl) ?_
    refine lv_iand C.1 C.2.1 dX9_products_101 ?_
    rcases of_ite hf with ⟨c3, hf⟩ | ⟨c3, hf⟩
    · refine lv_if_eq (tgt := 109) C.1 C.2.1 dX9_products_102 (by decide) (fun _ => ?_) (fun q => absurd c3 q)
      refine lv_iload_n C.1 C.2.1 dX9_products_109 rfl (lv_at hl 3 rfl) ?_
      refine lv_iload_n C.1 C.2.1 dX9_products_110 rfl (lv_at hl 4 rfl) ?_
      obtain ⟨v4, hv4, hf⟩ := of_bind hf
      refine r_callS1 C hG hl.1 (As := [.int x2, .int x3]) (mt_X9_sign l  hv4) (va_cwS 2 C.2.2.2.2.1 (gd_S tg_4_233 tg_4_234 tg_1_10 tg_4_235) rfl rfl rfl cd_X9_sign.2 ⟨Nat.le_of_ble_eq_true rfl, Nat.le_of_ble_eq_true rfl⟩) rfl rfl (Nat.le_of_ble_eq_true rfl) dX9_products_111 (fun H locs hG => ?_)
      exact kb_X9_products_114 C  hG (lv_sub hl [1, 2, 3, 4, 0] rfl) hf kL kX0
    · refine lv_if_eq (tgt := 109) C.1 C.2.1 dX9_products_102 (by decide) (fun q => absurd q c3) (fun _ => ?_)
      refine lv_iconst (v := nI 0) C.1 C.2.1 dX9_products_105 (by decide) ?_
      refine lv_goto (tgt := 114) C.1 C.2.1 dX9_products_106 (by decide) ?_
      exact kb_X9_products_114 C  hG (lv_sub hl [1, 2, 3, 4, 0] rfl) hf kL kX0
  · refine lv_icmp_ne (tgt := 116) C.1 C.2.1 dX9_products_91 (by decide) (fun _ => ?_) (fun q => absurd q c1)
    exact kb_X9_products_116 C  hG hl hf kL kX0
set_option maxRecDepth 100000 in
set_option maxHeartbeats 4000000 in
theorem kb_X9_products_84 {x1 : Int32} {x2 : Int32} {x3 : Int32} {x4 : Int32} {s0 : Int32} {w : Mem} {r : (Int32 × Mem) ⊕ ((Mem))} {H : Heap} {locs : List Loc} {ls : Array Slot} (C : CX p s m args meth c cX9_products 6 RX9 wc_X9_products none)  (hG : Gd s G A 28 B (entM G B w) X H locs) (hl : lv_has ls 6 [(0, .ref (B + 0)), (1, .int x1), (2, .int x2), (3, .int x3), (4, .int x4)]) (hf : sh_X9_products_j84 x1 x2 x3 x4 s0 w = some r)
    (kL : ∀ st' : Int32 × Mem, r = Sum.inl st' → ∀ (H : Heap) (locs : List Loc) (ls : Array Slot), Gd s G A 28 B (entM G B st'.2) X H locs → lv_has ls 6 [(0, .ref (B + 0)), (1, .int x1), (2, .int x2), (3, .int st'.1)] → W p l e rm_X9_products s m args below meth c H locs 0 0 Q (F0 m 12 ls []))
    (kX0 : ∀ y' : Mem, r = Sum.inr y' → ∀ (H : Heap) (locs : List Loc) (ls : Array Slot), Gd s G A 28 B (entM G B y') X H locs → lv_has ls 6 [(0, .ref (B + 0)), (1, .int x1), (2, .int x2)] → W p l e rm_X9_products s m args below meth c H locs 0 0 Q (F0 m 152 ls [])) :
    W p l e rm_X9_products s m args below meth c H locs 0 0 Q (F0 m 84 ls [.int s0]) := by
  refine lv_istore (lv' := [(5, .int s0), (0, .ref (B + 0)), (1, .int x1), (2, .int x2), (3, .int x3), (4, .int x4)]) C.1 C.2.1 dX9_products_84 hl (by decide) rfl (fun ls hl => ?_)
  exact kb_X9_products_86 C  hG (lv_sub hl [1, 2, 3, 4, 5, 0] rfl) hf kL kX0
set_option maxRecDepth 100000 in
set_option maxHeartbeats 4000000 in
theorem kb_X9_products_83 {x1 : Int32} {x2 : Int32} {x3 : Int32} {x4 : Int32} {w : Mem} {r : (Int32 × Mem) ⊕ ((Mem))} {H : Heap} {locs : List Loc} {ls : Array Slot} (C : CX p s m args meth c cX9_products 6 RX9 wc_X9_products none)  (hG : Gd s G A 28 B (entM G B w) X H locs) (hl : lv_has ls 6 [(0, .ref (B + 0)), (1, .int x1), (2, .int x2), (3, .int x3), (4, .int x4)]) (hf : sh_X9_products_j83 x1 x2 x3 x4 w = some r)
    (kL : ∀ st' : Int32 × Mem, r = Sum.inl st' → ∀ (H : Heap) (locs : List Loc) (ls : Array Slot), Gd s G A 28 B (entM G B st'.2) X H locs → lv_has ls 6 [(0, .ref (B + 0)), (1, .int x1), (2, .int x2), (3, .int st'.1)] → W p l e rm_X9_products s m args below meth c H locs 0 0 Q (F0 m 12 ls []))
    (kX0 : ∀ y' : Mem, r = Sum.inr y' → ∀ (H : Heap) (locs : List Loc) (ls : Array Slot), Gd s G A 28 B (entM G B y') X H locs → lv_has ls 6 [(0, .ref (B + 0)), (1, .int x1), (2, .int x2)] → W p l e rm_X9_products s m args below meth c H locs 0 0 Q (F0 m 152 ls [])) :
    W p l e rm_X9_products s m args below meth c H locs 0 0 Q (F0 m 83 ls []) := by
  refine lv_iconst (v := nI 1) C.1 C.2.1 dX9_products_83 (by decide) ?_
  exact kb_X9_products_84 C  hG hl hf kL kX0
set_option maxRecDepth 100000 in
set_option maxHeartbeats 4000000 in
theorem kb_X9_products_51 {x1 : Int32} {x2 : Int32} {x3 : Int32} {w : Mem} {r : (Int32 × Mem) ⊕ ((Mem))} {H : Heap} {locs : List Loc} {ls : Array Slot} (C : CX p s m args meth c cX9_products 6 RX9 wc_X9_products none)  (hG : Gd s G A 28 B (entM G B w) X H locs) (hl : lv_has ls 6 [(0, .ref (B + 0)), (1, .int x1), (2, .int x2), (3, .int x3)]) (hf : sh_X9_products_j51 x1 x2 x3 w = some r)
    (kL : ∀ st' : Int32 × Mem, r = Sum.inl st' → ∀ (H : Heap) (locs : List Loc) (ls : Array Slot), Gd s G A 28 B (entM G B st'.2) X H locs → lv_has ls 6 [(0, .ref (B + 0)), (1, .int x1), (2, .int x2), (3, .int st'.1)] → W p l e rm_X9_products s m args below meth c H locs 0 0 Q (F0 m 12 ls []))
    (kX0 : ∀ y' : Mem, r = Sum.inr y' → ∀ (H : Heap) (locs : List Loc) (ls : Array Slot), Gd s G A 28 B (entM G B y') X H locs → lv_has ls 6 [(0, .ref (B + 0)), (1, .int x1), (2, .int x2)] → W p l e rm_X9_products s m args below meth c H locs 0 0 Q (F0 m 152 ls [])) :
    W p l e rm_X9_products s m args below meth c H locs 0 0 Q (F0 m 51 ls []) := by
  refine lv_iload_n C.1 C.2.1 dX9_products_51 rfl (lv_at hl 2 rfl) ?_
  refine lv_iload_n C.1 C.2.1 dX9_products_52 rfl (lv_at hl 3 rfl) ?_
  refine lv_iadd C.1 C.2.1 dX9_products_53 ?_
  refine lv_aload_n C.1 C.2.1 dX9_products_54 rfl (lv_at hl 0 rfl) ?_
  refine gf_X9_117 C hG rfl dX9_products_55 ?_
  obtain ⟨c1, hf⟩ := of_grd hf
  refine r_irem C dX9_products_58 c1 ?_
  obtain ⟨v2, ev2, hf⟩ := of_letv hf
  refine r_top ev2 ?_
  refine lv_istore (lv' := [(4, .int v2), (0, .ref (B + 0)), (1, .int x1), (2, .int x2), (3, .int x3)]) C.1 C.2.1 dX9_products_59 hl (by decide) rfl (fun ls hl => ?_)
  refine lv_aload_n C.1 C.2.1 dX9_products_61 rfl (lv_at hl 1 rfl) ?_
  refine gf_X9_121 C hG rfl dX9_products_62 ?_
  refine lv_iconst (v := nI 3) C.1 C.2.1 dX9_products_65 (by decide) ?_
  rcases of_ite hf with ⟨c3, hf⟩ | ⟨c3, hf⟩
  · refine lv_icmp_ne (tgt := 83) C.1 C.2.1 dX9_products_66 (by decide) (fun q => absurd c3 q) (fun _ => ?_)
    refine lv_iload_n C.1 C.2.1 dX9_products_69 rfl (lv_at hl 3 rfl) ?_
    refine lv_iload_n C.1 C.2.1 dX9_products_70 rfl (lv_at hl 4 rfl) ?_
    refine lv_iadd C.1 C.2.1 dX9_products_71 ?_
    refine lv_aload_n C.1 C.2.1 dX9_products_72 rfl (lv_at hl 1 rfl) ?_
    refine gf_X9_117 C hG rfl dX9_products_73 ?_
    rcases of_ite hf with ⟨c4, hf⟩ | ⟨c4, hf⟩
    · refine lv_icmp_lt (tgt := 83) C.1 C.2.1 dX9_products_76 (by decide) (fun _ => ?_) (fun q => absurd c4 q)
      exact kb_X9_products_83 C  hG (lv_sub hl [1, 2, 3, 4, 0] rfl) hf kL kX0
    · refine lv_icmp_lt (tgt := 83) C.1 C.2.1 dX9_products_76 (by decide) (fun q => absurd q c4) (fun _ => ?_)
      refine lv_iload_n C.1 C.2.1 dX9_products_79 rfl (lv_at hl 2 rfl) ?_
      refine lv_goto (tgt := 84) C.1 C.2.1 dX9_products_80 (by decide) ?_
      exact kb_X9_products_84 C  hG (lv_sub hl [1, 2, 3, 4, 0] rfl) hf kL kX0
  · refine lv_icmp_ne (tgt := 83) C.1 C.2.1 dX9_products_66 (by decide) (fun _ => ?_) (fun q => absurd q c3)
    exact kb_X9_products_83 C  hG (lv_sub hl [1, 2, 3, 4, 0] rfl) hf kL kX0
set_option maxRecDepth 100000 in
set_option maxHeartbeats 4000000 in
theorem kb_X9_products_33 {x1 : Int32} {x2 : Int32} {x3 : Int32} {x4 : Int32} {s0 : Int32} {w : Mem} {r : (Int32 × Mem) ⊕ ((Mem))} {H : Heap} {locs : List Loc} {ls : Array Slot} (C : CX p s m args meth c cX9_products 6 RX9 wc_X9_products none)  (hG : Gd s G A 28 B (entM G B w) X H locs) (hl : lv_has ls 6 [(0, .ref (B + 0)), (1, .int x1), (2, .int x2), (3, .int x3), (4, .int x4)]) (hf : sh_X9_products_j33 x1 x2 x3 x4 s0 w = some r)
    (kL : ∀ st' : Int32 × Mem, r = Sum.inl st' → ∀ (H : Heap) (locs : List Loc) (ls : Array Slot), Gd s G A 28 B (entM G B st'.2) X H locs → lv_has ls 6 [(0, .ref (B + 0)), (1, .int x1), (2, .int x2), (3, .int st'.1)] → W p l e rm_X9_products s m args below meth c H locs 0 0 Q (F0 m 12 ls []))
    (kX0 : ∀ y' : Mem, r = Sum.inr y' → ∀ (H : Heap) (locs : List Loc) (ls : Array Slot), Gd s G A 28 B (entM G B y') X H locs → lv_has ls 6 [(0, .ref (B + 0)), (1, .int x1), (2, .int x2)] → W p l e rm_X9_products s m args below meth c H locs 0 0 Q (F0 m 152 ls [])) :
    W p l e rm_X9_products s m args below meth c H locs 0 0 Q (F0 m 33 ls [.int s0]) := by
  refine lv_istore (lv' := [(5, .int s0), (0, .ref (B + 0)), (1, .int x1), (2, .int x2), (3, .int x3), (4, .int x4)]) C.1 C.2.1 dX9_products_33 hl (by decide) rfl (fun ls hl => ?_)
  refine lv_aload_n C.1 C.2.1 dX9_products_35 rfl (lv_at hl 1 rfl) ?_
  refine gf_X9_121 C hG rfl dX9_products_36 ?_
  refine lv_iconst (v := nI 2) C.1 C.2.1 dX9_products_39 (by decide) ?_
  rcases of_ite hf with ⟨c1, hf⟩ | ⟨c1, hf⟩
  · refine lv_icmp_eq (tgt := 51) C.1 C.2.1 dX9_products_40 (by decide) (fun _ => ?_) (fun q => absurd c1 q)
    exact kb_X9_products_51 C  hG (lv_sub hl [1, 2, 3, 4] rfl) hf kL kX0
  · refine lv_icmp_eq (tgt := 51) C.1 C.2.1 dX9_products_40 (by decide) (fun q => absurd q c1) (fun _ => ?_)
    refine lv_aload_n C.1 C.2.1 dX9_products_43 rfl (lv_at hl 1 rfl) ?_
    refine gf_X9_121 C hG rfl dX9_products_44 ?_
    refine lv_iconst (v := nI 3) C.1 C.2.1 dX9_products_47 (by decide) ?_
    rcases of_ite hf with ⟨c2, hf⟩ | ⟨c2, hf⟩
    · refine lv_icmp_ne (tgt := 86) C.1 C.2.1 dX9_products_48 (by decide) (fun q => absurd c2 q) (fun _ => ?_)
      exact kb_X9_products_51 C  hG (lv_sub hl [1, 2, 3, 4] rfl) hf kL kX0
    · refine lv_icmp_ne (tgt := 86) C.1 C.2.1 dX9_products_48 (by decide) (fun _ => ?_) (fun q => absurd q c2)
      exact kb_X9_products_86 C  hG (lv_sub hl [1, 2, 3, 4, 5, 0] rfl) hf kL kX0
set_option maxRecDepth 100000 in
set_option maxHeartbeats 4000000 in
theorem kb_X9_products_12 {x1 : Int32} {x2 : Int32} {st : Int32 × Mem} {r : (Int32 × Mem) ⊕ ((Mem))} {H : Heap} {locs : List Loc} {ls : Array Slot} (C : CX p s m args meth c cX9_products 6 RX9 wc_X9_products none)  (hG : Gd s G A 28 B (entM G B st.2) X H locs) (hl : lv_has ls 6 [(0, .ref (B + 0)), (1, .int x1), (2, .int x2), (3, .int st.1)]) (hf : sh_X9_products_s12 x1 x2 st = some r)
    (kL : ∀ st' : Int32 × Mem, r = Sum.inl st' → ∀ (H : Heap) (locs : List Loc) (ls : Array Slot), Gd s G A 28 B (entM G B st'.2) X H locs → lv_has ls 6 [(0, .ref (B + 0)), (1, .int x1), (2, .int x2), (3, .int st'.1)] → W p l e rm_X9_products s m args below meth c H locs 0 0 Q (F0 m 12 ls []))
    (kX0 : ∀ y' : Mem, r = Sum.inr y' → ∀ (H : Heap) (locs : List Loc) (ls : Array Slot), Gd s G A 28 B (entM G B y') X H locs → lv_has ls 6 [(0, .ref (B + 0)), (1, .int x1), (2, .int x2)] → W p l e rm_X9_products s m args below meth c H locs 0 0 Q (F0 m 152 ls [])) :
    W p l e rm_X9_products s m args below meth c H locs 0 0 Q (F0 m 12 ls []) := by
  refine lv_iload_n C.1 C.2.1 dX9_products_12 rfl (lv_at hl 3 rfl) ?_
  refine lv_aload_n C.1 C.2.1 dX9_products_13 rfl (lv_at hl 0 rfl) ?_
  refine gf_X9_117 C hG rfl dX9_products_14 ?_
  rcases of_ite hf with ⟨c1, hf⟩ | ⟨c1, hf⟩
  · refine lv_icmp_ge (tgt := 152) C.1 C.2.1 dX9_products_17 (by decide) (fun _ => ?_) (fun q => absurd c1 q)
    obtain rfl := Option.some.inj hf
    exact kX0 _ rfl _ _ _ hG (lv_sub hl [0, 1, 2] rfl)
  · refine lv_icmp_ge (tgt := 152) C.1 C.2.1 dX9_products_17 (by decide) (fun q => absurd q c1) (fun _ => ?_)
    refine lv_iload_n C.1 C.2.1 dX9_products_20 rfl (lv_at hl 2 rfl) ?_
    refine lv_istore (lv' := [(4, .int x2), (0, .ref (B + 0)), (1, .int x1), (2, .int x2), (3, .int st.1)]) C.1 C.2.1 dX9_products_21 hl (by decide) rfl (fun ls hl => ?_)
    refine lv_iload_n C.1 C.2.1 dX9_products_23 rfl (lv_at hl 3 rfl) ?_
    refine lv_iload_n C.1 C.2.1 dX9_products_24 rfl (lv_at hl 4 rfl) ?_
    rcases of_ite hf with ⟨c2, hf⟩ | ⟨c2, hf⟩
    · refine lv_icmp_ne (tgt := 32) C.1 C.2.1 dX9_products_25 (by decide) (fun q => absurd c2 q) (fun _ => ?_)
      refine lv_iconst (v := nI 1) C.1 C.2.1 dX9_products_28 (by decide) ?_
      refine lv_goto (tgt := 33) C.1 C.2.1 dX9_products_29 (by decide) ?_
      exact kb_X9_products_33 C  hG (lv_sub hl [1, 2, 3, 4, 0] rfl) hf kL kX0
    · refine lv_icmp_ne (tgt := 32) C.1 C.2.1 dX9_products_25 (by decide) (fun _ => ?_) (fun q => absurd q c2)
      refine lv_iconst (v := nI 0) C.1 C.2.1 dX9_products_32 (by decide) ?_
      exact kb_X9_products_33 C  hG (lv_sub hl [1, 2, 3, 4, 0] rfl) hf kL kX0
set_option maxRecDepth 100000 in
set_option maxHeartbeats 4000000 in
theorem kl_X9_products_12 {x1 : Int32} {x2 : Int32} (C : CX p s m args meth c cX9_products 6 RX9 wc_X9_products none)  : ∀ (n : Nat) (st : Int32 × Mem) (x : (Mem)) (H : Heap) (locs : List Loc) (ls : Array Slot), Gd s G A 28 B (entM G B st.2) X H locs → lv_has ls 6 [(0, .ref (B + 0)), (1, .int x1), (2, .int x2), (3, .int st.1)] → lpw (sh_X9_products_s12 x1 x2) n st = some x →
    (∀ y' : Mem, x = y' → ∀ (H : Heap) (locs : List Loc) (ls : Array Slot), Gd s G A 28 B (entM G B y') X H locs → lv_has ls 6 [(0, .ref (B + 0)), (1, .int x1), (2, .int x2)] → W p l e rm_X9_products s m args below meth c H locs 0 0 Q (F0 m 152 ls [])) → W p l e rm_X9_products s m args below meth c H locs 0 0 Q (F0 m 12 ls []) := by
  intro n
  induction n with
  | zero =>
    intro st x H locs ls hG hl hf
    cases hf
  | succ n ih =>
    intro st x H locs ls hG hl hf kX0
    obtain ⟨r, hr, hh⟩ := of_lpw hf
    refine kb_X9_products_12 C  hG hl hr (fun st2 e1 H locs ls hG hl => ?_) (fun y2 e1 H locs ls hG hl => ?_)
    · rcases hh with ⟨s3, e2, hh⟩ | e2
      · rw [e2] at e1
        cases e1
        exact ih _ _ _ _ _ hG hl hh kX0
      · rw [e2] at e1
        cases e1
    · rcases hh with ⟨s3, e2, hh⟩ | e2
      · rw [e2] at e1
        cases e1
      · rw [e2] at e1
        cases e1
        exact kX0 _ rfl _ _ _ hG hl
set_option maxRecDepth 100000 in
set_option maxHeartbeats 4000000 in
theorem kb_X9_products_2 {x1 : Int32} {st : Int32 × Mem} {r : (Int32 × Mem) ⊕ ((Mem))} {H : Heap} {locs : List Loc} {ls : Array Slot} (C : CX p s m args meth c cX9_products 6 RX9 wc_X9_products none)  (hG : Gd s G A 28 B (entM G B st.2) X H locs) (hl : lv_has ls 6 [(0, .ref (B + 0)), (1, .int x1), (2, .int st.1)]) (hf : sh_X9_products_s2 x1 st = some r)
    (kL : ∀ st' : Int32 × Mem, r = Sum.inl st' → ∀ (H : Heap) (locs : List Loc) (ls : Array Slot), Gd s G A 28 B (entM G B st'.2) X H locs → lv_has ls 6 [(0, .ref (B + 0)), (1, .int x1), (2, .int st'.1)] → W p l e rm_X9_products s m args below meth c H locs 0 0 Q (F0 m 2 ls []))
    (kX0 : ∀ y' : Mem, r = Sum.inr y' → ∀ (H : Heap) (locs : List Loc) (ls : Array Slot), Gd s G A 28 B (entM G B y') X H locs → lv_has ls 6 [] → W p l e rm_X9_products s m args below meth c H locs 0 0 Q (F0 m 158 ls [])) :
    W p l e rm_X9_products s m args below meth c H locs 0 0 Q (F0 m 2 ls []) := by
  refine lv_iload_n C.1 C.2.1 dX9_products_2 rfl (lv_at hl 2 rfl) ?_
  refine lv_aload_n C.1 C.2.1 dX9_products_3 rfl (lv_at hl 0 rfl) ?_
  refine gf_X9_117 C hG rfl dX9_products_4 ?_
  rcases of_ite hf with ⟨c1, hf⟩ | ⟨c1, hf⟩
  · refine lv_icmp_ge (tgt := 158) C.1 C.2.1 dX9_products_7 (by decide) (fun _ => ?_) (fun q => absurd c1 q)
    obtain rfl := Option.some.inj hf
    exact kX0 _ rfl _ _ _ hG (lv_sub hl [] rfl)
  · refine lv_icmp_ge (tgt := 158) C.1 C.2.1 dX9_products_7 (by decide) (fun q => absurd q c1) (fun _ => ?_)
    refine lv_iconst (v := nI 0) C.1 C.2.1 dX9_products_10 (by decide) ?_
    refine lv_istore_n (lv' := [(3, .int (nI 0)), (0, .ref (B + 0)), (1, .int x1), (2, .int st.1)]) C.1 C.2.1 dX9_products_11 rfl hl (by decide) rfl (fun ls hl => ?_)
    obtain ⟨ex2, hex2, hf⟩ := of_bind hf
    refine kl_X9_products_12 C  FU (nI 0, st.2) ex2 _ _ _ hG (lv_sub hl [1, 2, 3, 0] rfl) hex2 (fun y e0 H locs ls hG hl => ?_)
    subst e0
    obtain ⟨v3, ev3, hf⟩ := of_letv hf
    refine lv_iinc (v := v3) (lv' := [(2, .int v3), (0, .ref (B + 0)), (1, .int x1)]) C.1 C.2.1 dX9_products_152 hl (k := 2) rfl (by rw [ev3, show Int32.ofInt (1) = nI 1 from by decide]) (by decide) rfl (fun ls hl => ?_)
    refine lv_goto (tgt := 2) C.1 C.2.1 dX9_products_155 (by decide) ?_
    obtain rfl := Option.some.inj hf
    exact kL _ rfl _ _ _ hG (lv_sub hl [1, 2, 0] rfl)
set_option maxRecDepth 100000 in
set_option maxHeartbeats 4000000 in
theorem kl_X9_products_2 {x1 : Int32} (C : CX p s m args meth c cX9_products 6 RX9 wc_X9_products none)  : ∀ (n : Nat) (st : Int32 × Mem) (x : (Mem)) (H : Heap) (locs : List Loc) (ls : Array Slot), Gd s G A 28 B (entM G B st.2) X H locs → lv_has ls 6 [(0, .ref (B + 0)), (1, .int x1), (2, .int st.1)] → lpw (sh_X9_products_s2 x1) n st = some x →
    (∀ y' : Mem, x = y' → ∀ (H : Heap) (locs : List Loc) (ls : Array Slot), Gd s G A 28 B (entM G B y') X H locs → lv_has ls 6 [] → W p l e rm_X9_products s m args below meth c H locs 0 0 Q (F0 m 158 ls [])) → W p l e rm_X9_products s m args below meth c H locs 0 0 Q (F0 m 2 ls []) := by
  intro n
  induction n with
  | zero =>
    intro st x H locs ls hG hl hf
    cases hf
  | succ n ih =>
    intro st x H locs ls hG hl hf kX0
    obtain ⟨r, hr, hh⟩ := of_lpw hf
    refine kb_X9_products_2 C  hG hl hr (fun st2 e1 H locs ls hG hl => ?_) (fun y2 e1 H locs ls hG hl => ?_)
    · rcases hh with ⟨s3, e2, hh⟩ | e2
      · rw [e2] at e1
        cases e1
        exact ih _ _ _ _ _ hG hl hh kX0
      · rw [e2] at e1
        cases e1
    · rcases hh with ⟨s3, e2, hh⟩ | e2
      · rw [e2] at e1
        cases e1
      · rw [e2] at e1
        cases e1
        exact kX0 _ rfl _ _ _ hG hl
set_option maxRecDepth 100000 in
set_option maxHeartbeats 4000000 in
theorem kb_X9_products_0 {x1 : Int32} {w : Mem} {out : Mem} {H : Heap} {locs : List Loc} {ls : Array Slot} (C : CX p s m args meth c cX9_products 6 RX9 wc_X9_products none)  (hG : Gd s G A 28 B (entM G B w) X H locs) (hl : lv_has ls 6 [(0, .ref (B + 0)), (1, .int x1)]) (hf : sh_X9_products x1 w = some out) :
    W p l e rm_X9_products s m args below meth c H locs 0 0 (MQ below (CPost G A 28 B (entM G B out) X none) args s 0 0 A) (F0 m 0 ls []) := by
  refine lv_iconst (v := nI 0) C.1 C.2.1 dX9_products_0 (by decide) ?_
  refine lv_istore_n (lv' := [(2, .int (nI 0)), (0, .ref (B + 0)), (1, .int x1)]) C.1 C.2.1 dX9_products_1 rfl hl (by decide) rfl (fun ls hl => ?_)
  obtain ⟨ex1, hex1, hf⟩ := of_bind hf
  refine kl_X9_products_2 C  FU (nI 0, w) ex1 _ _ _ hG (lv_sub hl [1, 2, 0] rfl) hex1 (fun y e0 H locs ls hG hl => ?_)
  subst e0
  obtain rfl := Option.some.inj hf
  exact r_vret C hG dX9_products_158
set_option maxRecDepth 100000 in
set_option maxHeartbeats 4000000 in
theorem mt_X9_products (l : Launch) {G : GG} {A : Nat → Prop} {B : Nat} {X : va_W} {x1 : Int32} {w : Mem} {out : Mem}  (hf : sh_X9_products x1 w = some out) : MetW l yX9_products wc_X9_products rm_X9_products G A 28 B (entM G B w) X [.ref (B + 0), .int x1] none (entM G B out) := by
  refine Met.ofW (cc := cX9_products) (maxL := 6) (ret := none) (by decide) rfl ?_
  intro p e s m args below meth c s₁ B0 hml hv
  obtain ⟨rfl, hEv, hWd⟩ := hv
  have C : CX p s m _ meth c cX9_products 6 RX9 wc_X9_products none := ⟨B0.exec, B0.bytes, hml, findClass_of_methodNamed B0.named, atoms_spec (ws := wc_X9_products) B0.pre, B0.returns, B0.notSynchronized⟩
  have hl := lv_entry [.ref (B + 0), .int x1] (n := 6) (Nat.le_of_ble_eq_true rfl)
  rw [lg_entry_eq]
  generalize (lg_sl [.ref (B + 0), .int x1] ++ List.replicate (6 - (lg_sl [.ref (B + 0), .int x1]).length) Slot.unset).toArray = ls at hl ⊢
  have hl : lv_has ls 6 [(0, .ref (B + 0)), (1, .int x1)] := hl
  exact kb_X9_products_0 C  ⟨hEv, hWd, va_S.rf⟩ hl hf
abbrev wc_X9_formOf : List Cond := Cond.code yX9_formOf cX9_formOf 3 (some .int) :: TG
abbrev rm_X9_formOf : Room := { frames := 3, cells := 0, slots := 0, locals := 122 }
theorem cd_X9_formOf : yX9_formOf.cls = RX9 ∧ yX9_formOf.cls ≠ "java/lang/invoke/MethodHandle" ∧ yX9_formOf.cls ≠ "java/lang/invoke/VarHandle" ∧ (parseMethodDescriptor yX9_formOf.desc).map (fun d => d.parameters.length) = some 2 := by decide +kernel
theorem dX9_formOf_0 : decode cX9_formOf 0 = .ok (.aload_n 0, 1) := by decide +kernel
theorem dX9_formOf_1 : decode cX9_formOf 1 = .ok (.getfield 21, 3) := by decide +kernel
theorem dX9_formOf_4 : decode cX9_formOf 4 = .ok (.aload_n 0, 1) := by decide +kernel
theorem dX9_formOf_5 : decode cX9_formOf 5 = .ok (.iload_n 1, 1) := by decide +kernel
theorem dX9_formOf_6 : decode cX9_formOf 6 = .ok (.iload_n 2, 1) := by decide +kernel
theorem dX9_formOf_7 : decode cX9_formOf 7 = .ok (.invokevirtual 128, 3) := by decide +kernel
theorem dX9_formOf_10 : decode cX9_formOf 10 = .ok (.iaload, 1) := by decide +kernel
theorem dX9_formOf_11 : decode cX9_formOf 11 = .ok (.aload_n 0, 1) := by decide +kernel
theorem dX9_formOf_12 : decode cX9_formOf 12 = .ok (.getfield 24, 3) := by decide +kernel
theorem dX9_formOf_15 : decode cX9_formOf 15 = .ok (.aload_n 0, 1) := by decide +kernel
theorem dX9_formOf_16 : decode cX9_formOf 16 = .ok (.getfield 18, 3) := by decide +kernel
theorem dX9_formOf_19 : decode cX9_formOf 19 = .ok (.aload_n 0, 1) := by decide +kernel
theorem dX9_formOf_20 : decode cX9_formOf 20 = .ok (.iload_n 1, 1) := by decide +kernel
theorem dX9_formOf_21 : decode cX9_formOf 21 = .ok (.iload_n 2, 1) := by decide +kernel
theorem dX9_formOf_22 : decode cX9_formOf 22 = .ok (.invokevirtual 128, 3) := by decide +kernel
theorem dX9_formOf_25 : decode cX9_formOf 25 = .ok (.iaload, 1) := by decide +kernel
theorem dX9_formOf_26 : decode cX9_formOf 26 = .ok (.iaload, 1) := by decide +kernel
theorem dX9_formOf_27 : decode cX9_formOf 27 = .ok (.imul, 1) := by decide +kernel
theorem dX9_formOf_28 : decode cX9_formOf 28 = .ok (.sipush 9973, 3) := by decide +kernel
theorem dX9_formOf_31 : decode cX9_formOf 31 = .ok (.irem, 1) := by decide +kernel
theorem dX9_formOf_32 : decode cX9_formOf 32 = .ok (.ireturn, 1) := by decide +kernel
set_option maxRecDepth 100000 in
set_option maxHeartbeats 4000000 in
theorem kb_X9_formOf_0 {x1 : Int32} {x2 : Int32} {w : Mem} {out : Int32} {H : Heap} {locs : List Loc} {ls : Array Slot} (C : CX p s m args meth c cX9_formOf 3 RX9 wc_X9_formOf (some .int))  (hG : Gd s G A 28 B (entM G B w) X H locs) (hl : lv_has ls 3 [(0, .ref (B + 0)), (1, .int x1), (2, .int x2)]) (hf : sh_X9_formOf x1 x2 w = some out) :
    W p l e rm_X9_formOf s m args below meth c H locs 0 0 (MQ below (CPost G A 28 B (entM G B w) X (some (.int out))) args s 0 0 A) (F0 m 0 ls []) := by
  refine lv_aload_n C.1 C.2.1 dX9_formOf_0 rfl (lv_at hl 0 rfl) ?_
  refine gf_X9_21 C hG rfl dX9_formOf_1 ?_
  refine lv_aload_n C.1 C.2.1 dX9_formOf_4 rfl (lv_at hl 0 rfl) ?_
  refine lv_iload_n C.1 C.2.1 dX9_formOf_5 rfl (lv_at hl 1 rfl) ?_
  refine lv_iload_n C.1 C.2.1 dX9_formOf_6 rfl (lv_at hl 2 rfl) ?_
  obtain ⟨v1, hv1, hf⟩ := of_bind hf
  refine r_callV1 C hG hl.1 (c0 := 0) (As := [.int x1, .int x2]) (by decide) (entM_O (n := 35) rfl) rfl (mt_X9_at l  hv1) (cwV 2 C.2.2.2.2.1 (gd_V tg_4_239 tg_5_1 tgp_32 tg_1_10 tg_5_2) rfl rfl rfl cd_X9_at ⟨Nat.le_of_ble_eq_true rfl, Nat.le_of_ble_eq_true rfl⟩) rfl rfl (Nat.le_of_ble_eq_true rfl) dX9_formOf_7 (fun H locs hG => ?_)
  obtain ⟨v2, hv2, hf⟩ := of_bind hf
  obtain ⟨bv2, ev2⟩ := of_ldS hv2
  refine r_iald C hG (c0 := 4) (by decide) (entM_I (n := 36) rfl) bv2 dX9_formOf_10 ?_
  refine r_top ev2 ?_
  refine lv_aload_n C.1 C.2.1 dX9_formOf_11 rfl (lv_at hl 0 rfl) ?_
  refine gf_X9_24 C hG rfl dX9_formOf_12 ?_
  refine lv_aload_n C.1 C.2.1 dX9_formOf_15 rfl (lv_at hl 0 rfl) ?_
  refine gf_X9_18 C hG rfl dX9_formOf_16 ?_
  refine lv_aload_n C.1 C.2.1 dX9_formOf_19 rfl (lv_at hl 0 rfl) ?_
  refine lv_iload_n C.1 C.2.1 dX9_formOf_20 rfl (lv_at hl 1 rfl) ?_
  refine lv_iload_n C.1 C.2.1 dX9_formOf_21 rfl (lv_at hl 2 rfl) ?_
  obtain ⟨v3, hv3, hf⟩ := of_bind hf
  refine r_callV1 C hG hl.1 (c0 := 0) (As := [.int x1, .int x2]) (by decide) (entM_O (n := 35) rfl) rfl (mt_X9_at l  hv3) (cwV 2 C.2.2.2.2.1 (gd_V tg_4_239 tg_5_1 tgp_32 tg_1_10 tg_5_2) rfl rfl rfl cd_X9_at ⟨Nat.le_of_ble_eq_true rfl, Nat.le_of_ble_eq_true rfl⟩) rfl rfl (Nat.le_of_ble_eq_true rfl) dX9_formOf_22 (fun H locs hG => ?_)
  obtain ⟨v4, hv4, hf⟩ := of_bind hf
  obtain ⟨bv4, ev4⟩ := of_ldS hv4
  refine r_iald C hG (c0 := 3) (by decide) (entM_I (n := 36) rfl) bv4 dX9_formOf_25 ?_
  refine r_top ev4 ?_
  obtain ⟨v5, hv5, hf⟩ := of_bind hf
  obtain ⟨bv5, ev5⟩ := of_ldS hv5
  refine r_iald C hG (c0 := 5) (by decide) (entM_I (n := 6) rfl) bv5 dX9_formOf_26 ?_
  refine r_top ev5 ?_
  refine lv_imul C.1 C.2.1 dX9_formOf_27 ?_
  refine lv_sipush (v := nI 9973) C.1 C.2.1 dX9_formOf_28 (by decide) ?_
  refine r_irem C dX9_formOf_31 (by decide) ?_
  obtain rfl := Option.some.inj hf
  exact r_iret C hG dX9_formOf_32
set_option maxRecDepth 100000 in
set_option maxHeartbeats 4000000 in
theorem mt_X9_formOf (l : Launch) {G : GG} {A : Nat → Prop} {B : Nat} {X : va_W} {x1 : Int32} {x2 : Int32} {w : Mem} {out : Int32}  (hf : sh_X9_formOf x1 x2 w = some out) : MetW l yX9_formOf wc_X9_formOf rm_X9_formOf G A 28 B (entM G B w) X [.ref (B + 0), .int x1, .int x2] (some (.int out)) (entM G B w) := by
  refine Met.ofW (cc := cX9_formOf) (maxL := 3) (ret := (some .int)) (by decide) rfl ?_
  intro p e s m args below meth c s₁ B0 hml hv
  obtain ⟨rfl, hEv, hWd⟩ := hv
  have C : CX p s m _ meth c cX9_formOf 3 RX9 wc_X9_formOf (some .int) := ⟨B0.exec, B0.bytes, hml, findClass_of_methodNamed B0.named, atoms_spec (ws := wc_X9_formOf) B0.pre, B0.returns, B0.notSynchronized⟩
  have hl := lv_entry [.ref (B + 0), .int x1, .int x2] (n := 3) (Nat.le_of_ble_eq_true rfl)
  rw [lg_entry_eq]
  generalize (lg_sl [.ref (B + 0), .int x1, .int x2] ++ List.replicate (3 - (lg_sl [.ref (B + 0), .int x1, .int x2]).length) Slot.unset).toArray = ls at hl ⊢
  have hl : lv_has ls 3 [(0, .ref (B + 0)), (1, .int x1), (2, .int x2)] := hl
  exact kb_X9_formOf_0 C  ⟨hEv, hWd, va_S.rf⟩ hl hf
abbrev wc_X9_inverse : List Cond := Cond.code yX9_inverse cX9_inverse 4 (some .int) :: TG
abbrev rm_X9_inverse : Room := { frames := 2, cells := 0, slots := 0, locals := 100 }
theorem cd_X9_inverse : yX9_inverse.cls = RX9 ∧ yX9_inverse.cls ≠ "java/lang/invoke/MethodHandle" ∧ yX9_inverse.cls ≠ "java/lang/invoke/VarHandle" ∧ (parseMethodDescriptor yX9_inverse.desc).map (fun d => d.parameters.length) = some 1 := by decide +kernel
theorem dX9_inverse_0 : decode cX9_inverse 0 = .ok (.iconst 1, 1) := by decide +kernel
theorem dX9_inverse_1 : decode cX9_inverse 1 = .ok (.istore_n 1, 1) := by decide +kernel
theorem dX9_inverse_2 : decode cX9_inverse 2 = .ok (.iload_n 0, 1) := by decide +kernel
theorem dX9_inverse_3 : decode cX9_inverse 3 = .ok (.istore_n 2, 1) := by decide +kernel
theorem dX9_inverse_4 : decode cX9_inverse 4 = .ok (.sipush 9971, 3) := by decide +kernel
theorem dX9_inverse_7 : decode cX9_inverse 7 = .ok (.istore_n 3, 1) := by decide +kernel
theorem dX9_inverse_8 : decode cX9_inverse 8 = .ok (.iload_n 3, 1) := by decide +kernel
theorem dX9_inverse_9 : decode cX9_inverse 9 = .ok (.ifCond .le 37, 3) := by decide +kernel
theorem dX9_inverse_12 : decode cX9_inverse 12 = .ok (.iload_n 3, 1) := by decide +kernel
theorem dX9_inverse_13 : decode cX9_inverse 13 = .ok (.iconst 1, 1) := by decide +kernel
theorem dX9_inverse_14 : decode cX9_inverse 14 = .ok (.iand, 1) := by decide +kernel
theorem dX9_inverse_15 : decode cX9_inverse 15 = .ok (.iconst 1, 1) := by decide +kernel
theorem dX9_inverse_16 : decode cX9_inverse 16 = .ok (.if_icmp .ne 13, 3) := by decide +kernel
theorem dX9_inverse_19 : decode cX9_inverse 19 = .ok (.iload_n 1, 1) := by decide +kernel
theorem dX9_inverse_20 : decode cX9_inverse 20 = .ok (.iload_n 2, 1) := by decide +kernel
theorem dX9_inverse_21 : decode cX9_inverse 21 = .ok (.imul, 1) := by decide +kernel
theorem dX9_inverse_22 : decode cX9_inverse 22 = .ok (.sipush 9973, 3) := by decide +kernel
theorem dX9_inverse_25 : decode cX9_inverse 25 = .ok (.irem, 1) := by decide +kernel
theorem dX9_inverse_26 : decode cX9_inverse 26 = .ok (.goto 4, 3) := by decide +kernel
theorem dX9_inverse_29 : decode cX9_inverse 29 = .ok (.iload_n 1, 1) := by decide +kernel
theorem dX9_inverse_30 : decode cX9_inverse 30 = .ok (.istore_n 1, 1) := by decide +kernel
theorem dX9_inverse_31 : decode cX9_inverse 31 = .ok (.iload_n 2, 1) := by decide +kernel
theorem dX9_inverse_32 : decode cX9_inverse 32 = .ok (.iload_n 2, 1) := by decide +kernel
theorem dX9_inverse_33 : decode cX9_inverse 33 = .ok (.imul, 1) := by decide +kernel
theorem dX9_inverse_34 : decode cX9_inverse 34 = .ok (.sipush 9973, 3) := by decide +kernel
theorem dX9_inverse_37 : decode cX9_inverse 37 = .ok (.irem, 1) := by decide +kernel
theorem dX9_inverse_38 : decode cX9_inverse 38 = .ok (.istore_n 2, 1) := by decide +kernel
theorem dX9_inverse_39 : decode cX9_inverse 39 = .ok (.iload_n 3, 1) := by decide +kernel
theorem dX9_inverse_40 : decode cX9_inverse 40 = .ok (.iconst 1, 1) := by decide +kernel
theorem dX9_inverse_41 : decode cX9_inverse 41 = .ok (.ishr, 1) := by decide +kernel
theorem dX9_inverse_42 : decode cX9_inverse 42 = .ok (.istore_n 3, 1) := by decide +kernel
theorem dX9_inverse_43 : decode cX9_inverse 43 = .ok (.goto (-35), 3) := by decide +kernel
theorem dX9_inverse_46 : decode cX9_inverse 46 = .ok (.iload_n 1, 1) := by decide +kernel
theorem dX9_inverse_47 : decode cX9_inverse 47 = .ok (.ireturn, 1) := by decide +kernel
set_option maxRecDepth 100000 in
set_option maxHeartbeats 4000000 in
theorem kb_X9_inverse_30 {x2 : Int32} {x3 : Int32} {s0 : Int32} {r : (Int32 × Int32 × Int32) ⊕ ((Int32))} {H : Heap} {locs : List Loc} {ls : Array Slot} (C : CX p s m args meth c cX9_inverse 4 RX9 wc_X9_inverse (some .int))  (hG : Gd s G A N B E X H locs) (hl : lv_has ls 4 [(2, .int x2), (3, .int x3)]) (hf : sh_X9_inverse_j30 x2 x3 s0 = some r)
    (kL : ∀ st' : Int32 × Int32 × Int32, r = Sum.inl st' → ∀ (H : Heap) (locs : List Loc) (ls : Array Slot), Gd s G A N B E X H locs → lv_has ls 4 [(1, .int st'.1), (2, .int st'.2.1), (3, .int st'.2.2)] → W p l e rm_X9_inverse s m args below meth c H locs 0 0 Q (F0 m 8 ls []))
    (kX0 : ∀ y' : Int32, r = Sum.inr y' → ∀ (H : Heap) (locs : List Loc) (ls : Array Slot), Gd s G A N B E X H locs → lv_has ls 4 [(1, .int y')] → W p l e rm_X9_inverse s m args below meth c H locs 0 0 Q (F0 m 46 ls [])) :
    W p l e rm_X9_inverse s m args below meth c H locs 0 0 Q (F0 m 30 ls [.int s0]) := by
  refine lv_istore_n (lv' := [(1, .int s0), (2, .int x2), (3, .int x3)]) C.1 C.2.1 dX9_inverse_30 rfl hl (by decide) rfl (fun ls hl => ?_)
  refine lv_iload_n C.1 C.2.1 dX9_inverse_31 rfl (lv_at hl 1 rfl) ?_
  refine lv_iload_n C.1 C.2.1 dX9_inverse_32 rfl (lv_at hl 1 rfl) ?_
  refine lv_imul C.1 C.2.1 dX9_inverse_33 ?_
  refine lv_sipush (v := nI 9973) C.1 C.2.1 dX9_inverse_34 (by decide) ?_
  refine r_irem C dX9_inverse_37 (by decide) ?_
  obtain ⟨v1, ev1, hf⟩ := of_letv hf
  refine r_top ev1 ?_
  refine lv_istore_n (lv' := [(2, .int v1), (1, .int s0), (3, .int x3)]) C.1 C.2.1 dX9_inverse_38 rfl hl (by decide) rfl (fun ls hl => ?_)
  refine lv_iload_n C.1 C.2.1 dX9_inverse_39 rfl (lv_at hl 2 rfl) ?_
  refine lv_iconst (v := nI 1) C.1 C.2.1 dX9_inverse_40 (by decide) ?_
  refine lv_ishr C.1 C.2.1 dX9_inverse_41 ?_
  obtain ⟨v2, ev2, hf⟩ := of_letv hf
  refine r_top ev2 ?_
  refine lv_istore_n (lv' := [(3, .int v2), (2, .int v1), (1, .int s0)]) C.1 C.2.1 dX9_inverse_42 rfl hl (by decide) rfl (fun ls hl => ?_)
  refine lv_goto (tgt := 8) C.1 C.2.1 dX9_inverse_43 (by decide) ?_
  obtain rfl := Option.some.inj hf
  exact kL _ rfl _ _ _ hG (lv_sub hl [2, 1, 0] rfl)
set_option maxRecDepth 100000 in
set_option maxHeartbeats 4000000 in
theorem kb_X9_inverse_8  {st : Int32 × Int32 × Int32} {r : (Int32 × Int32 × Int32) ⊕ ((Int32))} {H : Heap} {locs : List Loc} {ls : Array Slot} (C : CX p s m args meth c cX9_inverse 4 RX9 wc_X9_inverse (some .int))  (hG : Gd s G A N B E X H locs) (hl : lv_has ls 4 [(1, .int st.1), (2, .int st.2.1), (3, .int st.2.2)]) (hf : sh_X9_inverse_s8  st = some r)
    (kL : ∀ st' : Int32 × Int32 × Int32, r = Sum.inl st' → ∀ (H : Heap) (locs : List Loc) (ls : Array Slot), Gd s G A N B E X H locs → lv_has ls 4 [(1, .int st'.1), (2, .int st'.2.1), (3, .int st'.2.2)] → W p l e rm_X9_inverse s m args below meth c H locs 0 0 Q (F0 m 8 ls []))
    (kX0 : ∀ y' : Int32, r = Sum.inr y' → ∀ (H : Heap) (locs : List Loc) (ls : Array Slot), Gd s G A N B E X H locs → lv_has ls 4 [(1, .int y')] → W p l e rm_X9_inverse s m args below meth c H locs 0 0 Q (F0 m 46 ls [])) :
    W p l e rm_X9_inverse s m args below meth c H locs 0 0 Q (F0 m 8 ls []) := by
  refine lv_iload_n C.1 C.2.1 dX9_inverse_8 rfl (lv_at hl 2 rfl) ?_
  rcases of_ite hf with ⟨c1, hf⟩ | ⟨c1, hf⟩
  · refine lv_if_le (tgt := 46) C.1 C.2.1 dX9_inverse_9 (by decide) (fun _ => ?_) (fun q => absurd c1 q)
    obtain rfl := Option.some.inj hf
    exact kX0 _ rfl _ _ _ hG (lv_sub hl [0] rfl)
  · refine lv_if_le (tgt := 46) C.1 C.2.1 dX9_inverse_9 (by decide) (fun q => absurd q c1) (fun _ => ?_)
    refine lv_iload_n C.1 C.2.1 dX9_inverse_12 rfl (lv_at hl 2 rfl) ?_
    refine lv_iconst (v := nI 1) C.1 C.2.1 dX9_inverse_13 (by decide) ?_
    refine lv_iand C.1 C.2.1 dX9_inverse_14 ?_
    refine lv_iconst (v := nI 1) C.1 C.2.1 dX9_inverse_15 (by decide) ?_
    rcases of_ite hf with ⟨c2, hf⟩ | ⟨c2, hf⟩
    · refine lv_icmp_ne (tgt := 29) C.1 C.2.1 dX9_inverse_16 (by decide) (fun q => absurd c2 q) (fun _ => ?_)
      refine lv_iload_n C.1 C.2.1 dX9_inverse_19 rfl (lv_at hl 0 rfl) ?_
      refine lv_iload_n C.1 C.2.1 dX9_inverse_20 rfl (lv_at hl 1 rfl) ?_
      refine lv_imul C.1 C.2.1 dX9_inverse_21 ?_
      refine lv_sipush (v := nI 9973) C.1 C.2.1 dX9_inverse_22 (by decide) ?_
      refine r_irem C dX9_inverse_25 (by decide) ?_
      refine lv_goto (tgt := 30) C.1 C.2.1 dX9_inverse_26 (by decide) ?_
      exact kb_X9_inverse_30 C  hG (lv_sub hl [1, 2] rfl) hf kL kX0
    · refine lv_icmp_ne (tgt := 29) C.1 C.2.1 dX9_inverse_16 (by decide) (fun _ => ?_) (fun q => absurd q c2)
      refine lv_iload_n C.1 C.2.1 dX9_inverse_29 rfl (lv_at hl 0 rfl) ?_
      exact kb_X9_inverse_30 C  hG (lv_sub hl [1, 2] rfl) hf kL kX0
set_option maxRecDepth 100000 in
set_option maxHeartbeats 4000000 in
theorem kl_X9_inverse_8  (C : CX p s m args meth c cX9_inverse 4 RX9 wc_X9_inverse (some .int))  : ∀ (n : Nat) (st : Int32 × Int32 × Int32) (x : (Int32)) (H : Heap) (locs : List Loc) (ls : Array Slot), Gd s G A N B E X H locs → lv_has ls 4 [(1, .int st.1), (2, .int st.2.1), (3, .int st.2.2)] → lpw (sh_X9_inverse_s8 ) n st = some x →
    (∀ y' : Int32, x = y' → ∀ (H : Heap) (locs : List Loc) (ls : Array Slot), Gd s G A N B E X H locs → lv_has ls 4 [(1, .int y')] → W p l e rm_X9_inverse s m args below meth c H locs 0 0 Q (F0 m 46 ls [])) → W p l e rm_X9_inverse s m args below meth c H locs 0 0 Q (F0 m 8 ls []) := by
  intro n
  induction n with
  | zero =>
    intro st x H locs ls hG hl hf
    cases hf
  | succ n ih =>
    intro st x H locs ls hG hl hf kX0
    obtain ⟨r, hr, hh⟩ := of_lpw hf
    refine kb_X9_inverse_8 C  hG hl hr (fun st2 e1 H locs ls hG hl => ?_) (fun y2 e1 H locs ls hG hl => ?_)
    · rcases hh with ⟨s3, e2, hh⟩ | e2
      · rw [e2] at e1
        cases e1
        exact ih _ _ _ _ _ hG hl hh kX0
      · rw [e2] at e1
        cases e1
    · rcases hh with ⟨s3, e2, hh⟩ | e2
      · rw [e2] at e1
        cases e1
      · rw [e2] at e1
        cases e1
        exact kX0 _ rfl _ _ _ hG hl
set_option maxRecDepth 100000 in
set_option maxHeartbeats 4000000 in
theorem kb_X9_inverse_0 {x0 : Int32} {out : Int32} {H : Heap} {locs : List Loc} {ls : Array Slot} (C : CX p s m args meth c cX9_inverse 4 RX9 wc_X9_inverse (some .int))  (hG : Gd s G A N B E X H locs) (hl : lv_has ls 4 [(0, .int x0)]) (hf : sh_X9_inverse x0 = some out) :
    W p l e rm_X9_inverse s m args below meth c H locs 0 0 (MQ below (CPost G A N B E X (some (.int out))) args s 0 0 A) (F0 m 0 ls []) := by
  refine lv_iconst (v := nI 1) C.1 C.2.1 dX9_inverse_0 (by decide) ?_
  refine lv_istore_n (lv' := [(1, .int (nI 1)), (0, .int x0)]) C.1 C.2.1 dX9_inverse_1 rfl hl (by decide) rfl (fun ls hl => ?_)
  refine lv_iload_n C.1 C.2.1 dX9_inverse_2 rfl (lv_at hl 1 rfl) ?_
  refine lv_istore_n (lv' := [(2, .int x0), (1, .int (nI 1)), (0, .int x0)]) C.1 C.2.1 dX9_inverse_3 rfl hl (by decide) rfl (fun ls hl => ?_)
  refine lv_sipush (v := nI 9971) C.1 C.2.1 dX9_inverse_4 (by decide) ?_
  refine lv_istore_n (lv' := [(3, .int (nI 9971)), (2, .int x0), (1, .int (nI 1)), (0, .int x0)]) C.1 C.2.1 dX9_inverse_7 rfl hl (by decide) rfl (fun ls hl => ?_)
  obtain ⟨ex1, hex1, hf⟩ := of_bind hf
  refine kl_X9_inverse_8 C  FU (nI 1, x0, nI 9971) ex1 _ _ _ hG (lv_sub hl [2, 1, 0] rfl) hex1 (fun y e0 H locs ls hG hl => ?_)
  subst e0
  refine lv_iload_n C.1 C.2.1 dX9_inverse_46 rfl (lv_at hl 0 rfl) ?_
  obtain rfl := Option.some.inj hf
  exact r_iret C hG dX9_inverse_47
set_option maxRecDepth 100000 in
set_option maxHeartbeats 4000000 in
theorem mt_X9_inverse (l : Launch) {G : GG} {A : Nat → Prop} {N B : Nat} {E : Nat → va_E} {X : va_W} {x0 : Int32} {out : Int32}  (hf : sh_X9_inverse x0 = some out) : MetW l yX9_inverse wc_X9_inverse rm_X9_inverse G A N B E X [.int x0] (some (.int out)) E := by
  refine Met.ofW (cc := cX9_inverse) (maxL := 4) (ret := (some .int)) (by decide) rfl ?_
  intro p e s m args below meth c s₁ B0 hml hv
  obtain ⟨rfl, hEv, hWd⟩ := hv
  have C : CX p s m _ meth c cX9_inverse 4 RX9 wc_X9_inverse (some .int) := ⟨B0.exec, B0.bytes, hml, findClass_of_methodNamed B0.named, atoms_spec (ws := wc_X9_inverse) B0.pre, B0.returns, B0.notSynchronized⟩
  have hl := lv_entry [.int x0] (n := 4) (Nat.le_of_ble_eq_true rfl)
  rw [lg_entry_eq]
  generalize (lg_sl [.int x0] ++ List.replicate (4 - (lg_sl [.int x0]).length) Slot.unset).toArray = ls at hl ⊢
  have hl : lv_has ls 4 [(0, .int x0)] := hl
  exact kb_X9_inverse_0 C  ⟨hEv, hWd, va_S.rf⟩ hl hf
abbrev wc_X9_laysOut : List Cond := Cond.code yX9_laysOut cX9_laysOut 6 none :: TG
abbrev rm_X9_laysOut : Room := { frames := 5, cells := 0, slots := 0, locals := 170 }
theorem cd_X9_laysOut : yX9_laysOut.cls = RX9 ∧ yX9_laysOut.cls ≠ "java/lang/invoke/MethodHandle" ∧ yX9_laysOut.cls ≠ "java/lang/invoke/VarHandle" ∧ (parseMethodDescriptor yX9_laysOut.desc).map (fun d => d.parameters.length) = some 2 := by decide +kernel
theorem dX9_laysOut_0 : decode cX9_laysOut 0 = .ok (.aload_n 0, 1) := by decide +kernel
theorem dX9_laysOut_1 : decode cX9_laysOut 1 = .ok (.aload_n 0, 1) := by decide +kernel
theorem dX9_laysOut_2 : decode cX9_laysOut 2 = .ok (.iload_n 1, 1) := by decide +kernel
theorem dX9_laysOut_3 : decode cX9_laysOut 3 = .ok (.invokevirtual 113, 3) := by decide +kernel
theorem dX9_laysOut_6 : decode cX9_laysOut 6 = .ok (.putfield 117, 3) := by decide +kernel
theorem dX9_laysOut_9 : decode cX9_laysOut 9 = .ok (.aload_n 0, 1) := by decide +kernel
theorem dX9_laysOut_10 : decode cX9_laysOut 10 = .ok (.aload_n 0, 1) := by decide +kernel
theorem dX9_laysOut_11 : decode cX9_laysOut 11 = .ok (.getfield 11, 3) := by decide +kernel
theorem dX9_laysOut_14 : decode cX9_laysOut 14 = .ok (.iconst 1, 1) := by decide +kernel
theorem dX9_laysOut_15 : decode cX9_laysOut 15 = .ok (.iload_n 1, 1) := by decide +kernel
theorem dX9_laysOut_16 : decode cX9_laysOut 16 = .ok (.iadd, 1) := by decide +kernel
theorem dX9_laysOut_17 : decode cX9_laysOut 17 = .ok (.iaload, 1) := by decide +kernel
theorem dX9_laysOut_18 : decode cX9_laysOut 18 = .ok (.putfield 121, 3) := by decide +kernel
theorem dX9_laysOut_21 : decode cX9_laysOut 21 = .ok (.aload_n 0, 1) := by decide +kernel
theorem dX9_laysOut_22 : decode cX9_laysOut 22 = .ok (.iload_n 2, 1) := by decide +kernel
theorem dX9_laysOut_23 : decode cX9_laysOut 23 = .ok (.invokevirtual 138, 3) := by decide +kernel
theorem dX9_laysOut_26 : decode cX9_laysOut 26 = .ok (.iconst 0, 1) := by decide +kernel
theorem dX9_laysOut_27 : decode cX9_laysOut 27 = .ok (.istore_n 3, 1) := by decide +kernel
theorem dX9_laysOut_28 : decode cX9_laysOut 28 = .ok (.iload_n 3, 1) := by decide +kernel
theorem dX9_laysOut_29 : decode cX9_laysOut 29 = .ok (.aload_n 0, 1) := by decide +kernel
theorem dX9_laysOut_30 : decode cX9_laysOut 30 = .ok (.getfield 117, 3) := by decide +kernel
theorem dX9_laysOut_33 : decode cX9_laysOut 33 = .ok (.if_icmp .ge 125, 3) := by decide +kernel
theorem dX9_laysOut_36 : decode cX9_laysOut 36 = .ok (.aload_n 0, 1) := by decide +kernel
theorem dX9_laysOut_37 : decode cX9_laysOut 37 = .ok (.getfield 121, 3) := by decide +kernel
theorem dX9_laysOut_40 : decode cX9_laysOut 40 = .ok (.ifCond .eq 11, 3) := by decide +kernel
theorem dX9_laysOut_43 : decode cX9_laysOut 43 = .ok (.aload_n 0, 1) := by decide +kernel
theorem dX9_laysOut_44 : decode cX9_laysOut 44 = .ok (.getfield 121, 3) := by decide +kernel
theorem dX9_laysOut_47 : decode cX9_laysOut 47 = .ok (.iconst 1, 1) := by decide +kernel
theorem dX9_laysOut_48 : decode cX9_laysOut 48 = .ok (.if_icmp .ne 7, 3) := by decide +kernel
theorem dX9_laysOut_51 : decode cX9_laysOut 51 = .ok (.iconst 1, 1) := by decide +kernel
theorem dX9_laysOut_52 : decode cX9_laysOut 52 = .ok (.goto 4, 3) := by decide +kernel
theorem dX9_laysOut_55 : decode cX9_laysOut 55 = .ok (.iconst 0, 1) := by decide +kernel
theorem dX9_laysOut_56 : decode cX9_laysOut 56 = .ok (.istore 4, 2) := by decide +kernel
theorem dX9_laysOut_58 : decode cX9_laysOut 58 = .ok (.aload_n 0, 1) := by decide +kernel
theorem dX9_laysOut_59 : decode cX9_laysOut 59 = .ok (.getfield 24, 3) := by decide +kernel
theorem dX9_laysOut_62 : decode cX9_laysOut 62 = .ok (.iload_n 3, 1) := by decide +kernel
theorem dX9_laysOut_63 : decode cX9_laysOut 63 = .ok (.aload_n 0, 1) := by decide +kernel
theorem dX9_laysOut_64 : decode cX9_laysOut 64 = .ok (.getfield 121, 3) := by decide +kernel
theorem dX9_laysOut_67 : decode cX9_laysOut 67 = .ok (.ifCond .ne 7, 3) := by decide +kernel
theorem dX9_laysOut_70 : decode cX9_laysOut 70 = .ok (.iconst 1, 1) := by decide +kernel
theorem dX9_laysOut_71 : decode cX9_laysOut 71 = .ok (.goto 46, 3) := by decide +kernel
theorem dX9_laysOut_74 : decode cX9_laysOut 74 = .ok (.aload_n 0, 1) := by decide +kernel
theorem dX9_laysOut_75 : decode cX9_laysOut 75 = .ok (.getfield 121, 3) := by decide +kernel
theorem dX9_laysOut_78 : decode cX9_laysOut 78 = .ok (.iconst 1, 1) := by decide +kernel
theorem dX9_laysOut_79 : decode cX9_laysOut 79 = .ok (.if_icmp .ne 11, 3) := by decide +kernel
theorem dX9_laysOut_82 : decode cX9_laysOut 82 = .ok (.iload_n 2, 1) := by decide +kernel
theorem dX9_laysOut_83 : decode cX9_laysOut 83 = .ok (.iload_n 3, 1) := by decide +kernel
theorem dX9_laysOut_84 : decode cX9_laysOut 84 = .ok (.iadd, 1) := by decide +kernel
theorem dX9_laysOut_85 : decode cX9_laysOut 85 = .ok (.iconst 1, 1) := by decide +kernel
theorem dX9_laysOut_86 : decode cX9_laysOut 86 = .ok (.iadd, 1) := by decide +kernel
theorem dX9_laysOut_87 : decode cX9_laysOut 87 = .ok (.goto 30, 3) := by decide +kernel
theorem dX9_laysOut_90 : decode cX9_laysOut 90 = .ok (.iload_n 3, 1) := by decide +kernel
theorem dX9_laysOut_91 : decode cX9_laysOut 91 = .ok (.aload_n 0, 1) := by decide +kernel
theorem dX9_laysOut_92 : decode cX9_laysOut 92 = .ok (.getfield 121, 3) := by decide +kernel
theorem dX9_laysOut_95 : decode cX9_laysOut 95 = .ok (.iconst 2, 1) := by decide +kernel
theorem dX9_laysOut_96 : decode cX9_laysOut 96 = .ok (.if_icmp .ne 7, 3) := by decide +kernel
theorem dX9_laysOut_99 : decode cX9_laysOut 99 = .ok (.iconst 0, 1) := by decide +kernel
theorem dX9_laysOut_100 : decode cX9_laysOut 100 = .ok (.goto 9, 3) := by decide +kernel
theorem dX9_laysOut_103 : decode cX9_laysOut 103 = .ok (.aload_n 0, 1) := by decide +kernel
theorem dX9_laysOut_104 : decode cX9_laysOut 104 = .ok (.getfield 117, 3) := by decide +kernel
theorem dX9_laysOut_107 : decode cX9_laysOut 107 = .ok (.iconst 1, 1) := by decide +kernel
theorem dX9_laysOut_108 : decode cX9_laysOut 108 = .ok (.isub, 1) := by decide +kernel
theorem dX9_laysOut_109 : decode cX9_laysOut 109 = .ok (.if_icmp .ne 7, 3) := by decide +kernel
theorem dX9_laysOut_112 : decode cX9_laysOut 112 = .ok (.iconst 1, 1) := by decide +kernel
theorem dX9_laysOut_113 : decode cX9_laysOut 113 = .ok (.goto 4, 3) := by decide +kernel
theorem dX9_laysOut_116 : decode cX9_laysOut 116 = .ok (.iconst 0, 1) := by decide +kernel
theorem dX9_laysOut_117 : decode cX9_laysOut 117 = .ok (.iastore, 1) := by decide +kernel
theorem dX9_laysOut_118 : decode cX9_laysOut 118 = .ok (.aload_n 0, 1) := by decide +kernel
theorem dX9_laysOut_119 : decode cX9_laysOut 119 = .ok (.getfield 27, 3) := by decide +kernel
theorem dX9_laysOut_122 : decode cX9_laysOut 122 = .ok (.iload_n 3, 1) := by decide +kernel
theorem dX9_laysOut_123 : decode cX9_laysOut 123 = .ok (.iload 4, 2) := by decide +kernel
theorem dX9_laysOut_125 : decode cX9_laysOut 125 = .ok (.ifCond .ne 7, 3) := by decide +kernel
theorem dX9_laysOut_128 : decode cX9_laysOut 128 = .ok (.iload_n 3, 1) := by decide +kernel
theorem dX9_laysOut_129 : decode cX9_laysOut 129 = .ok (.ifCond .ne 7, 3) := by decide +kernel
theorem dX9_laysOut_132 : decode cX9_laysOut 132 = .ok (.iconst 1, 1) := by decide +kernel
theorem dX9_laysOut_133 : decode cX9_laysOut 133 = .ok (.goto 4, 3) := by decide +kernel
theorem dX9_laysOut_136 : decode cX9_laysOut 136 = .ok (.iconst 0, 1) := by decide +kernel
theorem dX9_laysOut_137 : decode cX9_laysOut 137 = .ok (.iastore, 1) := by decide +kernel
theorem dX9_laysOut_138 : decode cX9_laysOut 138 = .ok (.aload_n 0, 1) := by decide +kernel
theorem dX9_laysOut_139 : decode cX9_laysOut 139 = .ok (.getfield 33, 3) := by decide +kernel
theorem dX9_laysOut_142 : decode cX9_laysOut 142 = .ok (.iload_n 3, 1) := by decide +kernel
theorem dX9_laysOut_143 : decode cX9_laysOut 143 = .ok (.iconst 0, 1) := by decide +kernel
theorem dX9_laysOut_144 : decode cX9_laysOut 144 = .ok (.iastore, 1) := by decide +kernel
theorem dX9_laysOut_145 : decode cX9_laysOut 145 = .ok (.aload_n 0, 1) := by decide +kernel
theorem dX9_laysOut_146 : decode cX9_laysOut 146 = .ok (.getfield 36, 3) := by decide +kernel
theorem dX9_laysOut_149 : decode cX9_laysOut 149 = .ok (.iload_n 3, 1) := by decide +kernel
theorem dX9_laysOut_150 : decode cX9_laysOut 150 = .ok (.iconst 0, 1) := by decide +kernel
theorem dX9_laysOut_151 : decode cX9_laysOut 151 = .ok (.iastore, 1) := by decide +kernel
theorem dX9_laysOut_152 : decode cX9_laysOut 152 = .ok (.iinc 3 1, 3) := by decide +kernel
theorem dX9_laysOut_155 : decode cX9_laysOut 155 = .ok (.goto (-127), 3) := by decide +kernel
theorem dX9_laysOut_158 : decode cX9_laysOut 158 = .ok (.iconst 0, 1) := by decide +kernel
theorem dX9_laysOut_159 : decode cX9_laysOut 159 = .ok (.istore_n 3, 1) := by decide +kernel
theorem dX9_laysOut_160 : decode cX9_laysOut 160 = .ok (.iload_n 3, 1) := by decide +kernel
theorem dX9_laysOut_161 : decode cX9_laysOut 161 = .ok (.aload_n 0, 1) := by decide +kernel
theorem dX9_laysOut_162 : decode cX9_laysOut 162 = .ok (.getfield 117, 3) := by decide +kernel
theorem dX9_laysOut_165 : decode cX9_laysOut 165 = .ok (.if_icmp .ge 62, 3) := by decide +kernel
theorem dX9_laysOut_168 : decode cX9_laysOut 168 = .ok (.iconst 0, 1) := by decide +kernel
theorem dX9_laysOut_169 : decode cX9_laysOut 169 = .ok (.istore 4, 2) := by decide +kernel
theorem dX9_laysOut_171 : decode cX9_laysOut 171 = .ok (.iload 4, 2) := by decide +kernel
theorem dX9_laysOut_173 : decode cX9_laysOut 173 = .ok (.aload_n 0, 1) := by decide +kernel
theorem dX9_laysOut_174 : decode cX9_laysOut 174 = .ok (.getfield 117, 3) := by decide +kernel
theorem dX9_laysOut_177 : decode cX9_laysOut 177 = .ok (.if_icmp .ge 44, 3) := by decide +kernel
theorem dX9_laysOut_180 : decode cX9_laysOut 180 = .ok (.aload_n 0, 1) := by decide +kernel
theorem dX9_laysOut_181 : decode cX9_laysOut 181 = .ok (.iload 4, 2) := by decide +kernel
theorem dX9_laysOut_183 : decode cX9_laysOut 183 = .ok (.iload_n 3, 1) := by decide +kernel
theorem dX9_laysOut_184 : decode cX9_laysOut 184 = .ok (.invokevirtual 142, 3) := by decide +kernel
theorem dX9_laysOut_187 : decode cX9_laysOut 187 = .ok (.istore 5, 2) := by decide +kernel
theorem dX9_laysOut_189 : decode cX9_laysOut 189 = .ok (.aload_n 0, 1) := by decide +kernel
theorem dX9_laysOut_190 : decode cX9_laysOut 190 = .ok (.getfield 30, 3) := by decide +kernel
theorem dX9_laysOut_193 : decode cX9_laysOut 193 = .ok (.aload_n 0, 1) := by decide +kernel
theorem dX9_laysOut_194 : decode cX9_laysOut 194 = .ok (.iload_n 3, 1) := by decide +kernel
theorem dX9_laysOut_195 : decode cX9_laysOut 195 = .ok (.iload 4, 2) := by decide +kernel
theorem dX9_laysOut_197 : decode cX9_laysOut 197 = .ok (.invokevirtual 128, 3) := by decide +kernel
theorem dX9_laysOut_200 : decode cX9_laysOut 200 = .ok (.iload 5, 2) := by decide +kernel
theorem dX9_laysOut_202 : decode cX9_laysOut 202 = .ok (.ifCond .ne 7, 3) := by decide +kernel
theorem dX9_laysOut_205 : decode cX9_laysOut 205 = .ok (.iconst 0, 1) := by decide +kernel
theorem dX9_laysOut_206 : decode cX9_laysOut 206 = .ok (.goto 8, 3) := by decide +kernel
theorem dX9_laysOut_209 : decode cX9_laysOut 209 = .ok (.iload 5, 2) := by decide +kernel
theorem dX9_laysOut_211 : decode cX9_laysOut 211 = .ok (.invokestatic 145, 3) := by decide +kernel
theorem dX9_laysOut_214 : decode cX9_laysOut 214 = .ok (.iastore, 1) := by decide +kernel
theorem dX9_laysOut_215 : decode cX9_laysOut 215 = .ok (.iinc 4 1, 3) := by decide +kernel
theorem dX9_laysOut_218 : decode cX9_laysOut 218 = .ok (.goto (-47), 3) := by decide +kernel
theorem dX9_laysOut_221 : decode cX9_laysOut 221 = .ok (.iinc 3 1, 3) := by decide +kernel
theorem dX9_laysOut_224 : decode cX9_laysOut 224 = .ok (.goto (-64), 3) := by decide +kernel
theorem dX9_laysOut_227 : decode cX9_laysOut 227 = .ok (.iconst 0, 1) := by decide +kernel
theorem dX9_laysOut_228 : decode cX9_laysOut 228 = .ok (.istore_n 3, 1) := by decide +kernel
theorem dX9_laysOut_229 : decode cX9_laysOut 229 = .ok (.iload_n 3, 1) := by decide +kernel
theorem dX9_laysOut_230 : decode cX9_laysOut 230 = .ok (.aload_n 0, 1) := by decide +kernel
theorem dX9_laysOut_231 : decode cX9_laysOut 231 = .ok (.getfield 117, 3) := by decide +kernel
theorem dX9_laysOut_234 : decode cX9_laysOut 234 = .ok (.if_icmp .ge 132, 3) := by decide +kernel
theorem dX9_laysOut_237 : decode cX9_laysOut 237 = .ok (.iconst 0, 1) := by decide +kernel
theorem dX9_laysOut_238 : decode cX9_laysOut 238 = .ok (.istore 4, 2) := by decide +kernel
theorem dX9_laysOut_240 : decode cX9_laysOut 240 = .ok (.iload 4, 2) := by decide +kernel
theorem dX9_laysOut_242 : decode cX9_laysOut 242 = .ok (.aload_n 0, 1) := by decide +kernel
theorem dX9_laysOut_243 : decode cX9_laysOut 243 = .ok (.getfield 117, 3) := by decide +kernel
theorem dX9_laysOut_246 : decode cX9_laysOut 246 = .ok (.if_icmp .ge 114, 3) := by decide +kernel
theorem dX9_laysOut_249 : decode cX9_laysOut 249 = .ok (.aload_n 0, 1) := by decide +kernel
theorem dX9_laysOut_250 : decode cX9_laysOut 250 = .ok (.getfield 18, 3) := by decide +kernel
theorem dX9_laysOut_253 : decode cX9_laysOut 253 = .ok (.aload_n 0, 1) := by decide +kernel
theorem dX9_laysOut_254 : decode cX9_laysOut 254 = .ok (.iload_n 3, 1) := by decide +kernel
theorem dX9_laysOut_255 : decode cX9_laysOut 255 = .ok (.iload 4, 2) := by decide +kernel
theorem dX9_laysOut_257 : decode cX9_laysOut 257 = .ok (.invokevirtual 128, 3) := by decide +kernel
theorem dX9_laysOut_260 : decode cX9_laysOut 260 = .ok (.iaload, 1) := by decide +kernel
theorem dX9_laysOut_261 : decode cX9_laysOut 261 = .ok (.istore 5, 2) := by decide +kernel
theorem dX9_laysOut_263 : decode cX9_laysOut 263 = .ok (.aload_n 0, 1) := by decide +kernel
theorem dX9_laysOut_264 : decode cX9_laysOut 264 = .ok (.getfield 33, 3) := by decide +kernel
theorem dX9_laysOut_267 : decode cX9_laysOut 267 = .ok (.iload 5, 2) := by decide +kernel
theorem dX9_laysOut_269 : decode cX9_laysOut 269 = .ok (.aload_n 0, 1) := by decide +kernel
theorem dX9_laysOut_270 : decode cX9_laysOut 270 = .ok (.getfield 33, 3) := by decide +kernel
theorem dX9_laysOut_273 : decode cX9_laysOut 273 = .ok (.iload 5, 2) := by decide +kernel
theorem dX9_laysOut_275 : decode cX9_laysOut 275 = .ok (.iaload, 1) := by decide +kernel
theorem dX9_laysOut_276 : decode cX9_laysOut 276 = .ok (.aload_n 0, 1) := by decide +kernel
theorem dX9_laysOut_277 : decode cX9_laysOut 277 = .ok (.getfield 30, 3) := by decide +kernel
theorem dX9_laysOut_280 : decode cX9_laysOut 280 = .ok (.aload_n 0, 1) := by decide +kernel
theorem dX9_laysOut_281 : decode cX9_laysOut 281 = .ok (.iload_n 3, 1) := by decide +kernel
theorem dX9_laysOut_282 : decode cX9_laysOut 282 = .ok (.iload 4, 2) := by decide +kernel
theorem dX9_laysOut_284 : decode cX9_laysOut 284 = .ok (.invokevirtual 128, 3) := by decide +kernel
theorem dX9_laysOut_287 : decode cX9_laysOut 287 = .ok (.iaload, 1) := by decide +kernel
theorem dX9_laysOut_288 : decode cX9_laysOut 288 = .ok (.aload_n 0, 1) := by decide +kernel
theorem dX9_laysOut_289 : decode cX9_laysOut 289 = .ok (.getfield 21, 3) := by decide +kernel
theorem dX9_laysOut_292 : decode cX9_laysOut 292 = .ok (.aload_n 0, 1) := by decide +kernel
theorem dX9_laysOut_293 : decode cX9_laysOut 293 = .ok (.iload_n 3, 1) := by decide +kernel
theorem dX9_laysOut_294 : decode cX9_laysOut 294 = .ok (.iload 4, 2) := by decide +kernel
theorem dX9_laysOut_296 : decode cX9_laysOut 296 = .ok (.invokevirtual 128, 3) := by decide +kernel
theorem dX9_laysOut_299 : decode cX9_laysOut 299 = .ok (.iaload, 1) := by decide +kernel
theorem dX9_laysOut_300 : decode cX9_laysOut 300 = .ok (.imul, 1) := by decide +kernel
theorem dX9_laysOut_301 : decode cX9_laysOut 301 = .ok (.iadd, 1) := by decide +kernel
theorem dX9_laysOut_302 : decode cX9_laysOut 302 = .ok (.sipush 9973, 3) := by decide +kernel
theorem dX9_laysOut_305 : decode cX9_laysOut 305 = .ok (.irem, 1) := by decide +kernel
theorem dX9_laysOut_306 : decode cX9_laysOut 306 = .ok (.iastore, 1) := by decide +kernel
theorem dX9_laysOut_307 : decode cX9_laysOut 307 = .ok (.aload_n 0, 1) := by decide +kernel
theorem dX9_laysOut_308 : decode cX9_laysOut 308 = .ok (.getfield 36, 3) := by decide +kernel
theorem dX9_laysOut_311 : decode cX9_laysOut 311 = .ok (.iload 5, 2) := by decide +kernel
theorem dX9_laysOut_313 : decode cX9_laysOut 313 = .ok (.iload_n 3, 1) := by decide +kernel
theorem dX9_laysOut_314 : decode cX9_laysOut 314 = .ok (.iload 4, 2) := by decide +kernel
theorem dX9_laysOut_316 : decode cX9_laysOut 316 = .ok (.if_icmp .ne 30, 3) := by decide +kernel
theorem dX9_laysOut_319 : decode cX9_laysOut 319 = .ok (.aload_n 0, 1) := by decide +kernel
theorem dX9_laysOut_320 : decode cX9_laysOut 320 = .ok (.getfield 36, 3) := by decide +kernel
theorem dX9_laysOut_323 : decode cX9_laysOut 323 = .ok (.iload 5, 2) := by decide +kernel
theorem dX9_laysOut_325 : decode cX9_laysOut 325 = .ok (.iaload, 1) := by decide +kernel
theorem dX9_laysOut_326 : decode cX9_laysOut 326 = .ok (.aload_n 0, 1) := by decide +kernel
theorem dX9_laysOut_327 : decode cX9_laysOut 327 = .ok (.getfield 21, 3) := by decide +kernel
theorem dX9_laysOut_330 : decode cX9_laysOut 330 = .ok (.aload_n 0, 1) := by decide +kernel
theorem dX9_laysOut_331 : decode cX9_laysOut 331 = .ok (.iload_n 3, 1) := by decide +kernel
theorem dX9_laysOut_332 : decode cX9_laysOut 332 = .ok (.iload 4, 2) := by decide +kernel
theorem dX9_laysOut_334 : decode cX9_laysOut 334 = .ok (.invokevirtual 128, 3) := by decide +kernel
theorem dX9_laysOut_337 : decode cX9_laysOut 337 = .ok (.iaload, 1) := by decide +kernel
theorem dX9_laysOut_338 : decode cX9_laysOut 338 = .ok (.iadd, 1) := by decide +kernel
theorem dX9_laysOut_339 : decode cX9_laysOut 339 = .ok (.sipush 9973, 3) := by decide +kernel
theorem dX9_laysOut_342 : decode cX9_laysOut 342 = .ok (.irem, 1) := by decide +kernel
theorem dX9_laysOut_343 : decode cX9_laysOut 343 = .ok (.goto 10, 3) := by decide +kernel
theorem dX9_laysOut_346 : decode cX9_laysOut 346 = .ok (.aload_n 0, 1) := by decide +kernel
theorem dX9_laysOut_347 : decode cX9_laysOut 347 = .ok (.getfield 36, 3) := by decide +kernel
theorem dX9_laysOut_350 : decode cX9_laysOut 350 = .ok (.iload 5, 2) := by decide +kernel
theorem dX9_laysOut_352 : decode cX9_laysOut 352 = .ok (.iaload, 1) := by decide +kernel
theorem dX9_laysOut_353 : decode cX9_laysOut 353 = .ok (.iastore, 1) := by decide +kernel
theorem dX9_laysOut_354 : decode cX9_laysOut 354 = .ok (.iinc 4 1, 3) := by decide +kernel
theorem dX9_laysOut_357 : decode cX9_laysOut 357 = .ok (.goto (-117), 3) := by decide +kernel
theorem dX9_laysOut_360 : decode cX9_laysOut 360 = .ok (.iinc 3 1, 3) := by decide +kernel
theorem dX9_laysOut_363 : decode cX9_laysOut 363 = .ok (.goto (-134), 3) := by decide +kernel
theorem dX9_laysOut_366 : decode cX9_laysOut 366 = .ok (.return_, 1) := by decide +kernel
set_option maxRecDepth 100000 in
set_option maxHeartbeats 4000000 in
theorem kb_X9_laysOut_137 {x2 : Int32} {x3 : Int32} {s0 : Nat} {s1 : Int32} {s2 : Int32} {w : Mem} {r : (Int32 × Mem) ⊕ ((Mem))} {H : Heap} {locs : List Loc} {ls : Array Slot} (C : CX p s m args meth c cX9_laysOut 6 RX9 wc_X9_laysOut none) (hs0 : KDm s0 = (10, 6)) (hG : Gd s G A 28 B (entM G B w) X H locs) (hl : lv_has ls 6 [(0, .ref (B + 0)), (2, .int x2), (3, .int x3)]) (hf : sh_X9_laysOut_j137 x2 x3 s0 s1 s2 w = some r)
    (kL : ∀ st' : Int32 × Mem, r = Sum.inl st' → ∀ (H : Heap) (locs : List Loc) (ls : Array Slot), Gd s G A 28 B (entM G B st'.2) X H locs → lv_has ls 6 [(0, .ref (B + 0)), (2, .int x2), (3, .int st'.1)] → W p l e rm_X9_laysOut s m args below meth c H locs 0 0 Q (F0 m 28 ls []))
    (kX0 : ∀ y' : Mem, r = Sum.inr y' → ∀ (H : Heap) (locs : List Loc) (ls : Array Slot), Gd s G A 28 B (entM G B y') X H locs → lv_has ls 6 [(0, .ref (B + 0))] → W p l e rm_X9_laysOut s m args below meth c H locs 0 0 Q (F0 m 158 ls [])) :
    W p l e rm_X9_laysOut s m args below meth c H locs 0 0 Q (F0 m 137 ls [.int s2, .int s1, .ref (B + s0)]) := by
  obtain ⟨w1, hw1, hf⟩ := of_bind hf
  obtain ⟨bw1, ew1⟩ := of_stM hw1
  refine r_iast C hG (c0 := s0) (kdm_lt hs0 (by decide)) (entM_I hs0) bw1 (E' := (entM G B w1)) (by rw [ew1]; exact upM_I hs0) dX9_laysOut_137 (fun H locs hG => ?_)
  refine lv_aload_n C.1 C.2.1 dX9_laysOut_138 rfl (lv_at hl 0 rfl) ?_
  refine gf_X9_33 C hG rfl dX9_laysOut_139 ?_
  refine lv_iload_n C.1 C.2.1 dX9_laysOut_142 rfl (lv_at hl 2 rfl) ?_
  refine lv_iconst (v := nI 0) C.1 C.2.1 dX9_laysOut_143 (by decide) ?_
  obtain ⟨w2, hw2, hf⟩ := of_bind hf
  obtain ⟨bw2, ew2⟩ := of_stM hw2
  refine r_iast C hG (c0 := 8) (by decide) (entM_I (n := 6) rfl) bw2 (E' := (entM G B w2)) (by rw [ew2]; exact upM_I (n := 6) rfl) dX9_laysOut_144 (fun H locs hG => ?_)
  refine lv_aload_n C.1 C.2.1 dX9_laysOut_145 rfl (lv_at hl 0 rfl) ?_
  refine gf_X9_36 C hG rfl dX9_laysOut_146 ?_
  refine lv_iload_n C.1 C.2.1 dX9_laysOut_149 rfl (lv_at hl 2 rfl) ?_
  refine lv_iconst (v := nI 0) C.1 C.2.1 dX9_laysOut_150 (by decide) ?_
  obtain ⟨w3, hw3, hf⟩ := of_bind hf
  obtain ⟨bw3, ew3⟩ := of_stM hw3
  refine r_iast C hG (c0 := 9) (by decide) (entM_I (n := 6) rfl) bw3 (E' := (entM G B w3)) (by rw [ew3]; exact upM_I (n := 6) rfl) dX9_laysOut_151 (fun H locs hG => ?_)
  obtain ⟨v4, ev4, hf⟩ := of_letv hf
  refine lv_iinc (v := v4) (lv' := [(3, .int v4), (0, .ref (B + 0)), (2, .int x2)]) C.1 C.2.1 dX9_laysOut_152 hl (k := 2) rfl (by rw [ev4, show Int32.ofInt (1) = nI 1 from by decide]) (by decide) rfl (fun ls hl => ?_)
  refine lv_goto (tgt := 28) C.1 C.2.1 dX9_laysOut_155 (by decide) ?_
  obtain rfl := Option.some.inj hf
  exact kL _ rfl _ _ _ hG (lv_sub hl [1, 2, 0] rfl)
set_option maxRecDepth 100000 in
set_option maxHeartbeats 4000000 in
theorem kb_X9_laysOut_132 {x2 : Int32} {x3 : Int32} {s0 : Nat} {s1 : Int32} {w : Mem} {r : (Int32 × Mem) ⊕ ((Mem))} {H : Heap} {locs : List Loc} {ls : Array Slot} (C : CX p s m args meth c cX9_laysOut 6 RX9 wc_X9_laysOut none) (hs0 : KDm s0 = (10, 6)) (hG : Gd s G A 28 B (entM G B w) X H locs) (hl : lv_has ls 6 [(0, .ref (B + 0)), (2, .int x2), (3, .int x3)]) (hf : sh_X9_laysOut_j132 x2 x3 s0 s1 w = some r)
    (kL : ∀ st' : Int32 × Mem, r = Sum.inl st' → ∀ (H : Heap) (locs : List Loc) (ls : Array Slot), Gd s G A 28 B (entM G B st'.2) X H locs → lv_has ls 6 [(0, .ref (B + 0)), (2, .int x2), (3, .int st'.1)] → W p l e rm_X9_laysOut s m args below meth c H locs 0 0 Q (F0 m 28 ls []))
    (kX0 : ∀ y' : Mem, r = Sum.inr y' → ∀ (H : Heap) (locs : List Loc) (ls : Array Slot), Gd s G A 28 B (entM G B y') X H locs → lv_has ls 6 [(0, .ref (B + 0))] → W p l e rm_X9_laysOut s m args below meth c H locs 0 0 Q (F0 m 158 ls [])) :
    W p l e rm_X9_laysOut s m args below meth c H locs 0 0 Q (F0 m 132 ls [.int s1, .ref (B + s0)]) := by
  refine lv_iconst (v := nI 1) C.1 C.2.1 dX9_laysOut_132 (by decide) ?_
  refine lv_goto (tgt := 137) C.1 C.2.1 dX9_laysOut_133 (by decide) ?_
  exact kb_X9_laysOut_137 C hs0 hG hl hf kL kX0
set_option maxRecDepth 100000 in
set_option maxHeartbeats 4000000 in
theorem kb_X9_laysOut_117 {x2 : Int32} {x3 : Int32} {x4 : Int32} {s0 : Nat} {s1 : Int32} {s2 : Int32} {w : Mem} {r : (Int32 × Mem) ⊕ ((Mem))} {H : Heap} {locs : List Loc} {ls : Array Slot} (C : CX p s m args meth c cX9_laysOut 6 RX9 wc_X9_laysOut none) (hs0 : KDm s0 = (10, 6)) (hG : Gd s G A 28 B (entM G B w) X H locs) (hl : lv_has ls 6 [(0, .ref (B + 0)), (2, .int x2), (3, .int x3), (4, .int x4)]) (hf : sh_X9_laysOut_j117 x2 x3 x4 s0 s1 s2 w = some r)
    (kL : ∀ st' : Int32 × Mem, r = Sum.inl st' → ∀ (H : Heap) (locs : List Loc) (ls : Array Slot), Gd s G A 28 B (entM G B st'.2) X H locs → lv_has ls 6 [(0, .ref (B + 0)), (2, .int x2), (3, .int st'.1)] → W p l e rm_X9_laysOut s m args below meth c H locs 0 0 Q (F0 m 28 ls []))
    (kX0 : ∀ y' : Mem, r = Sum.inr y' → ∀ (H : Heap) (locs : List Loc) (ls : Array Slot), Gd s G A 28 B (entM G B y') X H locs → lv_has ls 6 [(0, .ref (B + 0))] → W p l e rm_X9_laysOut s m args below meth c H locs 0 0 Q (F0 m 158 ls [])) :
    W p l e rm_X9_laysOut s m args below meth c H locs 0 0 Q (F0 m 117 ls [.int s2, .int s1, .ref (B + s0)]) := by
  obtain ⟨w1, hw1, hf⟩ := of_bind hf
  obtain ⟨bw1, ew1⟩ := of_stM hw1
  refine r_iast C hG (c0 := s0) (kdm_lt hs0 (by decide)) (entM_I hs0) bw1 (E' := (entM G B w1)) (by rw [ew1]; exact upM_I hs0) dX9_laysOut_117 (fun H locs hG => ?_)
  refine lv_aload_n C.1 C.2.1 dX9_laysOut_118 rfl (lv_at hl 0 rfl) ?_
  refine gf_X9_27 C hG rfl dX9_laysOut_119 ?_
  refine lv_iload_n C.1 C.2.1 dX9_laysOut_122 rfl (lv_at hl 2 rfl) ?_
  refine lv_iload C.1 C.2.1 dX9_laysOut_123 (lv_at hl 3 rfl) ?_
  rcases of_ite hf with ⟨c2, hf⟩ | ⟨c2, hf⟩
  · refine lv_if_ne (tgt := 132) C.1 C.2.1 dX9_laysOut_125 (by decide) (fun q => absurd c2 q) (fun _ => ?_)
    refine lv_iload_n C.1 C.2.1 dX9_laysOut_128 rfl (lv_at hl 2 rfl) ?_
    rcases of_ite hf with ⟨c3, hf⟩ | ⟨c3, hf⟩
    · refine lv_if_ne (tgt := 136) C.1 C.2.1 dX9_laysOut_129 (by decide) (fun q => absurd c3 q) (fun _ => ?_)
      exact kb_X9_laysOut_132 C rfl hG (lv_sub hl [0, 1, 2] rfl) hf kL kX0
    · refine lv_if_ne (tgt := 136) C.1 C.2.1 dX9_laysOut_129 (by decide) (fun _ => ?_) (fun q => absurd q c3)
      refine lv_iconst (v := nI 0) C.1 C.2.1 dX9_laysOut_136 (by decide) ?_
      exact kb_X9_laysOut_137 C rfl hG (lv_sub hl [0, 1, 2] rfl) hf kL kX0
  · refine lv_if_ne (tgt := 132) C.1 C.2.1 dX9_laysOut_125 (by decide) (fun _ => ?_) (fun q => absurd q c2)
    exact kb_X9_laysOut_132 C rfl hG (lv_sub hl [0, 1, 2] rfl) hf kL kX0
set_option maxRecDepth 100000 in
set_option maxHeartbeats 4000000 in
theorem kb_X9_laysOut_109 {x2 : Int32} {x3 : Int32} {x4 : Int32} {s0 : Nat} {s1 : Int32} {s2 : Int32} {s3 : Int32} {w : Mem} {r : (Int32 × Mem) ⊕ ((Mem))} {H : Heap} {locs : List Loc} {ls : Array Slot} (C : CX p s m args meth c cX9_laysOut 6 RX9 wc_X9_laysOut none) (hs0 : KDm s0 = (10, 6)) (hG : Gd s G A 28 B (entM G B w) X H locs) (hl : lv_has ls 6 [(0, .ref (B + 0)), (2, .int x2), (3, .int x3), (4, .int x4)]) (hf : sh_X9_laysOut_j109 x2 x3 x4 s0 s1 s2 s3 w = some r)
    (kL : ∀ st' : Int32 × Mem, r = Sum.inl st' → ∀ (H : Heap) (locs : List Loc) (ls : Array Slot), Gd s G A 28 B (entM G B st'.2) X H locs → lv_has ls 6 [(0, .ref (B + 0)), (2, .int x2), (3, .int st'.1)] → W p l e rm_X9_laysOut s m args below meth c H locs 0 0 Q (F0 m 28 ls []))
    (kX0 : ∀ y' : Mem, r = Sum.inr y' → ∀ (H : Heap) (locs : List Loc) (ls : Array Slot), Gd s G A 28 B (entM G B y') X H locs → lv_has ls 6 [(0, .ref (B + 0))] → W p l e rm_X9_laysOut s m args below meth c H locs 0 0 Q (F0 m 158 ls [])) :
    W p l e rm_X9_laysOut s m args below meth c H locs 0 0 Q (F0 m 109 ls [.int s3, .int s2, .int s1, .ref (B + s0)]) := by
  rcases of_ite hf with ⟨c1, hf⟩ | ⟨c1, hf⟩
  · refine lv_icmp_ne (tgt := 116) C.1 C.2.1 dX9_laysOut_109 (by decide) (fun q => absurd c1 q) (fun _ => ?_)
    refine lv_iconst (v := nI 1) C.1 C.2.1 dX9_laysOut_112 (by decide) ?_
    refine lv_goto (tgt := 117) C.1 C.2.1 dX9_laysOut_113 (by decide) ?_
    exact kb_X9_laysOut_117 C hs0 hG hl hf kL kX0
  · refine lv_icmp_ne (tgt := 116) C.1 C.2.1 dX9_laysOut_109 (by decide) (fun _ => ?_) (fun q => absurd q c1)
    refine lv_iconst (v := nI 0) C.1 C.2.1 dX9_laysOut_116 (by decide) ?_
    exact kb_X9_laysOut_117 C hs0 hG hl hf kL kX0
set_option maxRecDepth 100000 in
set_option maxHeartbeats 4000000 in
theorem kb_X9_laysOut_56 {x2 : Int32} {x3 : Int32} {s0 : Int32} {w : Mem} {r : (Int32 × Mem) ⊕ ((Mem))} {H : Heap} {locs : List Loc} {ls : Array Slot} (C : CX p s m args meth c cX9_laysOut 6 RX9 wc_X9_laysOut none)  (hG : Gd s G A 28 B (entM G B w) X H locs) (hl : lv_has ls 6 [(0, .ref (B + 0)), (2, .int x2), (3, .int x3)]) (hf : sh_X9_laysOut_j56 x2 x3 s0 w = some r)
    (kL : ∀ st' : Int32 × Mem, r = Sum.inl st' → ∀ (H : Heap) (locs : List Loc) (ls : Array Slot), Gd s G A 28 B (entM G B st'.2) X H locs → lv_has ls 6 [(0, .ref (B + 0)), (2, .int x2), (3, .int st'.1)] → W p l e rm_X9_laysOut s m args below meth c H locs 0 0 Q (F0 m 28 ls []))
    (kX0 : ∀ y' : Mem, r = Sum.inr y' → ∀ (H : Heap) (locs : List Loc) (ls : Array Slot), Gd s G A 28 B (entM G B y') X H locs → lv_has ls 6 [(0, .ref (B + 0))] → W p l e rm_X9_laysOut s m args below meth c H locs 0 0 Q (F0 m 158 ls [])) :
    W p l e rm_X9_laysOut s m args below meth c H locs 0 0 Q (F0 m 56 ls [.int s0]) := by
  refine lv_istore (lv' := [(4, .int s0), (0, .ref (B + 0)), (2, .int x2), (3, .int x3)]) C.1 C.2.1 dX9_laysOut_56 hl (by decide) rfl (fun ls hl => ?_)
  refine lv_aload_n C.1 C.2.1 dX9_laysOut_58 rfl (lv_at hl 1 rfl) ?_
  refine gf_X9_24 C hG rfl dX9_laysOut_59 ?_
  refine lv_iload_n C.1 C.2.1 dX9_laysOut_62 rfl (lv_at hl 3 rfl) ?_
  refine lv_aload_n C.1 C.2.1 dX9_laysOut_63 rfl (lv_at hl 1 rfl) ?_
  refine gf_X9_121 C hG rfl dX9_laysOut_64 ?_
  rcases of_ite hf with ⟨c1, hf⟩ | ⟨c1, hf⟩
  · refine lv_if_ne (tgt := 74) C.1 C.2.1 dX9_laysOut_67 (by decide) (fun q => absurd c1 q) (fun _ => ?_)
    refine lv_iconst (v := nI 1) C.1 C.2.1 dX9_laysOut_70 (by decide) ?_
    refine lv_goto (tgt := 117) C.1 C.2.1 dX9_laysOut_71 (by decide) ?_
    exact kb_X9_laysOut_117 C rfl hG (lv_sub hl [1, 2, 3, 0] rfl) hf kL kX0
  · refine lv_if_ne (tgt := 74) C.1 C.2.1 dX9_laysOut_67 (by decide) (fun _ => ?_) (fun q => absurd q c1)
    refine lv_aload_n C.1 C.2.1 dX9_laysOut_74 rfl (lv_at hl 1 rfl) ?_
    refine gf_X9_121 C hG rfl dX9_laysOut_75 ?_
    refine lv_iconst (v := nI 1) C.1 C.2.1 dX9_laysOut_78 (by decide) ?_
    rcases of_ite hf with ⟨c2, hf⟩ | ⟨c2, hf⟩
    · refine lv_icmp_ne (tgt := 90) C.1 C.2.1 dX9_laysOut_79 (by decide) (fun q => absurd c2 q) (fun _ => ?_)
      refine lv_iload_n C.1 C.2.1 dX9_laysOut_82 rfl (lv_at hl 2 rfl) ?_
      refine lv_iload_n C.1 C.2.1 dX9_laysOut_83 rfl (lv_at hl 3 rfl) ?_
      refine lv_iadd C.1 C.2.1 dX9_laysOut_84 ?_
      refine lv_iconst (v := nI 1) C.1 C.2.1 dX9_laysOut_85 (by decide) ?_
      refine lv_iadd C.1 C.2.1 dX9_laysOut_86 ?_
      refine lv_goto (tgt := 117) C.1 C.2.1 dX9_laysOut_87 (by decide) ?_
      exact kb_X9_laysOut_117 C rfl hG (lv_sub hl [1, 2, 3, 0] rfl) hf kL kX0
    · refine lv_icmp_ne (tgt := 90) C.1 C.2.1 dX9_laysOut_79 (by decide) (fun _ => ?_) (fun q => absurd q c2)
      refine lv_iload_n C.1 C.2.1 dX9_laysOut_90 rfl (lv_at hl 3 rfl) ?_
      refine lv_aload_n C.1 C.2.1 dX9_laysOut_91 rfl (lv_at hl 1 rfl) ?_
      refine gf_X9_121 C hG rfl dX9_laysOut_92 ?_
      refine lv_iconst (v := nI 2) C.1 C.2.1 dX9_laysOut_95 (by decide) ?_
      rcases of_ite hf with ⟨c3, hf⟩ | ⟨c3, hf⟩
      · refine lv_icmp_ne (tgt := 103) C.1 C.2.1 dX9_laysOut_96 (by decide) (fun q => absurd c3 q) (fun _ => ?_)
        refine lv_iconst (v := nI 0) C.1 C.2.1 dX9_laysOut_99 (by decide) ?_
        refine lv_goto (tgt := 109) C.1 C.2.1 dX9_laysOut_100 (by decide) ?_
        exact kb_X9_laysOut_109 C rfl hG (lv_sub hl [1, 2, 3, 0] rfl) hf kL kX0
      · refine lv_icmp_ne (tgt := 103) C.1 C.2.1 dX9_laysOut_96 (by decide) (fun _ => ?_) (fun q => absurd q c3)
        refine lv_aload_n C.1 C.2.1 dX9_laysOut_103 rfl (lv_at hl 1 rfl) ?_
        refine gf_X9_117 C hG rfl dX9_laysOut_104 ?_
        refine lv_iconst (v := nI 1) C.1 C.2.1 dX9_laysOut_107 (by decide) ?_
        refine lv_isub C.1 C.2.1 dX9_laysOut_108 ?_
        exact kb_X9_laysOut_109 C rfl hG (lv_sub hl [1, 2, 3, 0] rfl) hf kL kX0
set_option maxRecDepth 100000 in
set_option maxHeartbeats 4000000 in
theorem kb_X9_laysOut_51 {x2 : Int32} {x3 : Int32} {w : Mem} {r : (Int32 × Mem) ⊕ ((Mem))} {H : Heap} {locs : List Loc} {ls : Array Slot} (C : CX p s m args meth c cX9_laysOut 6 RX9 wc_X9_laysOut none)  (hG : Gd s G A 28 B (entM G B w) X H locs) (hl : lv_has ls 6 [(0, .ref (B + 0)), (2, .int x2), (3, .int x3)]) (hf : sh_X9_laysOut_j51 x2 x3 w = some r)
    (kL : ∀ st' : Int32 × Mem, r = Sum.inl st' → ∀ (H : Heap) (locs : List Loc) (ls : Array Slot), Gd s G A 28 B (entM G B st'.2) X H locs → lv_has ls 6 [(0, .ref (B + 0)), (2, .int x2), (3, .int st'.1)] → W p l e rm_X9_laysOut s m args below meth c H locs 0 0 Q (F0 m 28 ls []))
    (kX0 : ∀ y' : Mem, r = Sum.inr y' → ∀ (H : Heap) (locs : List Loc) (ls : Array Slot), Gd s G A 28 B (entM G B y') X H locs → lv_has ls 6 [(0, .ref (B + 0))] → W p l e rm_X9_laysOut s m args below meth c H locs 0 0 Q (F0 m 158 ls [])) :
    W p l e rm_X9_laysOut s m args below meth c H locs 0 0 Q (F0 m 51 ls []) := by
  refine lv_iconst (v := nI 1) C.1 C.2.1 dX9_laysOut_51 (by decide) ?_
  refine lv_goto (tgt := 56) C.1 C.2.1 dX9_laysOut_52 (by decide) ?_
  exact kb_X9_laysOut_56 C  hG hl hf kL kX0
set_option maxRecDepth 100000 in
set_option maxHeartbeats 4000000 in
theorem kb_X9_laysOut_28 {x2 : Int32} {st : Int32 × Mem} {r : (Int32 × Mem) ⊕ ((Mem))} {H : Heap} {locs : List Loc} {ls : Array Slot} (C : CX p s m args meth c cX9_laysOut 6 RX9 wc_X9_laysOut none)  (hG : Gd s G A 28 B (entM G B st.2) X H locs) (hl : lv_has ls 6 [(0, .ref (B + 0)), (2, .int x2), (3, .int st.1)]) (hf : sh_X9_laysOut_s28 x2 st = some r)
    (kL : ∀ st' : Int32 × Mem, r = Sum.inl st' → ∀ (H : Heap) (locs : List Loc) (ls : Array Slot), Gd s G A 28 B (entM G B st'.2) X H locs → lv_has ls 6 [(0, .ref (B + 0)), (2, .int x2), (3, .int st'.1)] → W p l e rm_X9_laysOut s m args below meth c H locs 0 0 Q (F0 m 28 ls []))
    (kX0 : ∀ y' : Mem, r = Sum.inr y' → ∀ (H : Heap) (locs : List Loc) (ls : Array Slot), Gd s G A 28 B (entM G B y') X H locs → lv_has ls 6 [(0, .ref (B + 0))] → W p l e rm_X9_laysOut s m args below meth c H locs 0 0 Q (F0 m 158 ls [])) :
    W p l e rm_X9_laysOut s m args below meth c H locs 0 0 Q (F0 m 28 ls []) := by
  refine lv_iload_n C.1 C.2.1 dX9_laysOut_28 rfl (lv_at hl 2 rfl) ?_
  refine lv_aload_n C.1 C.2.1 dX9_laysOut_29 rfl (lv_at hl 0 rfl) ?_
  refine gf_X9_117 C hG rfl dX9_laysOut_30 ?_
  rcases of_ite hf with ⟨c1, hf⟩ | ⟨c1, hf⟩
  · refine lv_icmp_ge (tgt := 158) C.1 C.2.1 dX9_laysOut_33 (by decide) (fun _ => ?_) (fun q => absurd c1 q)
    obtain rfl := Option.some.inj hf
    exact kX0 _ rfl _ _ _ hG (lv_sub hl [0] rfl)
  · refine lv_icmp_ge (tgt := 158) C.1 C.2.1 dX9_laysOut_33 (by decide) (fun q => absurd q c1) (fun _ => ?_)
    refine lv_aload_n C.1 C.2.1 dX9_laysOut_36 rfl (lv_at hl 0 rfl) ?_
    refine gf_X9_121 C hG rfl dX9_laysOut_37 ?_
    rcases of_ite hf with ⟨c2, hf⟩ | ⟨c2, hf⟩
    · refine lv_if_eq (tgt := 51) C.1 C.2.1 dX9_laysOut_40 (by decide) (fun _ => ?_) (fun q => absurd c2 q)
      exact kb_X9_laysOut_51 C  hG hl hf kL kX0
    · refine lv_if_eq (tgt := 51) C.1 C.2.1 dX9_laysOut_40 (by decide) (fun q => absurd q c2) (fun _ => ?_)
      refine lv_aload_n C.1 C.2.1 dX9_laysOut_43 rfl (lv_at hl 0 rfl) ?_
      refine gf_X9_121 C hG rfl dX9_laysOut_44 ?_
      refine lv_iconst (v := nI 1) C.1 C.2.1 dX9_laysOut_47 (by decide) ?_
      rcases of_ite hf with ⟨c3, hf⟩ | ⟨c3, hf⟩
      · refine lv_icmp_ne (tgt := 55) C.1 C.2.1 dX9_laysOut_48 (by decide) (fun q => absurd c3 q) (fun _ => ?_)
        exact kb_X9_laysOut_51 C  hG hl hf kL kX0
      · refine lv_icmp_ne (tgt := 55) C.1 C.2.1 dX9_laysOut_48 (by decide) (fun _ => ?_) (fun q => absurd q c3)
        refine lv_iconst (v := nI 0) C.1 C.2.1 dX9_laysOut_55 (by decide) ?_
        exact kb_X9_laysOut_56 C  hG hl hf kL kX0
set_option maxRecDepth 100000 in
set_option maxHeartbeats 4000000 in
theorem kl_X9_laysOut_28 {x2 : Int32} (C : CX p s m args meth c cX9_laysOut 6 RX9 wc_X9_laysOut none)  : ∀ (n : Nat) (st : Int32 × Mem) (x : (Mem)) (H : Heap) (locs : List Loc) (ls : Array Slot), Gd s G A 28 B (entM G B st.2) X H locs → lv_has ls 6 [(0, .ref (B + 0)), (2, .int x2), (3, .int st.1)] → lpw (sh_X9_laysOut_s28 x2) n st = some x →
    (∀ y' : Mem, x = y' → ∀ (H : Heap) (locs : List Loc) (ls : Array Slot), Gd s G A 28 B (entM G B y') X H locs → lv_has ls 6 [(0, .ref (B + 0))] → W p l e rm_X9_laysOut s m args below meth c H locs 0 0 Q (F0 m 158 ls [])) → W p l e rm_X9_laysOut s m args below meth c H locs 0 0 Q (F0 m 28 ls []) := by
  intro n
  induction n with
  | zero =>
    intro st x H locs ls hG hl hf
    cases hf
  | succ n ih =>
    intro st x H locs ls hG hl hf kX0
    obtain ⟨r, hr, hh⟩ := of_lpw hf
    refine kb_X9_laysOut_28 C  hG hl hr (fun st2 e1 H locs ls hG hl => ?_) (fun y2 e1 H locs ls hG hl => ?_)
    · rcases hh with ⟨s3, e2, hh⟩ | e2
      · rw [e2] at e1
        cases e1
        exact ih _ _ _ _ _ hG hl hh kX0
      · rw [e2] at e1
        cases e1
    · rcases hh with ⟨s3, e2, hh⟩ | e2
      · rw [e2] at e1
        cases e1
      · rw [e2] at e1
        cases e1
        exact kX0 _ rfl _ _ _ hG hl
set_option maxRecDepth 100000 in
set_option maxHeartbeats 4000000 in
theorem kb_X9_laysOut_214 {x3 : Int32} {x4 : Int32} {s0 : Nat} {s1 : Int32} {s2 : Int32} {w : Mem} {r : (Int32 × Mem) ⊕ ((Mem))} {H : Heap} {locs : List Loc} {ls : Array Slot} (C : CX p s m args meth c cX9_laysOut 6 RX9 wc_X9_laysOut none) (hs0 : KDm s0 = (10, 36)) (hG : Gd s G A 28 B (entM G B w) X H locs) (hl : lv_has ls 6 [(0, .ref (B + 0)), (3, .int x3), (4, .int x4)]) (hf : sh_X9_laysOut_j214 x3 x4 s0 s1 s2 w = some r)
    (kL : ∀ st' : Int32 × Mem, r = Sum.inl st' → ∀ (H : Heap) (locs : List Loc) (ls : Array Slot), Gd s G A 28 B (entM G B st'.2) X H locs → lv_has ls 6 [(0, .ref (B + 0)), (3, .int x3), (4, .int st'.1)] → W p l e rm_X9_laysOut s m args below meth c H locs 0 0 Q (F0 m 171 ls []))
    (kX0 : ∀ y' : Mem, r = Sum.inr y' → ∀ (H : Heap) (locs : List Loc) (ls : Array Slot), Gd s G A 28 B (entM G B y') X H locs → lv_has ls 6 [(0, .ref (B + 0)), (3, .int x3)] → W p l e rm_X9_laysOut s m args below meth c H locs 0 0 Q (F0 m 221 ls [])) :
    W p l e rm_X9_laysOut s m args below meth c H locs 0 0 Q (F0 m 214 ls [.int s2, .int s1, .ref (B + s0)]) := by
  obtain ⟨w1, hw1, hf⟩ := of_bind hf
  obtain ⟨bw1, ew1⟩ := of_stM hw1
  refine r_iast C hG (c0 := s0) (kdm_lt hs0 (by decide)) (entM_I hs0) bw1 (E' := (entM G B w1)) (by rw [ew1]; exact upM_I hs0) dX9_laysOut_214 (fun H locs hG => ?_)
  obtain ⟨v2, ev2, hf⟩ := of_letv hf
  refine lv_iinc (v := v2) (lv' := [(4, .int v2), (0, .ref (B + 0)), (3, .int x3)]) C.1 C.2.1 dX9_laysOut_215 hl (k := 2) rfl (by rw [ev2, show Int32.ofInt (1) = nI 1 from by decide]) (by decide) rfl (fun ls hl => ?_)
  refine lv_goto (tgt := 171) C.1 C.2.1 dX9_laysOut_218 (by decide) ?_
  obtain rfl := Option.some.inj hf
  exact kL _ rfl _ _ _ hG (lv_sub hl [1, 2, 0] rfl)
set_option maxRecDepth 100000 in
set_option maxHeartbeats 4000000 in
theorem kb_X9_laysOut_171 {x3 : Int32} {st : Int32 × Mem} {r : (Int32 × Mem) ⊕ ((Mem))} {H : Heap} {locs : List Loc} {ls : Array Slot} (C : CX p s m args meth c cX9_laysOut 6 RX9 wc_X9_laysOut none)  (hG : Gd s G A 28 B (entM G B st.2) X H locs) (hl : lv_has ls 6 [(0, .ref (B + 0)), (3, .int x3), (4, .int st.1)]) (hf : sh_X9_laysOut_s171 x3 st = some r)
    (kL : ∀ st' : Int32 × Mem, r = Sum.inl st' → ∀ (H : Heap) (locs : List Loc) (ls : Array Slot), Gd s G A 28 B (entM G B st'.2) X H locs → lv_has ls 6 [(0, .ref (B + 0)), (3, .int x3), (4, .int st'.1)] → W p l e rm_X9_laysOut s m args below meth c H locs 0 0 Q (F0 m 171 ls []))
    (kX0 : ∀ y' : Mem, r = Sum.inr y' → ∀ (H : Heap) (locs : List Loc) (ls : Array Slot), Gd s G A 28 B (entM G B y') X H locs → lv_has ls 6 [(0, .ref (B + 0)), (3, .int x3)] → W p l e rm_X9_laysOut s m args below meth c H locs 0 0 Q (F0 m 221 ls [])) :
    W p l e rm_X9_laysOut s m args below meth c H locs 0 0 Q (F0 m 171 ls []) := by
  refine lv_iload C.1 C.2.1 dX9_laysOut_171 (lv_at hl 2 rfl) ?_
  refine lv_aload_n C.1 C.2.1 dX9_laysOut_173 rfl (lv_at hl 0 rfl) ?_
  refine gf_X9_117 C hG rfl dX9_laysOut_174 ?_
  rcases of_ite hf with ⟨c1, hf⟩ | ⟨c1, hf⟩
  · refine lv_icmp_ge (tgt := 221) C.1 C.2.1 dX9_laysOut_177 (by decide) (fun _ => ?_) (fun q => absurd c1 q)
    obtain rfl := Option.some.inj hf
    exact kX0 _ rfl _ _ _ hG (lv_sub hl [0, 1] rfl)
  · refine lv_icmp_ge (tgt := 221) C.1 C.2.1 dX9_laysOut_177 (by decide) (fun q => absurd q c1) (fun _ => ?_)
    refine lv_aload_n C.1 C.2.1 dX9_laysOut_180 rfl (lv_at hl 0 rfl) ?_
    refine lv_iload C.1 C.2.1 dX9_laysOut_181 (lv_at hl 2 rfl) ?_
    refine lv_iload_n C.1 C.2.1 dX9_laysOut_183 rfl (lv_at hl 1 rfl) ?_
    obtain ⟨v2, hv2, hf⟩ := of_bind hf
    refine r_callV1 C hG hl.1 (c0 := 0) (As := [.int st.1, .int x3]) (by decide) (entM_O (n := 35) rfl) rfl (mt_X9_formOf l  hv2) (cwV 2 C.2.2.2.2.1 (gd_V tg_5_7 tg_5_9 tgp_33 tg_1_10 tg_5_10) rfl rfl rfl cd_X9_formOf ⟨Nat.le_of_ble_eq_true rfl, Nat.le_of_ble_eq_true rfl⟩) rfl rfl (Nat.le_of_ble_eq_true rfl) dX9_laysOut_184 (fun H locs hG => ?_)
    refine lv_istore (lv' := [(5, .int v2), (0, .ref (B + 0)), (3, .int x3), (4, .int st.1)]) C.1 C.2.1 dX9_laysOut_187 hl (by decide) rfl (fun ls hl => ?_)
    refine lv_aload_n C.1 C.2.1 dX9_laysOut_189 rfl (lv_at hl 1 rfl) ?_
    refine gf_X9_30 C hG rfl dX9_laysOut_190 ?_
    refine lv_aload_n C.1 C.2.1 dX9_laysOut_193 rfl (lv_at hl 1 rfl) ?_
    refine lv_iload_n C.1 C.2.1 dX9_laysOut_194 rfl (lv_at hl 2 rfl) ?_
    refine lv_iload C.1 C.2.1 dX9_laysOut_195 (lv_at hl 3 rfl) ?_
    obtain ⟨v3, hv3, hf⟩ := of_bind hf
    refine r_callV1 C hG hl.1 (c0 := 0) (As := [.int x3, .int st.1]) (by decide) (entM_O (n := 35) rfl) rfl (mt_X9_at l  hv3) (cwV 2 C.2.2.2.2.1 (gd_V tg_4_239 tg_5_1 tgp_32 tg_1_10 tg_5_2) rfl rfl rfl cd_X9_at ⟨Nat.le_of_ble_eq_true rfl, Nat.le_of_ble_eq_true rfl⟩) rfl rfl (Nat.le_of_ble_eq_true rfl) dX9_laysOut_197 (fun H locs hG => ?_)
    refine lv_iload C.1 C.2.1 dX9_laysOut_200 (lv_at hl 0 rfl) ?_
    rcases of_ite hf with ⟨c4, hf⟩ | ⟨c4, hf⟩
    · refine lv_if_ne (tgt := 209) C.1 C.2.1 dX9_laysOut_202 (by decide) (fun q => absurd c4 q) (fun _ => ?_)
      refine lv_iconst (v := nI 0) C.1 C.2.1 dX9_laysOut_205 (by decide) ?_
      refine lv_goto (tgt := 214) C.1 C.2.1 dX9_laysOut_206 (by decide) ?_
      exact kb_X9_laysOut_214 C rfl hG (lv_sub hl [1, 2, 3] rfl) hf kL kX0
    · refine lv_if_ne (tgt := 209) C.1 C.2.1 dX9_laysOut_202 (by decide) (fun _ => ?_) (fun q => absurd q c4)
      refine lv_iload C.1 C.2.1 dX9_laysOut_209 (lv_at hl 0 rfl) ?_
      obtain ⟨v5, hv5, hf⟩ := of_bind hf
      refine r_callS1 C hG hl.1 (As := [.int v2]) (mt_X9_inverse l  hv5) (va_cwS 1 C.2.2.2.2.1 (gd_S tg_5_11 tg_5_12 tg_1_10 tg_5_13) rfl rfl rfl cd_X9_inverse.2 ⟨Nat.le_of_ble_eq_true rfl, Nat.le_of_ble_eq_true rfl⟩) rfl rfl (Nat.le_of_ble_eq_true rfl) dX9_laysOut_211 (fun H locs hG => ?_)
      exact kb_X9_laysOut_214 C rfl hG (lv_sub hl [1, 2, 3] rfl) hf kL kX0
set_option maxRecDepth 100000 in
set_option maxHeartbeats 4000000 in
theorem kl_X9_laysOut_171 {x3 : Int32} (C : CX p s m args meth c cX9_laysOut 6 RX9 wc_X9_laysOut none)  : ∀ (n : Nat) (st : Int32 × Mem) (x : (Mem)) (H : Heap) (locs : List Loc) (ls : Array Slot), Gd s G A 28 B (entM G B st.2) X H locs → lv_has ls 6 [(0, .ref (B + 0)), (3, .int x3), (4, .int st.1)] → lpw (sh_X9_laysOut_s171 x3) n st = some x →
    (∀ y' : Mem, x = y' → ∀ (H : Heap) (locs : List Loc) (ls : Array Slot), Gd s G A 28 B (entM G B y') X H locs → lv_has ls 6 [(0, .ref (B + 0)), (3, .int x3)] → W p l e rm_X9_laysOut s m args below meth c H locs 0 0 Q (F0 m 221 ls [])) → W p l e rm_X9_laysOut s m args below meth c H locs 0 0 Q (F0 m 171 ls []) := by
  intro n
  induction n with
  | zero =>
    intro st x H locs ls hG hl hf
    cases hf
  | succ n ih =>
    intro st x H locs ls hG hl hf kX0
    obtain ⟨r, hr, hh⟩ := of_lpw hf
    refine kb_X9_laysOut_171 C  hG hl hr (fun st2 e1 H locs ls hG hl => ?_) (fun y2 e1 H locs ls hG hl => ?_)
    · rcases hh with ⟨s3, e2, hh⟩ | e2
      · rw [e2] at e1
        cases e1
        exact ih _ _ _ _ _ hG hl hh kX0
      · rw [e2] at e1
        cases e1
    · rcases hh with ⟨s3, e2, hh⟩ | e2
      · rw [e2] at e1
        cases e1
      · rw [e2] at e1
        cases e1
        exact kX0 _ rfl _ _ _ hG hl
set_option maxRecDepth 100000 in
set_option maxHeartbeats 4000000 in
theorem kb_X9_laysOut_160  {st : Int32 × Mem} {r : (Int32 × Mem) ⊕ ((Mem))} {H : Heap} {locs : List Loc} {ls : Array Slot} (C : CX p s m args meth c cX9_laysOut 6 RX9 wc_X9_laysOut none)  (hG : Gd s G A 28 B (entM G B st.2) X H locs) (hl : lv_has ls 6 [(0, .ref (B + 0)), (3, .int st.1)]) (hf : sh_X9_laysOut_s160  st = some r)
    (kL : ∀ st' : Int32 × Mem, r = Sum.inl st' → ∀ (H : Heap) (locs : List Loc) (ls : Array Slot), Gd s G A 28 B (entM G B st'.2) X H locs → lv_has ls 6 [(0, .ref (B + 0)), (3, .int st'.1)] → W p l e rm_X9_laysOut s m args below meth c H locs 0 0 Q (F0 m 160 ls []))
    (kX0 : ∀ y' : Mem, r = Sum.inr y' → ∀ (H : Heap) (locs : List Loc) (ls : Array Slot), Gd s G A 28 B (entM G B y') X H locs → lv_has ls 6 [(0, .ref (B + 0))] → W p l e rm_X9_laysOut s m args below meth c H locs 0 0 Q (F0 m 227 ls [])) :
    W p l e rm_X9_laysOut s m args below meth c H locs 0 0 Q (F0 m 160 ls []) := by
  refine lv_iload_n C.1 C.2.1 dX9_laysOut_160 rfl (lv_at hl 1 rfl) ?_
  refine lv_aload_n C.1 C.2.1 dX9_laysOut_161 rfl (lv_at hl 0 rfl) ?_
  refine gf_X9_117 C hG rfl dX9_laysOut_162 ?_
  rcases of_ite hf with ⟨c1, hf⟩ | ⟨c1, hf⟩
  · refine lv_icmp_ge (tgt := 227) C.1 C.2.1 dX9_laysOut_165 (by decide) (fun _ => ?_) (fun q => absurd c1 q)
    obtain rfl := Option.some.inj hf
    exact kX0 _ rfl _ _ _ hG (lv_sub hl [0] rfl)
  · refine lv_icmp_ge (tgt := 227) C.1 C.2.1 dX9_laysOut_165 (by decide) (fun q => absurd q c1) (fun _ => ?_)
    refine lv_iconst (v := nI 0) C.1 C.2.1 dX9_laysOut_168 (by decide) ?_
    refine lv_istore (lv' := [(4, .int (nI 0)), (0, .ref (B + 0)), (3, .int st.1)]) C.1 C.2.1 dX9_laysOut_169 hl (by decide) rfl (fun ls hl => ?_)
    obtain ⟨ex2, hex2, hf⟩ := of_bind hf
    refine kl_X9_laysOut_171 C  FU (nI 0, st.2) ex2 _ _ _ hG (lv_sub hl [1, 2, 0] rfl) hex2 (fun y e0 H locs ls hG hl => ?_)
    subst e0
    obtain ⟨v3, ev3, hf⟩ := of_letv hf
    refine lv_iinc (v := v3) (lv' := [(3, .int v3), (0, .ref (B + 0))]) C.1 C.2.1 dX9_laysOut_221 hl (k := 1) rfl (by rw [ev3, show Int32.ofInt (1) = nI 1 from by decide]) (by decide) rfl (fun ls hl => ?_)
    refine lv_goto (tgt := 160) C.1 C.2.1 dX9_laysOut_224 (by decide) ?_
    obtain rfl := Option.some.inj hf
    exact kL _ rfl _ _ _ hG (lv_sub hl [1, 0] rfl)
set_option maxRecDepth 100000 in
set_option maxHeartbeats 4000000 in
theorem kl_X9_laysOut_160  (C : CX p s m args meth c cX9_laysOut 6 RX9 wc_X9_laysOut none)  : ∀ (n : Nat) (st : Int32 × Mem) (x : (Mem)) (H : Heap) (locs : List Loc) (ls : Array Slot), Gd s G A 28 B (entM G B st.2) X H locs → lv_has ls 6 [(0, .ref (B + 0)), (3, .int st.1)] → lpw (sh_X9_laysOut_s160 ) n st = some x →
    (∀ y' : Mem, x = y' → ∀ (H : Heap) (locs : List Loc) (ls : Array Slot), Gd s G A 28 B (entM G B y') X H locs → lv_has ls 6 [(0, .ref (B + 0))] → W p l e rm_X9_laysOut s m args below meth c H locs 0 0 Q (F0 m 227 ls [])) → W p l e rm_X9_laysOut s m args below meth c H locs 0 0 Q (F0 m 160 ls []) := by
  intro n
  induction n with
  | zero =>
    intro st x H locs ls hG hl hf
    cases hf
  | succ n ih =>
    intro st x H locs ls hG hl hf kX0
    obtain ⟨r, hr, hh⟩ := of_lpw hf
    refine kb_X9_laysOut_160 C  hG hl hr (fun st2 e1 H locs ls hG hl => ?_) (fun y2 e1 H locs ls hG hl => ?_)
    · rcases hh with ⟨s3, e2, hh⟩ | e2
      · rw [e2] at e1
        cases e1
        exact ih _ _ _ _ _ hG hl hh kX0
      · rw [e2] at e1
        cases e1
    · rcases hh with ⟨s3, e2, hh⟩ | e2
      · rw [e2] at e1
        cases e1
      · rw [e2] at e1
        cases e1
        exact kX0 _ rfl _ _ _ hG hl
set_option maxRecDepth 100000 in
set_option maxHeartbeats 4000000 in
theorem kb_X9_laysOut_353 {x3 : Int32} {x4 : Int32} {s0 : Nat} {s1 : Int32} {s2 : Int32} {w : Mem} {r : (Int32 × Mem) ⊕ ((Mem))} {H : Heap} {locs : List Loc} {ls : Array Slot} (C : CX p s m args meth c cX9_laysOut 6 RX9 wc_X9_laysOut none) (hs0 : KDm s0 = (10, 6)) (hG : Gd s G A 28 B (entM G B w) X H locs) (hl : lv_has ls 6 [(0, .ref (B + 0)), (3, .int x3), (4, .int x4)]) (hf : sh_X9_laysOut_j353 x3 x4 s0 s1 s2 w = some r)
    (kL : ∀ st' : Int32 × Mem, r = Sum.inl st' → ∀ (H : Heap) (locs : List Loc) (ls : Array Slot), Gd s G A 28 B (entM G B st'.2) X H locs → lv_has ls 6 [(0, .ref (B + 0)), (3, .int x3), (4, .int st'.1)] → W p l e rm_X9_laysOut s m args below meth c H locs 0 0 Q (F0 m 240 ls []))
    (kX0 : ∀ y' : Mem, r = Sum.inr y' → ∀ (H : Heap) (locs : List Loc) (ls : Array Slot), Gd s G A 28 B (entM G B y') X H locs → lv_has ls 6 [(0, .ref (B + 0)), (3, .int x3)] → W p l e rm_X9_laysOut s m args below meth c H locs 0 0 Q (F0 m 360 ls [])) :
    W p l e rm_X9_laysOut s m args below meth c H locs 0 0 Q (F0 m 353 ls [.int s2, .int s1, .ref (B + s0)]) := by
  obtain ⟨w1, hw1, hf⟩ := of_bind hf
  obtain ⟨bw1, ew1⟩ := of_stM hw1
  refine r_iast C hG (c0 := s0) (kdm_lt hs0 (by decide)) (entM_I hs0) bw1 (E' := (entM G B w1)) (by rw [ew1]; exact upM_I hs0) dX9_laysOut_353 (fun H locs hG => ?_)
  obtain ⟨v2, ev2, hf⟩ := of_letv hf
  refine lv_iinc (v := v2) (lv' := [(4, .int v2), (0, .ref (B + 0)), (3, .int x3)]) C.1 C.2.1 dX9_laysOut_354 hl (k := 2) rfl (by rw [ev2, show Int32.ofInt (1) = nI 1 from by decide]) (by decide) rfl (fun ls hl => ?_)
  refine lv_goto (tgt := 240) C.1 C.2.1 dX9_laysOut_357 (by decide) ?_
  obtain rfl := Option.some.inj hf
  exact kL _ rfl _ _ _ hG (lv_sub hl [1, 2, 0] rfl)
set_option maxRecDepth 100000 in
set_option maxHeartbeats 4000000 in
theorem kb_X9_laysOut_240 {x3 : Int32} {st : Int32 × Mem} {r : (Int32 × Mem) ⊕ ((Mem))} {H : Heap} {locs : List Loc} {ls : Array Slot} (C : CX p s m args meth c cX9_laysOut 6 RX9 wc_X9_laysOut none)  (hG : Gd s G A 28 B (entM G B st.2) X H locs) (hl : lv_has ls 6 [(0, .ref (B + 0)), (3, .int x3), (4, .int st.1)]) (hf : sh_X9_laysOut_s240 x3 st = some r)
    (kL : ∀ st' : Int32 × Mem, r = Sum.inl st' → ∀ (H : Heap) (locs : List Loc) (ls : Array Slot), Gd s G A 28 B (entM G B st'.2) X H locs → lv_has ls 6 [(0, .ref (B + 0)), (3, .int x3), (4, .int st'.1)] → W p l e rm_X9_laysOut s m args below meth c H locs 0 0 Q (F0 m 240 ls []))
    (kX0 : ∀ y' : Mem, r = Sum.inr y' → ∀ (H : Heap) (locs : List Loc) (ls : Array Slot), Gd s G A 28 B (entM G B y') X H locs → lv_has ls 6 [(0, .ref (B + 0)), (3, .int x3)] → W p l e rm_X9_laysOut s m args below meth c H locs 0 0 Q (F0 m 360 ls [])) :
    W p l e rm_X9_laysOut s m args below meth c H locs 0 0 Q (F0 m 240 ls []) := by
  refine lv_iload C.1 C.2.1 dX9_laysOut_240 (lv_at hl 2 rfl) ?_
  refine lv_aload_n C.1 C.2.1 dX9_laysOut_242 rfl (lv_at hl 0 rfl) ?_
  refine gf_X9_117 C hG rfl dX9_laysOut_243 ?_
  rcases of_ite hf with ⟨c1, hf⟩ | ⟨c1, hf⟩
  · refine lv_icmp_ge (tgt := 360) C.1 C.2.1 dX9_laysOut_246 (by decide) (fun _ => ?_) (fun q => absurd c1 q)
    obtain rfl := Option.some.inj hf
    exact kX0 _ rfl _ _ _ hG (lv_sub hl [0, 1] rfl)
  · refine lv_icmp_ge (tgt := 360) C.1 C.2.1 dX9_laysOut_246 (by decide) (fun q => absurd q c1) (fun _ => ?_)
    refine lv_aload_n C.1 C.2.1 dX9_laysOut_249 rfl (lv_at hl 0 rfl) ?_
    refine gf_X9_18 C hG rfl dX9_laysOut_250 ?_
    refine lv_aload_n C.1 C.2.1 dX9_laysOut_253 rfl (lv_at hl 0 rfl) ?_
    refine lv_iload_n C.1 C.2.1 dX9_laysOut_254 rfl (lv_at hl 1 rfl) ?_
    refine lv_iload C.1 C.2.1 dX9_laysOut_255 (lv_at hl 2 rfl) ?_
    obtain ⟨v2, hv2, hf⟩ := of_bind hf
    refine r_callV1 C hG hl.1 (c0 := 0) (As := [.int x3, .int st.1]) (by decide) (entM_O (n := 35) rfl) rfl (mt_X9_at l  hv2) (cwV 2 C.2.2.2.2.1 (gd_V tg_4_239 tg_5_1 tgp_32 tg_1_10 tg_5_2) rfl rfl rfl cd_X9_at ⟨Nat.le_of_ble_eq_true rfl, Nat.le_of_ble_eq_true rfl⟩) rfl rfl (Nat.le_of_ble_eq_true rfl) dX9_laysOut_257 (fun H locs hG => ?_)
    obtain ⟨v3, hv3, hf⟩ := of_bind hf
    obtain ⟨bv3, ev3⟩ := of_ldS hv3
    refine r_iald C hG (c0 := 3) (by decide) (entM_I (n := 36) rfl) bv3 dX9_laysOut_260 ?_
    refine r_top ev3 ?_
    refine lv_istore (lv' := [(5, .int v3), (0, .ref (B + 0)), (3, .int x3), (4, .int st.1)]) C.1 C.2.1 dX9_laysOut_261 hl (by decide) rfl (fun ls hl => ?_)
    refine lv_aload_n C.1 C.2.1 dX9_laysOut_263 rfl (lv_at hl 1 rfl) ?_
    refine gf_X9_33 C hG rfl dX9_laysOut_264 ?_
    refine lv_iload C.1 C.2.1 dX9_laysOut_267 (lv_at hl 0 rfl) ?_
    refine lv_aload_n C.1 C.2.1 dX9_laysOut_269 rfl (lv_at hl 1 rfl) ?_
    refine gf_X9_33 C hG rfl dX9_laysOut_270 ?_
    refine lv_iload C.1 C.2.1 dX9_laysOut_273 (lv_at hl 0 rfl) ?_
    obtain ⟨v4, hv4, hf⟩ := of_bind hf
    obtain ⟨bv4, ev4⟩ := of_ldS hv4
    refine r_iald C hG (c0 := 8) (by decide) (entM_I (n := 6) rfl) bv4 dX9_laysOut_275 ?_
    refine r_top ev4 ?_
    refine lv_aload_n C.1 C.2.1 dX9_laysOut_276 rfl (lv_at hl 1 rfl) ?_
    refine gf_X9_30 C hG rfl dX9_laysOut_277 ?_
    refine lv_aload_n C.1 C.2.1 dX9_laysOut_280 rfl (lv_at hl 1 rfl) ?_
    refine lv_iload_n C.1 C.2.1 dX9_laysOut_281 rfl (lv_at hl 2 rfl) ?_
    refine lv_iload C.1 C.2.1 dX9_laysOut_282 (lv_at hl 3 rfl) ?_
    obtain ⟨v5, hv5, hf⟩ := of_bind hf
    refine r_callV1 C hG hl.1 (c0 := 0) (As := [.int x3, .int st.1]) (by decide) (entM_O (n := 35) rfl) rfl (mt_X9_at l  hv5) (cwV 2 C.2.2.2.2.1 (gd_V tg_4_239 tg_5_1 tgp_32 tg_1_10 tg_5_2) rfl rfl rfl cd_X9_at ⟨Nat.le_of_ble_eq_true rfl, Nat.le_of_ble_eq_true rfl⟩) rfl rfl (Nat.le_of_ble_eq_true rfl) dX9_laysOut_284 (fun H locs hG => ?_)
    obtain ⟨v6, hv6, hf⟩ := of_bind hf
    obtain ⟨bv6, ev6⟩ := of_ldS hv6
    refine r_iald C hG (c0 := 7) (by decide) (entM_I (n := 36) rfl) bv6 dX9_laysOut_287 ?_
    refine r_top ev6 ?_
    refine lv_aload_n C.1 C.2.1 dX9_laysOut_288 rfl (lv_at hl 1 rfl) ?_
    refine gf_X9_21 C hG rfl dX9_laysOut_289 ?_
    refine lv_aload_n C.1 C.2.1 dX9_laysOut_292 rfl (lv_at hl 1 rfl) ?_
    refine lv_iload_n C.1 C.2.1 dX9_laysOut_293 rfl (lv_at hl 2 rfl) ?_
    refine lv_iload C.1 C.2.1 dX9_laysOut_294 (lv_at hl 3 rfl) ?_
    obtain ⟨v7, hv7, hf⟩ := of_bind hf
    refine r_callV1 C hG hl.1 (c0 := 0) (As := [.int x3, .int st.1]) (by decide) (entM_O (n := 35) rfl) rfl (mt_X9_at l  hv7) (cwV 2 C.2.2.2.2.1 (gd_V tg_4_239 tg_5_1 tgp_32 tg_1_10 tg_5_2) rfl rfl rfl cd_X9_at ⟨Nat.le_of_ble_eq_true rfl, Nat.le_of_ble_eq_true rfl⟩) rfl rfl (Nat.le_of_ble_eq_true rfl) dX9_laysOut_296 (fun H locs hG => ?_)
    obtain ⟨v8, hv8, hf⟩ := of_bind hf
    obtain ⟨bv8, ev8⟩ := of_ldS hv8
    refine r_iald C hG (c0 := 4) (by decide) (entM_I (n := 36) rfl) bv8 dX9_laysOut_299 ?_
    refine r_top ev8 ?_
    refine lv_imul C.1 C.2.1 dX9_laysOut_300 ?_
    refine lv_iadd C.1 C.2.1 dX9_laysOut_301 ?_
    refine lv_sipush (v := nI 9973) C.1 C.2.1 dX9_laysOut_302 (by decide) ?_
    refine r_irem C dX9_laysOut_305 (by decide) ?_
    obtain ⟨w9, hw9, hf⟩ := of_bind hf
    obtain ⟨bw9, ew9⟩ := of_stM hw9
    refine r_iast C hG (c0 := 8) (by decide) (entM_I (n := 6) rfl) bw9 (E' := (entM G B w9)) (by rw [ew9]; exact upM_I (n := 6) rfl) dX9_laysOut_306 (fun H locs hG => ?_)
    refine lv_aload_n C.1 C.2.1 dX9_laysOut_307 rfl (lv_at hl 1 rfl) ?_
    refine gf_X9_36 C hG rfl dX9_laysOut_308 ?_
    refine lv_iload C.1 C.2.1 dX9_laysOut_311 (lv_at hl 0 rfl) ?_
    refine lv_iload_n C.1 C.2.1 dX9_laysOut_313 rfl (lv_at hl 2 rfl) ?_
    refine lv_iload C.1 C.2.1 dX9_laysOut_314 (lv_at hl 3 rfl) ?_
    rcases of_ite hf with ⟨c10, hf⟩ | ⟨c10, hf⟩
    · refine lv_icmp_ne (tgt := 346) C.1 C.2.1 dX9_laysOut_316 (by decide) (fun q => absurd c10 q) (fun _ => ?_)
      refine lv_aload_n C.1 C.2.1 dX9_laysOut_319 rfl (lv_at hl 1 rfl) ?_
      refine gf_X9_36 C hG rfl dX9_laysOut_320 ?_
      refine lv_iload C.1 C.2.1 dX9_laysOut_323 (lv_at hl 0 rfl) ?_
      obtain ⟨v12, hv12, hf⟩ := of_bind hf
      obtain ⟨bv12, ev12⟩ := of_ldS hv12
      refine r_iald C hG (c0 := 9) (by decide) (entM_I (n := 6) rfl) bv12 dX9_laysOut_325 ?_
      refine r_top ev12 ?_
      refine lv_aload_n C.1 C.2.1 dX9_laysOut_326 rfl (lv_at hl 1 rfl) ?_
      refine gf_X9_21 C hG rfl dX9_laysOut_327 ?_
      refine lv_aload_n C.1 C.2.1 dX9_laysOut_330 rfl (lv_at hl 1 rfl) ?_
      refine lv_iload_n C.1 C.2.1 dX9_laysOut_331 rfl (lv_at hl 2 rfl) ?_
      refine lv_iload C.1 C.2.1 dX9_laysOut_332 (lv_at hl 3 rfl) ?_
      obtain ⟨v13, hv13, hf⟩ := of_bind hf
      refine r_callV1 C hG hl.1 (c0 := 0) (As := [.int x3, .int st.1]) (by decide) (entM_O (n := 35) rfl) rfl (mt_X9_at l  hv13) (cwV 2 C.2.2.2.2.1 (gd_V tg_4_239 tg_5_1 tgp_32 tg_1_10 tg_5_2) rfl rfl rfl cd_X9_at ⟨Nat.le_of_ble_eq_true rfl, Nat.le_of_ble_eq_true rfl⟩) rfl rfl (Nat.le_of_ble_eq_true rfl) dX9_laysOut_334 (fun H locs hG => ?_)
      obtain ⟨v14, hv14, hf⟩ := of_bind hf
      obtain ⟨bv14, ev14⟩ := of_ldS hv14
      refine r_iald C hG (c0 := 4) (by decide) (entM_I (n := 36) rfl) bv14 dX9_laysOut_337 ?_
      refine r_top ev14 ?_
      refine lv_iadd C.1 C.2.1 dX9_laysOut_338 ?_
      refine lv_sipush (v := nI 9973) C.1 C.2.1 dX9_laysOut_339 (by decide) ?_
      refine r_irem C dX9_laysOut_342 (by decide) ?_
      refine lv_goto (tgt := 353) C.1 C.2.1 dX9_laysOut_343 (by decide) ?_
      exact kb_X9_laysOut_353 C rfl hG (lv_sub hl [1, 2, 3] rfl) hf kL kX0
    · refine lv_icmp_ne (tgt := 346) C.1 C.2.1 dX9_laysOut_316 (by decide) (fun _ => ?_) (fun q => absurd q c10)
      refine lv_aload_n C.1 C.2.1 dX9_laysOut_346 rfl (lv_at hl 1 rfl) ?_
      refine gf_X9_36 C hG rfl dX9_laysOut_347 ?_
      refine lv_iload C.1 C.2.1 dX9_laysOut_350 (lv_at hl 0 rfl) ?_
      obtain ⟨v11, hv11, hf⟩ := of_bind hf
      obtain ⟨bv11, ev11⟩ := of_ldS hv11
      refine r_iald C hG (c0 := 9) (by decide) (entM_I (n := 6) rfl) bv11 dX9_laysOut_352 ?_
      refine r_top ev11 ?_
      exact kb_X9_laysOut_353 C rfl hG (lv_sub hl [1, 2, 3] rfl) hf kL kX0
set_option maxRecDepth 100000 in
set_option maxHeartbeats 4000000 in
theorem kl_X9_laysOut_240 {x3 : Int32} (C : CX p s m args meth c cX9_laysOut 6 RX9 wc_X9_laysOut none)  : ∀ (n : Nat) (st : Int32 × Mem) (x : (Mem)) (H : Heap) (locs : List Loc) (ls : Array Slot), Gd s G A 28 B (entM G B st.2) X H locs → lv_has ls 6 [(0, .ref (B + 0)), (3, .int x3), (4, .int st.1)] → lpw (sh_X9_laysOut_s240 x3) n st = some x →
    (∀ y' : Mem, x = y' → ∀ (H : Heap) (locs : List Loc) (ls : Array Slot), Gd s G A 28 B (entM G B y') X H locs → lv_has ls 6 [(0, .ref (B + 0)), (3, .int x3)] → W p l e rm_X9_laysOut s m args below meth c H locs 0 0 Q (F0 m 360 ls [])) → W p l e rm_X9_laysOut s m args below meth c H locs 0 0 Q (F0 m 240 ls []) := by
  intro n
  induction n with
  | zero =>
    intro st x H locs ls hG hl hf
    cases hf
  | succ n ih =>
    intro st x H locs ls hG hl hf kX0
    obtain ⟨r, hr, hh⟩ := of_lpw hf
    refine kb_X9_laysOut_240 C  hG hl hr (fun st2 e1 H locs ls hG hl => ?_) (fun y2 e1 H locs ls hG hl => ?_)
    · rcases hh with ⟨s3, e2, hh⟩ | e2
      · rw [e2] at e1
        cases e1
        exact ih _ _ _ _ _ hG hl hh kX0
      · rw [e2] at e1
        cases e1
    · rcases hh with ⟨s3, e2, hh⟩ | e2
      · rw [e2] at e1
        cases e1
      · rw [e2] at e1
        cases e1
        exact kX0 _ rfl _ _ _ hG hl
set_option maxRecDepth 100000 in
set_option maxHeartbeats 4000000 in
theorem kb_X9_laysOut_229  {st : Int32 × Mem} {r : (Int32 × Mem) ⊕ ((Mem))} {H : Heap} {locs : List Loc} {ls : Array Slot} (C : CX p s m args meth c cX9_laysOut 6 RX9 wc_X9_laysOut none)  (hG : Gd s G A 28 B (entM G B st.2) X H locs) (hl : lv_has ls 6 [(0, .ref (B + 0)), (3, .int st.1)]) (hf : sh_X9_laysOut_s229  st = some r)
    (kL : ∀ st' : Int32 × Mem, r = Sum.inl st' → ∀ (H : Heap) (locs : List Loc) (ls : Array Slot), Gd s G A 28 B (entM G B st'.2) X H locs → lv_has ls 6 [(0, .ref (B + 0)), (3, .int st'.1)] → W p l e rm_X9_laysOut s m args below meth c H locs 0 0 Q (F0 m 229 ls []))
    (kX0 : ∀ y' : Mem, r = Sum.inr y' → ∀ (H : Heap) (locs : List Loc) (ls : Array Slot), Gd s G A 28 B (entM G B y') X H locs → lv_has ls 6 [] → W p l e rm_X9_laysOut s m args below meth c H locs 0 0 Q (F0 m 366 ls [])) :
    W p l e rm_X9_laysOut s m args below meth c H locs 0 0 Q (F0 m 229 ls []) := by
  refine lv_iload_n C.1 C.2.1 dX9_laysOut_229 rfl (lv_at hl 1 rfl) ?_
  refine lv_aload_n C.1 C.2.1 dX9_laysOut_230 rfl (lv_at hl 0 rfl) ?_
  refine gf_X9_117 C hG rfl dX9_laysOut_231 ?_
  rcases of_ite hf with ⟨c1, hf⟩ | ⟨c1, hf⟩
  · refine lv_icmp_ge (tgt := 366) C.1 C.2.1 dX9_laysOut_234 (by decide) (fun _ => ?_) (fun q => absurd c1 q)
    obtain rfl := Option.some.inj hf
    exact kX0 _ rfl _ _ _ hG (lv_sub hl [] rfl)
  · refine lv_icmp_ge (tgt := 366) C.1 C.2.1 dX9_laysOut_234 (by decide) (fun q => absurd q c1) (fun _ => ?_)
    refine lv_iconst (v := nI 0) C.1 C.2.1 dX9_laysOut_237 (by decide) ?_
    refine lv_istore (lv' := [(4, .int (nI 0)), (0, .ref (B + 0)), (3, .int st.1)]) C.1 C.2.1 dX9_laysOut_238 hl (by decide) rfl (fun ls hl => ?_)
    obtain ⟨ex2, hex2, hf⟩ := of_bind hf
    refine kl_X9_laysOut_240 C  FU (nI 0, st.2) ex2 _ _ _ hG (lv_sub hl [1, 2, 0] rfl) hex2 (fun y e0 H locs ls hG hl => ?_)
    subst e0
    obtain ⟨v3, ev3, hf⟩ := of_letv hf
    refine lv_iinc (v := v3) (lv' := [(3, .int v3), (0, .ref (B + 0))]) C.1 C.2.1 dX9_laysOut_360 hl (k := 1) rfl (by rw [ev3, show Int32.ofInt (1) = nI 1 from by decide]) (by decide) rfl (fun ls hl => ?_)
    refine lv_goto (tgt := 229) C.1 C.2.1 dX9_laysOut_363 (by decide) ?_
    obtain rfl := Option.some.inj hf
    exact kL _ rfl _ _ _ hG (lv_sub hl [1, 0] rfl)
set_option maxRecDepth 100000 in
set_option maxHeartbeats 4000000 in
theorem kl_X9_laysOut_229  (C : CX p s m args meth c cX9_laysOut 6 RX9 wc_X9_laysOut none)  : ∀ (n : Nat) (st : Int32 × Mem) (x : (Mem)) (H : Heap) (locs : List Loc) (ls : Array Slot), Gd s G A 28 B (entM G B st.2) X H locs → lv_has ls 6 [(0, .ref (B + 0)), (3, .int st.1)] → lpw (sh_X9_laysOut_s229 ) n st = some x →
    (∀ y' : Mem, x = y' → ∀ (H : Heap) (locs : List Loc) (ls : Array Slot), Gd s G A 28 B (entM G B y') X H locs → lv_has ls 6 [] → W p l e rm_X9_laysOut s m args below meth c H locs 0 0 Q (F0 m 366 ls [])) → W p l e rm_X9_laysOut s m args below meth c H locs 0 0 Q (F0 m 229 ls []) := by
  intro n
  induction n with
  | zero =>
    intro st x H locs ls hG hl hf
    cases hf
  | succ n ih =>
    intro st x H locs ls hG hl hf kX0
    obtain ⟨r, hr, hh⟩ := of_lpw hf
    refine kb_X9_laysOut_229 C  hG hl hr (fun st2 e1 H locs ls hG hl => ?_) (fun y2 e1 H locs ls hG hl => ?_)
    · rcases hh with ⟨s3, e2, hh⟩ | e2
      · rw [e2] at e1
        cases e1
        exact ih _ _ _ _ _ hG hl hh kX0
      · rw [e2] at e1
        cases e1
    · rcases hh with ⟨s3, e2, hh⟩ | e2
      · rw [e2] at e1
        cases e1
      · rw [e2] at e1
        cases e1
        exact kX0 _ rfl _ _ _ hG hl
set_option maxRecDepth 100000 in
set_option maxHeartbeats 4000000 in
theorem kb_X9_laysOut_0 {x1 : Int32} {x2 : Int32} {w : Mem} {out : Mem} {H : Heap} {locs : List Loc} {ls : Array Slot} (C : CX p s m args meth c cX9_laysOut 6 RX9 wc_X9_laysOut none)  (hG : Gd s G A 28 B (entM G B w) X H locs) (hl : lv_has ls 6 [(0, .ref (B + 0)), (1, .int x1), (2, .int x2)]) (hf : sh_X9_laysOut x1 x2 w = some out) :
    W p l e rm_X9_laysOut s m args below meth c H locs 0 0 (MQ below (CPost G A 28 B (entM G B out) X none) args s 0 0 A) (F0 m 0 ls []) := by
  refine lv_aload_n C.1 C.2.1 dX9_laysOut_0 rfl (lv_at hl 0 rfl) ?_
  refine lv_aload_n C.1 C.2.1 dX9_laysOut_1 rfl (lv_at hl 0 rfl) ?_
  refine lv_iload_n C.1 C.2.1 dX9_laysOut_2 rfl (lv_at hl 1 rfl) ?_
  obtain ⟨v1, hv1, hf⟩ := of_bind hf
  refine r_callV1 C hG hl.1 (c0 := 0) (As := [.int x1]) (by decide) (entM_O (n := 35) rfl) rfl (mt_X9_elements l  hv1) (cwV 1 C.2.2.2.2.1 (gd_V tg_4_213 tg_4_215 tgp_28 tg_1_10 tg_4_216) rfl rfl rfl cd_X9_elements ⟨Nat.le_of_ble_eq_true rfl, Nat.le_of_ble_eq_true rfl⟩) rfl rfl (Nat.le_of_ble_eq_true rfl) dX9_laysOut_3 (fun H locs hG => ?_)
  obtain ⟨w2, ew2, hf⟩ := of_letv hf
  refine pf_X9_117 C hG rfl dX9_laysOut_6 (fun H locs hG => ?_)
  rw [← ew2] at hG
  refine lv_aload_n C.1 C.2.1 dX9_laysOut_9 rfl (lv_at hl 0 rfl) ?_
  refine lv_aload_n C.1 C.2.1 dX9_laysOut_10 rfl (lv_at hl 0 rfl) ?_
  refine gf_X9_11 C hG rfl dX9_laysOut_11 ?_
  refine lv_iconst (v := nI 1) C.1 C.2.1 dX9_laysOut_14 (by decide) ?_
  refine lv_iload_n C.1 C.2.1 dX9_laysOut_15 rfl (lv_at hl 1 rfl) ?_
  refine lv_iadd C.1 C.2.1 dX9_laysOut_16 ?_
  obtain ⟨v3, hv3, hf⟩ := of_bind hf
  obtain ⟨bv3, ev3⟩ := of_ldS hv3
  refine r_iald C hG (c0 := 1) (by decide) (entM_I (n := 130) rfl) bv3 dX9_laysOut_17 ?_
  refine r_top ev3 ?_
  obtain ⟨w4, ew4, hf⟩ := of_letv hf
  refine pf_X9_121 C hG rfl dX9_laysOut_18 (fun H locs hG => ?_)
  rw [← ew4] at hG
  refine lv_aload_n C.1 C.2.1 dX9_laysOut_21 rfl (lv_at hl 0 rfl) ?_
  refine lv_iload_n C.1 C.2.1 dX9_laysOut_22 rfl (lv_at hl 2 rfl) ?_
  obtain ⟨w5, hw5, hf⟩ := of_bind hf
  refine r_callV0 C hG hl.1 (c0 := 0) (As := [.int x2]) (by decide) (entM_O (n := 35) rfl) rfl (mt_X9_products l  hw5) (cwV 1 C.2.2.2.2.1 (gd_V tg_4_229 tg_4_231 tgp_31 tg_1_10 tg_4_232) rfl rfl rfl cd_X9_products ⟨Nat.le_of_ble_eq_true rfl, Nat.le_of_ble_eq_true rfl⟩) rfl rfl (Nat.le_of_ble_eq_true rfl) dX9_laysOut_23 (fun H locs hG => ?_)
  refine lv_iconst (v := nI 0) C.1 C.2.1 dX9_laysOut_26 (by decide) ?_
  refine lv_istore_n (lv' := [(3, .int (nI 0)), (0, .ref (B + 0)), (1, .int x1), (2, .int x2)]) C.1 C.2.1 dX9_laysOut_27 rfl hl (by decide) rfl (fun ls hl => ?_)
  obtain ⟨ex6, hex6, hf⟩ := of_bind hf
  refine kl_X9_laysOut_28 C  FU (nI 0, w5) ex6 _ _ _ hG (lv_sub hl [1, 3, 0] rfl) hex6 (fun y e0 H locs ls hG hl => ?_)
  subst e0
  refine lv_iconst (v := nI 0) C.1 C.2.1 dX9_laysOut_158 (by decide) ?_
  refine lv_istore_n (lv' := [(3, .int (nI 0)), (0, .ref (B + 0))]) C.1 C.2.1 dX9_laysOut_159 rfl hl (by decide) rfl (fun ls hl => ?_)
  obtain ⟨ex7, hex7, hf⟩ := of_bind hf
  refine kl_X9_laysOut_160 C  FU (nI 0, ex6) ex7 _ _ _ hG (lv_sub hl [1, 0] rfl) hex7 (fun y e0 H locs ls hG hl => ?_)
  subst e0
  refine lv_iconst (v := nI 0) C.1 C.2.1 dX9_laysOut_227 (by decide) ?_
  refine lv_istore_n (lv' := [(3, .int (nI 0)), (0, .ref (B + 0))]) C.1 C.2.1 dX9_laysOut_228 rfl hl (by decide) rfl (fun ls hl => ?_)
  obtain ⟨ex8, hex8, hf⟩ := of_bind hf
  refine kl_X9_laysOut_229 C  FU (nI 0, ex7) ex8 _ _ _ hG (lv_sub hl [1, 0] rfl) hex8 (fun y e0 H locs ls hG hl => ?_)
  subst e0
  obtain rfl := Option.some.inj hf
  exact r_vret C hG dX9_laysOut_366
set_option maxRecDepth 100000 in
set_option maxHeartbeats 4000000 in
theorem mt_X9_laysOut (l : Launch) {G : GG} {A : Nat → Prop} {B : Nat} {X : va_W} {x1 : Int32} {x2 : Int32} {w : Mem} {out : Mem}  (hf : sh_X9_laysOut x1 x2 w = some out) : MetW l yX9_laysOut wc_X9_laysOut rm_X9_laysOut G A 28 B (entM G B w) X [.ref (B + 0), .int x1, .int x2] none (entM G B out) := by
  refine Met.ofW (cc := cX9_laysOut) (maxL := 6) (ret := none) (by decide) rfl ?_
  intro p e s m args below meth c s₁ B0 hml hv
  obtain ⟨rfl, hEv, hWd⟩ := hv
  have C : CX p s m _ meth c cX9_laysOut 6 RX9 wc_X9_laysOut none := ⟨B0.exec, B0.bytes, hml, findClass_of_methodNamed B0.named, atoms_spec (ws := wc_X9_laysOut) B0.pre, B0.returns, B0.notSynchronized⟩
  have hl := lv_entry [.ref (B + 0), .int x1, .int x2] (n := 6) (Nat.le_of_ble_eq_true rfl)
  rw [lg_entry_eq]
  generalize (lg_sl [.ref (B + 0), .int x1, .int x2] ++ List.replicate (6 - (lg_sl [.ref (B + 0), .int x1, .int x2]).length) Slot.unset).toArray = ls at hl ⊢
  have hl : lv_has ls 6 [(0, .ref (B + 0)), (1, .int x1), (2, .int x2)] := hl
  exact kb_X9_laysOut_0 C  ⟨hEv, hWd, va_S.rf⟩ hl hf
end
