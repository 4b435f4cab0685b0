section
variable {p : Program} {l : Launch} {e : Env} {s : State} {m : MethodId} {args : Array Value} {below : List Frame} {meth : Method} {c : Code} {Q : State → Prop} {G : GG} {A : Nat → Prop} {N B : Nat} {E : Nat → va_E} {X : va_W}
abbrev wc_X9_cut : List Cond := Cond.code yX9_cut cX9_cut 4 (some .int) :: TG
abbrev rm_X9_cut : Room := { frames := 4, cells := 0, slots := 0, locals := 145 }
theorem cd_X9_cut : yX9_cut.cls = RX9 ∧ yX9_cut.cls ≠ "java/lang/invoke/MethodHandle" ∧ yX9_cut.cls ≠ "java/lang/invoke/VarHandle" ∧ (parseMethodDescriptor yX9_cut.desc).map (fun d => d.parameters.length) = some 2 := by decide +kernel
theorem dX9_cut_0 : decode cX9_cut 0 = .ok (.iload_n 1, 1) := by decide +kernel
theorem dX9_cut_1 : decode cX9_cut 1 = .ok (.invokestatic 205, 3) := by decide +kernel
theorem dX9_cut_4 : decode cX9_cut 4 = .ok (.ifCond .ne 5, 3) := by decide +kernel
theorem dX9_cut_7 : decode cX9_cut 7 = .ok (.iconst (-1), 1) := by decide +kernel
theorem dX9_cut_8 : decode cX9_cut 8 = .ok (.ireturn, 1) := by decide +kernel
theorem dX9_cut_9 : decode cX9_cut 9 = .ok (.iload_n 2, 1) := by decide +kernel
theorem dX9_cut_10 : decode cX9_cut 10 = .ok (.i2l, 1) := by decide +kernel
theorem dX9_cut_11 : decode cX9_cut 11 = .ok (.lconst 0, 1) := by decide +kernel
theorem dX9_cut_12 : decode cX9_cut 12 = .ok (.aload_n 0, 1) := by decide +kernel
theorem dX9_cut_13 : decode cX9_cut 13 = .ok (.getfield 11, 3) := by decide +kernel
theorem dX9_cut_16 : decode cX9_cut 16 = .ok (.bipush 13, 2) := by decide +kernel
theorem dX9_cut_18 : decode cX9_cut 18 = .ok (.iload_n 1, 1) := by decide +kernel
theorem dX9_cut_19 : decode cX9_cut 19 = .ok (.iadd, 1) := by decide +kernel
theorem dX9_cut_20 : decode cX9_cut 20 = .ok (.iaload, 1) := by decide +kernel
theorem dX9_cut_21 : decode cX9_cut 21 = .ok (.i2l, 1) := by decide +kernel
theorem dX9_cut_22 : decode cX9_cut 22 = .ok (.invokestatic 93, 3) := by decide +kernel
theorem dX9_cut_25 : decode cX9_cut 25 = .ok (.ifCond .ne 6, 3) := by decide +kernel
theorem dX9_cut_28 : decode cX9_cut 28 = .ok (.bipush (-2), 2) := by decide +kernel
theorem dX9_cut_30 : decode cX9_cut 30 = .ok (.ireturn, 1) := by decide +kernel
theorem dX9_cut_31 : decode cX9_cut 31 = .ok (.aload_n 0, 1) := by decide +kernel
theorem dX9_cut_32 : decode cX9_cut 32 = .ok (.getfield 11, 3) := by decide +kernel
theorem dX9_cut_35 : decode cX9_cut 35 = .ok (.bipush 13, 2) := by decide +kernel
theorem dX9_cut_37 : decode cX9_cut 37 = .ok (.iload_n 1, 1) := by decide +kernel
theorem dX9_cut_38 : decode cX9_cut 38 = .ok (.iadd, 1) := by decide +kernel
theorem dX9_cut_39 : decode cX9_cut 39 = .ok (.iaload, 1) := by decide +kernel
theorem dX9_cut_40 : decode cX9_cut 40 = .ok (.istore_n 3, 1) := by decide +kernel
theorem dX9_cut_41 : decode cX9_cut 41 = .ok (.aload_n 0, 1) := by decide +kernel
theorem dX9_cut_42 : decode cX9_cut 42 = .ok (.getfield 11, 3) := by decide +kernel
theorem dX9_cut_45 : decode cX9_cut 45 = .ok (.bipush 13, 2) := by decide +kernel
theorem dX9_cut_47 : decode cX9_cut 47 = .ok (.iload_n 1, 1) := by decide +kernel
theorem dX9_cut_48 : decode cX9_cut 48 = .ok (.iadd, 1) := by decide +kernel
theorem dX9_cut_49 : decode cX9_cut 49 = .ok (.iload_n 2, 1) := by decide +kernel
theorem dX9_cut_50 : decode cX9_cut 50 = .ok (.iastore, 1) := by decide +kernel
theorem dX9_cut_51 : decode cX9_cut 51 = .ok (.iload_n 3, 1) := by decide +kernel
theorem dX9_cut_52 : decode cX9_cut 52 = .ok (.ireturn, 1) := by decide +kernel
set_option maxRecDepth 100000 in
set_option maxHeartbeats 4000000 in
theorem kb_X9_cut_0 {x1 : Int32} {x2 : Int32} {w : Mem} {out : Int32 × Mem} {H : Heap} {locs : List Loc} {ls : Array Slot} (C : CX p s m args meth c cX9_cut 4 RX9 wc_X9_cut (some .int))  (hG : Gd s G A 28 B (entM G B w) X H locs) (hl : lv_has ls 4 [(0, .ref (B + 0)), (1, .int x1), (2, .int x2)]) (hf : sh_X9_cut x1 x2 w = some out) :
    W p l e rm_X9_cut s m args below meth c H locs 0 0 (MQ below (CPost G A 28 B (entM G B out.2) X (some (.int out.1))) args s 0 0 A) (F0 m 0 ls []) := by
  refine lv_iload_n C.1 C.2.1 dX9_cut_0 rfl (lv_at hl 1 rfl) ?_
  obtain ⟨v1, hv1, hf⟩ := of_bind hf
  refine r_callS1 C hG hl.1 (As := [.int x1]) (mt_X9_isSurface l  hv1) (va_cwS 1 C.2.2.2.2.1 (gd_S tg_5_64 tg_5_65 tg_1_10 tg_5_66) rfl rfl rfl cd_X9_isSurface.2 ⟨Nat.le_of_ble_eq_true rfl, Nat.le_of_ble_eq_true rfl⟩) rfl rfl (Nat.le_of_ble_eq_true rfl) dX9_cut_1 (fun H locs hG => ?_)
  rcases of_ite hf with ⟨c2, hf⟩ | ⟨c2, hf⟩
  · refine lv_if_ne (tgt := 9) C.1 C.2.1 dX9_cut_4 (by decide) (fun q => absurd c2 q) (fun _ => ?_)
    refine lv_iconst (v := (-1 : Int32)) C.1 C.2.1 dX9_cut_7 (by decide) ?_
    obtain rfl := Option.some.inj hf
    exact r_iret C hG dX9_cut_8
  · refine lv_if_ne (tgt := 9) C.1 C.2.1 dX9_cut_4 (by decide) (fun _ => ?_) (fun q => absurd q c2)
    refine lv_iload_n C.1 C.2.1 dX9_cut_9 rfl (lv_at hl 2 rfl) ?_
    refine lv_i2l C.1 C.2.1 dX9_cut_10 rfl ?_
    refine lv_lconst (v := lN 0) C.1 C.2.1 dX9_cut_11 rfl ?_
    refine lv_aload_n C.1 C.2.1 dX9_cut_12 rfl (lv_at hl 0 rfl) ?_
    refine gf_X9_11 C hG rfl dX9_cut_13 ?_
    refine lv_bipush (v := nI 13) C.1 C.2.1 dX9_cut_16 (by decide) ?_
    refine lv_iload_n C.1 C.2.1 dX9_cut_18 rfl (lv_at hl 1 rfl) ?_
    refine lv_iadd C.1 C.2.1 dX9_cut_19 ?_
    obtain ⟨v3, hv3, hf⟩ := of_bind hf
    obtain ⟨bv3, ev3⟩ := of_ldS hv3
    refine r_iald C hG (c0 := 1) (by decide) (entM_I (n := 130) rfl) bv3 dX9_cut_20 ?_
    refine r_top ev3 ?_
    refine lv_i2l C.1 C.2.1 dX9_cut_21 rfl ?_
    obtain ⟨v4, hv4, hf⟩ := of_bind hf
    refine r_callS1 C hG hl.1 (As := [.long x2.toInt64, .long (lN 0), .long v3.toInt64]) (mt_X9_isIn l  hv4) (va_cwS 3 C.2.2.2.2.1 (gd_S tg_4_195 tg_4_196 tg_1_10 tg_4_197) rfl rfl rfl cd_X9_isIn.2 ⟨Nat.le_of_ble_eq_true rfl, Nat.le_of_ble_eq_true rfl⟩) rfl rfl (Nat.le_of_ble_eq_true rfl) dX9_cut_22 (fun H locs hG => ?_)
    rcases of_ite hf with ⟨c5, hf⟩ | ⟨c5, hf⟩
    · refine lv_if_ne (tgt := 31) C.1 C.2.1 dX9_cut_25 (by decide) (fun q => absurd c5 q) (fun _ => ?_)
      refine lv_bipush (v := (-2 : Int32)) C.1 C.2.1 dX9_cut_28 (by decide) ?_
      obtain rfl := Option.some.inj hf
      exact r_iret C hG dX9_cut_30
    · refine lv_if_ne (tgt := 31) C.1 C.2.1 dX9_cut_25 (by decide) (fun _ => ?_) (fun q => absurd q c5)
      refine lv_aload_n C.1 C.2.1 dX9_cut_31 rfl (lv_at hl 0 rfl) ?_
      refine gf_X9_11 C hG rfl dX9_cut_32 ?_
      refine lv_bipush (v := nI 13) C.1 C.2.1 dX9_cut_35 (by decide) ?_
      refine lv_iload_n C.1 C.2.1 dX9_cut_37 rfl (lv_at hl 1 rfl) ?_
      refine lv_iadd C.1 C.2.1 dX9_cut_38 ?_
      obtain ⟨v6, hv6, hf⟩ := of_bind hf
      obtain ⟨bv6, ev6⟩ := of_ldS hv6
      refine r_iald C hG (c0 := 1) (by decide) (entM_I (n := 130) rfl) bv6 dX9_cut_39 ?_
      refine r_top ev6 ?_
      refine lv_istore_n (lv' := [(3, .int v6), (0, .ref (B + 0)), (1, .int x1), (2, .int x2)]) C.1 C.2.1 dX9_cut_40 rfl hl (by decide) rfl (fun ls hl => ?_)
      refine lv_aload_n C.1 C.2.1 dX9_cut_41 rfl (lv_at hl 1 rfl) ?_
      refine gf_X9_11 C hG rfl dX9_cut_42 ?_
      refine lv_bipush (v := nI 13) C.1 C.2.1 dX9_cut_45 (by decide) ?_
      refine lv_iload_n C.1 C.2.1 dX9_cut_47 rfl (lv_at hl 2 rfl) ?_
      refine lv_iadd C.1 C.2.1 dX9_cut_48 ?_
      refine lv_iload_n C.1 C.2.1 dX9_cut_49 rfl (lv_at hl 3 rfl) ?_
      obtain ⟨w7, hw7, hf⟩ := of_bind hf
      obtain ⟨bw7, ew7⟩ := of_stM hw7
      refine r_iast C hG (c0 := 1) (by decide) (entM_I (n := 130) rfl) bw7 (E' := (entM G B w7)) (by rw [ew7]; exact upM_I (n := 130) rfl) dX9_cut_50 (fun H locs hG => ?_)
      refine lv_iload_n C.1 C.2.1 dX9_cut_51 rfl (lv_at hl 0 rfl) ?_
      obtain rfl := Option.some.inj hf
      exact r_iret C hG dX9_cut_52
set_option maxRecDepth 100000 in
set_option maxHeartbeats 4000000 in
theorem mt_X9_cut (l : Launch) {G : GG} {A : Nat → Prop} {B : Nat} {X : va_W} {x1 : Int32} {x2 : Int32} {w : Mem} {out : Int32 × Mem}  (hf : sh_X9_cut x1 x2 w = some out) : MetW l yX9_cut wc_X9_cut rm_X9_cut G A 28 B (entM G B w) X [.ref (B + 0), .int x1, .int x2] (some (.int out.1)) (entM G B out.2) := by
  refine Met.ofW (cc := cX9_cut) (maxL := 4) (ret := (some .int)) (by decide) rfl ?_
  intro p e s m args below meth c s₁ B0 hml hv
  obtain ⟨rfl, hEv, hWd⟩ := hv
  have C : CX p s m _ meth c cX9_cut 4 RX9 wc_X9_cut (some .int) := ⟨B0.exec, B0.bytes, hml, findClass_of_methodNamed B0.named, atoms_spec (ws := wc_X9_cut) B0.pre, B0.returns, B0.notSynchronized⟩
  have hl := lv_entry [.ref (B + 0), .int x1, .int x2] (n := 4) (Nat.le_of_ble_eq_true rfl)
  rw [lg_entry_eq]
  generalize (lg_sl [.ref (B + 0), .int x1, .int x2] ++ List.replicate (4 - (lg_sl [.ref (B + 0), .int x1, .int x2]).length) Slot.unset).toArray = ls at hl ⊢
  have hl : lv_has ls 4 [(0, .ref (B + 0)), (1, .int x1), (2, .int x2)] := hl
  exact kb_X9_cut_0 C  ⟨hEv, hWd, va_S.rf⟩ hl hf
abbrev wc_X9_draws : List Cond := Cond.code yX9_draws cX9_draws 6 none :: TG
abbrev rm_X9_draws : Room := { frames := 5, cells := 0, slots := 0, locals := 167 }
theorem cd_X9_draws : yX9_draws.cls = RX9 ∧ yX9_draws.cls ≠ "java/lang/invoke/MethodHandle" ∧ yX9_draws.cls ≠ "java/lang/invoke/VarHandle" ∧ (parseMethodDescriptor yX9_draws.desc).map (fun d => d.parameters.length) = some 2 := by decide +kernel
theorem dX9_draws_0 : decode cX9_draws 0 = .ok (.iload_n 2, 1) := by decide +kernel
theorem dX9_draws_1 : decode cX9_draws 1 = .ok (.istore_n 3, 1) := by decide +kernel
theorem dX9_draws_2 : decode cX9_draws 2 = .ok (.iconst 0, 1) := by decide +kernel
theorem dX9_draws_3 : decode cX9_draws 3 = .ok (.istore 4, 2) := by decide +kernel
theorem dX9_draws_5 : decode cX9_draws 5 = .ok (.iload 4, 2) := by decide +kernel
theorem dX9_draws_7 : decode cX9_draws 7 = .ok (.iload_n 1, 1) := by decide +kernel
theorem dX9_draws_8 : decode cX9_draws 8 = .ok (.if_icmp .ge 52, 3) := by decide +kernel
theorem dX9_draws_11 : decode cX9_draws 11 = .ok (.iload_n 3, 1) := by decide +kernel
theorem dX9_draws_12 : decode cX9_draws 12 = .ok (.ldc_w 287, 3) := by decide +kernel
theorem dX9_draws_15 : decode cX9_draws 15 = .ok (.imul, 1) := by decide +kernel
theorem dX9_draws_16 : decode cX9_draws 16 = .ok (.sipush 12345, 3) := by decide +kernel
theorem dX9_draws_19 : decode cX9_draws 19 = .ok (.iadd, 1) := by decide +kernel
theorem dX9_draws_20 : decode cX9_draws 20 = .ok (.istore_n 3, 1) := by decide +kernel
theorem dX9_draws_21 : decode cX9_draws 21 = .ok (.iload_n 3, 1) := by decide +kernel
theorem dX9_draws_22 : decode cX9_draws 22 = .ok (.bipush 16, 2) := by decide +kernel
theorem dX9_draws_24 : decode cX9_draws 24 = .ok (.iushr, 1) := by decide +kernel
theorem dX9_draws_25 : decode cX9_draws 25 = .ok (.bipush 7, 2) := by decide +kernel
theorem dX9_draws_27 : decode cX9_draws 27 = .ok (.irem, 1) := by decide +kernel
theorem dX9_draws_28 : decode cX9_draws 28 = .ok (.istore 5, 2) := by decide +kernel
theorem dX9_draws_30 : decode cX9_draws 30 = .ok (.aload_n 0, 1) := by decide +kernel
theorem dX9_draws_31 : decode cX9_draws 31 = .ok (.getfield 170, 3) := by decide +kernel
theorem dX9_draws_34 : decode cX9_draws 34 = .ok (.bipush 24, 2) := by decide +kernel
theorem dX9_draws_36 : decode cX9_draws 36 = .ok (.if_icmp .ge 18, 3) := by decide +kernel
theorem dX9_draws_39 : decode cX9_draws 39 = .ok (.aload_n 0, 1) := by decide +kernel
theorem dX9_draws_40 : decode cX9_draws 40 = .ok (.iload 5, 2) := by decide +kernel
theorem dX9_draws_42 : decode cX9_draws 42 = .ok (.invokevirtual 188, 3) := by decide +kernel
theorem dX9_draws_45 : decode cX9_draws 45 = .ok (.ifCond .eq 9, 3) := by decide +kernel
theorem dX9_draws_48 : decode cX9_draws 48 = .ok (.aload_n 0, 1) := by decide +kernel
theorem dX9_draws_49 : decode cX9_draws 49 = .ok (.iload 5, 2) := by decide +kernel
theorem dX9_draws_51 : decode cX9_draws 51 = .ok (.invokevirtual 191, 3) := by decide +kernel
theorem dX9_draws_54 : decode cX9_draws 54 = .ok (.iinc 4 1, 3) := by decide +kernel
theorem dX9_draws_57 : decode cX9_draws 57 = .ok (.goto (-52), 3) := by decide +kernel
theorem dX9_draws_60 : decode cX9_draws 60 = .ok (.return_, 1) := by decide +kernel
set_option maxRecDepth 100000 in
set_option maxHeartbeats 4000000 in
theorem kb_X9_draws_5 {x1 : Int32} {st : Int32 × Int32 × Mem} {r : (Int32 × Int32 × Mem) ⊕ ((Mem))} {H : Heap} {locs : List Loc} {ls : Array Slot} (C : CX p s m args meth c cX9_draws 6 RX9 wc_X9_draws none)  (hG : Gd s G A 28 B (entM G B st.2.2) X H locs) (hl : lv_has ls 6 [(0, .ref (B + 0)), (1, .int x1), (3, .int st.1), (4, .int st.2.1)]) (hf : sh_X9_draws_s5 x1 st = some r)
    (kL : ∀ st' : Int32 × Int32 × Mem, r = Sum.inl st' → ∀ (H : Heap) (locs : List Loc) (ls : Array Slot), Gd s G A 28 B (entM G B st'.2.2) X H locs → lv_has ls 6 [(0, .ref (B + 0)), (1, .int x1), (3, .int st'.1), (4, .int st'.2.1)] → W p l e rm_X9_draws s m args below meth c H locs 0 0 Q (F0 m 5 ls []))
    (kX0 : ∀ y' : Mem, r = Sum.inr y' → ∀ (H : Heap) (locs : List Loc) (ls : Array Slot), Gd s G A 28 B (entM G B y') X H locs → lv_has ls 6 [] → W p l e rm_X9_draws s m args below meth c H locs 0 0 Q (F0 m 60 ls [])) :
    W p l e rm_X9_draws s m args below meth c H locs 0 0 Q (F0 m 5 ls []) := by
  refine lv_iload C.1 C.2.1 dX9_draws_5 (lv_at hl 3 rfl) ?_
  refine lv_iload_n C.1 C.2.1 dX9_draws_7 rfl (lv_at hl 1 rfl) ?_
  rcases of_ite hf with ⟨c1, hf⟩ | ⟨c1, hf⟩
  · refine lv_icmp_ge (tgt := 60) C.1 C.2.1 dX9_draws_8 (by decide) (fun _ => ?_) (fun q => absurd c1 q)
    obtain rfl := Option.some.inj hf
    exact kX0 _ rfl _ _ _ hG (lv_sub hl [] rfl)
  · refine lv_icmp_ge (tgt := 60) C.1 C.2.1 dX9_draws_8 (by decide) (fun q => absurd q c1) (fun _ => ?_)
    refine lv_iload_n C.1 C.2.1 dX9_draws_11 rfl (lv_at hl 2 rfl) ?_
    refine lv_ldcw (v := nI 1103515245) C.1 C.2.1 C.2.2.2.1 (C.2.2.2.2.1 _ (List.mem_cons_of_mem _ tg_5_234)) dX9_draws_12 ?_
    refine lv_imul C.1 C.2.1 dX9_draws_15 ?_
    refine lv_sipush (v := nI 12345) C.1 C.2.1 dX9_draws_16 (by decide) ?_
    refine lv_iadd C.1 C.2.1 dX9_draws_19 ?_
    obtain ⟨v2, ev2, hf⟩ := of_letv hf
    refine r_top ev2 ?_
    refine lv_istore_n (lv' := [(3, .int v2), (0, .ref (B + 0)), (1, .int x1), (4, .int st.2.1)]) C.1 C.2.1 dX9_draws_20 rfl hl (by decide) rfl (fun ls hl => ?_)
    refine lv_iload_n C.1 C.2.1 dX9_draws_21 rfl (lv_at hl 0 rfl) ?_
    refine lv_bipush (v := nI 16) C.1 C.2.1 dX9_draws_22 (by decide) ?_
    refine r_iushr C dX9_draws_24 ?_
    refine lv_bipush (v := nI 7) C.1 C.2.1 dX9_draws_25 (by decide) ?_
    refine r_irem C dX9_draws_27 (by decide) ?_
    obtain ⟨v3, ev3, hf⟩ := of_letv hf
    refine r_top ev3 ?_
    refine lv_istore (lv' := [(5, .int v3), (3, .int v2), (0, .ref (B + 0)), (1, .int x1), (4, .int st.2.1)]) C.1 C.2.1 dX9_draws_28 hl (by decide) rfl (fun ls hl => ?_)
    refine lv_aload_n C.1 C.2.1 dX9_draws_30 rfl (lv_at hl 2 rfl) ?_
    refine gf_X9_170 C hG rfl dX9_draws_31 ?_
    refine lv_bipush (v := nI 24) C.1 C.2.1 dX9_draws_34 (by decide) ?_
    rcases of_ite hf with ⟨c4, hf⟩ | ⟨c4, hf⟩
    · refine lv_icmp_ge (tgt := 54) C.1 C.2.1 dX9_draws_36 (by decide) (fun _ => ?_) (fun q => absurd c4 q)
      obtain ⟨v5, ev5, hf⟩ := of_letv hf
      refine lv_iinc (v := v5) (lv' := [(4, .int v5), (5, .int v3), (3, .int v2), (0, .ref (B + 0)), (1, .int x1)]) C.1 C.2.1 dX9_draws_54 hl (k := 4) rfl (by rw [ev5, show Int32.ofInt (1) = nI 1 from by decide]) (by decide) rfl (fun ls hl => ?_)
      refine lv_goto (tgt := 5) C.1 C.2.1 dX9_draws_57 (by decide) ?_
      obtain rfl := Option.some.inj hf
      exact kL _ rfl _ _ _ hG (lv_sub hl [3, 4, 2, 0] rfl)
    · refine lv_icmp_ge (tgt := 54) C.1 C.2.1 dX9_draws_36 (by decide) (fun q => absurd q c4) (fun _ => ?_)
      refine lv_aload_n C.1 C.2.1 dX9_draws_39 rfl (lv_at hl 2 rfl) ?_
      refine lv_iload C.1 C.2.1 dX9_draws_40 (lv_at hl 0 rfl) ?_
      obtain ⟨v6, hv6, hf⟩ := of_bind hf
      refine r_callV1 C hG hl.1 (c0 := 0) (As := [.int v3]) (by decide) (entM_O (n := 35) rfl) rfl (mt_X9_canStand l  hv6) (cwV 1 C.2.2.2.2.1 (gd_V tg_5_84 tg_5_86 tgp_40 tg_1_10 tg_5_87) rfl rfl rfl cd_X9_canStand ⟨Nat.le_of_ble_eq_true rfl, Nat.le_of_ble_eq_true rfl⟩) rfl rfl (Nat.le_of_ble_eq_true rfl) dX9_draws_42 (fun H locs hG => ?_)
      rcases of_ite hf with ⟨c7, hf⟩ | ⟨c7, hf⟩
      · refine lv_if_eq (tgt := 54) C.1 C.2.1 dX9_draws_45 (by decide) (fun _ => ?_) (fun q => absurd c7 q)
        obtain ⟨v8, ev8, hf⟩ := of_letv hf
        refine lv_iinc (v := v8) (lv' := [(4, .int v8), (5, .int v3), (3, .int v2), (0, .ref (B + 0)), (1, .int x1)]) C.1 C.2.1 dX9_draws_54 hl (k := 4) rfl (by rw [ev8, show Int32.ofInt (1) = nI 1 from by decide]) (by decide) rfl (fun ls hl => ?_)
        refine lv_goto (tgt := 5) C.1 C.2.1 dX9_draws_57 (by decide) ?_
        obtain rfl := Option.some.inj hf
        exact kL _ rfl _ _ _ hG (lv_sub hl [3, 4, 2, 0] rfl)
      · refine lv_if_eq (tgt := 54) C.1 C.2.1 dX9_draws_45 (by decide) (fun q => absurd q c7) (fun _ => ?_)
        refine lv_aload_n C.1 C.2.1 dX9_draws_48 rfl (lv_at hl 2 rfl) ?_
        refine lv_iload C.1 C.2.1 dX9_draws_49 (lv_at hl 0 rfl) ?_
        obtain ⟨w9, hw9, hf⟩ := of_bind hf
        refine r_callV0 C hG hl.1 (c0 := 0) (As := [.int v3]) (by decide) (entM_O (n := 35) rfl) rfl (mt_X9_adds l  hw9) (cwV 1 C.2.2.2.2.1 (gd_V tg_5_95 tg_5_97 tgp_42 tg_1_10 tg_5_98) rfl rfl rfl cd_X9_adds ⟨Nat.le_of_ble_eq_true rfl, Nat.le_of_ble_eq_true rfl⟩) rfl rfl (Nat.le_of_ble_eq_true rfl) dX9_draws_51 (fun H locs hG => ?_)
        obtain ⟨v10, ev10, hf⟩ := of_letv hf
        refine lv_iinc (v := v10) (lv' := [(4, .int v10), (5, .int v3), (3, .int v2), (0, .ref (B + 0)), (1, .int x1)]) C.1 C.2.1 dX9_draws_54 hl (k := 4) rfl (by rw [ev10, show Int32.ofInt (1) = nI 1 from by decide]) (by decide) rfl (fun ls hl => ?_)
        refine lv_goto (tgt := 5) C.1 C.2.1 dX9_draws_57 (by decide) ?_
        obtain rfl := Option.some.inj hf
        exact kL _ rfl _ _ _ hG (lv_sub hl [3, 4, 2, 0] rfl)
set_option maxRecDepth 100000 in
set_option maxHeartbeats 4000000 in
theorem kl_X9_draws_5 {x1 : Int32} (C : CX p s m args meth c cX9_draws 6 RX9 wc_X9_draws none)  : ∀ (n : Nat) (st : Int32 × Int32 × Mem) (x : (Mem)) (H : Heap) (locs : List Loc) (ls : Array Slot), Gd s G A 28 B (entM G B st.2.2) X H locs → lv_has ls 6 [(0, .ref (B + 0)), (1, .int x1), (3, .int st.1), (4, .int st.2.1)] → lpw (sh_X9_draws_s5 x1) n st = some x →
    (∀ y' : Mem, x = y' → ∀ (H : Heap) (locs : List Loc) (ls : Array Slot), Gd s G A 28 B (entM G B y') X H locs → lv_has ls 6 [] → W p l e rm_X9_draws s m args below meth c H locs 0 0 Q (F0 m 60 ls [])) → W p l e rm_X9_draws s m args below meth c H locs 0 0 Q (F0 m 5 ls []) := by
  intro n
  induction n with
  | zero =>
    intro st x H locs ls hG hl hf
    cases hf
  | succ n ih =>
    intro st x H locs ls hG hl hf kX0
    obtain ⟨r, hr, hh⟩ := of_lpw hf
    refine kb_X9_draws_5 C  hG hl hr (fun st2 e1 H locs ls hG hl => ?_) (fun y2 e1 H locs ls hG hl => ?_)
    · rcases hh with ⟨s3, e2, hh⟩ | e2
      · rw [e2] at e1
        cases e1
        exact ih _ _ _ _ _ hG hl hh kX0
      · rw [e2] at e1
        cases e1
    · rcases hh with ⟨s3, e2, hh⟩ | e2
      · rw [e2] at e1
        cases e1
      · rw [e2] at e1
        cases e1
        exact kX0 _ rfl _ _ _ hG hl
set_option maxRecDepth 100000 in
set_option maxHeartbeats 4000000 in
theorem kb_X9_draws_0 {x1 : Int32} {x2 : Int32} {w : Mem} {out : Mem} {H : Heap} {locs : List Loc} {ls : Array Slot} (C : CX p s m args meth c cX9_draws 6 RX9 wc_X9_draws none)  (hG : Gd s G A 28 B (entM G B w) X H locs) (hl : lv_has ls 6 [(0, .ref (B + 0)), (1, .int x1), (2, .int x2)]) (hf : sh_X9_draws x1 x2 w = some out) :
    W p l e rm_X9_draws s m args below meth c H locs 0 0 (MQ below (CPost G A 28 B (entM G B out) X none) args s 0 0 A) (F0 m 0 ls []) := by
  refine lv_iload_n C.1 C.2.1 dX9_draws_0 rfl (lv_at hl 2 rfl) ?_
  refine lv_istore_n (lv' := [(3, .int x2), (0, .ref (B + 0)), (1, .int x1), (2, .int x2)]) C.1 C.2.1 dX9_draws_1 rfl hl (by decide) rfl (fun ls hl => ?_)
  refine lv_iconst (v := nI 0) C.1 C.2.1 dX9_draws_2 (by decide) ?_
  refine lv_istore (lv' := [(4, .int (nI 0)), (3, .int x2), (0, .ref (B + 0)), (1, .int x1), (2, .int x2)]) C.1 C.2.1 dX9_draws_3 hl (by decide) rfl (fun ls hl => ?_)
  obtain ⟨ex1, hex1, hf⟩ := of_bind hf
  refine kl_X9_draws_5 C  FU (x2, nI 0, w) ex1 _ _ _ hG (lv_sub hl [2, 3, 1, 0] rfl) hex1 (fun y e0 H locs ls hG hl => ?_)
  subst e0
  obtain rfl := Option.some.inj hf
  exact r_vret C hG dX9_draws_60
set_option maxRecDepth 100000 in
set_option maxHeartbeats 4000000 in
theorem mt_X9_draws (l : Launch) {G : GG} {A : Nat → Prop} {B : Nat} {X : va_W} {x1 : Int32} {x2 : Int32} {w : Mem} {out : Mem}  (hf : sh_X9_draws x1 x2 w = some out) : MetW l yX9_draws wc_X9_draws rm_X9_draws G A 28 B (entM G B w) X [.ref (B + 0), .int x1, .int x2] none (entM G B out) := by
  refine Met.ofW (cc := cX9_draws) (maxL := 6) (ret := none) (by decide) rfl ?_
  intro p e s m args below meth c s₁ B0 hml hv
  obtain ⟨rfl, hEv, hWd⟩ := hv
  have C : CX p s m _ meth c cX9_draws 6 RX9 wc_X9_draws none := ⟨B0.exec, B0.bytes, hml, findClass_of_methodNamed B0.named, atoms_spec (ws := wc_X9_draws) B0.pre, B0.returns, B0.notSynchronized⟩
  have hl := lv_entry [.ref (B + 0), .int x1, .int x2] (n := 6) (Nat.le_of_ble_eq_true rfl)
  rw [lg_entry_eq]
  generalize (lg_sl [.ref (B + 0), .int x1, .int x2] ++ List.replicate (6 - (lg_sl [.ref (B + 0), .int x1, .int x2]).length) Slot.unset).toArray = ls at hl ⊢
  have hl : lv_has ls 6 [(0, .ref (B + 0)), (1, .int x1), (2, .int x2)] := hl
  exact kb_X9_draws_0 C  ⟨hEv, hWd, va_S.rf⟩ hl hf
abbrev wc_X9_draws_ : List Cond := Cond.code yX9_draws_ cX9_draws_ 4 (some .int) :: TG
abbrev rm_X9_draws_ : Room := { frames := 6, cells := 0, slots := 0, locals := 192 }
theorem cd_X9_draws_ : yX9_draws_.cls = RX9 ∧ yX9_draws_.cls ≠ "java/lang/invoke/MethodHandle" ∧ yX9_draws_.cls ≠ "java/lang/invoke/VarHandle" ∧ (parseMethodDescriptor yX9_draws_.desc).map (fun d => d.parameters.length) = some 3 := by decide +kernel
theorem dX9_draws__0 : decode cX9_draws_ 0 = .ok (.iload_n 1, 1) := by decide +kernel
theorem dX9_draws__1 : decode cX9_draws_ 1 = .ok (.invokestatic 205, 3) := by decide +kernel
theorem dX9_draws__4 : decode cX9_draws_ 4 = .ok (.ifCond .ne 5, 3) := by decide +kernel
theorem dX9_draws__7 : decode cX9_draws_ 7 = .ok (.iconst (-1), 1) := by decide +kernel
theorem dX9_draws__8 : decode cX9_draws_ 8 = .ok (.ireturn, 1) := by decide +kernel
theorem dX9_draws__9 : decode cX9_draws_ 9 = .ok (.iload_n 2, 1) := by decide +kernel
theorem dX9_draws__10 : decode cX9_draws_ 10 = .ok (.i2l, 1) := by decide +kernel
theorem dX9_draws__11 : decode cX9_draws_ 11 = .ok (.lconst 1, 1) := by decide +kernel
theorem dX9_draws__12 : decode cX9_draws_ 12 = .ok (.ldc2_w 288, 3) := by decide +kernel
theorem dX9_draws__15 : decode cX9_draws_ 15 = .ok (.invokestatic 93, 3) := by decide +kernel
theorem dX9_draws__18 : decode cX9_draws_ 18 = .ok (.ifCond .ne 6, 3) := by decide +kernel
theorem dX9_draws__21 : decode cX9_draws_ 21 = .ok (.bipush (-2), 2) := by decide +kernel
theorem dX9_draws__23 : decode cX9_draws_ 23 = .ok (.ireturn, 1) := by decide +kernel
theorem dX9_draws__24 : decode cX9_draws_ 24 = .ok (.aload_n 0, 1) := by decide +kernel
theorem dX9_draws__25 : decode cX9_draws_ 25 = .ok (.iload_n 1, 1) := by decide +kernel
theorem dX9_draws__26 : decode cX9_draws_ 26 = .ok (.invokevirtual 214, 3) := by decide +kernel
theorem dX9_draws__29 : decode cX9_draws_ 29 = .ok (.aload_n 0, 1) := by decide +kernel
theorem dX9_draws__30 : decode cX9_draws_ 30 = .ok (.iload_n 2, 1) := by decide +kernel
theorem dX9_draws__31 : decode cX9_draws_ 31 = .ok (.iload_n 3, 1) := by decide +kernel
theorem dX9_draws__32 : decode cX9_draws_ 32 = .ok (.invokevirtual 290, 3) := by decide +kernel
theorem dX9_draws__35 : decode cX9_draws_ 35 = .ok (.aload_n 0, 1) := by decide +kernel
theorem dX9_draws__36 : decode cX9_draws_ 36 = .ok (.iload_n 1, 1) := by decide +kernel
theorem dX9_draws__37 : decode cX9_draws_ 37 = .ok (.invokevirtual 211, 3) := by decide +kernel
theorem dX9_draws__40 : decode cX9_draws_ 40 = .ok (.aload_n 0, 1) := by decide +kernel
theorem dX9_draws__41 : decode cX9_draws_ 41 = .ok (.getfield 170, 3) := by decide +kernel
theorem dX9_draws__44 : decode cX9_draws_ 44 = .ok (.ireturn, 1) := by decide +kernel
set_option maxRecDepth 100000 in
set_option maxHeartbeats 4000000 in
theorem kb_X9_draws__0 {x1 : Int32} {x2 : Int32} {x3 : Int32} {w : Mem} {out : Int32 × Mem} {H : Heap} {locs : List Loc} {ls : Array Slot} (C : CX p s m args meth c cX9_draws_ 4 RX9 wc_X9_draws_ (some .int))  (hG : Gd s G A 28 B (entM G B w) X H locs) (hl : lv_has ls 4 [(0, .ref (B + 0)), (1, .int x1), (2, .int x2), (3, .int x3)]) (hf : sh_X9_draws_ x1 x2 x3 w = some out) :
    W p l e rm_X9_draws_ s m args below meth c H locs 0 0 (MQ below (CPost G A 28 B (entM G B out.2) X (some (.int out.1))) args s 0 0 A) (F0 m 0 ls []) := by
  refine lv_iload_n C.1 C.2.1 dX9_draws__0 rfl (lv_at hl 1 rfl) ?_
  obtain ⟨v1, hv1, hf⟩ := of_bind hf
  refine r_callS1 C hG hl.1 (As := [.int x1]) (mt_X9_isSurface l  hv1) (va_cwS 1 C.2.2.2.2.1 (gd_S tg_5_64 tg_5_65 tg_1_10 tg_5_66) rfl rfl rfl cd_X9_isSurface.2 ⟨Nat.le_of_ble_eq_true rfl, Nat.le_of_ble_eq_true rfl⟩) rfl rfl (Nat.le_of_ble_eq_true rfl) dX9_draws__1 (fun H locs hG => ?_)
  rcases of_ite hf with ⟨c2, hf⟩ | ⟨c2, hf⟩
  · refine lv_if_ne (tgt := 9) C.1 C.2.1 dX9_draws__4 (by decide) (fun q => absurd c2 q) (fun _ => ?_)
    refine lv_iconst (v := (-1 : Int32)) C.1 C.2.1 dX9_draws__7 (by decide) ?_
    obtain rfl := Option.some.inj hf
    exact r_iret C hG dX9_draws__8
  · refine lv_if_ne (tgt := 9) C.1 C.2.1 dX9_draws__4 (by decide) (fun _ => ?_) (fun q => absurd q c2)
    refine lv_iload_n C.1 C.2.1 dX9_draws__9 rfl (lv_at hl 2 rfl) ?_
    refine lv_i2l C.1 C.2.1 dX9_draws__10 rfl ?_
    refine lv_lconst (v := lN 1) C.1 C.2.1 dX9_draws__11 rfl ?_
    refine lv_ldc2 (v := lN 24) C.1 C.2.1 C.2.2.2.1 (C.2.2.2.2.1 _ (List.mem_cons_of_mem _ tg_5_229)) dX9_draws__12 ?_
    obtain ⟨v3, hv3, hf⟩ := of_bind hf
    refine r_callS1 C hG hl.1 (As := [.long x2.toInt64, .long (lN 1), .long (lN 24)]) (mt_X9_isIn l  hv3) (va_cwS 3 C.2.2.2.2.1 (gd_S tg_4_195 tg_4_196 tg_1_10 tg_4_197) rfl rfl rfl cd_X9_isIn.2 ⟨Nat.le_of_ble_eq_true rfl, Nat.le_of_ble_eq_true rfl⟩) rfl rfl (Nat.le_of_ble_eq_true rfl) dX9_draws__15 (fun H locs hG => ?_)
    rcases of_ite hf with ⟨c4, hf⟩ | ⟨c4, hf⟩
    · refine lv_if_ne (tgt := 24) C.1 C.2.1 dX9_draws__18 (by decide) (fun q => absurd c4 q) (fun _ => ?_)
      refine lv_bipush (v := (-2 : Int32)) C.1 C.2.1 dX9_draws__21 (by decide) ?_
      obtain rfl := Option.some.inj hf
      exact r_iret C hG dX9_draws__23
    · refine lv_if_ne (tgt := 24) C.1 C.2.1 dX9_draws__18 (by decide) (fun _ => ?_) (fun q => absurd q c4)
      refine lv_aload_n C.1 C.2.1 dX9_draws__24 rfl (lv_at hl 0 rfl) ?_
      refine lv_iload_n C.1 C.2.1 dX9_draws__25 rfl (lv_at hl 1 rfl) ?_
      obtain ⟨w5, hw5, hf⟩ := of_bind hf
      refine r_callV0 C hG hl.1 (c0 := 0) (As := [.int x1]) (by decide) (entM_O (n := 35) rfl) rfl (mt_X9_loads l  hw5) (cwV 1 C.2.2.2.2.1 (gd_V tg_5_107 tg_5_109 tgp_44 tg_1_10 tg_5_110) rfl rfl rfl cd_X9_loads ⟨Nat.le_of_ble_eq_true rfl, Nat.le_of_ble_eq_true rfl⟩) rfl rfl (Nat.le_of_ble_eq_true rfl) dX9_draws__26 (fun H locs hG => ?_)
      refine lv_aload_n C.1 C.2.1 dX9_draws__29 rfl (lv_at hl 0 rfl) ?_
      refine lv_iload_n C.1 C.2.1 dX9_draws__30 rfl (lv_at hl 2 rfl) ?_
      refine lv_iload_n C.1 C.2.1 dX9_draws__31 rfl (lv_at hl 3 rfl) ?_
      obtain ⟨w6, hw6, hf⟩ := of_bind hf
      refine r_callV0 C hG hl.1 (c0 := 0) (As := [.int x2, .int x3]) (by decide) (entM_O (n := 35) rfl) rfl (mt_X9_draws l  hw6) (cwV 2 C.2.2.2.2.1 (gd_V tg_5_230 tg_5_232 tgp_63 tg_1_10 tg_5_233) rfl rfl rfl cd_X9_draws ⟨Nat.le_of_ble_eq_true rfl, Nat.le_of_ble_eq_true rfl⟩) rfl rfl (Nat.le_of_ble_eq_true rfl) dX9_draws__32 (fun H locs hG => ?_)
      refine lv_aload_n C.1 C.2.1 dX9_draws__35 rfl (lv_at hl 0 rfl) ?_
      refine lv_iload_n C.1 C.2.1 dX9_draws__36 rfl (lv_at hl 1 rfl) ?_
      obtain ⟨w7, hw7, hf⟩ := of_bind hf
      refine r_callV0 C hG hl.1 (c0 := 0) (As := [.int x1]) (by decide) (entM_O (n := 35) rfl) rfl (mt_X9_saves l  hw7) (cwV 1 C.2.2.2.2.1 (gd_V tg_5_99 tg_5_101 tgp_43 tg_1_10 tg_5_102) rfl rfl rfl cd_X9_saves ⟨Nat.le_of_ble_eq_true rfl, Nat.le_of_ble_eq_true rfl⟩) rfl rfl (Nat.le_of_ble_eq_true rfl) dX9_draws__37 (fun H locs hG => ?_)
      refine lv_aload_n C.1 C.2.1 dX9_draws__40 rfl (lv_at hl 0 rfl) ?_
      refine gf_X9_170 C hG rfl dX9_draws__41 ?_
      obtain rfl := Option.some.inj hf
      exact r_iret C hG dX9_draws__44
set_option maxRecDepth 100000 in
set_option maxHeartbeats 4000000 in
theorem mt_X9_draws_ (l : Launch) {G : GG} {A : Nat → Prop} {B : Nat} {X : va_W} {x1 : Int32} {x2 : Int32} {x3 : Int32} {w : Mem} {out : Int32 × Mem}  (hf : sh_X9_draws_ x1 x2 x3 w = some out) : MetW l yX9_draws_ wc_X9_draws_ rm_X9_draws_ G A 28 B (entM G B w) X [.ref (B + 0), .int x1, .int x2, .int x3] (some (.int out.1)) (entM G B out.2) := by
  refine Met.ofW (cc := cX9_draws_) (maxL := 4) (ret := (some .int)) (by decide) rfl ?_
  intro p e s m args below meth c s₁ B0 hml hv
  obtain ⟨rfl, hEv, hWd⟩ := hv
  have C : CX p s m _ meth c cX9_draws_ 4 RX9 wc_X9_draws_ (some .int) := ⟨B0.exec, B0.bytes, hml, findClass_of_methodNamed B0.named, atoms_spec (ws := wc_X9_draws_) B0.pre, B0.returns, B0.notSynchronized⟩
  have hl := lv_entry [.ref (B + 0), .int x1, .int x2, .int x3] (n := 4) (Nat.le_of_ble_eq_true rfl)
  rw [lg_entry_eq]
  generalize (lg_sl [.ref (B + 0), .int x1, .int x2, .int x3] ++ List.replicate (4 - (lg_sl [.ref (B + 0), .int x1, .int x2, .int x3]).length) Slot.unset).toArray = ls at hl ⊢
  have hl : lv_has ls 4 [(0, .ref (B + 0)), (1, .int x1), (2, .int x2), (3, .int x3)] := hl
  exact kb_X9_draws__0 C  ⟨hEv, hWd, va_S.rf⟩ hl hf
/-! the greatest common divisor: the one recursion -/
abbrev wc_X9_common : List Cond := Cond.code yX9_common cX9_common 2 (some .int) :: TG
def rmc (d : Nat) : Room := { frames := 2 + d, cells := 0, slots := 0, locals := 100 + 40 * d }
abbrev rm_X9_common : Room := { frames := 42, cells := 0, slots := 0, locals := 1700 }
theorem cd_X9_common : yX9_common.cls = RX9 ∧ yX9_common.cls ≠ "java/lang/invoke/MethodHandle" ∧ yX9_common.cls ≠ "java/lang/invoke/VarHandle" ∧ (parseMethodDescriptor yX9_common.desc).map (fun d => d.parameters.length) = some 2 := by decide +kernel
theorem dX9_common_0 : decode cX9_common 0 = .ok (.iload_n 1, 1) := by decide +kernel
theorem dX9_common_1 : decode cX9_common 1 = .ok (.ifCond .ne 7, 3) := by decide +kernel
theorem dX9_common_4 : decode cX9_common 4 = .ok (.iload_n 0, 1) := by decide +kernel
theorem dX9_common_5 : decode cX9_common 5 = .ok (.goto 10, 3) := by decide +kernel
theorem dX9_common_8 : decode cX9_common 8 = .ok (.iload_n 1, 1) := by decide +kernel
theorem dX9_common_9 : decode cX9_common 9 = .ok (.iload_n 0, 1) := by decide +kernel
theorem dX9_common_10 : decode cX9_common 10 = .ok (.iload_n 1, 1) := by decide +kernel
theorem dX9_common_11 : decode cX9_common 11 = .ok (.irem, 1) := by decide +kernel
theorem dX9_common_12 : decode cX9_common 12 = .ok (.invokestatic 293, 3) := by decide +kernel
theorem dX9_common_15 : decode cX9_common 15 = .ok (.ireturn, 1) := by decide +kernel
set_option maxRecDepth 100000 in
set_option maxHeartbeats 4000000 in
theorem mtc_X9_common (l : Launch) {G : GG} {A : Nat → Prop} {N B : Nat} {E : Nat → va_E} {X : va_W} : ∀ (d : Nat) (x0 x1 out : Int32), sh_X9_common d x0 x1 = some out → MetW l yX9_common wc_X9_common (rmc d) G A N B E X [.int x0, .int x1] (some (.int out)) E := by
  intro d
  induction d with
  | zero =>
    intro x0 x1 out hf
    cases hf
  | succ d ih =>
    intro x0 x1 out hf
    have hf : (if x1 = 0 then some x0 else grd (¬ x1 = 0) (sh_X9_common d x1 (remI x0 x1))) = some out := hf
    refine Met.ofW (cc := cX9_common) (maxL := 2) (ret := (some .int)) (by decide) rfl ?_
    intro p e s m args below meth c s₁ B0 hml hv
    obtain ⟨rfl, hEv, hWd⟩ := hv
    have C : CX p s m _ meth c cX9_common 2 RX9 wc_X9_common (some .int) := ⟨B0.exec, B0.bytes, hml, findClass_of_methodNamed B0.named, atoms_spec (ws := wc_X9_common) B0.pre, B0.returns, B0.notSynchronized⟩
    have hl := lv_entry [.int x0, .int x1] (n := 2) (Nat.le_of_ble_eq_true rfl)
    rw [lg_entry_eq]
    generalize (lg_sl [.int x0, .int x1] ++ List.replicate (2 - (lg_sl [.int x0, .int x1]).length) Slot.unset).toArray = ls at hl ⊢
    have hl : lv_has ls 2 [(0, .int x0), (1, .int x1)] := hl
    have hG : Gd s G A N B E X s.heap [] := ⟨hEv, hWd, va_S.rf⟩
    refine lv_iload_n C.1 C.2.1 dX9_common_0 rfl (lv_at hl 1 rfl) ?_
    rcases of_ite hf with ⟨c1, hf⟩ | ⟨c1, hf⟩
    · refine lv_if_ne (tgt := 8) C.1 C.2.1 dX9_common_1 (by decide) (fun q => absurd c1 q) (fun _ => ?_)
      refine lv_iload_n C.1 C.2.1 dX9_common_4 rfl (lv_at hl 0 rfl) ?_
      refine lv_goto (tgt := 15) C.1 C.2.1 dX9_common_5 (by decide) ?_
      obtain rfl := Option.some.inj hf
      exact r_iret C hG dX9_common_15
    · refine lv_if_ne (tgt := 8) C.1 C.2.1 dX9_common_1 (by decide) (fun _ => ?_) (fun q => absurd q c1)
      obtain ⟨c2, hf⟩ := of_grd hf
      refine lv_iload_n C.1 C.2.1 dX9_common_8 rfl (lv_at hl 1 rfl) ?_
      refine lv_iload_n C.1 C.2.1 dX9_common_9 rfl (lv_at hl 0 rfl) ?_
      refine lv_iload_n C.1 C.2.1 dX9_common_10 rfl (lv_at hl 1 rfl) ?_
      refine r_irem C dX9_common_11 c2 ?_
      refine r_callS1 C hG hl.1 (As := [.int x1, .int (remI x0 x1)]) (ih _ _ _ hf) (va_cwS 2 C.2.2.2.2.1 (gd_S tg_6_1 tg_6_2 tg_1_10 tg_6_3) rfl rfl rfl cd_X9_common.2 ⟨?_, ?_⟩) rfl rfl (Nat.le_of_ble_eq_true rfl) dX9_common_12 (fun H locs hG => ?_)
      · show 2 + d + 1 ≤ 2 + (d + 1)
        omega
      · show 8 + (2 + 11) + (100 + 40 * d) ≤ 100 + 40 * (d + 1)
        omega
      · exact r_iret C hG dX9_common_15
theorem mt_X9_common (l : Launch) {G : GG} {A : Nat → Prop} {N B : Nat} {E : Nat → va_E} {X : va_W} {x0 x1 out : Int32} (hf : sh_X9_common 40 x0 x1 = some out) : MetW l yX9_common wc_X9_common rm_X9_common G A N B E X [.int x0, .int x1] (some (.int out)) E := mtc_X9_common l 40 x0 x1 out hf

abbrev wc_X9_odds : List Cond := Cond.code yX9_odds cX9_odds 7 (some .long) :: TG
abbrev rm_X9_odds : Room := { frames := 43, cells := 0, slots := 0, locals := 1721 }
theorem cd_X9_odds : yX9_odds.cls = RX9 ∧ yX9_odds.cls ≠ "java/lang/invoke/MethodHandle" ∧ yX9_odds.cls ≠ "java/lang/invoke/VarHandle" ∧ (parseMethodDescriptor yX9_odds.desc).map (fun d => d.parameters.length) = some 4 := by decide +kernel
theorem dX9_odds_0 : decode cX9_odds 0 = .ok (.iload_n 1, 1) := by decide +kernel
theorem dX9_odds_1 : decode cX9_odds 1 = .ok (.i2l, 1) := by decide +kernel
theorem dX9_odds_2 : decode cX9_odds 2 = .ok (.lconst 1, 1) := by decide +kernel
theorem dX9_odds_3 : decode cX9_odds 3 = .ok (.ldc2_w 288, 3) := by decide +kernel
theorem dX9_odds_6 : decode cX9_odds 6 = .ok (.invokestatic 93, 3) := by decide +kernel
theorem dX9_odds_9 : decode cX9_odds 9 = .ok (.ifCond .eq 26, 3) := by decide +kernel
theorem dX9_odds_12 : decode cX9_odds 12 = .ok (.iload_n 3, 1) := by decide +kernel
theorem dX9_odds_13 : decode cX9_odds 13 = .ok (.i2l, 1) := by decide +kernel
theorem dX9_odds_14 : decode cX9_odds 14 = .ok (.lconst 1, 1) := by decide +kernel
theorem dX9_odds_15 : decode cX9_odds 15 = .ok (.ldc2_w 296, 3) := by decide +kernel
theorem dX9_odds_18 : decode cX9_odds 18 = .ok (.invokestatic 93, 3) := by decide +kernel
theorem dX9_odds_21 : decode cX9_odds 21 = .ok (.ifCond .eq 14, 3) := by decide +kernel
theorem dX9_odds_24 : decode cX9_odds 24 = .ok (.iload 4, 2) := by decide +kernel
theorem dX9_odds_26 : decode cX9_odds 26 = .ok (.i2l, 1) := by decide +kernel
theorem dX9_odds_27 : decode cX9_odds 27 = .ok (.lconst 0, 1) := by decide +kernel
theorem dX9_odds_28 : decode cX9_odds 28 = .ok (.lconst 1, 1) := by decide +kernel
theorem dX9_odds_29 : decode cX9_odds 29 = .ok (.invokestatic 93, 3) := by decide +kernel
theorem dX9_odds_32 : decode cX9_odds 32 = .ok (.ifCond .ne 7, 3) := by decide +kernel
theorem dX9_odds_35 : decode cX9_odds 35 = .ok (.ldc2_w 298, 3) := by decide +kernel
theorem dX9_odds_38 : decode cX9_odds 38 = .ok (.lreturn, 1) := by decide +kernel
theorem dX9_odds_39 : decode cX9_odds 39 = .ok (.iconst 0, 1) := by decide +kernel
theorem dX9_odds_40 : decode cX9_odds 40 = .ok (.istore 5, 2) := by decide +kernel
theorem dX9_odds_42 : decode cX9_odds 42 = .ok (.iconst 0, 1) := by decide +kernel
theorem dX9_odds_43 : decode cX9_odds 43 = .ok (.istore 6, 2) := by decide +kernel
theorem dX9_odds_45 : decode cX9_odds 45 = .ok (.iload 6, 2) := by decide +kernel
theorem dX9_odds_47 : decode cX9_odds 47 = .ok (.iload_n 3, 1) := by decide +kernel
theorem dX9_odds_48 : decode cX9_odds 48 = .ok (.if_icmp .ge 40, 3) := by decide +kernel
theorem dX9_odds_51 : decode cX9_odds 51 = .ok (.aload_n 0, 1) := by decide +kernel
theorem dX9_odds_52 : decode cX9_odds 52 = .ok (.iconst 0, 1) := by decide +kernel
theorem dX9_odds_53 : decode cX9_odds 53 = .ok (.putfield 170, 3) := by decide +kernel
theorem dX9_odds_56 : decode cX9_odds 56 = .ok (.aload_n 0, 1) := by decide +kernel
theorem dX9_odds_57 : decode cX9_odds 57 = .ok (.iload_n 1, 1) := by decide +kernel
theorem dX9_odds_58 : decode cX9_odds 58 = .ok (.iload_n 2, 1) := by decide +kernel
theorem dX9_odds_59 : decode cX9_odds 59 = .ok (.iload 6, 2) := by decide +kernel
theorem dX9_odds_61 : decode cX9_odds 61 = .ok (.iadd, 1) := by decide +kernel
theorem dX9_odds_62 : decode cX9_odds 62 = .ok (.invokevirtual 290, 3) := by decide +kernel
theorem dX9_odds_65 : decode cX9_odds 65 = .ok (.iload 5, 2) := by decide +kernel
theorem dX9_odds_67 : decode cX9_odds 67 = .ok (.aload_n 0, 1) := by decide +kernel
theorem dX9_odds_68 : decode cX9_odds 68 = .ok (.invokevirtual 176, 3) := by decide +kernel
theorem dX9_odds_71 : decode cX9_odds 71 = .ok (.ifCond .ne 7, 3) := by decide +kernel
theorem dX9_odds_74 : decode cX9_odds 74 = .ok (.iconst 1, 1) := by decide +kernel
theorem dX9_odds_75 : decode cX9_odds 75 = .ok (.goto 4, 3) := by decide +kernel
theorem dX9_odds_78 : decode cX9_odds 78 = .ok (.iconst 0, 1) := by decide +kernel
theorem dX9_odds_79 : decode cX9_odds 79 = .ok (.iadd, 1) := by decide +kernel
theorem dX9_odds_80 : decode cX9_odds 80 = .ok (.istore 5, 2) := by decide +kernel
theorem dX9_odds_82 : decode cX9_odds 82 = .ok (.iinc 6 1, 3) := by decide +kernel
theorem dX9_odds_85 : decode cX9_odds 85 = .ok (.goto (-40), 3) := by decide +kernel
theorem dX9_odds_88 : decode cX9_odds 88 = .ok (.iload 4, 2) := by decide +kernel
theorem dX9_odds_90 : decode cX9_odds 90 = .ok (.ifCond .ne 8, 3) := by decide +kernel
theorem dX9_odds_93 : decode cX9_odds 93 = .ok (.iload 5, 2) := by decide +kernel
theorem dX9_odds_95 : decode cX9_odds 95 = .ok (.goto 4, 3) := by decide +kernel
theorem dX9_odds_98 : decode cX9_odds 98 = .ok (.iload_n 3, 1) := by decide +kernel
theorem dX9_odds_99 : decode cX9_odds 99 = .ok (.iload_n 3, 1) := by decide +kernel
theorem dX9_odds_100 : decode cX9_odds 100 = .ok (.iload 5, 2) := by decide +kernel
theorem dX9_odds_102 : decode cX9_odds 102 = .ok (.invokestatic 293, 3) := by decide +kernel
theorem dX9_odds_105 : decode cX9_odds 105 = .ok (.idiv, 1) := by decide +kernel
theorem dX9_odds_106 : decode cX9_odds 106 = .ok (.i2l, 1) := by decide +kernel
theorem dX9_odds_107 : decode cX9_odds 107 = .ok (.lreturn, 1) := by decide +kernel
set_option maxRecDepth 100000 in
set_option maxHeartbeats 4000000 in
theorem kb_X9_odds_45 {x1 : Int32} {x2 : Int32} {x3 : Int32} {x4 : Int32} {st : Int32 × Int32 × Mem} {r : (Int32 × Int32 × Mem) ⊕ ((Int32 × Mem))} {H : Heap} {locs : List Loc} {ls : Array Slot} (C : CX p s m args meth c cX9_odds 7 RX9 wc_X9_odds (some .long))  (hG : Gd s G A 28 B (entM G B st.2.2) X H locs) (hl : lv_has ls 7 [(0, .ref (B + 0)), (1, .int x1), (2, .int x2), (3, .int x3), (4, .int x4), (5, .int st.1), (6, .int st.2.1)]) (hf : sh_X9_odds_s45 x1 x2 x3 x4 st = some r)
    (kL : ∀ st' : Int32 × Int32 × Mem, r = Sum.inl st' → ∀ (H : Heap) (locs : List Loc) (ls : Array Slot), Gd s G A 28 B (entM G B st'.2.2) X H locs → lv_has ls 7 [(0, .ref (B + 0)), (1, .int x1), (2, .int x2), (3, .int x3), (4, .int x4), (5, .int st'.1), (6, .int st'.2.1)] → W p l e rm_X9_odds s m args below meth c H locs 0 0 Q (F0 m 45 ls []))
    (kX0 : ∀ y' : Int32 × Mem, r = Sum.inr y' → ∀ (H : Heap) (locs : List Loc) (ls : Array Slot), Gd s G A 28 B (entM G B y'.2) X H locs → lv_has ls 7 [(3, .int x3), (4, .int x4), (5, .int y'.1)] → W p l e rm_X9_odds s m args below meth c H locs 0 0 Q (F0 m 88 ls [])) :
    W p l e rm_X9_odds s m args below meth c H locs 0 0 Q (F0 m 45 ls []) := by
  refine lv_iload C.1 C.2.1 dX9_odds_45 (lv_at hl 6 rfl) ?_
  refine lv_iload_n C.1 C.2.1 dX9_odds_47 rfl (lv_at hl 3 rfl) ?_
  rcases of_ite hf with ⟨c1, hf⟩ | ⟨c1, hf⟩
  · refine lv_icmp_ge (tgt := 88) C.1 C.2.1 dX9_odds_48 (by decide) (fun _ => ?_) (fun q => absurd c1 q)
    obtain rfl := Option.some.inj hf
    exact kX0 _ rfl _ _ _ hG (lv_sub hl [3, 4, 5] rfl)
  · refine lv_icmp_ge (tgt := 88) C.1 C.2.1 dX9_odds_48 (by decide) (fun q => absurd q c1) (fun _ => ?_)
    refine lv_aload_n C.1 C.2.1 dX9_odds_51 rfl (lv_at hl 0 rfl) ?_
    refine lv_iconst (v := nI 0) C.1 C.2.1 dX9_odds_52 (by decide) ?_
    obtain ⟨w2, ew2, hf⟩ := of_letv hf
    refine pf_X9_170 C hG rfl dX9_odds_53 (fun H locs hG => ?_)
    rw [← ew2] at hG
    refine lv_aload_n C.1 C.2.1 dX9_odds_56 rfl (lv_at hl 0 rfl) ?_
    refine lv_iload_n C.1 C.2.1 dX9_odds_57 rfl (lv_at hl 1 rfl) ?_
    refine lv_iload_n C.1 C.2.1 dX9_odds_58 rfl (lv_at hl 2 rfl) ?_
    refine lv_iload C.1 C.2.1 dX9_odds_59 (lv_at hl 6 rfl) ?_
    refine lv_iadd C.1 C.2.1 dX9_odds_61 ?_
    obtain ⟨w3, hw3, hf⟩ := of_bind hf
    refine r_callV0 C hG hl.1 (c0 := 0) (As := [.int x1, .int (x2 + st.2.1)]) (by decide) (entM_O (n := 35) rfl) rfl (mt_X9_draws l  hw3) (cwV 2 C.2.2.2.2.1 (gd_V tg_5_230 tg_5_232 tgp_63 tg_1_10 tg_5_233) rfl rfl rfl cd_X9_draws ⟨Nat.le_of_ble_eq_true rfl, Nat.le_of_ble_eq_true rfl⟩) rfl rfl (Nat.le_of_ble_eq_true rfl) dX9_odds_62 (fun H locs hG => ?_)
    refine lv_iload C.1 C.2.1 dX9_odds_65 (lv_at hl 5 rfl) ?_
    refine lv_aload_n C.1 C.2.1 dX9_odds_67 rfl (lv_at hl 0 rfl) ?_
    obtain ⟨v4, hv4, hf⟩ := of_bind hf
    refine r_callV1 C hG hl.1 (c0 := 0) (As := []) (by decide) (entM_O (n := 35) rfl) rfl (mt_X9_circles l  hv4) (cwV 0 C.2.2.2.2.1 (gd_V tg_5_88 tg_5_90 tgp_41 tg_1_10 tg_5_91) rfl rfl rfl cd_X9_circles ⟨Nat.le_of_ble_eq_true rfl, Nat.le_of_ble_eq_true rfl⟩) rfl rfl (Nat.le_of_ble_eq_true rfl) dX9_odds_68 (fun H locs hG => ?_)
    rcases of_ite hf with ⟨c5, hf⟩ | ⟨c5, hf⟩
    · refine lv_if_ne (tgt := 78) C.1 C.2.1 dX9_odds_71 (by decide) (fun q => absurd c5 q) (fun _ => ?_)
      refine lv_iconst (v := nI 1) C.1 C.2.1 dX9_odds_74 (by decide) ?_
      refine lv_goto (tgt := 79) C.1 C.2.1 dX9_odds_75 (by decide) ?_
      refine lv_iadd C.1 C.2.1 dX9_odds_79 ?_
      obtain ⟨v8, ev8, hf⟩ := of_letv hf
      refine r_top ev8 ?_
      refine lv_istore (lv' := [(5, .int v8), (0, .ref (B + 0)), (1, .int x1), (2, .int x2), (3, .int x3), (4, .int x4), (6, .int st.2.1)]) C.1 C.2.1 dX9_odds_80 hl (by decide) rfl (fun ls hl => ?_)
      obtain ⟨v9, ev9, hf⟩ := of_letv hf
      refine lv_iinc (v := v9) (lv' := [(6, .int v9), (5, .int v8), (0, .ref (B + 0)), (1, .int x1), (2, .int x2), (3, .int x3), (4, .int x4)]) C.1 C.2.1 dX9_odds_82 hl (k := 6) rfl (by rw [ev9, show Int32.ofInt (1) = nI 1 from by decide]) (by decide) rfl (fun ls hl => ?_)
      refine lv_goto (tgt := 45) C.1 C.2.1 dX9_odds_85 (by decide) ?_
      obtain rfl := Option.some.inj hf
      exact kL _ rfl _ _ _ hG (lv_sub hl [2, 3, 4, 5, 6, 1, 0] rfl)
    · refine lv_if_ne (tgt := 78) C.1 C.2.1 dX9_odds_71 (by decide) (fun _ => ?_) (fun q => absurd q c5)
      refine lv_iconst (v := nI 0) C.1 C.2.1 dX9_odds_78 (by decide) ?_
      refine lv_iadd C.1 C.2.1 dX9_odds_79 ?_
      obtain ⟨v6, ev6, hf⟩ := of_letv hf
      refine r_top ev6 ?_
      refine lv_istore (lv' := [(5, .int v6), (0, .ref (B + 0)), (1, .int x1), (2, .int x2), (3, .int x3), (4, .int x4), (6, .int st.2.1)]) C.1 C.2.1 dX9_odds_80 hl (by decide) rfl (fun ls hl => ?_)
      obtain ⟨v7, ev7, hf⟩ := of_letv hf
      refine lv_iinc (v := v7) (lv' := [(6, .int v7), (5, .int v6), (0, .ref (B + 0)), (1, .int x1), (2, .int x2), (3, .int x3), (4, .int x4)]) C.1 C.2.1 dX9_odds_82 hl (k := 6) rfl (by rw [ev7, show Int32.ofInt (1) = nI 1 from by decide]) (by decide) rfl (fun ls hl => ?_)
      refine lv_goto (tgt := 45) C.1 C.2.1 dX9_odds_85 (by decide) ?_
      obtain rfl := Option.some.inj hf
      exact kL _ rfl _ _ _ hG (lv_sub hl [2, 3, 4, 5, 6, 1, 0] rfl)
set_option maxRecDepth 100000 in
set_option maxHeartbeats 4000000 in
theorem kl_X9_odds_45 {x1 : Int32} {x2 : Int32} {x3 : Int32} {x4 : Int32} (C : CX p s m args meth c cX9_odds 7 RX9 wc_X9_odds (some .long))  : ∀ (n : Nat) (st : Int32 × Int32 × Mem) (x : (Int32 × Mem)) (H : Heap) (locs : List Loc) (ls : Array Slot), Gd s G A 28 B (entM G B st.2.2) X H locs → lv_has ls 7 [(0, .ref (B + 0)), (1, .int x1), (2, .int x2), (3, .int x3), (4, .int x4), (5, .int st.1), (6, .int st.2.1)] → lpw (sh_X9_odds_s45 x1 x2 x3 x4) n st = some x →
    (∀ y' : Int32 × Mem, x = y' → ∀ (H : Heap) (locs : List Loc) (ls : Array Slot), Gd s G A 28 B (entM G B y'.2) X H locs → lv_has ls 7 [(3, .int x3), (4, .int x4), (5, .int y'.1)] → W p l e rm_X9_odds s m args below meth c H locs 0 0 Q (F0 m 88 ls [])) → W p l e rm_X9_odds s m args below meth c H locs 0 0 Q (F0 m 45 ls []) := by
  intro n
  induction n with
  | zero =>
    intro st x H locs ls hG hl hf
    cases hf
  | succ n ih =>
    intro st x H locs ls hG hl hf kX0
    obtain ⟨r, hr, hh⟩ := of_lpw hf
    refine kb_X9_odds_45 C  hG hl hr (fun st2 e1 H locs ls hG hl => ?_) (fun y2 e1 H locs ls hG hl => ?_)
    · rcases hh with ⟨s3, e2, hh⟩ | e2
      · rw [e2] at e1
        cases e1
        exact ih _ _ _ _ _ hG hl hh kX0
      · rw [e2] at e1
        cases e1
    · rcases hh with ⟨s3, e2, hh⟩ | e2
      · rw [e2] at e1
        cases e1
      · rw [e2] at e1
        cases e1
        exact kX0 _ rfl _ _ _ hG hl
set_option maxRecDepth 100000 in
set_option maxHeartbeats 4000000 in
theorem kb_X9_odds_99 {x3 : Int32} {x5 : Int32} {s0 : Int32} {w : Mem} {out : Int64 × Mem} {H : Heap} {locs : List Loc} {ls : Array Slot} (C : CX p s m args meth c cX9_odds 7 RX9 wc_X9_odds (some .long))  (hG : Gd s G A 28 B (entM G B w) X H locs) (hl : lv_has ls 7 [(3, .int x3), (5, .int x5)]) (hf : sh_X9_odds_j99 x3 x5 s0 w = some out) :
    W p l e rm_X9_odds s m args below meth c H locs 0 0 (MQ below (CPost G A 28 B (entM G B out.2) X (some (.long out.1))) args s 0 0 A) (F0 m 99 ls [.int s0]) := by
  refine lv_iload_n C.1 C.2.1 dX9_odds_99 rfl (lv_at hl 0 rfl) ?_
  refine lv_iload C.1 C.2.1 dX9_odds_100 (lv_at hl 1 rfl) ?_
  obtain ⟨v1, hv1, hf⟩ := of_bind hf
  refine r_callS1 C hG hl.1 (As := [.int x3, .int x5]) (mt_X9_common l  hv1) (va_cwS 2 C.2.2.2.2.1 (gd_S tg_6_1 tg_6_2 tg_1_10 tg_6_3) rfl rfl rfl cd_X9_common.2 ⟨Nat.le_of_ble_eq_true rfl, Nat.le_of_ble_eq_true rfl⟩) rfl rfl (Nat.le_of_ble_eq_true rfl) dX9_odds_102 (fun H locs hG => ?_)
  obtain ⟨c2, hf⟩ := of_grd hf
  refine lv_idiv C.1 C.2.1 dX9_odds_105 c2 ?_
  refine lv_i2l C.1 C.2.1 dX9_odds_106 rfl ?_
  obtain rfl := Option.some.inj hf
  exact r_lret C hG dX9_odds_107
set_option maxRecDepth 100000 in
set_option maxHeartbeats 4000000 in
theorem kb_X9_odds_0 {x1 : Int32} {x2 : Int32} {x3 : Int32} {x4 : Int32} {w : Mem} {out : Int64 × Mem} {H : Heap} {locs : List Loc} {ls : Array Slot} (C : CX p s m args meth c cX9_odds 7 RX9 wc_X9_odds (some .long))  (hG : Gd s G A 28 B (entM G B w) X H locs) (hl : lv_has ls 7 [(0, .ref (B + 0)), (1, .int x1), (2, .int x2), (3, .int x3), (4, .int x4)]) (hf : sh_X9_odds x1 x2 x3 x4 w = some out) :
    W p l e rm_X9_odds s m args below meth c H locs 0 0 (MQ below (CPost G A 28 B (entM G B out.2) X (some (.long out.1))) args s 0 0 A) (F0 m 0 ls []) := by
  refine lv_iload_n C.1 C.2.1 dX9_odds_0 rfl (lv_at hl 1 rfl) ?_
  refine lv_i2l C.1 C.2.1 dX9_odds_1 rfl ?_
  refine lv_lconst (v := lN 1) C.1 C.2.1 dX9_odds_2 rfl ?_
  refine lv_ldc2 (v := lN 24) C.1 C.2.1 C.2.2.2.1 (C.2.2.2.2.1 _ (List.mem_cons_of_mem _ tg_5_229)) dX9_odds_3 ?_
  obtain ⟨v1, hv1, hf⟩ := of_bind hf
  refine r_callS1 C hG hl.1 (As := [.long x1.toInt64, .long (lN 1), .long (lN 24)]) (mt_X9_isIn l  hv1) (va_cwS 3 C.2.2.2.2.1 (gd_S tg_4_195 tg_4_196 tg_1_10 tg_4_197) rfl rfl rfl cd_X9_isIn.2 ⟨Nat.le_of_ble_eq_true rfl, Nat.le_of_ble_eq_true rfl⟩) rfl rfl (Nat.le_of_ble_eq_true rfl) dX9_odds_6 (fun H locs hG => ?_)
  rcases of_ite hf with ⟨c2, hf⟩ | ⟨c2, hf⟩
  · refine lv_if_eq (tgt := 35) C.1 C.2.1 dX9_odds_9 (by decide) (fun _ => ?_) (fun q => absurd c2 q)
    refine lv_ldc2 (v := (-9223372036854775808 : Int64)) C.1 C.2.1 C.2.2.2.1 (C.2.2.2.2.1 _ (List.mem_cons_of_mem _ tg_6_0)) dX9_odds_35 ?_
    obtain rfl := Option.some.inj hf
    exact r_lret C hG dX9_odds_38
  · refine lv_if_eq (tgt := 35) C.1 C.2.1 dX9_odds_9 (by decide) (fun q => absurd q c2) (fun _ => ?_)
    refine lv_iload_n C.1 C.2.1 dX9_odds_12 rfl (lv_at hl 3 rfl) ?_
    refine lv_i2l C.1 C.2.1 dX9_odds_13 rfl ?_
    refine lv_lconst (v := lN 1) C.1 C.2.1 dX9_odds_14 rfl ?_
    refine lv_ldc2 (v := lN 30) C.1 C.2.1 C.2.2.2.1 (C.2.2.2.2.1 _ (List.mem_cons_of_mem _ tg_5_239)) dX9_odds_15 ?_
    obtain ⟨v3, hv3, hf⟩ := of_bind hf
    refine r_callS1 C hG hl.1 (As := [.long x3.toInt64, .long (lN 1), .long (lN 30)]) (mt_X9_isIn l  hv3) (va_cwS 3 C.2.2.2.2.1 (gd_S tg_4_195 tg_4_196 tg_1_10 tg_4_197) rfl rfl rfl cd_X9_isIn.2 ⟨Nat.le_of_ble_eq_true rfl, Nat.le_of_ble_eq_true rfl⟩) rfl rfl (Nat.le_of_ble_eq_true rfl) dX9_odds_18 (fun H locs hG => ?_)
    rcases of_ite hf with ⟨c4, hf⟩ | ⟨c4, hf⟩
    · refine lv_if_eq (tgt := 35) C.1 C.2.1 dX9_odds_21 (by decide) (fun _ => ?_) (fun q => absurd c4 q)
      refine lv_ldc2 (v := (-9223372036854775808 : Int64)) C.1 C.2.1 C.2.2.2.1 (C.2.2.2.2.1 _ (List.mem_cons_of_mem _ tg_6_0)) dX9_odds_35 ?_
      obtain rfl := Option.some.inj hf
      exact r_lret C hG dX9_odds_38
    · refine lv_if_eq (tgt := 35) C.1 C.2.1 dX9_odds_21 (by decide) (fun q => absurd q c4) (fun _ => ?_)
      refine lv_iload C.1 C.2.1 dX9_odds_24 (lv_at hl 4 rfl) ?_
      refine lv_i2l C.1 C.2.1 dX9_odds_26 rfl ?_
      refine lv_lconst (v := lN 0) C.1 C.2.1 dX9_odds_27 rfl ?_
      refine lv_lconst (v := lN 1) C.1 C.2.1 dX9_odds_28 rfl ?_
      obtain ⟨v5, hv5, hf⟩ := of_bind hf
      refine r_callS1 C hG hl.1 (As := [.long x4.toInt64, .long (lN 0), .long (lN 1)]) (mt_X9_isIn l  hv5) (va_cwS 3 C.2.2.2.2.1 (gd_S tg_4_195 tg_4_196 tg_1_10 tg_4_197) rfl rfl rfl cd_X9_isIn.2 ⟨Nat.le_of_ble_eq_true rfl, Nat.le_of_ble_eq_true rfl⟩) rfl rfl (Nat.le_of_ble_eq_true rfl) dX9_odds_29 (fun H locs hG => ?_)
      rcases of_ite hf with ⟨c6, hf⟩ | ⟨c6, hf⟩
      · refine lv_if_ne (tgt := 39) C.1 C.2.1 dX9_odds_32 (by decide) (fun q => absurd c6 q) (fun _ => ?_)
        refine lv_ldc2 (v := (-9223372036854775808 : Int64)) C.1 C.2.1 C.2.2.2.1 (C.2.2.2.2.1 _ (List.mem_cons_of_mem _ tg_6_0)) dX9_odds_35 ?_
        obtain rfl := Option.some.inj hf
        exact r_lret C hG dX9_odds_38
      · refine lv_if_ne (tgt := 39) C.1 C.2.1 dX9_odds_32 (by decide) (fun _ => ?_) (fun q => absurd q c6)
        refine lv_iconst (v := nI 0) C.1 C.2.1 dX9_odds_39 (by decide) ?_
        refine lv_istore (lv' := [(5, .int (nI 0)), (0, .ref (B + 0)), (1, .int x1), (2, .int x2), (3, .int x3), (4, .int x4)]) C.1 C.2.1 dX9_odds_40 hl (by decide) rfl (fun ls hl => ?_)
        refine lv_iconst (v := nI 0) C.1 C.2.1 dX9_odds_42 (by decide) ?_
        refine lv_istore (lv' := [(6, .int (nI 0)), (5, .int (nI 0)), (0, .ref (B + 0)), (1, .int x1), (2, .int x2), (3, .int x3), (4, .int x4)]) C.1 C.2.1 dX9_odds_43 hl (by decide) rfl (fun ls hl => ?_)
        obtain ⟨ex7, hex7, hf⟩ := of_bind hf
        refine kl_X9_odds_45 C  FU (nI 0, nI 0, w) ex7 _ _ _ hG (lv_sub hl [2, 3, 4, 5, 6, 1, 0] rfl) hex7 (fun y e0 H locs ls hG hl => ?_)
        subst e0
        refine lv_iload C.1 C.2.1 dX9_odds_88 (lv_at hl 1 rfl) ?_
        rcases of_ite hf with ⟨c8, hf⟩ | ⟨c8, hf⟩
        · refine lv_if_ne (tgt := 98) C.1 C.2.1 dX9_odds_90 (by decide) (fun q => absurd c8 q) (fun _ => ?_)
          refine lv_iload C.1 C.2.1 dX9_odds_93 (lv_at hl 2 rfl) ?_
          refine lv_goto (tgt := 99) C.1 C.2.1 dX9_odds_95 (by decide) ?_
          exact kb_X9_odds_99 C  hG (lv_sub hl [0, 2] rfl) hf
        · refine lv_if_ne (tgt := 98) C.1 C.2.1 dX9_odds_90 (by decide) (fun _ => ?_) (fun q => absurd q c8)
          refine lv_iload_n C.1 C.2.1 dX9_odds_98 rfl (lv_at hl 0 rfl) ?_
          exact kb_X9_odds_99 C  hG (lv_sub hl [0, 2] rfl) hf
set_option maxRecDepth 100000 in
set_option maxHeartbeats 4000000 in
theorem mt_X9_odds (l : Launch) {G : GG} {A : Nat → Prop} {B : Nat} {X : va_W} {x1 : Int32} {x2 : Int32} {x3 : Int32} {x4 : Int32} {w : Mem} {out : Int64 × Mem}  (hf : sh_X9_odds x1 x2 x3 x4 w = some out) : MetW l yX9_odds wc_X9_odds rm_X9_odds G A 28 B (entM G B w) X [.ref (B + 0), .int x1, .int x2, .int x3, .int x4] (some (.long out.1)) (entM G B out.2) := by
  refine Met.ofW (cc := cX9_odds) (maxL := 7) (ret := (some .long)) (by decide) rfl ?_
  intro p e s m args below meth c s₁ B0 hml hv
  obtain ⟨rfl, hEv, hWd⟩ := hv
  have C : CX p s m _ meth c cX9_odds 7 RX9 wc_X9_odds (some .long) := ⟨B0.exec, B0.bytes, hml, findClass_of_methodNamed B0.named, atoms_spec (ws := wc_X9_odds) B0.pre, B0.returns, B0.notSynchronized⟩
  have hl := lv_entry [.ref (B + 0), .int x1, .int x2, .int x3, .int x4] (n := 7) (Nat.le_of_ble_eq_true rfl)
  rw [lg_entry_eq]
  generalize (lg_sl [.ref (B + 0), .int x1, .int x2, .int x3, .int x4] ++ List.replicate (7 - (lg_sl [.ref (B + 0), .int x1, .int x2, .int x3, .int x4]).length) Slot.unset).toArray = ls at hl ⊢
  have hl : lv_has ls 7 [(0, .ref (B + 0)), (1, .int x1), (2, .int x2), (3, .int x3), (4, .int x4)] := hl
  exact kb_X9_odds_0 C  ⟨hEv, hWd, va_S.rf⟩ hl hf
abbrev wc_X9_plan : List Cond := Cond.code yX9_plan cX9_plan 3 (some .int) :: TG
abbrev rm_X9_plan : Room := { frames := 3, cells := 0, slots := 0, locals := 125 }
theorem cd_X9_plan : yX9_plan.cls = RX9 ∧ yX9_plan.cls ≠ "java/lang/invoke/MethodHandle" ∧ yX9_plan.cls ≠ "java/lang/invoke/VarHandle" ∧ (parseMethodDescriptor yX9_plan.desc).map (fun d => d.parameters.length) = some 2 := by decide +kernel
theorem dX9_plan_0 : decode cX9_plan 0 = .ok (.iload_n 1, 1) := by decide +kernel
theorem dX9_plan_1 : decode cX9_plan 1 = .ok (.iconst (-1), 1) := by decide +kernel
theorem dX9_plan_2 : decode cX9_plan 2 = .ok (.if_icmp .ne 13, 3) := by decide +kernel
theorem dX9_plan_5 : decode cX9_plan 5 = .ok (.aload_n 0, 1) := by decide +kernel
theorem dX9_plan_6 : decode cX9_plan 6 = .ok (.getfield 11, 3) := by decide +kernel
theorem dX9_plan_9 : decode cX9_plan 9 = .ok (.bipush 113, 2) := by decide +kernel
theorem dX9_plan_11 : decode cX9_plan 11 = .ok (.iconst 0, 1) := by decide +kernel
theorem dX9_plan_12 : decode cX9_plan 12 = .ok (.iastore, 1) := by decide +kernel
theorem dX9_plan_13 : decode cX9_plan 13 = .ok (.iconst 0, 1) := by decide +kernel
theorem dX9_plan_14 : decode cX9_plan 14 = .ok (.ireturn, 1) := by decide +kernel
theorem dX9_plan_15 : decode cX9_plan 15 = .ok (.iload_n 1, 1) := by decide +kernel
theorem dX9_plan_16 : decode cX9_plan 16 = .ok (.i2l, 1) := by decide +kernel
theorem dX9_plan_17 : decode cX9_plan 17 = .ok (.lconst 0, 1) := by decide +kernel
theorem dX9_plan_18 : decode cX9_plan 18 = .ok (.ldc2_w 103, 3) := by decide +kernel
theorem dX9_plan_21 : decode cX9_plan 21 = .ok (.invokestatic 93, 3) := by decide +kernel
theorem dX9_plan_24 : decode cX9_plan 24 = .ok (.ifCond .ne 5, 3) := by decide +kernel
theorem dX9_plan_27 : decode cX9_plan 27 = .ok (.iconst (-1), 1) := by decide +kernel
theorem dX9_plan_28 : decode cX9_plan 28 = .ok (.ireturn, 1) := by decide +kernel
theorem dX9_plan_29 : decode cX9_plan 29 = .ok (.iload_n 2, 1) := by decide +kernel
theorem dX9_plan_30 : decode cX9_plan 30 = .ok (.i2l, 1) := by decide +kernel
theorem dX9_plan_31 : decode cX9_plan 31 = .ok (.iload_n 1, 1) := by decide +kernel
theorem dX9_plan_32 : decode cX9_plan 32 = .ok (.iconst 1, 1) := by decide +kernel
theorem dX9_plan_33 : decode cX9_plan 33 = .ok (.if_icmp .ne 7, 3) := by decide +kernel
theorem dX9_plan_36 : decode cX9_plan 36 = .ok (.lconst 1, 1) := by decide +kernel
theorem dX9_plan_37 : decode cX9_plan 37 = .ok (.goto 4, 3) := by decide +kernel
theorem dX9_plan_40 : decode cX9_plan 40 = .ok (.lconst 0, 1) := by decide +kernel
theorem dX9_plan_41 : decode cX9_plan 41 = .ok (.iload_n 1, 1) := by decide +kernel
theorem dX9_plan_42 : decode cX9_plan 42 = .ok (.ifCond .ne 9, 3) := by decide +kernel
theorem dX9_plan_45 : decode cX9_plan 45 = .ok (.ldc2_w 105, 3) := by decide +kernel
theorem dX9_plan_48 : decode cX9_plan 48 = .ok (.goto 17, 3) := by decide +kernel
theorem dX9_plan_51 : decode cX9_plan 51 = .ok (.iload_n 1, 1) := by decide +kernel
theorem dX9_plan_52 : decode cX9_plan 52 = .ok (.iconst 1, 1) := by decide +kernel
theorem dX9_plan_53 : decode cX9_plan 53 = .ok (.if_icmp .ne 9, 3) := by decide +kernel
theorem dX9_plan_56 : decode cX9_plan 56 = .ok (.ldc2_w 107, 3) := by decide +kernel
theorem dX9_plan_59 : decode cX9_plan 59 = .ok (.goto 6, 3) := by decide +kernel
theorem dX9_plan_62 : decode cX9_plan 62 = .ok (.ldc2_w 97, 3) := by decide +kernel
theorem dX9_plan_65 : decode cX9_plan 65 = .ok (.invokestatic 93, 3) := by decide +kernel
theorem dX9_plan_68 : decode cX9_plan 68 = .ok (.ifCond .ne 6, 3) := by decide +kernel
theorem dX9_plan_71 : decode cX9_plan 71 = .ok (.bipush (-2), 2) := by decide +kernel
theorem dX9_plan_73 : decode cX9_plan 73 = .ok (.ireturn, 1) := by decide +kernel
theorem dX9_plan_74 : decode cX9_plan 74 = .ok (.aload_n 0, 1) := by decide +kernel
theorem dX9_plan_75 : decode cX9_plan 75 = .ok (.getfield 11, 3) := by decide +kernel
theorem dX9_plan_78 : decode cX9_plan 78 = .ok (.bipush 113, 2) := by decide +kernel
theorem dX9_plan_80 : decode cX9_plan 80 = .ok (.iaload, 1) := by decide +kernel
theorem dX9_plan_81 : decode cX9_plan 81 = .ok (.bipush 8, 2) := by decide +kernel
theorem dX9_plan_83 : decode cX9_plan 83 = .ok (.if_icmp .ne 6, 3) := by decide +kernel
theorem dX9_plan_86 : decode cX9_plan 86 = .ok (.bipush (-4), 2) := by decide +kernel
theorem dX9_plan_88 : decode cX9_plan 88 = .ok (.ireturn, 1) := by decide +kernel
theorem dX9_plan_89 : decode cX9_plan 89 = .ok (.aload_n 0, 1) := by decide +kernel
theorem dX9_plan_90 : decode cX9_plan 90 = .ok (.getfield 11, 3) := by decide +kernel
theorem dX9_plan_93 : decode cX9_plan 93 = .ok (.bipush 114, 2) := by decide +kernel
theorem dX9_plan_95 : decode cX9_plan 95 = .ok (.iconst 2, 1) := by decide +kernel
theorem dX9_plan_96 : decode cX9_plan 96 = .ok (.aload_n 0, 1) := by decide +kernel
theorem dX9_plan_97 : decode cX9_plan 97 = .ok (.getfield 11, 3) := by decide +kernel
theorem dX9_plan_100 : decode cX9_plan 100 = .ok (.bipush 113, 2) := by decide +kernel
theorem dX9_plan_102 : decode cX9_plan 102 = .ok (.iaload, 1) := by decide +kernel
theorem dX9_plan_103 : decode cX9_plan 103 = .ok (.imul, 1) := by decide +kernel
theorem dX9_plan_104 : decode cX9_plan 104 = .ok (.iadd, 1) := by decide +kernel
theorem dX9_plan_105 : decode cX9_plan 105 = .ok (.iload_n 1, 1) := by decide +kernel
theorem dX9_plan_106 : decode cX9_plan 106 = .ok (.iastore, 1) := by decide +kernel
theorem dX9_plan_107 : decode cX9_plan 107 = .ok (.aload_n 0, 1) := by decide +kernel
theorem dX9_plan_108 : decode cX9_plan 108 = .ok (.getfield 11, 3) := by decide +kernel
theorem dX9_plan_111 : decode cX9_plan 111 = .ok (.bipush 115, 2) := by decide +kernel
theorem dX9_plan_113 : decode cX9_plan 113 = .ok (.iconst 2, 1) := by decide +kernel
theorem dX9_plan_114 : decode cX9_plan 114 = .ok (.aload_n 0, 1) := by decide +kernel
theorem dX9_plan_115 : decode cX9_plan 115 = .ok (.getfield 11, 3) := by decide +kernel
theorem dX9_plan_118 : decode cX9_plan 118 = .ok (.bipush 113, 2) := by decide +kernel
theorem dX9_plan_120 : decode cX9_plan 120 = .ok (.iaload, 1) := by decide +kernel
theorem dX9_plan_121 : decode cX9_plan 121 = .ok (.imul, 1) := by decide +kernel
theorem dX9_plan_122 : decode cX9_plan 122 = .ok (.iadd, 1) := by decide +kernel
theorem dX9_plan_123 : decode cX9_plan 123 = .ok (.iload_n 2, 1) := by decide +kernel
theorem dX9_plan_124 : decode cX9_plan 124 = .ok (.iastore, 1) := by decide +kernel
theorem dX9_plan_125 : decode cX9_plan 125 = .ok (.aload_n 0, 1) := by decide +kernel
theorem dX9_plan_126 : decode cX9_plan 126 = .ok (.getfield 11, 3) := by decide +kernel
theorem dX9_plan_129 : decode cX9_plan 129 = .ok (.bipush 113, 2) := by decide +kernel
theorem dX9_plan_131 : decode cX9_plan 131 = .ok (.dup2, 1) := by decide +kernel
theorem dX9_plan_132 : decode cX9_plan 132 = .ok (.iaload, 1) := by decide +kernel
theorem dX9_plan_133 : decode cX9_plan 133 = .ok (.iconst 1, 1) := by decide +kernel
theorem dX9_plan_134 : decode cX9_plan 134 = .ok (.iadd, 1) := by decide +kernel
theorem dX9_plan_135 : decode cX9_plan 135 = .ok (.iastore, 1) := by decide +kernel
theorem dX9_plan_136 : decode cX9_plan 136 = .ok (.aload_n 0, 1) := by decide +kernel
theorem dX9_plan_137 : decode cX9_plan 137 = .ok (.getfield 11, 3) := by decide +kernel
theorem dX9_plan_140 : decode cX9_plan 140 = .ok (.bipush 113, 2) := by decide +kernel
theorem dX9_plan_142 : decode cX9_plan 142 = .ok (.iaload, 1) := by decide +kernel
theorem dX9_plan_143 : decode cX9_plan 143 = .ok (.ireturn, 1) := by decide +kernel
set_option maxRecDepth 100000 in
set_option maxHeartbeats 4000000 in
theorem kb_X9_plan_65 {x1 : Int32} {x2 : Int32} {s0 : Int64} {s1 : Int64} {s2 : Int64} {w : Mem} {out : Int32 × Mem} {H : Heap} {locs : List Loc} {ls : Array Slot} (C : CX p s m args meth c cX9_plan 3 RX9 wc_X9_plan (some .int))  (hG : Gd s G A 28 B (entM G B w) X H locs) (hl : lv_has ls 3 [(0, .ref (B + 0)), (1, .int x1), (2, .int x2)]) (hf : sh_X9_plan_j65 x1 x2 s0 s1 s2 w = some out) :
    W p l e rm_X9_plan s m args below meth c H locs 0 0 (MQ below (CPost G A 28 B (entM G B out.2) X (some (.int out.1))) args s 0 0 A) (F0 m 65 ls [.long s2, .long s1, .long s0]) := by
  obtain ⟨v1, hv1, hf⟩ := of_bind hf
  refine r_callS1 C hG hl.1 (As := [.long s0, .long s1, .long s2]) (mt_X9_isIn l  hv1) (va_cwS 3 C.2.2.2.2.1 (gd_S tg_4_195 tg_4_196 tg_1_10 tg_4_197) rfl rfl rfl cd_X9_isIn.2 ⟨Nat.le_of_ble_eq_true rfl, Nat.le_of_ble_eq_true rfl⟩) rfl rfl (Nat.le_of_ble_eq_true rfl) dX9_plan_65 (fun H locs hG => ?_)
  rcases of_ite hf with ⟨c2, hf⟩ | ⟨c2, hf⟩
  · refine lv_if_ne (tgt := 74) C.1 C.2.1 dX9_plan_68 (by decide) (fun q => absurd c2 q) (fun _ => ?_)
    refine lv_bipush (v := (-2 : Int32)) C.1 C.2.1 dX9_plan_71 (by decide) ?_
    obtain rfl := Option.some.inj hf
    exact r_iret C hG dX9_plan_73
  · refine lv_if_ne (tgt := 74) C.1 C.2.1 dX9_plan_68 (by decide) (fun _ => ?_) (fun q => absurd q c2)
    refine lv_aload_n C.1 C.2.1 dX9_plan_74 rfl (lv_at hl 0 rfl) ?_
    refine gf_X9_11 C hG rfl dX9_plan_75 ?_
    refine lv_bipush (v := nI 113) C.1 C.2.1 dX9_plan_78 (by decide) ?_
    obtain ⟨v3, hv3, hf⟩ := of_bind hf
    obtain ⟨bv3, ev3⟩ := of_ldS hv3
    refine r_iald C hG (c0 := 1) (by decide) (entM_I (n := 130) rfl) bv3 dX9_plan_80 ?_
    refine r_top ev3 ?_
    refine lv_bipush (v := nI 8) C.1 C.2.1 dX9_plan_81 (by decide) ?_
    rcases of_ite hf with ⟨c4, hf⟩ | ⟨c4, hf⟩
    · refine lv_icmp_ne (tgt := 89) C.1 C.2.1 dX9_plan_83 (by decide) (fun q => absurd c4 q) (fun _ => ?_)
      refine lv_bipush (v := (-4 : Int32)) C.1 C.2.1 dX9_plan_86 (by decide) ?_
      obtain rfl := Option.some.inj hf
      exact r_iret C hG dX9_plan_88
    · refine lv_icmp_ne (tgt := 89) C.1 C.2.1 dX9_plan_83 (by decide) (fun _ => ?_) (fun q => absurd q c4)
      refine lv_aload_n C.1 C.2.1 dX9_plan_89 rfl (lv_at hl 0 rfl) ?_
      refine gf_X9_11 C hG rfl dX9_plan_90 ?_
      refine lv_bipush (v := nI 114) C.1 C.2.1 dX9_plan_93 (by decide) ?_
      refine lv_iconst (v := nI 2) C.1 C.2.1 dX9_plan_95 (by decide) ?_
      refine lv_aload_n C.1 C.2.1 dX9_plan_96 rfl (lv_at hl 0 rfl) ?_
      refine gf_X9_11 C hG rfl dX9_plan_97 ?_
      refine lv_bipush (v := nI 113) C.1 C.2.1 dX9_plan_100 (by decide) ?_
      obtain ⟨v5, hv5, hf⟩ := of_bind hf
      obtain ⟨bv5, ev5⟩ := of_ldS hv5
      refine r_iald C hG (c0 := 1) (by decide) (entM_I (n := 130) rfl) bv5 dX9_plan_102 ?_
      refine r_top ev5 ?_
      refine lv_imul C.1 C.2.1 dX9_plan_103 ?_
      refine lv_iadd C.1 C.2.1 dX9_plan_104 ?_
      refine lv_iload_n C.1 C.2.1 dX9_plan_105 rfl (lv_at hl 1 rfl) ?_
      obtain ⟨w6, hw6, hf⟩ := of_bind hf
      obtain ⟨bw6, ew6⟩ := of_stM hw6
      refine r_iast C hG (c0 := 1) (by decide) (entM_I (n := 130) rfl) bw6 (E' := (entM G B w6)) (by rw [ew6]; exact upM_I (n := 130) rfl) dX9_plan_106 (fun H locs hG => ?_)
      refine lv_aload_n C.1 C.2.1 dX9_plan_107 rfl (lv_at hl 0 rfl) ?_
      refine gf_X9_11 C hG rfl dX9_plan_108 ?_
      refine lv_bipush (v := nI 115) C.1 C.2.1 dX9_plan_111 (by decide) ?_
      refine lv_iconst (v := nI 2) C.1 C.2.1 dX9_plan_113 (by decide) ?_
      refine lv_aload_n C.1 C.2.1 dX9_plan_114 rfl (lv_at hl 0 rfl) ?_
      refine gf_X9_11 C hG rfl dX9_plan_115 ?_
      refine lv_bipush (v := nI 113) C.1 C.2.1 dX9_plan_118 (by decide) ?_
      obtain ⟨v7, hv7, hf⟩ := of_bind hf
      obtain ⟨bv7, ev7⟩ := of_ldS hv7
      refine r_iald C hG (c0 := 1) (by decide) (entM_I (n := 130) rfl) bv7 dX9_plan_120 ?_
      refine r_top ev7 ?_
      refine lv_imul C.1 C.2.1 dX9_plan_121 ?_
      refine lv_iadd C.1 C.2.1 dX9_plan_122 ?_
      refine lv_iload_n C.1 C.2.1 dX9_plan_123 rfl (lv_at hl 2 rfl) ?_
      obtain ⟨w8, hw8, hf⟩ := of_bind hf
      obtain ⟨bw8, ew8⟩ := of_stM hw8
      refine r_iast C hG (c0 := 1) (by decide) (entM_I (n := 130) rfl) bw8 (E' := (entM G B w8)) (by rw [ew8]; exact upM_I (n := 130) rfl) dX9_plan_124 (fun H locs hG => ?_)
      refine lv_aload_n C.1 C.2.1 dX9_plan_125 rfl (lv_at hl 0 rfl) ?_
      refine gf_X9_11 C hG rfl dX9_plan_126 ?_
      refine lv_bipush (v := nI 113) C.1 C.2.1 dX9_plan_129 (by decide) ?_
      refine lv_dup2_11 C.1 C.2.1 dX9_plan_131 rfl rfl ?_
      obtain ⟨v9, hv9, hf⟩ := of_bind hf
      obtain ⟨bv9, ev9⟩ := of_ldS hv9
      refine r_iald C hG (c0 := 1) (by decide) (entM_I (n := 130) rfl) bv9 dX9_plan_132 ?_
      refine r_top ev9 ?_
      refine lv_iconst (v := nI 1) C.1 C.2.1 dX9_plan_133 (by decide) ?_
      refine lv_iadd C.1 C.2.1 dX9_plan_134 ?_
      obtain ⟨w10, hw10, hf⟩ := of_bind hf
      obtain ⟨bw10, ew10⟩ := of_stM hw10
      refine r_iast C hG (c0 := 1) (by decide) (entM_I (n := 130) rfl) bw10 (E' := (entM G B w10)) (by rw [ew10]; exact upM_I (n := 130) rfl) dX9_plan_135 (fun H locs hG => ?_)
      refine lv_aload_n C.1 C.2.1 dX9_plan_136 rfl (lv_at hl 0 rfl) ?_
      refine gf_X9_11 C hG rfl dX9_plan_137 ?_
      refine lv_bipush (v := nI 113) C.1 C.2.1 dX9_plan_140 (by decide) ?_
      obtain ⟨v11, hv11, hf⟩ := of_bind hf
      obtain ⟨bv11, ev11⟩ := of_ldS hv11
      refine r_iald C hG (c0 := 1) (by decide) (entM_I (n := 130) rfl) bv11 dX9_plan_142 ?_
      refine r_top ev11 ?_
      obtain rfl := Option.some.inj hf
      exact r_iret C hG dX9_plan_143
set_option maxRecDepth 100000 in
set_option maxHeartbeats 4000000 in
theorem kb_X9_plan_41 {x1 : Int32} {x2 : Int32} {s0 : Int64} {s1 : Int64} {w : Mem} {out : Int32 × Mem} {H : Heap} {locs : List Loc} {ls : Array Slot} (C : CX p s m args meth c cX9_plan 3 RX9 wc_X9_plan (some .int))  (hG : Gd s G A 28 B (entM G B w) X H locs) (hl : lv_has ls 3 [(0, .ref (B + 0)), (1, .int x1), (2, .int x2)]) (hf : sh_X9_plan_j41 x1 x2 s0 s1 w = some out) :
    W p l e rm_X9_plan s m args below meth c H locs 0 0 (MQ below (CPost G A 28 B (entM G B out.2) X (some (.int out.1))) args s 0 0 A) (F0 m 41 ls [.long s1, .long s0]) := by
  refine lv_iload_n C.1 C.2.1 dX9_plan_41 rfl (lv_at hl 1 rfl) ?_
  rcases of_ite hf with ⟨c1, hf⟩ | ⟨c1, hf⟩
  · refine lv_if_ne (tgt := 51) C.1 C.2.1 dX9_plan_42 (by decide) (fun q => absurd c1 q) (fun _ => ?_)
    refine lv_ldc2 (v := lN 6) C.1 C.2.1 C.2.2.2.1 (C.2.2.2.2.1 _ (List.mem_cons_of_mem _ tg_4_199)) dX9_plan_45 ?_
    refine lv_goto (tgt := 65) C.1 C.2.1 dX9_plan_48 (by decide) ?_
    exact kb_X9_plan_65 C  hG hl hf
  · refine lv_if_ne (tgt := 51) C.1 C.2.1 dX9_plan_42 (by decide) (fun _ => ?_) (fun q => absurd q c1)
    refine lv_iload_n C.1 C.2.1 dX9_plan_51 rfl (lv_at hl 1 rfl) ?_
    refine lv_iconst (v := nI 1) C.1 C.2.1 dX9_plan_52 (by decide) ?_
    rcases of_ite hf with ⟨c2, hf⟩ | ⟨c2, hf⟩
    · refine lv_icmp_ne (tgt := 62) C.1 C.2.1 dX9_plan_53 (by decide) (fun q => absurd c2 q) (fun _ => ?_)
      refine lv_ldc2 (v := lN 9) C.1 C.2.1 C.2.2.2.1 (C.2.2.2.2.1 _ (List.mem_cons_of_mem _ tg_4_200)) dX9_plan_56 ?_
      refine lv_goto (tgt := 65) C.1 C.2.1 dX9_plan_59 (by decide) ?_
      exact kb_X9_plan_65 C  hG hl hf
    · refine lv_icmp_ne (tgt := 62) C.1 C.2.1 dX9_plan_53 (by decide) (fun _ => ?_) (fun q => absurd q c2)
      refine lv_ldc2 (v := lN 3) C.1 C.2.1 C.2.2.2.1 (C.2.2.2.2.1 _ (List.mem_cons_of_mem _ tg_5_67)) dX9_plan_62 ?_
      exact kb_X9_plan_65 C  hG hl hf
set_option maxRecDepth 100000 in
set_option maxHeartbeats 4000000 in
theorem kb_X9_plan_0 {x1 : Int32} {x2 : Int32} {w : Mem} {out : Int32 × Mem} {H : Heap} {locs : List Loc} {ls : Array Slot} (C : CX p s m args meth c cX9_plan 3 RX9 wc_X9_plan (some .int))  (hG : Gd s G A 28 B (entM G B w) X H locs) (hl : lv_has ls 3 [(0, .ref (B + 0)), (1, .int x1), (2, .int x2)]) (hf : sh_X9_plan x1 x2 w = some out) :
    W p l e rm_X9_plan s m args below meth c H locs 0 0 (MQ below (CPost G A 28 B (entM G B out.2) X (some (.int out.1))) args s 0 0 A) (F0 m 0 ls []) := by
  refine lv_iload_n C.1 C.2.1 dX9_plan_0 rfl (lv_at hl 1 rfl) ?_
  refine lv_iconst (v := (-1 : Int32)) C.1 C.2.1 dX9_plan_1 (by decide) ?_
  rcases of_ite hf with ⟨c1, hf⟩ | ⟨c1, hf⟩
  · refine lv_icmp_ne (tgt := 15) C.1 C.2.1 dX9_plan_2 (by decide) (fun q => absurd c1 q) (fun _ => ?_)
    refine lv_aload_n C.1 C.2.1 dX9_plan_5 rfl (lv_at hl 0 rfl) ?_
    refine gf_X9_11 C hG rfl dX9_plan_6 ?_
    refine lv_bipush (v := nI 113) C.1 C.2.1 dX9_plan_9 (by decide) ?_
    refine lv_iconst (v := nI 0) C.1 C.2.1 dX9_plan_11 (by decide) ?_
    obtain ⟨w5, hw5, hf⟩ := of_bind hf
    obtain ⟨bw5, ew5⟩ := of_stM hw5
    refine r_iast C hG (c0 := 1) (by decide) (entM_I (n := 130) rfl) bw5 (E' := (entM G B w5)) (by rw [ew5]; exact upM_I (n := 130) rfl) dX9_plan_12 (fun H locs hG => ?_)
    refine lv_iconst (v := nI 0) C.1 C.2.1 dX9_plan_13 (by decide) ?_
    obtain rfl := Option.some.inj hf
    exact r_iret C hG dX9_plan_14
  · refine lv_icmp_ne (tgt := 15) C.1 C.2.1 dX9_plan_2 (by decide) (fun _ => ?_) (fun q => absurd q c1)
    refine lv_iload_n C.1 C.2.1 dX9_plan_15 rfl (lv_at hl 1 rfl) ?_
    refine lv_i2l C.1 C.2.1 dX9_plan_16 rfl ?_
    refine lv_lconst (v := lN 0) C.1 C.2.1 dX9_plan_17 rfl ?_
    refine lv_ldc2 (v := lN 2) C.1 C.2.1 C.2.2.2.1 (C.2.2.2.2.1 _ (List.mem_cons_of_mem _ tg_4_198)) dX9_plan_18 ?_
    obtain ⟨v2, hv2, hf⟩ := of_bind hf
    refine r_callS1 C hG hl.1 (As := [.long x1.toInt64, .long (lN 0), .long (lN 2)]) (mt_X9_isIn l  hv2) (va_cwS 3 C.2.2.2.2.1 (gd_S tg_4_195 tg_4_196 tg_1_10 tg_4_197) rfl rfl rfl cd_X9_isIn.2 ⟨Nat.le_of_ble_eq_true rfl, Nat.le_of_ble_eq_true rfl⟩) rfl rfl (Nat.le_of_ble_eq_true rfl) dX9_plan_21 (fun H locs hG => ?_)
    rcases of_ite hf with ⟨c3, hf⟩ | ⟨c3, hf⟩
    · refine lv_if_ne (tgt := 29) C.1 C.2.1 dX9_plan_24 (by decide) (fun q => absurd c3 q) (fun _ => ?_)
      refine lv_iconst (v := (-1 : Int32)) C.1 C.2.1 dX9_plan_27 (by decide) ?_
      obtain rfl := Option.some.inj hf
      exact r_iret C hG dX9_plan_28
    · refine lv_if_ne (tgt := 29) C.1 C.2.1 dX9_plan_24 (by decide) (fun _ => ?_) (fun q => absurd q c3)
      refine lv_iload_n C.1 C.2.1 dX9_plan_29 rfl (lv_at hl 2 rfl) ?_
      refine lv_i2l C.1 C.2.1 dX9_plan_30 rfl ?_
      refine lv_iload_n C.1 C.2.1 dX9_plan_31 rfl (lv_at hl 1 rfl) ?_
      refine lv_iconst (v := nI 1) C.1 C.2.1 dX9_plan_32 (by decide) ?_
      rcases of_ite hf with ⟨c4, hf⟩ | ⟨c4, hf⟩
      · refine lv_icmp_ne (tgt := 40) C.1 C.2.1 dX9_plan_33 (by decide) (fun q => absurd c4 q) (fun _ => ?_)
        refine lv_lconst (v := lN 1) C.1 C.2.1 dX9_plan_36 rfl ?_
        refine lv_goto (tgt := 41) C.1 C.2.1 dX9_plan_37 (by decide) ?_
        exact kb_X9_plan_41 C  hG hl hf
      · refine lv_icmp_ne (tgt := 40) C.1 C.2.1 dX9_plan_33 (by decide) (fun _ => ?_) (fun q => absurd q c4)
        refine lv_lconst (v := lN 0) C.1 C.2.1 dX9_plan_40 rfl ?_
        exact kb_X9_plan_41 C  hG hl hf
set_option maxRecDepth 100000 in
set_option maxHeartbeats 4000000 in
theorem mt_X9_plan (l : Launch) {G : GG} {A : Nat → Prop} {B : Nat} {X : va_W} {x1 : Int32} {x2 : Int32} {w : Mem} {out : Int32 × Mem}  (hf : sh_X9_plan x1 x2 w = some out) : MetW l yX9_plan wc_X9_plan rm_X9_plan G A 28 B (entM G B w) X [.ref (B + 0), .int x1, .int x2] (some (.int out.1)) (entM G B out.2) := by
  refine Met.ofW (cc := cX9_plan) (maxL := 3) (ret := (some .int)) (by decide) rfl ?_
  intro p e s m args below meth c s₁ B0 hml hv
  obtain ⟨rfl, hEv, hWd⟩ := hv
  have C : CX p s m _ meth c cX9_plan 3 RX9 wc_X9_plan (some .int) := ⟨B0.exec, B0.bytes, hml, findClass_of_methodNamed B0.named, atoms_spec (ws := wc_X9_plan) B0.pre, B0.returns, B0.notSynchronized⟩
  have hl := lv_entry [.ref (B + 0), .int x1, .int x2] (n := 3) (Nat.le_of_ble_eq_true rfl)
  rw [lg_entry_eq]
  generalize (lg_sl [.ref (B + 0), .int x1, .int x2] ++ List.replicate (3 - (lg_sl [.ref (B + 0), .int x1, .int x2]).length) Slot.unset).toArray = ls at hl ⊢
  have hl : lv_has ls 3 [(0, .ref (B + 0)), (1, .int x1), (2, .int x2)] := hl
  exact kb_X9_plan_0 C  ⟨hEv, hWd, va_S.rf⟩ hl hf
abbrev wc_X9_planned : List Cond := Cond.code yX9_planned cX9_planned 3 none :: TG
abbrev rm_X9_planned : Room := { frames := 5, cells := 0, slots := 0, locals := 169 }
theorem cd_X9_planned : yX9_planned.cls = RX9 ∧ yX9_planned.cls ≠ "java/lang/invoke/MethodHandle" ∧ yX9_planned.cls ≠ "java/lang/invoke/VarHandle" ∧ (parseMethodDescriptor yX9_planned.desc).map (fun d => d.parameters.length) = some 2 := by decide +kernel
theorem dX9_planned_0 : decode cX9_planned 0 = .ok (.iload_n 1, 1) := by decide +kernel
theorem dX9_planned_1 : decode cX9_planned 1 = .ok (.ifCond .ne 25, 3) := by decide +kernel
theorem dX9_planned_4 : decode cX9_planned 4 = .ok (.aload_n 0, 1) := by decide +kernel
theorem dX9_planned_5 : decode cX9_planned 5 = .ok (.getfield 170, 3) := by decide +kernel
theorem dX9_planned_8 : decode cX9_planned 8 = .ok (.bipush 24, 2) := by decide +kernel
theorem dX9_planned_10 : decode cX9_planned 10 = .ok (.if_icmp .ge 16, 3) := by decide +kernel
theorem dX9_planned_13 : decode cX9_planned 13 = .ok (.aload_n 0, 1) := by decide +kernel
theorem dX9_planned_14 : decode cX9_planned 14 = .ok (.iload_n 2, 1) := by decide +kernel
theorem dX9_planned_15 : decode cX9_planned 15 = .ok (.invokevirtual 188, 3) := by decide +kernel
theorem dX9_planned_18 : decode cX9_planned 18 = .ok (.ifCond .eq 8, 3) := by decide +kernel
theorem dX9_planned_21 : decode cX9_planned 21 = .ok (.aload_n 0, 1) := by decide +kernel
theorem dX9_planned_22 : decode cX9_planned 22 = .ok (.iload_n 2, 1) := by decide +kernel
theorem dX9_planned_23 : decode cX9_planned 23 = .ok (.invokevirtual 191, 3) := by decide +kernel
theorem dX9_planned_26 : decode cX9_planned 26 = .ok (.iload_n 1, 1) := by decide +kernel
theorem dX9_planned_27 : decode cX9_planned 27 = .ok (.iconst 1, 1) := by decide +kernel
theorem dX9_planned_28 : decode cX9_planned 28 = .ok (.if_icmp .ne 17, 3) := by decide +kernel
theorem dX9_planned_31 : decode cX9_planned 31 = .ok (.aload_n 0, 1) := by decide +kernel
theorem dX9_planned_32 : decode cX9_planned 32 = .ok (.iconst 0, 1) := by decide +kernel
theorem dX9_planned_33 : decode cX9_planned 33 = .ok (.aload_n 0, 1) := by decide +kernel
theorem dX9_planned_34 : decode cX9_planned 34 = .ok (.getfield 170, 3) := by decide +kernel
theorem dX9_planned_37 : decode cX9_planned 37 = .ok (.iload_n 2, 1) := by decide +kernel
theorem dX9_planned_38 : decode cX9_planned 38 = .ok (.isub, 1) := by decide +kernel
theorem dX9_planned_39 : decode cX9_planned 39 = .ok (.invokestatic 228, 3) := by decide +kernel
theorem dX9_planned_42 : decode cX9_planned 42 = .ok (.putfield 170, 3) := by decide +kernel
theorem dX9_planned_45 : decode cX9_planned 45 = .ok (.iload_n 1, 1) := by decide +kernel
theorem dX9_planned_46 : decode cX9_planned 46 = .ok (.iconst 2, 1) := by decide +kernel
theorem dX9_planned_47 : decode cX9_planned 47 = .ok (.if_icmp .ne 35, 3) := by decide +kernel
theorem dX9_planned_50 : decode cX9_planned 50 = .ok (.aload_n 0, 1) := by decide +kernel
theorem dX9_planned_51 : decode cX9_planned 51 = .ok (.getfield 170, 3) := by decide +kernel
theorem dX9_planned_54 : decode cX9_planned 54 = .ok (.aload_n 0, 1) := by decide +kernel
theorem dX9_planned_55 : decode cX9_planned 55 = .ok (.getfield 11, 3) := by decide +kernel
theorem dX9_planned_58 : decode cX9_planned 58 = .ok (.bipush 13, 2) := by decide +kernel
theorem dX9_planned_60 : decode cX9_planned 60 = .ok (.iload_n 2, 1) := by decide +kernel
theorem dX9_planned_61 : decode cX9_planned 61 = .ok (.iadd, 1) := by decide +kernel
theorem dX9_planned_62 : decode cX9_planned 62 = .ok (.iaload, 1) := by decide +kernel
theorem dX9_planned_63 : decode cX9_planned 63 = .ok (.iadd, 1) := by decide +kernel
theorem dX9_planned_64 : decode cX9_planned 64 = .ok (.bipush 24, 2) := by decide +kernel
theorem dX9_planned_66 : decode cX9_planned 66 = .ok (.if_icmp .gt 16, 3) := by decide +kernel
theorem dX9_planned_69 : decode cX9_planned 69 = .ok (.aload_n 0, 1) := by decide +kernel
theorem dX9_planned_70 : decode cX9_planned 70 = .ok (.iload_n 2, 1) := by decide +kernel
theorem dX9_planned_71 : decode cX9_planned 71 = .ok (.invokevirtual 281, 3) := by decide +kernel
theorem dX9_planned_74 : decode cX9_planned 74 = .ok (.ifCond .eq 8, 3) := by decide +kernel
theorem dX9_planned_77 : decode cX9_planned 77 = .ok (.aload_n 0, 1) := by decide +kernel
theorem dX9_planned_78 : decode cX9_planned 78 = .ok (.iload_n 2, 1) := by decide +kernel
theorem dX9_planned_79 : decode cX9_planned 79 = .ok (.invokevirtual 284, 3) := by decide +kernel
theorem dX9_planned_82 : decode cX9_planned 82 = .ok (.return_, 1) := by decide +kernel
set_option maxRecDepth 100000 in
set_option maxHeartbeats 4000000 in
theorem kb_X9_planned_45 {x1 : Int32} {x2 : Int32} {w : Mem} {out : Mem} {H : Heap} {locs : List Loc} {ls : Array Slot} (C : CX p s m args meth c cX9_planned 3 RX9 wc_X9_planned none)  (hG : Gd s G A 28 B (entM G B w) X H locs) (hl : lv_has ls 3 [(0, .ref (B + 0)), (1, .int x1), (2, .int x2)]) (hf : sh_X9_planned_j45 x1 x2 w = some out) :
    W p l e rm_X9_planned s m args below meth c H locs 0 0 (MQ below (CPost G A 28 B (entM G B out) X none) args s 0 0 A) (F0 m 45 ls []) := by
  refine lv_iload_n C.1 C.2.1 dX9_planned_45 rfl (lv_at hl 1 rfl) ?_
  refine lv_iconst (v := nI 2) C.1 C.2.1 dX9_planned_46 (by decide) ?_
  rcases of_ite hf with ⟨c1, hf⟩ | ⟨c1, hf⟩
  · refine lv_icmp_ne (tgt := 82) C.1 C.2.1 dX9_planned_47 (by decide) (fun q => absurd c1 q) (fun _ => ?_)
    refine lv_aload_n C.1 C.2.1 dX9_planned_50 rfl (lv_at hl 0 rfl) ?_
    refine gf_X9_170 C hG rfl dX9_planned_51 ?_
    refine lv_aload_n C.1 C.2.1 dX9_planned_54 rfl (lv_at hl 0 rfl) ?_
    refine gf_X9_11 C hG rfl dX9_planned_55 ?_
    refine lv_bipush (v := nI 13) C.1 C.2.1 dX9_planned_58 (by decide) ?_
    refine lv_iload_n C.1 C.2.1 dX9_planned_60 rfl (lv_at hl 2 rfl) ?_
    refine lv_iadd C.1 C.2.1 dX9_planned_61 ?_
    obtain ⟨v2, hv2, hf⟩ := of_bind hf
    obtain ⟨bv2, ev2⟩ := of_ldS hv2
    refine r_iald C hG (c0 := 1) (by decide) (entM_I (n := 130) rfl) bv2 dX9_planned_62 ?_
    refine r_top ev2 ?_
    refine lv_iadd C.1 C.2.1 dX9_planned_63 ?_
    refine lv_bipush (v := nI 24) C.1 C.2.1 dX9_planned_64 (by decide) ?_
    rcases of_ite hf with ⟨c3, hf⟩ | ⟨c3, hf⟩
    · refine lv_icmp_gt (tgt := 82) C.1 C.2.1 dX9_planned_66 (by decide) (fun _ => ?_) (fun q => absurd c3 q)
      obtain rfl := Option.some.inj hf
      exact r_vret C hG dX9_planned_82
    · refine lv_icmp_gt (tgt := 82) C.1 C.2.1 dX9_planned_66 (by decide) (fun q => absurd q c3) (fun _ => ?_)
      refine lv_aload_n C.1 C.2.1 dX9_planned_69 rfl (lv_at hl 0 rfl) ?_
      refine lv_iload_n C.1 C.2.1 dX9_planned_70 rfl (lv_at hl 2 rfl) ?_
      obtain ⟨v4, hv4, hf⟩ := of_bind hf
      refine r_callV1 C hG hl.1 (c0 := 0) (As := [.int x2]) (by decide) (entM_O (n := 35) rfl) rfl (mt_X9_mayGlue l  hv4) (cwV 1 C.2.2.2.2.1 (gd_V tg_5_213 tg_5_215 tgp_61 tg_1_10 tg_5_216) rfl rfl rfl cd_X9_mayGlue ⟨Nat.le_of_ble_eq_true rfl, Nat.le_of_ble_eq_true rfl⟩) rfl rfl (Nat.le_of_ble_eq_true rfl) dX9_planned_71 (fun H locs hG => ?_)
      rcases of_ite hf with ⟨c5, hf⟩ | ⟨c5, hf⟩
      · refine lv_if_eq (tgt := 82) C.1 C.2.1 dX9_planned_74 (by decide) (fun _ => ?_) (fun q => absurd c5 q)
        obtain rfl := Option.some.inj hf
        exact r_vret C hG dX9_planned_82
      · refine lv_if_eq (tgt := 82) C.1 C.2.1 dX9_planned_74 (by decide) (fun q => absurd q c5) (fun _ => ?_)
        refine lv_aload_n C.1 C.2.1 dX9_planned_77 rfl (lv_at hl 0 rfl) ?_
        refine lv_iload_n C.1 C.2.1 dX9_planned_78 rfl (lv_at hl 2 rfl) ?_
        obtain ⟨w6, hw6, hf⟩ := of_bind hf
        refine r_callV0 C hG hl.1 (c0 := 0) (As := [.int x2]) (by decide) (entM_O (n := 35) rfl) rfl (mt_X9_glues l  hw6) (cwV 1 C.2.2.2.2.1 (gd_V tg_5_217 tg_5_219 tgp_62 tg_1_10 tg_5_220) rfl rfl rfl cd_X9_glues ⟨Nat.le_of_ble_eq_true rfl, Nat.le_of_ble_eq_true rfl⟩) rfl rfl (Nat.le_of_ble_eq_true rfl) dX9_planned_79 (fun H locs hG => ?_)
        obtain rfl := Option.some.inj hf
        exact r_vret C hG dX9_planned_82
  · refine lv_icmp_ne (tgt := 82) C.1 C.2.1 dX9_planned_47 (by decide) (fun _ => ?_) (fun q => absurd q c1)
    obtain rfl := Option.some.inj hf
    exact r_vret C hG dX9_planned_82
set_option maxRecDepth 100000 in
set_option maxHeartbeats 4000000 in
theorem kb_X9_planned_26 {x1 : Int32} {x2 : Int32} {w : Mem} {out : Mem} {H : Heap} {locs : List Loc} {ls : Array Slot} (C : CX p s m args meth c cX9_planned 3 RX9 wc_X9_planned none)  (hG : Gd s G A 28 B (entM G B w) X H locs) (hl : lv_has ls 3 [(0, .ref (B + 0)), (1, .int x1), (2, .int x2)]) (hf : sh_X9_planned_j26 x1 x2 w = some out) :
    W p l e rm_X9_planned s m args below meth c H locs 0 0 (MQ below (CPost G A 28 B (entM G B out) X none) args s 0 0 A) (F0 m 26 ls []) := by
  refine lv_iload_n C.1 C.2.1 dX9_planned_26 rfl (lv_at hl 1 rfl) ?_
  refine lv_iconst (v := nI 1) C.1 C.2.1 dX9_planned_27 (by decide) ?_
  rcases of_ite hf with ⟨c1, hf⟩ | ⟨c1, hf⟩
  · refine lv_icmp_ne (tgt := 45) C.1 C.2.1 dX9_planned_28 (by decide) (fun q => absurd c1 q) (fun _ => ?_)
    refine lv_aload_n C.1 C.2.1 dX9_planned_31 rfl (lv_at hl 0 rfl) ?_
    refine lv_iconst (v := nI 0) C.1 C.2.1 dX9_planned_32 (by decide) ?_
    refine lv_aload_n C.1 C.2.1 dX9_planned_33 rfl (lv_at hl 0 rfl) ?_
    refine gf_X9_170 C hG rfl dX9_planned_34 ?_
    refine lv_iload_n C.1 C.2.1 dX9_planned_37 rfl (lv_at hl 2 rfl) ?_
    refine lv_isub C.1 C.2.1 dX9_planned_38 ?_
    refine r_max C hl.1 (List.mem_cons_of_mem _ tg_5_128) (List.mem_cons_of_mem _ tg_2_211) (List.mem_cons_of_mem _ tg_1_12) (List.mem_cons_of_mem _ tg_2_212) (Nat.le_of_ble_eq_true rfl) (Nat.le_of_ble_eq_true rfl) dX9_planned_39 ?_
    obtain ⟨w2, ew2, hf⟩ := of_letv hf
    refine pf_X9_170 C hG rfl dX9_planned_42 (fun H locs hG => ?_)
    rw [← ew2] at hG
    exact kb_X9_planned_45 C  hG hl hf
  · refine lv_icmp_ne (tgt := 45) C.1 C.2.1 dX9_planned_28 (by decide) (fun _ => ?_) (fun q => absurd q c1)
    exact kb_X9_planned_45 C  hG hl hf
set_option maxRecDepth 100000 in
set_option maxHeartbeats 4000000 in
theorem kb_X9_planned_0 {x1 : Int32} {x2 : Int32} {w : Mem} {out : Mem} {H : Heap} {locs : List Loc} {ls : Array Slot} (C : CX p s m args meth c cX9_planned 3 RX9 wc_X9_planned none)  (hG : Gd s G A 28 B (entM G B w) X H locs) (hl : lv_has ls 3 [(0, .ref (B + 0)), (1, .int x1), (2, .int x2)]) (hf : sh_X9_planned x1 x2 w = some out) :
    W p l e rm_X9_planned s m args below meth c H locs 0 0 (MQ below (CPost G A 28 B (entM G B out) X none) args s 0 0 A) (F0 m 0 ls []) := by
  refine lv_iload_n C.1 C.2.1 dX9_planned_0 rfl (lv_at hl 1 rfl) ?_
  rcases of_ite hf with ⟨c1, hf⟩ | ⟨c1, hf⟩
  · refine lv_if_ne (tgt := 26) C.1 C.2.1 dX9_planned_1 (by decide) (fun q => absurd c1 q) (fun _ => ?_)
    refine lv_aload_n C.1 C.2.1 dX9_planned_4 rfl (lv_at hl 0 rfl) ?_
    refine gf_X9_170 C hG rfl dX9_planned_5 ?_
    refine lv_bipush (v := nI 24) C.1 C.2.1 dX9_planned_8 (by decide) ?_
    rcases of_ite hf with ⟨c2, hf⟩ | ⟨c2, hf⟩
    · refine lv_icmp_ge (tgt := 26) C.1 C.2.1 dX9_planned_10 (by decide) (fun _ => ?_) (fun q => absurd c2 q)
      exact kb_X9_planned_26 C  hG hl hf
    · refine lv_icmp_ge (tgt := 26) C.1 C.2.1 dX9_planned_10 (by decide) (fun q => absurd q c2) (fun _ => ?_)
      refine lv_aload_n C.1 C.2.1 dX9_planned_13 rfl (lv_at hl 0 rfl) ?_
      refine lv_iload_n C.1 C.2.1 dX9_planned_14 rfl (lv_at hl 2 rfl) ?_
      obtain ⟨v3, hv3, hf⟩ := of_bind hf
      refine r_callV1 C hG hl.1 (c0 := 0) (As := [.int x2]) (by decide) (entM_O (n := 35) rfl) rfl (mt_X9_canStand l  hv3) (cwV 1 C.2.2.2.2.1 (gd_V tg_5_84 tg_5_86 tgp_40 tg_1_10 tg_5_87) rfl rfl rfl cd_X9_canStand ⟨Nat.le_of_ble_eq_true rfl, Nat.le_of_ble_eq_true rfl⟩) rfl rfl (Nat.le_of_ble_eq_true rfl) dX9_planned_15 (fun H locs hG => ?_)
      rcases of_ite hf with ⟨c4, hf⟩ | ⟨c4, hf⟩
      · refine lv_if_eq (tgt := 26) C.1 C.2.1 dX9_planned_18 (by decide) (fun _ => ?_) (fun q => absurd c4 q)
        exact kb_X9_planned_26 C  hG hl hf
      · refine lv_if_eq (tgt := 26) C.1 C.2.1 dX9_planned_18 (by decide) (fun q => absurd q c4) (fun _ => ?_)
        refine lv_aload_n C.1 C.2.1 dX9_planned_21 rfl (lv_at hl 0 rfl) ?_
        refine lv_iload_n C.1 C.2.1 dX9_planned_22 rfl (lv_at hl 2 rfl) ?_
        obtain ⟨w5, hw5, hf⟩ := of_bind hf
        refine r_callV0 C hG hl.1 (c0 := 0) (As := [.int x2]) (by decide) (entM_O (n := 35) rfl) rfl (mt_X9_adds l  hw5) (cwV 1 C.2.2.2.2.1 (gd_V tg_5_95 tg_5_97 tgp_42 tg_1_10 tg_5_98) rfl rfl rfl cd_X9_adds ⟨Nat.le_of_ble_eq_true rfl, Nat.le_of_ble_eq_true rfl⟩) rfl rfl (Nat.le_of_ble_eq_true rfl) dX9_planned_23 (fun H locs hG => ?_)
        exact kb_X9_planned_26 C  hG hl hf
  · refine lv_if_ne (tgt := 26) C.1 C.2.1 dX9_planned_1 (by decide) (fun _ => ?_) (fun q => absurd q c1)
    exact kb_X9_planned_26 C  hG hl hf
set_option maxRecDepth 100000 in
set_option maxHeartbeats 4000000 in
theorem mt_X9_planned (l : Launch) {G : GG} {A : Nat → Prop} {B : Nat} {X : va_W} {x1 : Int32} {x2 : Int32} {w : Mem} {out : Mem}  (hf : sh_X9_planned x1 x2 w = some out) : MetW l yX9_planned wc_X9_planned rm_X9_planned G A 28 B (entM G B w) X [.ref (B + 0), .int x1, .int x2] none (entM G B out) := by
  refine Met.ofW (cc := cX9_planned) (maxL := 3) (ret := none) (by decide) rfl ?_
  intro p e s m args below meth c s₁ B0 hml hv
  obtain ⟨rfl, hEv, hWd⟩ := hv
  have C : CX p s m _ meth c cX9_planned 3 RX9 wc_X9_planned none := ⟨B0.exec, B0.bytes, hml, findClass_of_methodNamed B0.named, atoms_spec (ws := wc_X9_planned) B0.pre, B0.returns, B0.notSynchronized⟩
  have hl := lv_entry [.ref (B + 0), .int x1, .int x2] (n := 3) (Nat.le_of_ble_eq_true rfl)
  rw [lg_entry_eq]
  generalize (lg_sl [.ref (B + 0), .int x1, .int x2] ++ List.replicate (3 - (lg_sl [.ref (B + 0), .int x1, .int x2]).length) Slot.unset).toArray = ls at hl ⊢
  have hl : lv_has ls 3 [(0, .ref (B + 0)), (1, .int x1), (2, .int x2)] := hl
  exact kb_X9_planned_0 C  ⟨hEv, hWd, va_S.rf⟩ hl hf
abbrev wc_X9_behind_ : List Cond := Cond.code yX9_behind_ cX9_behind_ 4 (some .int) :: TG
abbrev rm_X9_behind_ : Room := { frames := 7, cells := 0, slots := 0, locals := 222 }
theorem cd_X9_behind_ : yX9_behind_.cls = RX9 ∧ yX9_behind_.cls ≠ "java/lang/invoke/MethodHandle" ∧ yX9_behind_.cls ≠ "java/lang/invoke/VarHandle" ∧ (parseMethodDescriptor yX9_behind_.desc).map (fun d => d.parameters.length) = some 2 := by decide +kernel
theorem dX9_behind__0 : decode cX9_behind_ 0 = .ok (.iload_n 1, 1) := by decide +kernel
theorem dX9_behind__1 : decode cX9_behind_ 1 = .ok (.invokestatic 205, 3) := by decide +kernel
theorem dX9_behind__4 : decode cX9_behind_ 4 = .ok (.ifCond .eq 32, 3) := by decide +kernel
theorem dX9_behind__7 : decode cX9_behind_ 7 = .ok (.iload_n 2, 1) := by decide +kernel
theorem dX9_behind__8 : decode cX9_behind_ 8 = .ok (.i2l, 1) := by decide +kernel
theorem dX9_behind__9 : decode cX9_behind_ 9 = .ok (.lconst 0, 1) := by decide +kernel
theorem dX9_behind__10 : decode cX9_behind_ 10 = .ok (.ldc2_w 103, 3) := by decide +kernel
theorem dX9_behind__13 : decode cX9_behind_ 13 = .ok (.invokestatic 93, 3) := by decide +kernel
theorem dX9_behind__16 : decode cX9_behind_ 16 = .ok (.ifCond .ne 22, 3) := by decide +kernel
theorem dX9_behind__19 : decode cX9_behind_ 19 = .ok (.iload_n 2, 1) := by decide +kernel
theorem dX9_behind__20 : decode cX9_behind_ 20 = .ok (.bipush 10, 2) := by decide +kernel
theorem dX9_behind__22 : decode cX9_behind_ 22 = .ok (.if_icmp .lt 14, 3) := by decide +kernel
theorem dX9_behind__25 : decode cX9_behind_ 25 = .ok (.aload_n 0, 1) := by decide +kernel
theorem dX9_behind__26 : decode cX9_behind_ 26 = .ok (.iload_n 2, 1) := by decide +kernel
theorem dX9_behind__27 : decode cX9_behind_ 27 = .ok (.bipush 10, 2) := by decide +kernel
theorem dX9_behind__29 : decode cX9_behind_ 29 = .ok (.isub, 1) := by decide +kernel
theorem dX9_behind__30 : decode cX9_behind_ 30 = .ok (.invokevirtual 109, 3) := by decide +kernel
theorem dX9_behind__33 : decode cX9_behind_ 33 = .ok (.ifCond .ne 5, 3) := by decide +kernel
theorem dX9_behind__36 : decode cX9_behind_ 36 = .ok (.iconst (-1), 1) := by decide +kernel
theorem dX9_behind__37 : decode cX9_behind_ 37 = .ok (.ireturn, 1) := by decide +kernel
theorem dX9_behind__38 : decode cX9_behind_ 38 = .ok (.aload_n 0, 1) := by decide +kernel
theorem dX9_behind__39 : decode cX9_behind_ 39 = .ok (.iload_n 1, 1) := by decide +kernel
theorem dX9_behind__40 : decode cX9_behind_ 40 = .ok (.invokevirtual 214, 3) := by decide +kernel
theorem dX9_behind__43 : decode cX9_behind_ 43 = .ok (.iconst 0, 1) := by decide +kernel
theorem dX9_behind__44 : decode cX9_behind_ 44 = .ok (.istore_n 3, 1) := by decide +kernel
theorem dX9_behind__45 : decode cX9_behind_ 45 = .ok (.iload_n 3, 1) := by decide +kernel
theorem dX9_behind__46 : decode cX9_behind_ 46 = .ok (.aload_n 0, 1) := by decide +kernel
theorem dX9_behind__47 : decode cX9_behind_ 47 = .ok (.getfield 11, 3) := by decide +kernel
theorem dX9_behind__50 : decode cX9_behind_ 50 = .ok (.bipush 113, 2) := by decide +kernel
theorem dX9_behind__52 : decode cX9_behind_ 52 = .ok (.iaload, 1) := by decide +kernel
theorem dX9_behind__53 : decode cX9_behind_ 53 = .ok (.if_icmp .ge 35, 3) := by decide +kernel
theorem dX9_behind__56 : decode cX9_behind_ 56 = .ok (.aload_n 0, 1) := by decide +kernel
theorem dX9_behind__57 : decode cX9_behind_ 57 = .ok (.aload_n 0, 1) := by decide +kernel
theorem dX9_behind__58 : decode cX9_behind_ 58 = .ok (.getfield 11, 3) := by decide +kernel
theorem dX9_behind__61 : decode cX9_behind_ 61 = .ok (.bipush 114, 2) := by decide +kernel
theorem dX9_behind__63 : decode cX9_behind_ 63 = .ok (.iconst 2, 1) := by decide +kernel
theorem dX9_behind__64 : decode cX9_behind_ 64 = .ok (.iload_n 3, 1) := by decide +kernel
theorem dX9_behind__65 : decode cX9_behind_ 65 = .ok (.imul, 1) := by decide +kernel
theorem dX9_behind__66 : decode cX9_behind_ 66 = .ok (.iadd, 1) := by decide +kernel
theorem dX9_behind__67 : decode cX9_behind_ 67 = .ok (.iaload, 1) := by decide +kernel
theorem dX9_behind__68 : decode cX9_behind_ 68 = .ok (.aload_n 0, 1) := by decide +kernel
theorem dX9_behind__69 : decode cX9_behind_ 69 = .ok (.getfield 11, 3) := by decide +kernel
theorem dX9_behind__72 : decode cX9_behind_ 72 = .ok (.bipush 115, 2) := by decide +kernel
theorem dX9_behind__74 : decode cX9_behind_ 74 = .ok (.iconst 2, 1) := by decide +kernel
theorem dX9_behind__75 : decode cX9_behind_ 75 = .ok (.iload_n 3, 1) := by decide +kernel
theorem dX9_behind__76 : decode cX9_behind_ 76 = .ok (.imul, 1) := by decide +kernel
theorem dX9_behind__77 : decode cX9_behind_ 77 = .ok (.iadd, 1) := by decide +kernel
theorem dX9_behind__78 : decode cX9_behind_ 78 = .ok (.iaload, 1) := by decide +kernel
theorem dX9_behind__79 : decode cX9_behind_ 79 = .ok (.invokevirtual 300, 3) := by decide +kernel
theorem dX9_behind__82 : decode cX9_behind_ 82 = .ok (.iinc 3 1, 3) := by decide +kernel
theorem dX9_behind__85 : decode cX9_behind_ 85 = .ok (.goto (-40), 3) := by decide +kernel
theorem dX9_behind__88 : decode cX9_behind_ 88 = .ok (.iload_n 2, 1) := by decide +kernel
theorem dX9_behind__89 : decode cX9_behind_ 89 = .ok (.bipush 10, 2) := by decide +kernel
theorem dX9_behind__91 : decode cX9_behind_ 91 = .ok (.if_icmp .lt 20, 3) := by decide +kernel
theorem dX9_behind__94 : decode cX9_behind_ 94 = .ok (.aload_n 0, 1) := by decide +kernel
theorem dX9_behind__95 : decode cX9_behind_ 95 = .ok (.iload_n 2, 1) := by decide +kernel
theorem dX9_behind__96 : decode cX9_behind_ 96 = .ok (.bipush 10, 2) := by decide +kernel
theorem dX9_behind__98 : decode cX9_behind_ 98 = .ok (.isub, 1) := by decide +kernel
theorem dX9_behind__99 : decode cX9_behind_ 99 = .ok (.invokevirtual 152, 3) := by decide +kernel
theorem dX9_behind__102 : decode cX9_behind_ 102 = .ok (.aload_n 0, 1) := by decide +kernel
theorem dX9_behind__103 : decode cX9_behind_ 103 = .ok (.invokevirtual 272, 3) := by decide +kernel
theorem dX9_behind__106 : decode cX9_behind_ 106 = .ok (.aload_n 0, 1) := by decide +kernel
theorem dX9_behind__107 : decode cX9_behind_ 107 = .ok (.invokevirtual 278, 3) := by decide +kernel
theorem dX9_behind__110 : decode cX9_behind_ 110 = .ok (.ireturn, 1) := by decide +kernel
theorem dX9_behind__111 : decode cX9_behind_ 111 = .ok (.aload_n 0, 1) := by decide +kernel
theorem dX9_behind__112 : decode cX9_behind_ 112 = .ok (.invokevirtual 234, 3) := by decide +kernel
theorem dX9_behind__115 : decode cX9_behind_ 115 = .ok (.iload_n 2, 1) := by decide +kernel
theorem dX9_behind__116 : decode cX9_behind_ 116 = .ok (.ifCond .ne 10, 3) := by decide +kernel
theorem dX9_behind__119 : decode cX9_behind_ 119 = .ok (.aload_n 0, 1) := by decide +kernel
theorem dX9_behind__120 : decode cX9_behind_ 120 = .ok (.getfield 170, 3) := by decide +kernel
theorem dX9_behind__123 : decode cX9_behind_ 123 = .ok (.goto 19, 3) := by decide +kernel
theorem dX9_behind__126 : decode cX9_behind_ 126 = .ok (.iload_n 2, 1) := by decide +kernel
theorem dX9_behind__127 : decode cX9_behind_ 127 = .ok (.iconst 1, 1) := by decide +kernel
theorem dX9_behind__128 : decode cX9_behind_ 128 = .ok (.if_icmp .ne 10, 3) := by decide +kernel
theorem dX9_behind__131 : decode cX9_behind_ 131 = .ok (.aload_n 0, 1) := by decide +kernel
theorem dX9_behind__132 : decode cX9_behind_ 132 = .ok (.invokevirtual 176, 3) := by decide +kernel
theorem dX9_behind__135 : decode cX9_behind_ 135 = .ok (.goto 7, 3) := by decide +kernel
theorem dX9_behind__138 : decode cX9_behind_ 138 = .ok (.aload_n 0, 1) := by decide +kernel
theorem dX9_behind__139 : decode cX9_behind_ 139 = .ok (.invokevirtual 237, 3) := by decide +kernel
theorem dX9_behind__142 : decode cX9_behind_ 142 = .ok (.ireturn, 1) := by decide +kernel
set_option maxRecDepth 100000 in
set_option maxHeartbeats 4000000 in
theorem kb_X9_behind__45 {x2 : Int32} {st : Int32 × Mem} {r : (Int32 × Mem) ⊕ ((Mem))} {H : Heap} {locs : List Loc} {ls : Array Slot} (C : CX p s m args meth c cX9_behind_ 4 RX9 wc_X9_behind_ (some .int))  (hG : Gd s G A 28 B (entM G B st.2) X H locs) (hl : lv_has ls 4 [(0, .ref (B + 0)), (2, .int x2), (3, .int st.1)]) (hf : sh_X9_behind__s45 x2 st = some r)
    (kL : ∀ st' : Int32 × Mem, r = Sum.inl st' → ∀ (H : Heap) (locs : List Loc) (ls : Array Slot), Gd s G A 28 B (entM G B st'.2) X H locs → lv_has ls 4 [(0, .ref (B + 0)), (2, .int x2), (3, .int st'.1)] → W p l e rm_X9_behind_ s m args below meth c H locs 0 0 Q (F0 m 45 ls []))
    (kX0 : ∀ y' : Mem, r = Sum.inr y' → ∀ (H : Heap) (locs : List Loc) (ls : Array Slot), Gd s G A 28 B (entM G B y') X H locs → lv_has ls 4 [(0, .ref (B + 0)), (2, .int x2)] → W p l e rm_X9_behind_ s m args below meth c H locs 0 0 Q (F0 m 88 ls [])) :
    W p l e rm_X9_behind_ s m args below meth c H locs 0 0 Q (F0 m 45 ls []) := by
  refine lv_iload_n C.1 C.2.1 dX9_behind__45 rfl (lv_at hl 2 rfl) ?_
  refine lv_aload_n C.1 C.2.1 dX9_behind__46 rfl (lv_at hl 0 rfl) ?_
  refine gf_X9_11 C hG rfl dX9_behind__47 ?_
  refine lv_bipush (v := nI 113) C.1 C.2.1 dX9_behind__50 (by decide) ?_
  obtain ⟨v1, hv1, hf⟩ := of_bind hf
  obtain ⟨bv1, ev1⟩ := of_ldS hv1
  refine r_iald C hG (c0 := 1) (by decide) (entM_I (n := 130) rfl) bv1 dX9_behind__52 ?_
  refine r_top ev1 ?_
  rcases of_ite hf with ⟨c2, hf⟩ | ⟨c2, hf⟩
  · refine lv_icmp_ge (tgt := 88) C.1 C.2.1 dX9_behind__53 (by decide) (fun _ => ?_) (fun q => absurd c2 q)
    obtain rfl := Option.some.inj hf
    exact kX0 _ rfl _ _ _ hG (lv_sub hl [0, 1] rfl)
  · refine lv_icmp_ge (tgt := 88) C.1 C.2.1 dX9_behind__53 (by decide) (fun q => absurd q c2) (fun _ => ?_)
    refine lv_aload_n C.1 C.2.1 dX9_behind__56 rfl (lv_at hl 0 rfl) ?_
    refine lv_aload_n C.1 C.2.1 dX9_behind__57 rfl (lv_at hl 0 rfl) ?_
    refine gf_X9_11 C hG rfl dX9_behind__58 ?_
    refine lv_bipush (v := nI 114) C.1 C.2.1 dX9_behind__61 (by decide) ?_
    refine lv_iconst (v := nI 2) C.1 C.2.1 dX9_behind__63 (by decide) ?_
    refine lv_iload_n C.1 C.2.1 dX9_behind__64 rfl (lv_at hl 2 rfl) ?_
    refine lv_imul C.1 C.2.1 dX9_behind__65 ?_
    refine lv_iadd C.1 C.2.1 dX9_behind__66 ?_
    obtain ⟨v3, hv3, hf⟩ := of_bind hf
    obtain ⟨bv3, ev3⟩ := of_ldS hv3
    refine r_iald C hG (c0 := 1) (by decide) (entM_I (n := 130) rfl) bv3 dX9_behind__67 ?_
    refine r_top ev3 ?_
    refine lv_aload_n C.1 C.2.1 dX9_behind__68 rfl (lv_at hl 0 rfl) ?_
    refine gf_X9_11 C hG rfl dX9_behind__69 ?_
    refine lv_bipush (v := nI 115) C.1 C.2.1 dX9_behind__72 (by decide) ?_
    refine lv_iconst (v := nI 2) C.1 C.2.1 dX9_behind__74 (by decide) ?_
    refine lv_iload_n C.1 C.2.1 dX9_behind__75 rfl (lv_at hl 2 rfl) ?_
    refine lv_imul C.1 C.2.1 dX9_behind__76 ?_
    refine lv_iadd C.1 C.2.1 dX9_behind__77 ?_
    obtain ⟨v4, hv4, hf⟩ := of_bind hf
    obtain ⟨bv4, ev4⟩ := of_ldS hv4
    refine r_iald C hG (c0 := 1) (by decide) (entM_I (n := 130) rfl) bv4 dX9_behind__78 ?_
    refine r_top ev4 ?_
    obtain ⟨w5, hw5, hf⟩ := of_bind hf
    refine r_callV0 C hG hl.1 (c0 := 0) (As := [.int v3, .int v4]) (by decide) (entM_O (n := 35) rfl) rfl (mt_X9_planned l  hw5) (cwV 2 C.2.2.2.2.1 (gd_V tg_6_12 tg_6_14 tgp_64 tg_1_10 tg_6_15) rfl rfl rfl cd_X9_planned ⟨Nat.le_of_ble_eq_true rfl, Nat.le_of_ble_eq_true rfl⟩) rfl rfl (Nat.le_of_ble_eq_true rfl) dX9_behind__79 (fun H locs hG => ?_)
    obtain ⟨v6, ev6, hf⟩ := of_letv hf
    refine lv_iinc (v := v6) (lv' := [(3, .int v6), (0, .ref (B + 0)), (2, .int x2)]) C.1 C.2.1 dX9_behind__82 hl (k := 2) rfl (by rw [ev6, show Int32.ofInt (1) = nI 1 from by decide]) (by decide) rfl (fun ls hl => ?_)
    refine lv_goto (tgt := 45) C.1 C.2.1 dX9_behind__85 (by decide) ?_
    obtain rfl := Option.some.inj hf
    exact kL _ rfl _ _ _ hG (lv_sub hl [1, 2, 0] rfl)
set_option maxRecDepth 100000 in
set_option maxHeartbeats 4000000 in
theorem kl_X9_behind__45 {x2 : Int32} (C : CX p s m args meth c cX9_behind_ 4 RX9 wc_X9_behind_ (some .int))  : ∀ (n : Nat) (st : Int32 × Mem) (x : (Mem)) (H : Heap) (locs : List Loc) (ls : Array Slot), Gd s G A 28 B (entM G B st.2) X H locs → lv_has ls 4 [(0, .ref (B + 0)), (2, .int x2), (3, .int st.1)] → lpw (sh_X9_behind__s45 x2) n st = some x →
    (∀ y' : Mem, x = y' → ∀ (H : Heap) (locs : List Loc) (ls : Array Slot), Gd s G A 28 B (entM G B y') X H locs → lv_has ls 4 [(0, .ref (B + 0)), (2, .int x2)] → W p l e rm_X9_behind_ s m args below meth c H locs 0 0 Q (F0 m 88 ls [])) → W p l e rm_X9_behind_ s m args below meth c H locs 0 0 Q (F0 m 45 ls []) := by
  intro n
  induction n with
  | zero =>
    intro st x H locs ls hG hl hf
    cases hf
  | succ n ih =>
    intro st x H locs ls hG hl hf kX0
    obtain ⟨r, hr, hh⟩ := of_lpw hf
    refine kb_X9_behind__45 C  hG hl hr (fun st2 e1 H locs ls hG hl => ?_) (fun y2 e1 H locs ls hG hl => ?_)
    · rcases hh with ⟨s3, e2, hh⟩ | e2
      · rw [e2] at e1
        cases e1
        exact ih _ _ _ _ _ hG hl hh kX0
      · rw [e2] at e1
        cases e1
    · rcases hh with ⟨s3, e2, hh⟩ | e2
      · rw [e2] at e1
        cases e1
      · rw [e2] at e1
        cases e1
        exact kX0 _ rfl _ _ _ hG hl
set_option maxRecDepth 100000 in
set_option maxHeartbeats 4000000 in
theorem kb_X9_behind__38 {x1 : Int32} {x2 : Int32} {w : Mem} {out : Int32 × Mem} {H : Heap} {locs : List Loc} {ls : Array Slot} (C : CX p s m args meth c cX9_behind_ 4 RX9 wc_X9_behind_ (some .int))  (hG : Gd s G A 28 B (entM G B w) X H locs) (hl : lv_has ls 4 [(0, .ref (B + 0)), (1, .int x1), (2, .int x2)]) (hf : sh_X9_behind__j38 x1 x2 w = some out) :
    W p l e rm_X9_behind_ s m args below meth c H locs 0 0 (MQ below (CPost G A 28 B (entM G B out.2) X (some (.int out.1))) args s 0 0 A) (F0 m 38 ls []) := by
  refine lv_aload_n C.1 C.2.1 dX9_behind__38 rfl (lv_at hl 0 rfl) ?_
  refine lv_iload_n C.1 C.2.1 dX9_behind__39 rfl (lv_at hl 1 rfl) ?_
  obtain ⟨w1, hw1, hf⟩ := of_bind hf
  refine r_callV0 C hG hl.1 (c0 := 0) (As := [.int x1]) (by decide) (entM_O (n := 35) rfl) rfl (mt_X9_loads l  hw1) (cwV 1 C.2.2.2.2.1 (gd_V tg_5_107 tg_5_109 tgp_44 tg_1_10 tg_5_110) rfl rfl rfl cd_X9_loads ⟨Nat.le_of_ble_eq_true rfl, Nat.le_of_ble_eq_true rfl⟩) rfl rfl (Nat.le_of_ble_eq_true rfl) dX9_behind__40 (fun H locs hG => ?_)
  refine lv_iconst (v := nI 0) C.1 C.2.1 dX9_behind__43 (by decide) ?_
  refine lv_istore_n (lv' := [(3, .int (nI 0)), (0, .ref (B + 0)), (1, .int x1), (2, .int x2)]) C.1 C.2.1 dX9_behind__44 rfl hl (by decide) rfl (fun ls hl => ?_)
  obtain ⟨ex2, hex2, hf⟩ := of_bind hf
  refine kl_X9_behind__45 C  FU (nI 0, w1) ex2 _ _ _ hG (lv_sub hl [1, 3, 0] rfl) hex2 (fun y e0 H locs ls hG hl => ?_)
  subst e0
  refine lv_iload_n C.1 C.2.1 dX9_behind__88 rfl (lv_at hl 1 rfl) ?_
  refine lv_bipush (v := nI 10) C.1 C.2.1 dX9_behind__89 (by decide) ?_
  rcases of_ite hf with ⟨c3, hf⟩ | ⟨c3, hf⟩
  · refine lv_icmp_lt (tgt := 111) C.1 C.2.1 dX9_behind__91 (by decide) (fun _ => ?_) (fun q => absurd c3 q)
    refine lv_aload_n C.1 C.2.1 dX9_behind__111 rfl (lv_at hl 0 rfl) ?_
    obtain ⟨w4, hw4, hf⟩ := of_bind hf
    refine r_callV0 C hG hl.1 (c0 := 0) (As := []) (by decide) (entM_O (n := 35) rfl) rfl (mt_X9_partsOf l  hw4) (cwV 0 C.2.2.2.2.1 (gd_V tg_5_119 tg_5_121 tgp_45 tg_1_10 tg_5_122) rfl rfl rfl cd_X9_partsOf ⟨Nat.le_of_ble_eq_true rfl, Nat.le_of_ble_eq_true rfl⟩) rfl rfl (Nat.le_of_ble_eq_true rfl) dX9_behind__112 (fun H locs hG => ?_)
    refine lv_iload_n C.1 C.2.1 dX9_behind__115 rfl (lv_at hl 1 rfl) ?_
    rcases of_ite hf with ⟨c5, hf⟩ | ⟨c5, hf⟩
    · refine lv_if_ne (tgt := 126) C.1 C.2.1 dX9_behind__116 (by decide) (fun q => absurd c5 q) (fun _ => ?_)
      refine lv_aload_n C.1 C.2.1 dX9_behind__119 rfl (lv_at hl 0 rfl) ?_
      refine gf_X9_170 C hG rfl dX9_behind__120 ?_
      refine lv_goto (tgt := 142) C.1 C.2.1 dX9_behind__123 (by decide) ?_
      obtain rfl := Option.some.inj hf
      exact r_iret C hG dX9_behind__142
    · refine lv_if_ne (tgt := 126) C.1 C.2.1 dX9_behind__116 (by decide) (fun _ => ?_) (fun q => absurd q c5)
      refine lv_iload_n C.1 C.2.1 dX9_behind__126 rfl (lv_at hl 1 rfl) ?_
      refine lv_iconst (v := nI 1) C.1 C.2.1 dX9_behind__127 (by decide) ?_
      rcases of_ite hf with ⟨c6, hf⟩ | ⟨c6, hf⟩
      · refine lv_icmp_ne (tgt := 138) C.1 C.2.1 dX9_behind__128 (by decide) (fun q => absurd c6 q) (fun _ => ?_)
        refine lv_aload_n C.1 C.2.1 dX9_behind__131 rfl (lv_at hl 0 rfl) ?_
        obtain ⟨v8, hv8, hf⟩ := of_bind hf
        refine r_callV1 C hG hl.1 (c0 := 0) (As := []) (by decide) (entM_O (n := 35) rfl) rfl (mt_X9_circles l  hv8) (cwV 0 C.2.2.2.2.1 (gd_V tg_5_88 tg_5_90 tgp_41 tg_1_10 tg_5_91) rfl rfl rfl cd_X9_circles ⟨Nat.le_of_ble_eq_true rfl, Nat.le_of_ble_eq_true rfl⟩) rfl rfl (Nat.le_of_ble_eq_true rfl) dX9_behind__132 (fun H locs hG => ?_)
        refine lv_goto (tgt := 142) C.1 C.2.1 dX9_behind__135 (by decide) ?_
        obtain rfl := Option.some.inj hf
        exact r_iret C hG dX9_behind__142
      · refine lv_icmp_ne (tgt := 138) C.1 C.2.1 dX9_behind__128 (by decide) (fun _ => ?_) (fun q => absurd q c6)
        refine lv_aload_n C.1 C.2.1 dX9_behind__138 rfl (lv_at hl 0 rfl) ?_
        obtain ⟨v7, hv7, hf⟩ := of_bind hf
        refine r_callV1 C hG hl.1 (c0 := 0) (As := []) (by decide) (entM_O (n := 35) rfl) rfl (mt_X9_parts l  hv7) (cwV 0 C.2.2.2.2.1 (gd_V tg_5_129 tg_5_131 tgp_47 tg_1_10 tg_5_132) rfl rfl rfl cd_X9_parts ⟨Nat.le_of_ble_eq_true rfl, Nat.le_of_ble_eq_true rfl⟩) rfl rfl (Nat.le_of_ble_eq_true rfl) dX9_behind__139 (fun H locs hG => ?_)
        obtain rfl := Option.some.inj hf
        exact r_iret C hG dX9_behind__142
  · refine lv_icmp_lt (tgt := 111) C.1 C.2.1 dX9_behind__91 (by decide) (fun q => absurd q c3) (fun _ => ?_)
    refine lv_aload_n C.1 C.2.1 dX9_behind__94 rfl (lv_at hl 0 rfl) ?_
    refine lv_iload_n C.1 C.2.1 dX9_behind__95 rfl (lv_at hl 1 rfl) ?_
    refine lv_bipush (v := nI 10) C.1 C.2.1 dX9_behind__96 (by decide) ?_
    refine lv_isub C.1 C.2.1 dX9_behind__98 ?_
    obtain ⟨w9, hw9, hf⟩ := of_bind hf
    refine r_callV0 C hG hl.1 (c0 := 0) (As := [.int (x2 - (nI 10))]) (by decide) (entM_O (n := 35) rfl) rfl (mt_X9_laysOut_ l  hw9) (cwV 1 C.2.2.2.2.1 (gd_V tg_4_221 tg_4_223 tgp_29 tg_1_10 tg_4_224) rfl rfl rfl cd_X9_laysOut_ ⟨Nat.le_of_ble_eq_true rfl, Nat.le_of_ble_eq_true rfl⟩) rfl rfl (Nat.le_of_ble_eq_true rfl) dX9_behind__99 (fun H locs hG => ?_)
    refine lv_aload_n C.1 C.2.1 dX9_behind__102 rfl (lv_at hl 0 rfl) ?_
    obtain ⟨w10, hw10, hf⟩ := of_bind hf
    refine r_callV0 C hG hl.1 (c0 := 0) (As := []) (by decide) (entM_O (n := 35) rfl) rfl (mt_X9_sums l  hw10) (cwV 0 C.2.2.2.2.1 (gd_V tg_5_173 tg_5_175 tgp_54 tg_1_10 tg_5_176) rfl rfl rfl cd_X9_sums ⟨Nat.le_of_ble_eq_true rfl, Nat.le_of_ble_eq_true rfl⟩) rfl rfl (Nat.le_of_ble_eq_true rfl) dX9_behind__103 (fun H locs hG => ?_)
    refine lv_aload_n C.1 C.2.1 dX9_behind__106 rfl (lv_at hl 0 rfl) ?_
    obtain ⟨v11, hv11, hf⟩ := of_bind hf
    refine r_callV1 C hG hl.1 (c0 := 0) (As := []) (by decide) (entM_O (n := 35) rfl) rfl (mt_X9_together l  hv11) (cwV 0 C.2.2.2.2.1 (gd_V tg_5_201 tg_5_203 tgp_60 tg_1_10 tg_5_204) rfl rfl rfl cd_X9_together ⟨Nat.le_of_ble_eq_true rfl, Nat.le_of_ble_eq_true rfl⟩) rfl rfl (Nat.le_of_ble_eq_true rfl) dX9_behind__107 (fun H locs hG => ?_)
    obtain rfl := Option.some.inj hf
    exact r_iret C hG dX9_behind__110
set_option maxRecDepth 100000 in
set_option maxHeartbeats 4000000 in
theorem kb_X9_behind__0 {x1 : Int32} {x2 : Int32} {w : Mem} {out : Int32 × Mem} {H : Heap} {locs : List Loc} {ls : Array Slot} (C : CX p s m args meth c cX9_behind_ 4 RX9 wc_X9_behind_ (some .int))  (hG : Gd s G A 28 B (entM G B w) X H locs) (hl : lv_has ls 4 [(0, .ref (B + 0)), (1, .int x1), (2, .int x2)]) (hf : sh_X9_behind_ x1 x2 w = some out) :
    W p l e rm_X9_behind_ s m args below meth c H locs 0 0 (MQ below (CPost G A 28 B (entM G B out.2) X (some (.int out.1))) args s 0 0 A) (F0 m 0 ls []) := by
  refine lv_iload_n C.1 C.2.1 dX9_behind__0 rfl (lv_at hl 1 rfl) ?_
  obtain ⟨v1, hv1, hf⟩ := of_bind hf
  refine r_callS1 C hG hl.1 (As := [.int x1]) (mt_X9_isSurface l  hv1) (va_cwS 1 C.2.2.2.2.1 (gd_S tg_5_64 tg_5_65 tg_1_10 tg_5_66) rfl rfl rfl cd_X9_isSurface.2 ⟨Nat.le_of_ble_eq_true rfl, Nat.le_of_ble_eq_true rfl⟩) rfl rfl (Nat.le_of_ble_eq_true rfl) dX9_behind__1 (fun H locs hG => ?_)
  rcases of_ite hf with ⟨c2, hf⟩ | ⟨c2, hf⟩
  · refine lv_if_eq (tgt := 36) C.1 C.2.1 dX9_behind__4 (by decide) (fun _ => ?_) (fun q => absurd c2 q)
    refine lv_iconst (v := (-1 : Int32)) C.1 C.2.1 dX9_behind__36 (by decide) ?_
    obtain rfl := Option.some.inj hf
    exact r_iret C hG dX9_behind__37
  · refine lv_if_eq (tgt := 36) C.1 C.2.1 dX9_behind__4 (by decide) (fun q => absurd q c2) (fun _ => ?_)
    refine lv_iload_n C.1 C.2.1 dX9_behind__7 rfl (lv_at hl 2 rfl) ?_
    refine lv_i2l C.1 C.2.1 dX9_behind__8 rfl ?_
    refine lv_lconst (v := lN 0) C.1 C.2.1 dX9_behind__9 rfl ?_
    refine lv_ldc2 (v := lN 2) C.1 C.2.1 C.2.2.2.1 (C.2.2.2.2.1 _ (List.mem_cons_of_mem _ tg_4_198)) dX9_behind__10 ?_
    obtain ⟨v3, hv3, hf⟩ := of_bind hf
    refine r_callS1 C hG hl.1 (As := [.long x2.toInt64, .long (lN 0), .long (lN 2)]) (mt_X9_isIn l  hv3) (va_cwS 3 C.2.2.2.2.1 (gd_S tg_4_195 tg_4_196 tg_1_10 tg_4_197) rfl rfl rfl cd_X9_isIn.2 ⟨Nat.le_of_ble_eq_true rfl, Nat.le_of_ble_eq_true rfl⟩) rfl rfl (Nat.le_of_ble_eq_true rfl) dX9_behind__13 (fun H locs hG => ?_)
    rcases of_ite hf with ⟨c4, hf⟩ | ⟨c4, hf⟩
    · refine lv_if_ne (tgt := 38) C.1 C.2.1 dX9_behind__16 (by decide) (fun q => absurd c4 q) (fun _ => ?_)
      refine lv_iload_n C.1 C.2.1 dX9_behind__19 rfl (lv_at hl 2 rfl) ?_
      refine lv_bipush (v := nI 10) C.1 C.2.1 dX9_behind__20 (by decide) ?_
      rcases of_ite hf with ⟨c5, hf⟩ | ⟨c5, hf⟩
      · refine lv_icmp_lt (tgt := 36) C.1 C.2.1 dX9_behind__22 (by decide) (fun _ => ?_) (fun q => absurd c5 q)
        refine lv_iconst (v := (-1 : Int32)) C.1 C.2.1 dX9_behind__36 (by decide) ?_
        obtain rfl := Option.some.inj hf
        exact r_iret C hG dX9_behind__37
      · refine lv_icmp_lt (tgt := 36) C.1 C.2.1 dX9_behind__22 (by decide) (fun q => absurd q c5) (fun _ => ?_)
        refine lv_aload_n C.1 C.2.1 dX9_behind__25 rfl (lv_at hl 0 rfl) ?_
        refine lv_iload_n C.1 C.2.1 dX9_behind__26 rfl (lv_at hl 2 rfl) ?_
        refine lv_bipush (v := nI 10) C.1 C.2.1 dX9_behind__27 (by decide) ?_
        refine lv_isub C.1 C.2.1 dX9_behind__29 ?_
        obtain ⟨v6, hv6, hf⟩ := of_bind hf
        refine r_callV1 C hG hl.1 (c0 := 0) (As := [.int (x2 - (nI 10))]) (by decide) (entM_O (n := 35) rfl) rfl (mt_X9_isAlgebra l  hv6) (cwV 1 C.2.2.2.2.1 (gd_V tg_4_205 tg_4_207 tgp_27 tg_1_10 tg_4_208) rfl rfl rfl cd_X9_isAlgebra ⟨Nat.le_of_ble_eq_true rfl, Nat.le_of_ble_eq_true rfl⟩) rfl rfl (Nat.le_of_ble_eq_true rfl) dX9_behind__30 (fun H locs hG => ?_)
        rcases of_ite hf with ⟨c7, hf⟩ | ⟨c7, hf⟩
        · refine lv_if_ne (tgt := 38) C.1 C.2.1 dX9_behind__33 (by decide) (fun q => absurd c7 q) (fun _ => ?_)
          refine lv_iconst (v := (-1 : Int32)) C.1 C.2.1 dX9_behind__36 (by decide) ?_
          obtain rfl := Option.some.inj hf
          exact r_iret C hG dX9_behind__37
        · refine lv_if_ne (tgt := 38) C.1 C.2.1 dX9_behind__33 (by decide) (fun _ => ?_) (fun q => absurd q c7)
          exact kb_X9_behind__38 C  hG hl hf
    · refine lv_if_ne (tgt := 38) C.1 C.2.1 dX9_behind__16 (by decide) (fun _ => ?_) (fun q => absurd q c4)
      exact kb_X9_behind__38 C  hG hl hf
set_option maxRecDepth 100000 in
set_option maxHeartbeats 4000000 in
theorem mt_X9_behind_ (l : Launch) {G : GG} {A : Nat → Prop} {B : Nat} {X : va_W} {x1 : Int32} {x2 : Int32} {w : Mem} {out : Int32 × Mem}  (hf : sh_X9_behind_ x1 x2 w = some out) : MetW l yX9_behind_ wc_X9_behind_ rm_X9_behind_ G A 28 B (entM G B w) X [.ref (B + 0), .int x1, .int x2] (some (.int out.1)) (entM G B out.2) := by
  refine Met.ofW (cc := cX9_behind_) (maxL := 4) (ret := (some .int)) (by decide) rfl ?_
  intro p e s m args below meth c s₁ B0 hml hv
  obtain ⟨rfl, hEv, hWd⟩ := hv
  have C : CX p s m _ meth c cX9_behind_ 4 RX9 wc_X9_behind_ (some .int) := ⟨B0.exec, B0.bytes, hml, findClass_of_methodNamed B0.named, atoms_spec (ws := wc_X9_behind_) B0.pre, B0.returns, B0.notSynchronized⟩
  have hl := lv_entry [.ref (B + 0), .int x1, .int x2] (n := 4) (Nat.le_of_ble_eq_true rfl)
  rw [lg_entry_eq]
  generalize (lg_sl [.ref (B + 0), .int x1, .int x2] ++ List.replicate (4 - (lg_sl [.ref (B + 0), .int x1, .int x2]).length) Slot.unset).toArray = ls at hl ⊢
  have hl : lv_has ls 4 [(0, .ref (B + 0)), (1, .int x1), (2, .int x2)] := hl
  exact kb_X9_behind__0 C  ⟨hEv, hWd, va_S.rf⟩ hl hf
abbrev wc_X9_write : List Cond := Cond.code yX9_write cX9_write 3 (some .int) :: TG
abbrev rm_X9_write : Room := { frames := 4, cells := 0, slots := 0, locals := 145 }
theorem cd_X9_write : yX9_write.cls = RX9 ∧ yX9_write.cls ≠ "java/lang/invoke/MethodHandle" ∧ yX9_write.cls ≠ "java/lang/invoke/VarHandle" ∧ (parseMethodDescriptor yX9_write.desc).map (fun d => d.parameters.length) = some 1 := by decide +kernel
theorem dX9_write_0 : decode cX9_write 0 = .ok (.iload_n 1, 1) := by decide +kernel
theorem dX9_write_1 : decode cX9_write 1 = .ok (.invokestatic 205, 3) := by decide +kernel
theorem dX9_write_4 : decode cX9_write 4 = .ok (.ifCond .ne 5, 3) := by decide +kernel
theorem dX9_write_7 : decode cX9_write 7 = .ok (.iconst (-1), 1) := by decide +kernel
theorem dX9_write_8 : decode cX9_write 8 = .ok (.ireturn, 1) := by decide +kernel
theorem dX9_write_9 : decode cX9_write 9 = .ok (.aload_n 0, 1) := by decide +kernel
theorem dX9_write_10 : decode cX9_write 10 = .ok (.aload_n 0, 1) := by decide +kernel
theorem dX9_write_11 : decode cX9_write 11 = .ok (.getfield 11, 3) := by decide +kernel
theorem dX9_write_14 : decode cX9_write 14 = .ok (.bipush 13, 2) := by decide +kernel
theorem dX9_write_16 : decode cX9_write 16 = .ok (.iload_n 1, 1) := by decide +kernel
theorem dX9_write_17 : decode cX9_write 17 = .ok (.iadd, 1) := by decide +kernel
theorem dX9_write_18 : decode cX9_write 18 = .ok (.iaload, 1) := by decide +kernel
theorem dX9_write_19 : decode cX9_write 19 = .ok (.putfield 303, 3) := by decide +kernel
theorem dX9_write_22 : decode cX9_write 22 = .ok (.iconst 0, 1) := by decide +kernel
theorem dX9_write_23 : decode cX9_write 23 = .ok (.istore_n 2, 1) := by decide +kernel
theorem dX9_write_24 : decode cX9_write 24 = .ok (.iload_n 2, 1) := by decide +kernel
theorem dX9_write_25 : decode cX9_write 25 = .ok (.aload_n 0, 1) := by decide +kernel
theorem dX9_write_26 : decode cX9_write 26 = .ok (.getfield 303, 3) := by decide +kernel
theorem dX9_write_29 : decode cX9_write 29 = .ok (.if_icmp .ge 32, 3) := by decide +kernel
theorem dX9_write_32 : decode cX9_write 32 = .ok (.aload_n 0, 1) := by decide +kernel
theorem dX9_write_33 : decode cX9_write 33 = .ok (.getfield 84, 3) := by decide +kernel
theorem dX9_write_36 : decode cX9_write 36 = .ok (.iload_n 2, 1) := by decide +kernel
theorem dX9_write_37 : decode cX9_write 37 = .ok (.aload_n 0, 1) := by decide +kernel
theorem dX9_write_38 : decode cX9_write 38 = .ok (.getfield 11, 3) := by decide +kernel
theorem dX9_write_41 : decode cX9_write 41 = .ok (.bipush 17, 2) := by decide +kernel
theorem dX9_write_43 : decode cX9_write 43 = .ok (.bipush 24, 2) := by decide +kernel
theorem dX9_write_45 : decode cX9_write 45 = .ok (.iload_n 1, 1) := by decide +kernel
theorem dX9_write_46 : decode cX9_write 46 = .ok (.imul, 1) := by decide +kernel
theorem dX9_write_47 : decode cX9_write 47 = .ok (.iadd, 1) := by decide +kernel
theorem dX9_write_48 : decode cX9_write 48 = .ok (.iload_n 2, 1) := by decide +kernel
theorem dX9_write_49 : decode cX9_write 49 = .ok (.iadd, 1) := by decide +kernel
theorem dX9_write_50 : decode cX9_write 50 = .ok (.iaload, 1) := by decide +kernel
theorem dX9_write_51 : decode cX9_write 51 = .ok (.invokestatic 180, 3) := by decide +kernel
theorem dX9_write_54 : decode cX9_write 54 = .ok (.iastore, 1) := by decide +kernel
theorem dX9_write_55 : decode cX9_write 55 = .ok (.iinc 2 1, 3) := by decide +kernel
theorem dX9_write_58 : decode cX9_write 58 = .ok (.goto (-34), 3) := by decide +kernel
theorem dX9_write_61 : decode cX9_write 61 = .ok (.aload_n 0, 1) := by decide +kernel
theorem dX9_write_62 : decode cX9_write 62 = .ok (.getfield 303, 3) := by decide +kernel
theorem dX9_write_65 : decode cX9_write 65 = .ok (.ireturn, 1) := by decide +kernel
set_option maxRecDepth 100000 in
set_option maxHeartbeats 4000000 in
theorem kb_X9_write_24 {x1 : Int32} {st : Int32 × Mem} {r : (Int32 × Mem) ⊕ ((Mem))} {H : Heap} {locs : List Loc} {ls : Array Slot} (C : CX p s m args meth c cX9_write 3 RX9 wc_X9_write (some .int))  (hG : Gd s G A 28 B (entM G B st.2) X H locs) (hl : lv_has ls 3 [(0, .ref (B + 0)), (1, .int x1), (2, .int st.1)]) (hf : sh_X9_write_s24 x1 st = some r)
    (kL : ∀ st' : Int32 × Mem, r = Sum.inl st' → ∀ (H : Heap) (locs : List Loc) (ls : Array Slot), Gd s G A 28 B (entM G B st'.2) X H locs → lv_has ls 3 [(0, .ref (B + 0)), (1, .int x1), (2, .int st'.1)] → W p l e rm_X9_write s m args below meth c H locs 0 0 Q (F0 m 24 ls []))
    (kX0 : ∀ y' : Mem, r = Sum.inr y' → ∀ (H : Heap) (locs : List Loc) (ls : Array Slot), Gd s G A 28 B (entM G B y') X H locs → lv_has ls 3 [(0, .ref (B + 0))] → W p l e rm_X9_write s m args below meth c H locs 0 0 Q (F0 m 61 ls [])) :
    W p l e rm_X9_write s m args below meth c H locs 0 0 Q (F0 m 24 ls []) := by
  refine lv_iload_n C.1 C.2.1 dX9_write_24 rfl (lv_at hl 2 rfl) ?_
  refine lv_aload_n C.1 C.2.1 dX9_write_25 rfl (lv_at hl 0 rfl) ?_
  refine gf_X9_303 C hG rfl dX9_write_26 ?_
  rcases of_ite hf with ⟨c1, hf⟩ | ⟨c1, hf⟩
  · refine lv_icmp_ge (tgt := 61) C.1 C.2.1 dX9_write_29 (by decide) (fun _ => ?_) (fun q => absurd c1 q)
    obtain rfl := Option.some.inj hf
    exact kX0 _ rfl _ _ _ hG (lv_sub hl [0] rfl)
  · refine lv_icmp_ge (tgt := 61) C.1 C.2.1 dX9_write_29 (by decide) (fun q => absurd q c1) (fun _ => ?_)
    refine lv_aload_n C.1 C.2.1 dX9_write_32 rfl (lv_at hl 0 rfl) ?_
    refine gf_X9_84 C hG rfl dX9_write_33 ?_
    refine lv_iload_n C.1 C.2.1 dX9_write_36 rfl (lv_at hl 2 rfl) ?_
    refine lv_aload_n C.1 C.2.1 dX9_write_37 rfl (lv_at hl 0 rfl) ?_
    refine gf_X9_11 C hG rfl dX9_write_38 ?_
    refine lv_bipush (v := nI 17) C.1 C.2.1 dX9_write_41 (by decide) ?_
    refine lv_bipush (v := nI 24) C.1 C.2.1 dX9_write_43 (by decide) ?_
    refine lv_iload_n C.1 C.2.1 dX9_write_45 rfl (lv_at hl 1 rfl) ?_
    refine lv_imul C.1 C.2.1 dX9_write_46 ?_
    refine lv_iadd C.1 C.2.1 dX9_write_47 ?_
    refine lv_iload_n C.1 C.2.1 dX9_write_48 rfl (lv_at hl 2 rfl) ?_
    refine lv_iadd C.1 C.2.1 dX9_write_49 ?_
    obtain ⟨v2, hv2, hf⟩ := of_bind hf
    obtain ⟨bv2, ev2⟩ := of_ldS hv2
    refine r_iald C hG (c0 := 1) (by decide) (entM_I (n := 130) rfl) bv2 dX9_write_50 ?_
    refine r_top ev2 ?_
    obtain ⟨v3, hv3, hf⟩ := of_bind hf
    refine r_callS1 C hG hl.1 (As := [.int v2]) (mt_X9_letterOf l  hv3) (va_cwS 1 C.2.2.2.2.1 (gd_S tg_5_75 tg_5_76 tg_1_10 tg_5_77) rfl rfl rfl cd_X9_letterOf.2 ⟨Nat.le_of_ble_eq_true rfl, Nat.le_of_ble_eq_true rfl⟩) rfl rfl (Nat.le_of_ble_eq_true rfl) dX9_write_51 (fun H locs hG => ?_)
    obtain ⟨w4, hw4, hf⟩ := of_bind hf
    obtain ⟨bw4, ew4⟩ := of_stM hw4
    refine r_iast C hG (c0 := 25) (by decide) (entM_I (n := 24) rfl) bw4 (E' := (entM G B w4)) (by rw [ew4]; exact upM_I (n := 24) rfl) dX9_write_54 (fun H locs hG => ?_)
    obtain ⟨v5, ev5, hf⟩ := of_letv hf
    refine lv_iinc (v := v5) (lv' := [(2, .int v5), (0, .ref (B + 0)), (1, .int x1)]) C.1 C.2.1 dX9_write_55 hl (k := 2) rfl (by rw [ev5, show Int32.ofInt (1) = nI 1 from by decide]) (by decide) rfl (fun ls hl => ?_)
    refine lv_goto (tgt := 24) C.1 C.2.1 dX9_write_58 (by decide) ?_
    obtain rfl := Option.some.inj hf
    exact kL _ rfl _ _ _ hG (lv_sub hl [1, 2, 0] rfl)
set_option maxRecDepth 100000 in
set_option maxHeartbeats 4000000 in
theorem kl_X9_write_24 {x1 : Int32} (C : CX p s m args meth c cX9_write 3 RX9 wc_X9_write (some .int))  : ∀ (n : Nat) (st : Int32 × Mem) (x : (Mem)) (H : Heap) (locs : List Loc) (ls : Array Slot), Gd s G A 28 B (entM G B st.2) X H locs → lv_has ls 3 [(0, .ref (B + 0)), (1, .int x1), (2, .int st.1)] → lpw (sh_X9_write_s24 x1) n st = some x →
    (∀ y' : Mem, x = y' → ∀ (H : Heap) (locs : List Loc) (ls : Array Slot), Gd s G A 28 B (entM G B y') X H locs → lv_has ls 3 [(0, .ref (B + 0))] → W p l e rm_X9_write s m args below meth c H locs 0 0 Q (F0 m 61 ls [])) → W p l e rm_X9_write s m args below meth c H locs 0 0 Q (F0 m 24 ls []) := by
  intro n
  induction n with
  | zero =>
    intro st x H locs ls hG hl hf
    cases hf
  | succ n ih =>
    intro st x H locs ls hG hl hf kX0
    obtain ⟨r, hr, hh⟩ := of_lpw hf
    refine kb_X9_write_24 C  hG hl hr (fun st2 e1 H locs ls hG hl => ?_) (fun y2 e1 H locs ls hG hl => ?_)
    · rcases hh with ⟨s3, e2, hh⟩ | e2
      · rw [e2] at e1
        cases e1
        exact ih _ _ _ _ _ hG hl hh kX0
      · rw [e2] at e1
        cases e1
    · rcases hh with ⟨s3, e2, hh⟩ | e2
      · rw [e2] at e1
        cases e1
      · rw [e2] at e1
        cases e1
        exact kX0 _ rfl _ _ _ hG hl
set_option maxRecDepth 100000 in
set_option maxHeartbeats 4000000 in
theorem kb_X9_write_0 {x1 : Int32} {w : Mem} {out : Int32 × Mem} {H : Heap} {locs : List Loc} {ls : Array Slot} (C : CX p s m args meth c cX9_write 3 RX9 wc_X9_write (some .int))  (hG : Gd s G A 28 B (entM G B w) X H locs) (hl : lv_has ls 3 [(0, .ref (B + 0)), (1, .int x1)]) (hf : sh_X9_write x1 w = some out) :
    W p l e rm_X9_write s m args below meth c H locs 0 0 (MQ below (CPost G A 28 B (entM G B out.2) X (some (.int out.1))) args s 0 0 A) (F0 m 0 ls []) := by
  refine lv_iload_n C.1 C.2.1 dX9_write_0 rfl (lv_at hl 1 rfl) ?_
  obtain ⟨v1, hv1, hf⟩ := of_bind hf
  refine r_callS1 C hG hl.1 (As := [.int x1]) (mt_X9_isSurface l  hv1) (va_cwS 1 C.2.2.2.2.1 (gd_S tg_5_64 tg_5_65 tg_1_10 tg_5_66) rfl rfl rfl cd_X9_isSurface.2 ⟨Nat.le_of_ble_eq_true rfl, Nat.le_of_ble_eq_true rfl⟩) rfl rfl (Nat.le_of_ble_eq_true rfl) dX9_write_1 (fun H locs hG => ?_)
  rcases of_ite hf with ⟨c2, hf⟩ | ⟨c2, hf⟩
  · refine lv_if_ne (tgt := 9) C.1 C.2.1 dX9_write_4 (by decide) (fun q => absurd c2 q) (fun _ => ?_)
    refine lv_iconst (v := (-1 : Int32)) C.1 C.2.1 dX9_write_7 (by decide) ?_
    obtain rfl := Option.some.inj hf
    exact r_iret C hG dX9_write_8
  · refine lv_if_ne (tgt := 9) C.1 C.2.1 dX9_write_4 (by decide) (fun _ => ?_) (fun q => absurd q c2)
    refine lv_aload_n C.1 C.2.1 dX9_write_9 rfl (lv_at hl 0 rfl) ?_
    refine lv_aload_n C.1 C.2.1 dX9_write_10 rfl (lv_at hl 0 rfl) ?_
    refine gf_X9_11 C hG rfl dX9_write_11 ?_
    refine lv_bipush (v := nI 13) C.1 C.2.1 dX9_write_14 (by decide) ?_
    refine lv_iload_n C.1 C.2.1 dX9_write_16 rfl (lv_at hl 1 rfl) ?_
    refine lv_iadd C.1 C.2.1 dX9_write_17 ?_
    obtain ⟨v3, hv3, hf⟩ := of_bind hf
    obtain ⟨bv3, ev3⟩ := of_ldS hv3
    refine r_iald C hG (c0 := 1) (by decide) (entM_I (n := 130) rfl) bv3 dX9_write_18 ?_
    refine r_top ev3 ?_
    obtain ⟨w4, ew4, hf⟩ := of_letv hf
    refine pf_X9_303 C hG rfl dX9_write_19 (fun H locs hG => ?_)
    rw [← ew4] at hG
    refine lv_iconst (v := nI 0) C.1 C.2.1 dX9_write_22 (by decide) ?_
    refine lv_istore_n (lv' := [(2, .int (nI 0)), (0, .ref (B + 0)), (1, .int x1)]) C.1 C.2.1 dX9_write_23 rfl hl (by decide) rfl (fun ls hl => ?_)
    obtain ⟨ex5, hex5, hf⟩ := of_bind hf
    refine kl_X9_write_24 C  FU (nI 0, w4) ex5 _ _ _ hG (lv_sub hl [1, 2, 0] rfl) hex5 (fun y e0 H locs ls hG hl => ?_)
    subst e0
    refine lv_aload_n C.1 C.2.1 dX9_write_61 rfl (lv_at hl 0 rfl) ?_
    refine gf_X9_303 C hG rfl dX9_write_62 ?_
    obtain rfl := Option.some.inj hf
    exact r_iret C hG dX9_write_65
set_option maxRecDepth 100000 in
set_option maxHeartbeats 4000000 in
theorem mt_X9_write (l : Launch) {G : GG} {A : Nat → Prop} {B : Nat} {X : va_W} {x1 : Int32} {w : Mem} {out : Int32 × Mem}  (hf : sh_X9_write x1 w = some out) : MetW l yX9_write wc_X9_write rm_X9_write G A 28 B (entM G B w) X [.ref (B + 0), .int x1] (some (.int out.1)) (entM G B out.2) := by
  refine Met.ofW (cc := cX9_write) (maxL := 3) (ret := (some .int)) (by decide) rfl ?_
  intro p e s m args below meth c s₁ B0 hml hv
  obtain ⟨rfl, hEv, hWd⟩ := hv
  have C : CX p s m _ meth c cX9_write 3 RX9 wc_X9_write (some .int) := ⟨B0.exec, B0.bytes, hml, findClass_of_methodNamed B0.named, atoms_spec (ws := wc_X9_write) B0.pre, B0.returns, B0.notSynchronized⟩
  have hl := lv_entry [.ref (B + 0), .int x1] (n := 3) (Nat.le_of_ble_eq_true rfl)
  rw [lg_entry_eq]
  generalize (lg_sl [.ref (B + 0), .int x1] ++ List.replicate (3 - (lg_sl [.ref (B + 0), .int x1]).length) Slot.unset).toArray = ls at hl ⊢
  have hl : lv_has ls 3 [(0, .ref (B + 0)), (1, .int x1)] := hl
  exact kb_X9_write_0 C  ⟨hEv, hWd, va_S.rf⟩ hl hf
abbrev wc_X9_paper : List Cond := Cond.code yX9_paper cX9_paper 2 (some .int) :: TG
abbrev rm_X9_paper : Room := { frames := 3, cells := 0, slots := 0, locals := 125 }
theorem cd_X9_paper : yX9_paper.cls = RX9 ∧ yX9_paper.cls ≠ "java/lang/invoke/MethodHandle" ∧ yX9_paper.cls ≠ "java/lang/invoke/VarHandle" ∧ (parseMethodDescriptor yX9_paper.desc).map (fun d => d.parameters.length) = some 1 := by decide +kernel
theorem dX9_paper_0 : decode cX9_paper 0 = .ok (.iload_n 1, 1) := by decide +kernel
theorem dX9_paper_1 : decode cX9_paper 1 = .ok (.i2l, 1) := by decide +kernel
theorem dX9_paper_2 : decode cX9_paper 2 = .ok (.lconst 0, 1) := by decide +kernel
theorem dX9_paper_3 : decode cX9_paper 3 = .ok (.aload_n 0, 1) := by decide +kernel
theorem dX9_paper_4 : decode cX9_paper 4 = .ok (.getfield 303, 3) := by decide +kernel
theorem dX9_paper_7 : decode cX9_paper 7 = .ok (.iconst 1, 1) := by decide +kernel
theorem dX9_paper_8 : decode cX9_paper 8 = .ok (.isub, 1) := by decide +kernel
theorem dX9_paper_9 : decode cX9_paper 9 = .ok (.i2l, 1) := by decide +kernel
theorem dX9_paper_10 : decode cX9_paper 10 = .ok (.invokestatic 93, 3) := by decide +kernel
theorem dX9_paper_13 : decode cX9_paper 13 = .ok (.ifCond .eq 12, 3) := by decide +kernel
theorem dX9_paper_16 : decode cX9_paper 16 = .ok (.aload_n 0, 1) := by decide +kernel
theorem dX9_paper_17 : decode cX9_paper 17 = .ok (.getfield 84, 3) := by decide +kernel
theorem dX9_paper_20 : decode cX9_paper 20 = .ok (.iload_n 1, 1) := by decide +kernel
theorem dX9_paper_21 : decode cX9_paper 21 = .ok (.iaload, 1) := by decide +kernel
theorem dX9_paper_22 : decode cX9_paper 22 = .ok (.goto 4, 3) := by decide +kernel
theorem dX9_paper_25 : decode cX9_paper 25 = .ok (.iconst (-1), 1) := by decide +kernel
theorem dX9_paper_26 : decode cX9_paper 26 = .ok (.ireturn, 1) := by decide +kernel
set_option maxRecDepth 100000 in
set_option maxHeartbeats 4000000 in
theorem kb_X9_paper_0 {x1 : Int32} {w : Mem} {out : Int32} {H : Heap} {locs : List Loc} {ls : Array Slot} (C : CX p s m args meth c cX9_paper 2 RX9 wc_X9_paper (some .int))  (hG : Gd s G A 28 B (entM G B w) X H locs) (hl : lv_has ls 2 [(0, .ref (B + 0)), (1, .int x1)]) (hf : sh_X9_paper x1 w = some out) :
    W p l e rm_X9_paper s m args below meth c H locs 0 0 (MQ below (CPost G A 28 B (entM G B w) X (some (.int out))) args s 0 0 A) (F0 m 0 ls []) := by
  refine lv_iload_n C.1 C.2.1 dX9_paper_0 rfl (lv_at hl 1 rfl) ?_
  refine lv_i2l C.1 C.2.1 dX9_paper_1 rfl ?_
  refine lv_lconst (v := lN 0) C.1 C.2.1 dX9_paper_2 rfl ?_
  refine lv_aload_n C.1 C.2.1 dX9_paper_3 rfl (lv_at hl 0 rfl) ?_
  refine gf_X9_303 C hG rfl dX9_paper_4 ?_
  refine lv_iconst (v := nI 1) C.1 C.2.1 dX9_paper_7 (by decide) ?_
  refine lv_isub C.1 C.2.1 dX9_paper_8 ?_
  refine lv_i2l C.1 C.2.1 dX9_paper_9 rfl ?_
  obtain ⟨v1, hv1, hf⟩ := of_bind hf
  refine r_callS1 C hG hl.1 (As := [.long x1.toInt64, .long (lN 0), .long (((w 0 32) - (nI 1)).toInt64)]) (mt_X9_isIn l  hv1) (va_cwS 3 C.2.2.2.2.1 (gd_S tg_4_195 tg_4_196 tg_1_10 tg_4_197) rfl rfl rfl cd_X9_isIn.2 ⟨Nat.le_of_ble_eq_true rfl, Nat.le_of_ble_eq_true rfl⟩) rfl rfl (Nat.le_of_ble_eq_true rfl) dX9_paper_10 (fun H locs hG => ?_)
  rcases of_ite hf with ⟨c2, hf⟩ | ⟨c2, hf⟩
  · refine lv_if_eq (tgt := 25) C.1 C.2.1 dX9_paper_13 (by decide) (fun _ => ?_) (fun q => absurd c2 q)
    refine lv_iconst (v := (-1 : Int32)) C.1 C.2.1 dX9_paper_25 (by decide) ?_
    obtain rfl := Option.some.inj hf
    exact r_iret C hG dX9_paper_26
  · refine lv_if_eq (tgt := 25) C.1 C.2.1 dX9_paper_13 (by decide) (fun q => absurd q c2) (fun _ => ?_)
    refine lv_aload_n C.1 C.2.1 dX9_paper_16 rfl (lv_at hl 0 rfl) ?_
    refine gf_X9_84 C hG rfl dX9_paper_17 ?_
    refine lv_iload_n C.1 C.2.1 dX9_paper_20 rfl (lv_at hl 1 rfl) ?_
    obtain ⟨v3, hv3, hf⟩ := of_bind hf
    obtain ⟨bv3, ev3⟩ := of_ldS hv3
    refine r_iald C hG (c0 := 25) (by decide) (entM_I (n := 24) rfl) bv3 dX9_paper_21 ?_
    refine r_top ev3 ?_
    refine lv_goto (tgt := 26) C.1 C.2.1 dX9_paper_22 (by decide) ?_
    obtain rfl := Option.some.inj hf
    exact r_iret C hG dX9_paper_26
set_option maxRecDepth 100000 in
set_option maxHeartbeats 4000000 in
theorem mt_X9_paper (l : Launch) {G : GG} {A : Nat → Prop} {B : Nat} {X : va_W} {x1 : Int32} {w : Mem} {out : Int32}  (hf : sh_X9_paper x1 w = some out) : MetW l yX9_paper wc_X9_paper rm_X9_paper G A 28 B (entM G B w) X [.ref (B + 0), .int x1] (some (.int out)) (entM G B w) := by
  refine Met.ofW (cc := cX9_paper) (maxL := 2) (ret := (some .int)) (by decide) rfl ?_
  intro p e s m args below meth c s₁ B0 hml hv
  obtain ⟨rfl, hEv, hWd⟩ := hv
  have C : CX p s m _ meth c cX9_paper 2 RX9 wc_X9_paper (some .int) := ⟨B0.exec, B0.bytes, hml, findClass_of_methodNamed B0.named, atoms_spec (ws := wc_X9_paper) B0.pre, B0.returns, B0.notSynchronized⟩
  have hl := lv_entry [.ref (B + 0), .int x1] (n := 2) (Nat.le_of_ble_eq_true rfl)
  rw [lg_entry_eq]
  generalize (lg_sl [.ref (B + 0), .int x1] ++ List.replicate (2 - (lg_sl [.ref (B + 0), .int x1]).length) Slot.unset).toArray = ls at hl ⊢
  have hl : lv_has ls 2 [(0, .ref (B + 0)), (1, .int x1)] := hl
  exact kb_X9_paper_0 C  ⟨hEv, hWd, va_S.rf⟩ hl hf
abbrev wc_X9_isList : List Cond := Cond.code yX9_isList cX9_isList 1 (some .boolean) :: TG
abbrev rm_X9_isList : Room := { frames := 3, cells := 0, slots := 0, locals := 125 }
theorem cd_X9_isList : yX9_isList.cls = RX9 ∧ yX9_isList.cls ≠ "java/lang/invoke/MethodHandle" ∧ yX9_isList.cls ≠ "java/lang/invoke/VarHandle" ∧ (parseMethodDescriptor yX9_isList.desc).map (fun d => d.parameters.length) = some 1 := by decide +kernel
theorem dX9_isList_0 : decode cX9_isList 0 = .ok (.iload_n 0, 1) := by decide +kernel
theorem dX9_isList_1 : decode cX9_isList 1 = .ok (.i2l, 1) := by decide +kernel
theorem dX9_isList_2 : decode cX9_isList 2 = .ok (.lconst 0, 1) := by decide +kernel
theorem dX9_isList_3 : decode cX9_isList 3 = .ok (.ldc2_w 97, 3) := by decide +kernel
theorem dX9_isList_6 : decode cX9_isList 6 = .ok (.invokestatic 93, 3) := by decide +kernel
theorem dX9_isList_9 : decode cX9_isList 9 = .ok (.ireturn, 1) := by decide +kernel
set_option maxRecDepth 100000 in
set_option maxHeartbeats 4000000 in
theorem kb_X9_isList_0 {x0 : Int32} {out : Int32} {H : Heap} {locs : List Loc} {ls : Array Slot} (C : CX p s m args meth c cX9_isList 1 RX9 wc_X9_isList (some .boolean))  (hG : Gd s G A N B E X H locs) (hl : lv_has ls 1 [(0, .int x0)]) (hf : sh_X9_isList x0 = some out) :
    W p l e rm_X9_isList s m args below meth c H locs 0 0 (MQ below (CPost G A N B E X (some (.int out))) args s 0 0 A) (F0 m 0 ls []) := by
  refine lv_iload_n C.1 C.2.1 dX9_isList_0 rfl (lv_at hl 0 rfl) ?_
  refine lv_i2l C.1 C.2.1 dX9_isList_1 rfl ?_
  refine lv_lconst (v := lN 0) C.1 C.2.1 dX9_isList_2 rfl ?_
  refine lv_ldc2 (v := lN 3) C.1 C.2.1 C.2.2.2.1 (C.2.2.2.2.1 _ (List.mem_cons_of_mem _ tg_5_67)) dX9_isList_3 ?_
  obtain ⟨v1, hv1, hf⟩ := of_bind hf
  refine r_callS1 C hG hl.1 (As := [.long x0.toInt64, .long (lN 0), .long (lN 3)]) (mt_X9_isIn l  hv1) (va_cwS 3 C.2.2.2.2.1 (gd_S tg_4_195 tg_4_196 tg_1_10 tg_4_197) rfl rfl rfl cd_X9_isIn.2 ⟨Nat.le_of_ble_eq_true rfl, Nat.le_of_ble_eq_true rfl⟩) rfl rfl (Nat.le_of_ble_eq_true rfl) dX9_isList_6 (fun H locs hG => ?_)
  obtain ⟨c2, hf⟩ := of_grd hf
  obtain rfl := Option.some.inj hf
  exact r_zret C hG c2 dX9_isList_9
set_option maxRecDepth 100000 in
set_option maxHeartbeats 4000000 in
theorem mt_X9_isList (l : Launch) {G : GG} {A : Nat → Prop} {N B : Nat} {E : Nat → va_E} {X : va_W} {x0 : Int32} {out : Int32}  (hf : sh_X9_isList x0 = some out) : MetW l yX9_isList wc_X9_isList rm_X9_isList G A N B E X [.int x0] (some (.int out)) E := by
  refine Met.ofW (cc := cX9_isList) (maxL := 1) (ret := (some .boolean)) (by decide) rfl ?_
  intro p e s m args below meth c s₁ B0 hml hv
  obtain ⟨rfl, hEv, hWd⟩ := hv
  have C : CX p s m _ meth c cX9_isList 1 RX9 wc_X9_isList (some .boolean) := ⟨B0.exec, B0.bytes, hml, findClass_of_methodNamed B0.named, atoms_spec (ws := wc_X9_isList) B0.pre, B0.returns, B0.notSynchronized⟩
  have hl := lv_entry [.int x0] (n := 1) (Nat.le_of_ble_eq_true rfl)
  rw [lg_entry_eq]
  generalize (lg_sl [.int x0] ++ List.replicate (1 - (lg_sl [.int x0]).length) Slot.unset).toArray = ls at hl ⊢
  have hl : lv_has ls 1 [(0, .int x0)] := hl
  exact kb_X9_isList_0 C  ⟨hEv, hWd, va_S.rf⟩ hl hf
abbrev wc_X9_isCell : List Cond := Cond.code yX9_isCell cX9_isCell 3 (some .boolean) :: TG
abbrev rm_X9_isCell : Room := { frames := 3, cells := 0, slots := 0, locals := 125 }
theorem cd_X9_isCell : yX9_isCell.cls = RX9 ∧ yX9_isCell.cls ≠ "java/lang/invoke/MethodHandle" ∧ yX9_isCell.cls ≠ "java/lang/invoke/VarHandle" ∧ (parseMethodDescriptor yX9_isCell.desc).map (fun d => d.parameters.length) = some 2 := by decide +kernel
theorem dX9_isCell_0 : decode cX9_isCell 0 = .ok (.iload_n 2, 1) := by decide +kernel
theorem dX9_isCell_1 : decode cX9_isCell 1 = .ok (.i2l, 1) := by decide +kernel
theorem dX9_isCell_2 : decode cX9_isCell 2 = .ok (.lconst 0, 1) := by decide +kernel
theorem dX9_isCell_3 : decode cX9_isCell 3 = .ok (.aload_n 0, 1) := by decide +kernel
theorem dX9_isCell_4 : decode cX9_isCell 4 = .ok (.getfield 87, 3) := by decide +kernel
theorem dX9_isCell_7 : decode cX9_isCell 7 = .ok (.iload_n 1, 1) := by decide +kernel
theorem dX9_isCell_8 : decode cX9_isCell 8 = .ok (.iaload, 1) := by decide +kernel
theorem dX9_isCell_9 : decode cX9_isCell 9 = .ok (.iconst 1, 1) := by decide +kernel
theorem dX9_isCell_10 : decode cX9_isCell 10 = .ok (.isub, 1) := by decide +kernel
theorem dX9_isCell_11 : decode cX9_isCell 11 = .ok (.i2l, 1) := by decide +kernel
theorem dX9_isCell_12 : decode cX9_isCell 12 = .ok (.invokestatic 93, 3) := by decide +kernel
theorem dX9_isCell_15 : decode cX9_isCell 15 = .ok (.ireturn, 1) := by decide +kernel
set_option maxRecDepth 100000 in
set_option maxHeartbeats 4000000 in
theorem kb_X9_isCell_0 {x1 : Int32} {x2 : Int32} {w : Mem} {out : Int32} {H : Heap} {locs : List Loc} {ls : Array Slot} (C : CX p s m args meth c cX9_isCell 3 RX9 wc_X9_isCell (some .boolean))  (hG : Gd s G A 28 B (entM G B w) X H locs) (hl : lv_has ls 3 [(0, .ref (B + 0)), (1, .int x1), (2, .int x2)]) (hf : sh_X9_isCell x1 x2 w = some out) :
    W p l e rm_X9_isCell s m args below meth c H locs 0 0 (MQ below (CPost G A 28 B (entM G B w) X (some (.int out))) args s 0 0 A) (F0 m 0 ls []) := by
  refine lv_iload_n C.1 C.2.1 dX9_isCell_0 rfl (lv_at hl 2 rfl) ?_
  refine lv_i2l C.1 C.2.1 dX9_isCell_1 rfl ?_
  refine lv_lconst (v := lN 0) C.1 C.2.1 dX9_isCell_2 rfl ?_
  refine lv_aload_n C.1 C.2.1 dX9_isCell_3 rfl (lv_at hl 0 rfl) ?_
  refine gf_X9_87 C hG rfl dX9_isCell_4 ?_
  refine lv_iload_n C.1 C.2.1 dX9_isCell_7 rfl (lv_at hl 1 rfl) ?_
  obtain ⟨v1, hv1, hf⟩ := of_bind hf
  obtain ⟨bv1, ev1⟩ := of_ldS hv1
  refine r_iald C hG (c0 := 26) (by decide) (entM_I (n := 4) rfl) bv1 dX9_isCell_8 ?_
  refine r_top ev1 ?_
  refine lv_iconst (v := nI 1) C.1 C.2.1 dX9_isCell_9 (by decide) ?_
  refine lv_isub C.1 C.2.1 dX9_isCell_10 ?_
  refine lv_i2l C.1 C.2.1 dX9_isCell_11 rfl ?_
  obtain ⟨v2, hv2, hf⟩ := of_bind hf
  refine r_callS1 C hG hl.1 (As := [.long x2.toInt64, .long (lN 0), .long ((v1 - (nI 1)).toInt64)]) (mt_X9_isIn l  hv2) (va_cwS 3 C.2.2.2.2.1 (gd_S tg_4_195 tg_4_196 tg_1_10 tg_4_197) rfl rfl rfl cd_X9_isIn.2 ⟨Nat.le_of_ble_eq_true rfl, Nat.le_of_ble_eq_true rfl⟩) rfl rfl (Nat.le_of_ble_eq_true rfl) dX9_isCell_12 (fun H locs hG => ?_)
  obtain ⟨c3, hf⟩ := of_grd hf
  obtain rfl := Option.some.inj hf
  exact r_zret C hG c3 dX9_isCell_15
set_option maxRecDepth 100000 in
set_option maxHeartbeats 4000000 in
theorem mt_X9_isCell (l : Launch) {G : GG} {A : Nat → Prop} {B : Nat} {X : va_W} {x1 : Int32} {x2 : Int32} {w : Mem} {out : Int32}  (hf : sh_X9_isCell x1 x2 w = some out) : MetW l yX9_isCell wc_X9_isCell rm_X9_isCell G A 28 B (entM G B w) X [.ref (B + 0), .int x1, .int x2] (some (.int out)) (entM G B w) := by
  refine Met.ofW (cc := cX9_isCell) (maxL := 3) (ret := (some .boolean)) (by decide) rfl ?_
  intro p e s m args below meth c s₁ B0 hml hv
  obtain ⟨rfl, hEv, hWd⟩ := hv
  have C : CX p s m _ meth c cX9_isCell 3 RX9 wc_X9_isCell (some .boolean) := ⟨B0.exec, B0.bytes, hml, findClass_of_methodNamed B0.named, atoms_spec (ws := wc_X9_isCell) B0.pre, B0.returns, B0.notSynchronized⟩
  have hl := lv_entry [.ref (B + 0), .int x1, .int x2] (n := 3) (Nat.le_of_ble_eq_true rfl)
  rw [lg_entry_eq]
  generalize (lg_sl [.ref (B + 0), .int x1, .int x2] ++ List.replicate (3 - (lg_sl [.ref (B + 0), .int x1, .int x2]).length) Slot.unset).toArray = ls at hl ⊢
  have hl : lv_has ls 3 [(0, .ref (B + 0)), (1, .int x1), (2, .int x2)] := hl
  exact kb_X9_isCell_0 C  ⟨hEv, hWd, va_S.rf⟩ hl hf
abbrev wc_X9_judge : List Cond := Cond.code yX9_judge cX9_judge 5 (some .int) :: TG
abbrev rm_X9_judge : Room := { frames := 8, cells := 0, slots := 0, locals := 244 }
theorem cd_X9_judge : yX9_judge.cls = RX9 ∧ yX9_judge.cls ≠ "java/lang/invoke/MethodHandle" ∧ yX9_judge.cls ≠ "java/lang/invoke/VarHandle" ∧ (parseMethodDescriptor yX9_judge.desc).map (fun d => d.parameters.length) = some 3 := by decide +kernel
theorem dX9_judge_0 : decode cX9_judge 0 = .ok (.iload_n 1, 1) := by decide +kernel
theorem dX9_judge_1 : decode cX9_judge 1 = .ok (.invokestatic 306, 3) := by decide +kernel
theorem dX9_judge_4 : decode cX9_judge 4 = .ok (.ifCond .eq 18, 3) := by decide +kernel
theorem dX9_judge_7 : decode cX9_judge 7 = .ok (.iload_n 2, 1) := by decide +kernel
theorem dX9_judge_8 : decode cX9_judge 8 = .ok (.invokestatic 205, 3) := by decide +kernel
theorem dX9_judge_11 : decode cX9_judge 11 = .ok (.ifCond .eq 11, 3) := by decide +kernel
theorem dX9_judge_14 : decode cX9_judge 14 = .ok (.aload_n 0, 1) := by decide +kernel
theorem dX9_judge_15 : decode cX9_judge 15 = .ok (.iload_n 3, 1) := by decide +kernel
theorem dX9_judge_16 : decode cX9_judge 16 = .ok (.invokevirtual 109, 3) := by decide +kernel
theorem dX9_judge_19 : decode cX9_judge 19 = .ok (.ifCond .ne 5, 3) := by decide +kernel
theorem dX9_judge_22 : decode cX9_judge 22 = .ok (.iconst (-1), 1) := by decide +kernel
theorem dX9_judge_23 : decode cX9_judge 23 = .ok (.ireturn, 1) := by decide +kernel
theorem dX9_judge_24 : decode cX9_judge 24 = .ok (.aload_n 0, 1) := by decide +kernel
theorem dX9_judge_25 : decode cX9_judge 25 = .ok (.getfield 87, 3) := by decide +kernel
theorem dX9_judge_28 : decode cX9_judge 28 = .ok (.iload_n 1, 1) := by decide +kernel
theorem dX9_judge_29 : decode cX9_judge 29 = .ok (.iaload, 1) := by decide +kernel
theorem dX9_judge_30 : decode cX9_judge 30 = .ok (.ifCond .ge 6, 3) := by decide +kernel
theorem dX9_judge_33 : decode cX9_judge 33 = .ok (.bipush (-11), 2) := by decide +kernel
theorem dX9_judge_35 : decode cX9_judge 35 = .ok (.ireturn, 1) := by decide +kernel
theorem dX9_judge_36 : decode cX9_judge 36 = .ok (.aload_n 0, 1) := by decide +kernel
theorem dX9_judge_37 : decode cX9_judge 37 = .ok (.iload_n 2, 1) := by decide +kernel
theorem dX9_judge_38 : decode cX9_judge 38 = .ok (.iload_n 3, 1) := by decide +kernel
theorem dX9_judge_39 : decode cX9_judge 39 = .ok (.invokevirtual 275, 3) := by decide +kernel
theorem dX9_judge_42 : decode cX9_judge 42 = .ok (.iconst 0, 1) := by decide +kernel
theorem dX9_judge_43 : decode cX9_judge 43 = .ok (.istore 4, 2) := by decide +kernel
theorem dX9_judge_45 : decode cX9_judge 45 = .ok (.iload 4, 2) := by decide +kernel
theorem dX9_judge_47 : decode cX9_judge 47 = .ok (.aload_n 0, 1) := by decide +kernel
theorem dX9_judge_48 : decode cX9_judge 48 = .ok (.getfield 87, 3) := by decide +kernel
theorem dX9_judge_51 : decode cX9_judge 51 = .ok (.iload_n 1, 1) := by decide +kernel
theorem dX9_judge_52 : decode cX9_judge 52 = .ok (.iaload, 1) := by decide +kernel
theorem dX9_judge_53 : decode cX9_judge 53 = .ok (.if_icmp .ge 47, 3) := by decide +kernel
theorem dX9_judge_56 : decode cX9_judge 56 = .ok (.aload_n 0, 1) := by decide +kernel
theorem dX9_judge_57 : decode cX9_judge 57 = .ok (.getfield 90, 3) := by decide +kernel
theorem dX9_judge_60 : decode cX9_judge 60 = .ok (.bipush 12, 2) := by decide +kernel
theorem dX9_judge_62 : decode cX9_judge 62 = .ok (.iload_n 1, 1) := by decide +kernel
theorem dX9_judge_63 : decode cX9_judge 63 = .ok (.imul, 1) := by decide +kernel
theorem dX9_judge_64 : decode cX9_judge 64 = .ok (.iload 4, 2) := by decide +kernel
theorem dX9_judge_66 : decode cX9_judge 66 = .ok (.iadd, 1) := by decide +kernel
theorem dX9_judge_67 : decode cX9_judge 67 = .ok (.iaload, 1) := by decide +kernel
theorem dX9_judge_68 : decode cX9_judge 68 = .ok (.iload 4, 2) := by decide +kernel
theorem dX9_judge_70 : decode cX9_judge 70 = .ok (.aload_n 0, 1) := by decide +kernel
theorem dX9_judge_71 : decode cX9_judge 71 = .ok (.getfield 256, 3) := by decide +kernel
theorem dX9_judge_74 : decode cX9_judge 74 = .ok (.if_icmp .ge 13, 3) := by decide +kernel
theorem dX9_judge_77 : decode cX9_judge 77 = .ok (.aload_n 0, 1) := by decide +kernel
theorem dX9_judge_78 : decode cX9_judge 78 = .ok (.getfield 75, 3) := by decide +kernel
theorem dX9_judge_81 : decode cX9_judge 81 = .ok (.iload 4, 2) := by decide +kernel
theorem dX9_judge_83 : decode cX9_judge 83 = .ok (.iaload, 1) := by decide +kernel
theorem dX9_judge_84 : decode cX9_judge 84 = .ok (.goto 4, 3) := by decide +kernel
theorem dX9_judge_87 : decode cX9_judge 87 = .ok (.iconst 0, 1) := by decide +kernel
theorem dX9_judge_88 : decode cX9_judge 88 = .ok (.if_icmp .eq 6, 3) := by decide +kernel
theorem dX9_judge_91 : decode cX9_judge 91 = .ok (.iload 4, 2) := by decide +kernel
theorem dX9_judge_93 : decode cX9_judge 93 = .ok (.ireturn, 1) := by decide +kernel
theorem dX9_judge_94 : decode cX9_judge 94 = .ok (.iinc 4 1, 3) := by decide +kernel
theorem dX9_judge_97 : decode cX9_judge 97 = .ok (.goto (-52), 3) := by decide +kernel
theorem dX9_judge_100 : decode cX9_judge 100 = .ok (.bipush (-5), 2) := by decide +kernel
theorem dX9_judge_102 : decode cX9_judge 102 = .ok (.ireturn, 1) := by decide +kernel
set_option maxRecDepth 100000 in
set_option maxHeartbeats 4000000 in
theorem kb_X9_judge_88 {x1 : Int32} {x4 : Int32} {s0 : Int32} {s1 : Int32} {w : Mem} {r : (Int32) ⊕ ((Int32) ⊕ (Unit))} {H : Heap} {locs : List Loc} {ls : Array Slot} (C : CX p s m args meth c cX9_judge 5 RX9 wc_X9_judge (some .int))  (hG : Gd s G A 28 B (entM G B w) X H locs) (hl : lv_has ls 5 [(0, .ref (B + 0)), (1, .int x1), (4, .int x4)]) (hf : sh_X9_judge_j88 x1 x4 s0 s1 w = some r)
    (kL : ∀ st' : Int32, r = Sum.inl st' → ∀ (H : Heap) (locs : List Loc) (ls : Array Slot), Gd s G A 28 B (entM G B w) X H locs → lv_has ls 5 [(0, .ref (B + 0)), (1, .int x1), (4, .int st')] → W p l e rm_X9_judge s m args below meth c H locs 0 0 Q (F0 m 45 ls []))
    (kX0 : ∀ y' : Int32, r = Sum.inr (Sum.inl y') → ∀ (H : Heap) (locs : List Loc) (ls : Array Slot), Gd s G A 28 B (entM G B w) X H locs → lv_has ls 5 [(4, .int y')] → W p l e rm_X9_judge s m args below meth c H locs 0 0 Q (F0 m 91 ls []))
    (kX1 : ∀ y' : Unit, r = Sum.inr (Sum.inr y') → ∀ (H : Heap) (locs : List Loc) (ls : Array Slot), Gd s G A 28 B (entM G B w) X H locs → lv_has ls 5 [] → W p l e rm_X9_judge s m args below meth c H locs 0 0 Q (F0 m 100 ls [])) :
    W p l e rm_X9_judge s m args below meth c H locs 0 0 Q (F0 m 88 ls [.int s1, .int s0]) := by
  rcases of_ite hf with ⟨c1, hf⟩ | ⟨c1, hf⟩
  · refine lv_icmp_eq (tgt := 94) C.1 C.2.1 dX9_judge_88 (by decide) (fun _ => ?_) (fun q => absurd c1 q)
    obtain ⟨v2, ev2, hf⟩ := of_letv hf
    refine lv_iinc (v := v2) (lv' := [(4, .int v2), (0, .ref (B + 0)), (1, .int x1)]) C.1 C.2.1 dX9_judge_94 hl (k := 2) rfl (by rw [ev2, show Int32.ofInt (1) = nI 1 from by decide]) (by decide) rfl (fun ls hl => ?_)
    refine lv_goto (tgt := 45) C.1 C.2.1 dX9_judge_97 (by decide) ?_
    obtain rfl := Option.some.inj hf
    exact kL _ rfl _ _ _ hG (lv_sub hl [1, 2, 0] rfl)
  · refine lv_icmp_eq (tgt := 94) C.1 C.2.1 dX9_judge_88 (by decide) (fun q => absurd q c1) (fun _ => ?_)
    obtain rfl := Option.some.inj hf
    exact kX0 _ rfl _ _ _ hG (lv_sub hl [2] rfl)
set_option maxRecDepth 100000 in
set_option maxHeartbeats 4000000 in
theorem kb_X9_judge_45 {x1 : Int32} {w : Mem} {st : Int32} {r : (Int32) ⊕ ((Int32) ⊕ (Unit))} {H : Heap} {locs : List Loc} {ls : Array Slot} (C : CX p s m args meth c cX9_judge 5 RX9 wc_X9_judge (some .int))  (hG : Gd s G A 28 B (entM G B w) X H locs) (hl : lv_has ls 5 [(0, .ref (B + 0)), (1, .int x1), (4, .int st)]) (hf : sh_X9_judge_s45 x1 w st = some r)
    (kL : ∀ st' : Int32, r = Sum.inl st' → ∀ (H : Heap) (locs : List Loc) (ls : Array Slot), Gd s G A 28 B (entM G B w) X H locs → lv_has ls 5 [(0, .ref (B + 0)), (1, .int x1), (4, .int st')] → W p l e rm_X9_judge s m args below meth c H locs 0 0 Q (F0 m 45 ls []))
    (kX0 : ∀ y' : Int32, r = Sum.inr (Sum.inl y') → ∀ (H : Heap) (locs : List Loc) (ls : Array Slot), Gd s G A 28 B (entM G B w) X H locs → lv_has ls 5 [(4, .int y')] → W p l e rm_X9_judge s m args below meth c H locs 0 0 Q (F0 m 91 ls []))
    (kX1 : ∀ y' : Unit, r = Sum.inr (Sum.inr y') → ∀ (H : Heap) (locs : List Loc) (ls : Array Slot), Gd s G A 28 B (entM G B w) X H locs → lv_has ls 5 [] → W p l e rm_X9_judge s m args below meth c H locs 0 0 Q (F0 m 100 ls [])) :
    W p l e rm_X9_judge s m args below meth c H locs 0 0 Q (F0 m 45 ls []) := by
  refine lv_iload C.1 C.2.1 dX9_judge_45 (lv_at hl 2 rfl) ?_
  refine lv_aload_n C.1 C.2.1 dX9_judge_47 rfl (lv_at hl 0 rfl) ?_
  refine gf_X9_87 C hG rfl dX9_judge_48 ?_
  refine lv_iload_n C.1 C.2.1 dX9_judge_51 rfl (lv_at hl 1 rfl) ?_
  obtain ⟨v1, hv1, hf⟩ := of_bind hf
  obtain ⟨bv1, ev1⟩ := of_ldS hv1
  refine r_iald C hG (c0 := 26) (by decide) (entM_I (n := 4) rfl) bv1 dX9_judge_52 ?_
  refine r_top ev1 ?_
  rcases of_ite hf with ⟨c2, hf⟩ | ⟨c2, hf⟩
  · refine lv_icmp_ge (tgt := 100) C.1 C.2.1 dX9_judge_53 (by decide) (fun _ => ?_) (fun q => absurd c2 q)
    obtain rfl := Option.some.inj hf
    exact kX1 _ rfl _ _ _ hG (lv_sub hl [] rfl)
  · refine lv_icmp_ge (tgt := 100) C.1 C.2.1 dX9_judge_53 (by decide) (fun q => absurd q c2) (fun _ => ?_)
    refine lv_aload_n C.1 C.2.1 dX9_judge_56 rfl (lv_at hl 0 rfl) ?_
    refine gf_X9_90 C hG rfl dX9_judge_57 ?_
    refine lv_bipush (v := nI 12) C.1 C.2.1 dX9_judge_60 (by decide) ?_
    refine lv_iload_n C.1 C.2.1 dX9_judge_62 rfl (lv_at hl 1 rfl) ?_
    refine lv_imul C.1 C.2.1 dX9_judge_63 ?_
    refine lv_iload C.1 C.2.1 dX9_judge_64 (lv_at hl 2 rfl) ?_
    refine lv_iadd C.1 C.2.1 dX9_judge_66 ?_
    obtain ⟨v3, hv3, hf⟩ := of_bind hf
    obtain ⟨bv3, ev3⟩ := of_ldS hv3
    refine r_iald C hG (c0 := 27) (by decide) (entM_I (n := 48) rfl) bv3 dX9_judge_67 ?_
    refine r_top ev3 ?_
    refine lv_iload C.1 C.2.1 dX9_judge_68 (lv_at hl 2 rfl) ?_
    refine lv_aload_n C.1 C.2.1 dX9_judge_70 rfl (lv_at hl 0 rfl) ?_
    refine gf_X9_256 C hG rfl dX9_judge_71 ?_
    rcases of_ite hf with ⟨c4, hf⟩ | ⟨c4, hf⟩
    · refine lv_icmp_ge (tgt := 87) C.1 C.2.1 dX9_judge_74 (by decide) (fun _ => ?_) (fun q => absurd c4 q)
      refine lv_iconst (v := nI 0) C.1 C.2.1 dX9_judge_87 (by decide) ?_
      exact kb_X9_judge_88 C  hG hl hf kL kX0 kX1
    · refine lv_icmp_ge (tgt := 87) C.1 C.2.1 dX9_judge_74 (by decide) (fun q => absurd q c4) (fun _ => ?_)
      refine lv_aload_n C.1 C.2.1 dX9_judge_77 rfl (lv_at hl 0 rfl) ?_
      refine gf_X9_75 C hG rfl dX9_judge_78 ?_
      refine lv_iload C.1 C.2.1 dX9_judge_81 (lv_at hl 2 rfl) ?_
      obtain ⟨v5, hv5, hf⟩ := of_bind hf
      obtain ⟨bv5, ev5⟩ := of_ldS hv5
      refine r_iald C hG (c0 := 22) (by decide) (entM_I (n := 216) rfl) bv5 dX9_judge_83 ?_
      refine r_top ev5 ?_
      refine lv_goto (tgt := 88) C.1 C.2.1 dX9_judge_84 (by decide) ?_
      exact kb_X9_judge_88 C  hG hl hf kL kX0 kX1
set_option maxRecDepth 100000 in
set_option maxHeartbeats 4000000 in
theorem kl_X9_judge_45 {x1 : Int32} {w : Mem} (C : CX p s m args meth c cX9_judge 5 RX9 wc_X9_judge (some .int))  : ∀ (n : Nat) (st : Int32) (x : (Int32) ⊕ (Unit)) (H : Heap) (locs : List Loc) (ls : Array Slot), Gd s G A 28 B (entM G B w) X H locs → lv_has ls 5 [(0, .ref (B + 0)), (1, .int x1), (4, .int st)] → lpw (sh_X9_judge_s45 x1 w) n st = some x →
    (∀ y' : Int32, x = (Sum.inl y') → ∀ (H : Heap) (locs : List Loc) (ls : Array Slot), Gd s G A 28 B (entM G B w) X H locs → lv_has ls 5 [(4, .int y')] → W p l e rm_X9_judge s m args below meth c H locs 0 0 Q (F0 m 91 ls [])) →
    (∀ y' : Unit, x = (Sum.inr y') → ∀ (H : Heap) (locs : List Loc) (ls : Array Slot), Gd s G A 28 B (entM G B w) X H locs → lv_has ls 5 [] → W p l e rm_X9_judge s m args below meth c H locs 0 0 Q (F0 m 100 ls [])) → W p l e rm_X9_judge s m args below meth c H locs 0 0 Q (F0 m 45 ls []) := by
  intro n
  induction n with
  | zero =>
    intro st x H locs ls hG hl hf
    cases hf
  | succ n ih =>
    intro st x H locs ls hG hl hf kX0 kX1
    obtain ⟨r, hr, hh⟩ := of_lpw hf
    refine kb_X9_judge_45 C  hG hl hr (fun st2 e1 H locs ls hG hl => ?_) (fun y2 e1 H locs ls hG hl => ?_) (fun y2 e1 H locs ls hG hl => ?_)
    · rcases hh with ⟨s3, e2, hh⟩ | e2
      · rw [e2] at e1
        cases e1
        exact ih _ _ _ _ _ hG hl hh kX0 kX1
      · rw [e2] at e1
        cases e1
    · rcases hh with ⟨s3, e2, hh⟩ | e2
      · rw [e2] at e1
        cases e1
      · rw [e2] at e1
        cases e1
        exact kX0 _ rfl _ _ _ hG hl
    · rcases hh with ⟨s3, e2, hh⟩ | e2
      · rw [e2] at e1
        cases e1
      · rw [e2] at e1
        cases e1
        exact kX1 _ rfl _ _ _ hG hl
set_option maxRecDepth 100000 in
set_option maxHeartbeats 4000000 in
theorem kb_X9_judge_0 {x1 : Int32} {x2 : Int32} {x3 : Int32} {w : Mem} {out : Int32 × Mem} {H : Heap} {locs : List Loc} {ls : Array Slot} (C : CX p s m args meth c cX9_judge 5 RX9 wc_X9_judge (some .int))  (hG : Gd s G A 28 B (entM G B w) X H locs) (hl : lv_has ls 5 [(0, .ref (B + 0)), (1, .int x1), (2, .int x2), (3, .int x3)]) (hf : sh_X9_judge x1 x2 x3 w = some out) :
    W p l e rm_X9_judge s m args below meth c H locs 0 0 (MQ below (CPost G A 28 B (entM G B out.2) X (some (.int out.1))) args s 0 0 A) (F0 m 0 ls []) := by
  refine lv_iload_n C.1 C.2.1 dX9_judge_0 rfl (lv_at hl 1 rfl) ?_
  obtain ⟨v1, hv1, hf⟩ := of_bind hf
  refine r_callS1 C hG hl.1 (As := [.int x1]) (mt_X9_isList l  hv1) (va_cwS 1 C.2.2.2.2.1 (gd_S tg_6_28 tg_6_29 tg_1_10 tg_6_30) rfl rfl rfl cd_X9_isList.2 ⟨Nat.le_of_ble_eq_true rfl, Nat.le_of_ble_eq_true rfl⟩) rfl rfl (Nat.le_of_ble_eq_true rfl) dX9_judge_1 (fun H locs hG => ?_)
  rcases of_ite hf with ⟨c2, hf⟩ | ⟨c2, hf⟩
  · refine lv_if_eq (tgt := 22) C.1 C.2.1 dX9_judge_4 (by decide) (fun _ => ?_) (fun q => absurd c2 q)
    refine lv_iconst (v := (-1 : Int32)) C.1 C.2.1 dX9_judge_22 (by decide) ?_
    obtain rfl := Option.some.inj hf
    exact r_iret C hG dX9_judge_23
  · refine lv_if_eq (tgt := 22) C.1 C.2.1 dX9_judge_4 (by decide) (fun q => absurd q c2) (fun _ => ?_)
    refine lv_iload_n C.1 C.2.1 dX9_judge_7 rfl (lv_at hl 2 rfl) ?_
    obtain ⟨v3, hv3, hf⟩ := of_bind hf
    refine r_callS1 C hG hl.1 (As := [.int x2]) (mt_X9_isSurface l  hv3) (va_cwS 1 C.2.2.2.2.1 (gd_S tg_5_64 tg_5_65 tg_1_10 tg_5_66) rfl rfl rfl cd_X9_isSurface.2 ⟨Nat.le_of_ble_eq_true rfl, Nat.le_of_ble_eq_true rfl⟩) rfl rfl (Nat.le_of_ble_eq_true rfl) dX9_judge_8 (fun H locs hG => ?_)
    rcases of_ite hf with ⟨c4, hf⟩ | ⟨c4, hf⟩
    · refine lv_if_eq (tgt := 22) C.1 C.2.1 dX9_judge_11 (by decide) (fun _ => ?_) (fun q => absurd c4 q)
      refine lv_iconst (v := (-1 : Int32)) C.1 C.2.1 dX9_judge_22 (by decide) ?_
      obtain rfl := Option.some.inj hf
      exact r_iret C hG dX9_judge_23
    · refine lv_if_eq (tgt := 22) C.1 C.2.1 dX9_judge_11 (by decide) (fun q => absurd q c4) (fun _ => ?_)
      refine lv_aload_n C.1 C.2.1 dX9_judge_14 rfl (lv_at hl 0 rfl) ?_
      refine lv_iload_n C.1 C.2.1 dX9_judge_15 rfl (lv_at hl 3 rfl) ?_
      obtain ⟨v5, hv5, hf⟩ := of_bind hf
      refine r_callV1 C hG hl.1 (c0 := 0) (As := [.int x3]) (by decide) (entM_O (n := 35) rfl) rfl (mt_X9_isAlgebra l  hv5) (cwV 1 C.2.2.2.2.1 (gd_V tg_4_205 tg_4_207 tgp_27 tg_1_10 tg_4_208) rfl rfl rfl cd_X9_isAlgebra ⟨Nat.le_of_ble_eq_true rfl, Nat.le_of_ble_eq_true rfl⟩) rfl rfl (Nat.le_of_ble_eq_true rfl) dX9_judge_16 (fun H locs hG => ?_)
      rcases of_ite hf with ⟨c6, hf⟩ | ⟨c6, hf⟩
      · refine lv_if_ne (tgt := 24) C.1 C.2.1 dX9_judge_19 (by decide) (fun q => absurd c6 q) (fun _ => ?_)
        refine lv_iconst (v := (-1 : Int32)) C.1 C.2.1 dX9_judge_22 (by decide) ?_
        obtain rfl := Option.some.inj hf
        exact r_iret C hG dX9_judge_23
      · refine lv_if_ne (tgt := 24) C.1 C.2.1 dX9_judge_19 (by decide) (fun _ => ?_) (fun q => absurd q c6)
        refine lv_aload_n C.1 C.2.1 dX9_judge_24 rfl (lv_at hl 0 rfl) ?_
        refine gf_X9_87 C hG rfl dX9_judge_25 ?_
        refine lv_iload_n C.1 C.2.1 dX9_judge_28 rfl (lv_at hl 1 rfl) ?_
        obtain ⟨v7, hv7, hf⟩ := of_bind hf
        obtain ⟨bv7, ev7⟩ := of_ldS hv7
        refine r_iald C hG (c0 := 26) (by decide) (entM_I (n := 4) rfl) bv7 dX9_judge_29 ?_
        refine r_top ev7 ?_
        rcases of_ite hf with ⟨c8, hf⟩ | ⟨c8, hf⟩
        · refine lv_if_ge (tgt := 36) C.1 C.2.1 dX9_judge_30 (by decide) (fun _ => ?_) (fun q => absurd c8 q)
          refine lv_aload_n C.1 C.2.1 dX9_judge_36 rfl (lv_at hl 0 rfl) ?_
          refine lv_iload_n C.1 C.2.1 dX9_judge_37 rfl (lv_at hl 2 rfl) ?_
          refine lv_iload_n C.1 C.2.1 dX9_judge_38 rfl (lv_at hl 3 rfl) ?_
          obtain ⟨w9, hw9, hf⟩ := of_bind hf
          refine r_callV0 C hG hl.1 (c0 := 0) (As := [.int x2, .int x3]) (by decide) (entM_O (n := 35) rfl) rfl (mt_X9_sumsOf l  hw9) (cwV 2 C.2.2.2.2.1 (gd_V tg_5_169 tg_5_171 tgp_53 tg_1_10 tg_5_172) rfl rfl rfl cd_X9_sumsOf ⟨Nat.le_of_ble_eq_true rfl, Nat.le_of_ble_eq_true rfl⟩) rfl rfl (Nat.le_of_ble_eq_true rfl) dX9_judge_39 (fun H locs hG => ?_)
          refine lv_iconst (v := nI 0) C.1 C.2.1 dX9_judge_42 (by decide) ?_
          refine lv_istore (lv' := [(4, .int (nI 0)), (0, .ref (B + 0)), (1, .int x1), (2, .int x2), (3, .int x3)]) C.1 C.2.1 dX9_judge_43 hl (by decide) rfl (fun ls hl => ?_)
          obtain ⟨ex10, hex10, hf⟩ := of_bind hf
          refine kl_X9_judge_45 C  FU (nI 0) ex10 _ _ _ hG (lv_sub hl [1, 2, 0] rfl) hex10 (fun y11 e0 H locs ls hG hl => ?_) (fun y12 e0 H locs ls hG hl => ?_)
          · subst e0
            simp only [Sum.elim_inl, Sum.elim_inr] at hf
            refine lv_iload C.1 C.2.1 dX9_judge_91 (lv_at hl 0 rfl) ?_
            obtain rfl := Option.some.inj hf
            exact r_iret C hG dX9_judge_93
          · subst e0
            simp only [Sum.elim_inl, Sum.elim_inr] at hf
            refine lv_bipush (v := (-5 : Int32)) C.1 C.2.1 dX9_judge_100 (by decide) ?_
            obtain rfl := Option.some.inj hf
            exact r_iret C hG dX9_judge_102
        · refine lv_if_ge (tgt := 36) C.1 C.2.1 dX9_judge_30 (by decide) (fun q => absurd q c8) (fun _ => ?_)
          refine lv_bipush (v := (-11 : Int32)) C.1 C.2.1 dX9_judge_33 (by decide) ?_
          obtain rfl := Option.some.inj hf
          exact r_iret C hG dX9_judge_35
set_option maxRecDepth 100000 in
set_option maxHeartbeats 4000000 in
theorem mt_X9_judge (l : Launch) {G : GG} {A : Nat → Prop} {B : Nat} {X : va_W} {x1 : Int32} {x2 : Int32} {x3 : Int32} {w : Mem} {out : Int32 × Mem}  (hf : sh_X9_judge x1 x2 x3 w = some out) : MetW l yX9_judge wc_X9_judge rm_X9_judge G A 28 B (entM G B w) X [.ref (B + 0), .int x1, .int x2, .int x3] (some (.int out.1)) (entM G B out.2) := by
  refine Met.ofW (cc := cX9_judge) (maxL := 5) (ret := (some .int)) (by decide) rfl ?_
  intro p e s m args below meth c s₁ B0 hml hv
  obtain ⟨rfl, hEv, hWd⟩ := hv
  have C : CX p s m _ meth c cX9_judge 5 RX9 wc_X9_judge (some .int) := ⟨B0.exec, B0.bytes, hml, findClass_of_methodNamed B0.named, atoms_spec (ws := wc_X9_judge) B0.pre, B0.returns, B0.notSynchronized⟩
  have hl := lv_entry [.ref (B + 0), .int x1, .int x2, .int x3] (n := 5) (Nat.le_of_ble_eq_true rfl)
  rw [lg_entry_eq]
  generalize (lg_sl [.ref (B + 0), .int x1, .int x2, .int x3] ++ List.replicate (5 - (lg_sl [.ref (B + 0), .int x1, .int x2, .int x3]).length) Slot.unset).toArray = ls at hl ⊢
  have hl : lv_has ls 5 [(0, .ref (B + 0)), (1, .int x1), (2, .int x2), (3, .int x3)] := hl
  exact kb_X9_judge_0 C  ⟨hEv, hWd, va_S.rf⟩ hl hf
end
