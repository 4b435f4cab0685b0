section
variable {p : Program} {l : Launch} {e : Env} {s : State} {m : MethodId} {args : Array Value} {below : List Frame} {meth : Method} {c : Code} {Q : State → Prop} {G : GG} {A : Nat → Prop} {N B : Nat} {E : Nat → va_E} {X : va_W}
abbrev wc_X8_split : List Cond := Cond.code yX8_split cX8_split 6 (some .int) :: TG
abbrev rm_X8_split : Room := { frames := 4, cells := 0, slots := 0, locals := 147 }
theorem cd_X8_split : yX8_split.cls = RX8 ∧ yX8_split.cls ≠ "java/lang/invoke/MethodHandle" ∧ yX8_split.cls ≠ "java/lang/invoke/VarHandle" ∧ (parseMethodDescriptor yX8_split.desc).map (fun d => d.parameters.length) = some 4 := by decide +kernel
theorem dX8_split_0 : decode cX8_split 0 = .ok (.aload_n 0, 1) := by decide +kernel
theorem dX8_split_1 : decode cX8_split 1 = .ok (.getfield 12, 3) := by decide +kernel
theorem dX8_split_4 : decode cX8_split 4 = .ok (.iload_n 1, 1) := by decide +kernel
theorem dX8_split_5 : decode cX8_split 5 = .ok (.invokevirtual 93, 3) := by decide +kernel
theorem dX8_split_8 : decode cX8_split 8 = .ok (.astore 5, 2) := by decide +kernel
theorem dX8_split_10 : decode cX8_split 10 = .ok (.aload 5, 2) := by decide +kernel
theorem dX8_split_12 : decode cX8_split 12 = .ok (.ifnull 31, 3) := by decide +kernel
theorem dX8_split_15 : decode cX8_split 15 = .ok (.aload 5, 2) := by decide +kernel
theorem dX8_split_17 : decode cX8_split 17 = .ok (.iload_n 2, 1) := by decide +kernel
theorem dX8_split_18 : decode cX8_split 18 = .ok (.invokevirtual 109, 3) := by decide +kernel
theorem dX8_split_21 : decode cX8_split 21 = .ok (.ifCond .eq 22, 3) := by decide +kernel
theorem dX8_split_24 : decode cX8_split 24 = .ok (.aload 5, 2) := by decide +kernel
theorem dX8_split_26 : decode cX8_split 26 = .ok (.iload_n 3, 1) := by decide +kernel
theorem dX8_split_27 : decode cX8_split 27 = .ok (.invokevirtual 109, 3) := by decide +kernel
theorem dX8_split_30 : decode cX8_split 30 = .ok (.ifCond .eq 13, 3) := by decide +kernel
theorem dX8_split_33 : decode cX8_split 33 = .ok (.aload 5, 2) := by decide +kernel
theorem dX8_split_35 : decode cX8_split 35 = .ok (.iload 4, 2) := by decide +kernel
theorem dX8_split_37 : decode cX8_split 37 = .ok (.invokevirtual 109, 3) := by decide +kernel
theorem dX8_split_40 : decode cX8_split 40 = .ok (.ifCond .ne 5, 3) := by decide +kernel
theorem dX8_split_43 : decode cX8_split 43 = .ok (.iconst (-1), 1) := by decide +kernel
theorem dX8_split_44 : decode cX8_split 44 = .ok (.ireturn, 1) := by decide +kernel
theorem dX8_split_45 : decode cX8_split 45 = .ok (.aload 5, 2) := by decide +kernel
theorem dX8_split_47 : decode cX8_split 47 = .ok (.iload_n 2, 1) := by decide +kernel
theorem dX8_split_48 : decode cX8_split 48 = .ok (.iload_n 3, 1) := by decide +kernel
theorem dX8_split_49 : decode cX8_split 49 = .ok (.iload 4, 2) := by decide +kernel
theorem dX8_split_51 : decode cX8_split 51 = .ok (.invokevirtual 135, 3) := by decide +kernel
theorem dX8_split_54 : decode cX8_split 54 = .ok (.ireturn, 1) := by decide +kernel
set_option maxRecDepth 100000 in
set_option maxHeartbeats 4000000 in
theorem kb_X8_split_0 {x1 : Int32} {x2 : Int32} {x3 : Int32} {x4 : Int32} {w : WX} {out : Int32} {H : Heap} {locs : List Loc} {ls : Array Slot} (C : CX p s m args meth c cX8_split 6 RX8 wc_X8_split (some .int))  (hG : Gd s G A 153 B (entX G B w) X H locs) (hl : lv_has ls 6 [(0, .ref (B + 0)), (1, .int x1), (2, .int x2), (3, .int x3), (4, .int x4)]) (hf : sh_X8_split x1 x2 x3 x4 w = some out) :
    W p l e rm_X8_split s m args below meth c H locs 0 0 (MQ below (CPost G A 153 B (entX G B w) X (some (.int out))) args s 0 0 A) (F0 m 0 ls []) := by
  refine lv_aload_n C.1 C.2.1 dX8_split_0 rfl (lv_at hl 0 rfl) ?_
  refine gf_X8_12 C hG rfl dX8_split_1 ?_
  refine lv_iload_n C.1 C.2.1 dX8_split_4 rfl (lv_at hl 1 rfl) ?_
  obtain ⟨v1, hv1, hf⟩ := of_bind hf
  refine r_callV1 C hG hl.1 (c0 := 1) (As := [.int x1]) (by decide) (entX_O4 (n := 4) rfl) rfl (mt_X4_algebraAt l rfl hv1) (cwV 1 C.2.2.2.2.1 (gd_V tg_2_119 tg_2_120 tg_2_121 tg_1_2 tg_2_122) rfl rfl rfl cd_X4_algebraAt ⟨Nat.le_of_ble_eq_true rfl, Nat.le_of_ble_eq_true rfl⟩) rfl rfl (Nat.le_of_ble_eq_true rfl) dX8_split_5 (fun H locs hG => ?_)
  rcases of_ite hf with ⟨c2, hf⟩ | ⟨c2, hf⟩
  · refine r_rvN c2 ?_
    refine lv_astoreN (lv' := [(5, .null), (0, .ref (B + 0)), (1, .int x1), (2, .int x2), (3, .int x3), (4, .int x4)]) C.1 C.2.1 dX8_split_8 hl (by decide) rfl (fun ls hl => ?_)
    refine lv_aloadN C.1 C.2.1 dX8_split_10 (lv_at hl 0 rfl) ?_
    refine lv_ifnullN (tgt := 43) C.1 C.2.1 dX8_split_12 (by decide) ?_
    refine lv_iconst (v := (-1 : Int32)) C.1 C.2.1 dX8_split_43 (by decide) ?_
    obtain rfl := Option.some.inj hf
    exact r_iret C hG dX8_split_44
  · refine r_rvR c2 ?_
    obtain ⟨c3, hf⟩ := of_grd hf
    refine lv_astore (lv' := [(5, .ref (B + v1)), (0, .ref (B + 0)), (1, .int x1), (2, .int x2), (3, .int x3), (4, .int x4)]) C.1 C.2.1 dX8_split_8 hl (by decide) rfl (fun ls hl => ?_)
    refine lv_aload C.1 C.2.1 dX8_split_10 (lv_at hl 0 rfl) ?_
    refine lv_ifnull C.1 C.2.1 dX8_split_12 ?_
    refine lv_aload C.1 C.2.1 dX8_split_15 (lv_at hl 0 rfl) ?_
    refine lv_iload_n C.1 C.2.1 dX8_split_17 rfl (lv_at hl 3 rfl) ?_
    obtain ⟨v4, hv4, hf⟩ := of_bind hf
    refine r_callV1 C hG hl.1 (c0 := v1) (As := [.int x2]) (kdx_lt c3 (by decide)) (entX_O0 c3) rfl (mt_X0_has l c3 hv4) (cwV 1 C.2.2.2.2.1 (gd_V tg_2_131 tg_2_132 tg_2_133 tg_1_4 tg_2_134) rfl rfl rfl cd_X0_has ⟨Nat.le_of_ble_eq_true rfl, Nat.le_of_ble_eq_true rfl⟩) rfl rfl (Nat.le_of_ble_eq_true rfl) dX8_split_18 (fun H locs hG => ?_)
    rcases of_ite hf with ⟨c5, hf⟩ | ⟨c5, hf⟩
    · refine lv_if_eq (tgt := 43) C.1 C.2.1 dX8_split_21 (by decide) (fun _ => ?_) (fun q => absurd c5 q)
      refine lv_iconst (v := (-1 : Int32)) C.1 C.2.1 dX8_split_43 (by decide) ?_
      obtain rfl := Option.some.inj hf
      exact r_iret C hG dX8_split_44
    · refine lv_if_eq (tgt := 43) C.1 C.2.1 dX8_split_21 (by decide) (fun q => absurd q c5) (fun _ => ?_)
      refine lv_aload C.1 C.2.1 dX8_split_24 (lv_at hl 0 rfl) ?_
      refine lv_iload_n C.1 C.2.1 dX8_split_26 rfl (lv_at hl 4 rfl) ?_
      obtain ⟨v6, hv6, hf⟩ := of_bind hf
      refine r_callV1 C hG hl.1 (c0 := v1) (As := [.int x3]) (kdx_lt c3 (by decide)) (entX_O0 c3) rfl (mt_X0_has l c3 hv6) (cwV 1 C.2.2.2.2.1 (gd_V tg_2_131 tg_2_132 tg_2_133 tg_1_4 tg_2_134) rfl rfl rfl cd_X0_has ⟨Nat.le_of_ble_eq_true rfl, Nat.le_of_ble_eq_true rfl⟩) rfl rfl (Nat.le_of_ble_eq_true rfl) dX8_split_27 (fun H locs hG => ?_)
      rcases of_ite hf with ⟨c7, hf⟩ | ⟨c7, hf⟩
      · refine lv_if_eq (tgt := 43) C.1 C.2.1 dX8_split_30 (by decide) (fun _ => ?_) (fun q => absurd c7 q)
        refine lv_iconst (v := (-1 : Int32)) C.1 C.2.1 dX8_split_43 (by decide) ?_
        obtain rfl := Option.some.inj hf
        exact r_iret C hG dX8_split_44
      · refine lv_if_eq (tgt := 43) C.1 C.2.1 dX8_split_30 (by decide) (fun q => absurd q c7) (fun _ => ?_)
        refine lv_aload C.1 C.2.1 dX8_split_33 (lv_at hl 0 rfl) ?_
        refine lv_iload C.1 C.2.1 dX8_split_35 (lv_at hl 5 rfl) ?_
        obtain ⟨v8, hv8, hf⟩ := of_bind hf
        refine r_callV1 C hG hl.1 (c0 := v1) (As := [.int x4]) (kdx_lt c3 (by decide)) (entX_O0 c3) rfl (mt_X0_has l c3 hv8) (cwV 1 C.2.2.2.2.1 (gd_V tg_2_131 tg_2_132 tg_2_133 tg_1_4 tg_2_134) rfl rfl rfl cd_X0_has ⟨Nat.le_of_ble_eq_true rfl, Nat.le_of_ble_eq_true rfl⟩) rfl rfl (Nat.le_of_ble_eq_true rfl) dX8_split_37 (fun H locs hG => ?_)
        rcases of_ite hf with ⟨c9, hf⟩ | ⟨c9, hf⟩
        · refine lv_if_ne (tgt := 45) C.1 C.2.1 dX8_split_40 (by decide) (fun q => absurd c9 q) (fun _ => ?_)
          refine lv_iconst (v := (-1 : Int32)) C.1 C.2.1 dX8_split_43 (by decide) ?_
          obtain rfl := Option.some.inj hf
          exact r_iret C hG dX8_split_44
        · refine lv_if_ne (tgt := 45) C.1 C.2.1 dX8_split_40 (by decide) (fun _ => ?_) (fun q => absurd q c9)
          refine lv_aload C.1 C.2.1 dX8_split_45 (lv_at hl 0 rfl) ?_
          refine lv_iload_n C.1 C.2.1 dX8_split_47 rfl (lv_at hl 3 rfl) ?_
          refine lv_iload_n C.1 C.2.1 dX8_split_48 rfl (lv_at hl 4 rfl) ?_
          refine lv_iload C.1 C.2.1 dX8_split_49 (lv_at hl 5 rfl) ?_
          obtain ⟨v10, hv10, hf⟩ := of_bind hf
          refine r_callV1 C hG hl.1 (c0 := v1) (As := [.int x2, .int x3, .int x4]) (kdx_lt c3 (by decide)) (entX_O0 c3) rfl (mt_X0_timesInSplit l c3 hv10) (cwV 3 C.2.2.2.2.1 (gd_V tg_2_156 tg_2_157 tg_2_158 tg_1_4 tg_2_159) rfl rfl rfl cd_X0_timesInSplit ⟨Nat.le_of_ble_eq_true rfl, Nat.le_of_ble_eq_true rfl⟩) rfl rfl (Nat.le_of_ble_eq_true rfl) dX8_split_51 (fun H locs hG => ?_)
          obtain rfl := Option.some.inj hf
          exact r_iret C hG dX8_split_54
set_option maxRecDepth 100000 in
set_option maxHeartbeats 4000000 in
theorem mt_X8_split (l : Launch) {G : GG} {A : Nat → Prop} {B : Nat} {X : va_W} {x1 : Int32} {x2 : Int32} {x3 : Int32} {x4 : Int32} {w : WX} {out : Int32}  (hf : sh_X8_split x1 x2 x3 x4 w = some out) : MetW l yX8_split wc_X8_split rm_X8_split G A 153 B (entX G B w) X [.ref (B + 0), .int x1, .int x2, .int x3, .int x4] (some (.int out)) (entX G B w) := by
  refine Met.ofW (cc := cX8_split) (maxL := 6) (ret := (some .int)) (by decide) rfl ?_
  intro p e s m args below meth c s₁ B0 hml hv
  obtain ⟨rfl, hEv, hWd⟩ := hv
  have C : CX p s m _ meth c cX8_split 6 RX8 wc_X8_split (some .int) := ⟨B0.exec, B0.bytes, hml, findClass_of_methodNamed B0.named, atoms_spec (ws := wc_X8_split) B0.pre, B0.returns, B0.notSynchronized⟩
  have hl := lv_entry [.ref (B + 0), .int x1, .int x2, .int x3, .int x4] (n := 6) (Nat.le_of_ble_eq_true rfl)
  rw [lg_entry_eq]
  generalize (lg_sl [.ref (B + 0), .int x1, .int x2, .int x3, .int x4] ++ List.replicate (6 - (lg_sl [.ref (B + 0), .int x1, .int x2, .int x3, .int x4]).length) Slot.unset).toArray = ls at hl ⊢
  have hl : lv_has ls 6 [(0, .ref (B + 0)), (1, .int x1), (2, .int x2), (3, .int x3), (4, .int x4)] := hl
  exact kb_X8_split_0 C  ⟨hEv, hWd, va_S.rf⟩ hl hf
abbrev wc_X8_isTurns : List Cond := Cond.code yX8_isTurns cX8_isTurns 1 (some .boolean) :: TG
abbrev rm_X8_isTurns : Room := { frames := 2, cells := 0, slots := 0, locals := 100 }
theorem cd_X8_isTurns : yX8_isTurns.cls = RX8 ∧ yX8_isTurns.cls ≠ "java/lang/invoke/MethodHandle" ∧ yX8_isTurns.cls ≠ "java/lang/invoke/VarHandle" ∧ (parseMethodDescriptor yX8_isTurns.desc).map (fun d => d.parameters.length) = some 1 := by decide +kernel
theorem dX8_isTurns_0 : decode cX8_isTurns 0 = .ok (.iload_n 0, 1) := by decide +kernel
theorem dX8_isTurns_1 : decode cX8_isTurns 1 = .ok (.ifCond .lt 13, 3) := by decide +kernel
theorem dX8_isTurns_4 : decode cX8_isTurns 4 = .ok (.iload_n 0, 1) := by decide +kernel
theorem dX8_isTurns_5 : decode cX8_isTurns 5 = .ok (.bipush 20, 2) := by decide +kernel
theorem dX8_isTurns_7 : decode cX8_isTurns 7 = .ok (.if_icmp .gt 7, 3) := by decide +kernel
theorem dX8_isTurns_10 : decode cX8_isTurns 10 = .ok (.iconst 1, 1) := by decide +kernel
theorem dX8_isTurns_11 : decode cX8_isTurns 11 = .ok (.goto 4, 3) := by decide +kernel
theorem dX8_isTurns_14 : decode cX8_isTurns 14 = .ok (.iconst 0, 1) := by decide +kernel
theorem dX8_isTurns_15 : decode cX8_isTurns 15 = .ok (.ireturn, 1) := by decide +kernel
set_option maxRecDepth 100000 in
set_option maxHeartbeats 4000000 in
theorem kb_X8_isTurns_0 {x0 : Int32} {out : Int32} {H : Heap} {locs : List Loc} {ls : Array Slot} (C : CX p s m args meth c cX8_isTurns 1 RX8 wc_X8_isTurns (some .boolean))  (hG : Gd s G A N B E X H locs) (hl : lv_has ls 1 [(0, .int x0)]) (hf : sh_X8_isTurns x0 = some out) :
    W p l e rm_X8_isTurns s m args below meth c H locs 0 0 (MQ below (CPost G A N B E X (some (.int out))) args s 0 0 A) (F0 m 0 ls []) := by
  refine lv_iload_n C.1 C.2.1 dX8_isTurns_0 rfl (lv_at hl 0 rfl) ?_
  rcases of_ite hf with ⟨c1, hf⟩ | ⟨c1, hf⟩
  · refine lv_if_lt (tgt := 14) C.1 C.2.1 dX8_isTurns_1 (by decide) (fun _ => ?_) (fun q => absurd c1 q)
    refine lv_iconst (v := nI 0) C.1 C.2.1 dX8_isTurns_14 (by decide) ?_
    obtain rfl := Option.some.inj hf
    exact r_zret C hG (Or.inl rfl) dX8_isTurns_15
  · refine lv_if_lt (tgt := 14) C.1 C.2.1 dX8_isTurns_1 (by decide) (fun q => absurd q c1) (fun _ => ?_)
    refine lv_iload_n C.1 C.2.1 dX8_isTurns_4 rfl (lv_at hl 0 rfl) ?_
    refine lv_bipush (v := nI 20) C.1 C.2.1 dX8_isTurns_5 (by decide) ?_
    rcases of_ite hf with ⟨c2, hf⟩ | ⟨c2, hf⟩
    · refine lv_icmp_gt (tgt := 14) C.1 C.2.1 dX8_isTurns_7 (by decide) (fun _ => ?_) (fun q => absurd c2 q)
      refine lv_iconst (v := nI 0) C.1 C.2.1 dX8_isTurns_14 (by decide) ?_
      obtain rfl := Option.some.inj hf
      exact r_zret C hG (Or.inl rfl) dX8_isTurns_15
    · refine lv_icmp_gt (tgt := 14) C.1 C.2.1 dX8_isTurns_7 (by decide) (fun q => absurd q c2) (fun _ => ?_)
      refine lv_iconst (v := nI 1) C.1 C.2.1 dX8_isTurns_10 (by decide) ?_
      refine lv_goto (tgt := 15) C.1 C.2.1 dX8_isTurns_11 (by decide) ?_
      obtain rfl := Option.some.inj hf
      exact r_zret C hG (Or.inr rfl) dX8_isTurns_15
set_option maxRecDepth 100000 in
set_option maxHeartbeats 4000000 in
theorem mt_X8_isTurns (l : Launch) {G : GG} {A : Nat → Prop} {N B : Nat} {E : Nat → va_E} {X : va_W} {x0 : Int32} {out : Int32}  (hf : sh_X8_isTurns x0 = some out) : MetW l yX8_isTurns wc_X8_isTurns rm_X8_isTurns G A N B E X [.int x0] (some (.int out)) E := by
  refine Met.ofW (cc := cX8_isTurns) (maxL := 1) (ret := (some .boolean)) (by decide) rfl ?_
  intro p e s m args below meth c s₁ B0 hml hv
  obtain ⟨rfl, hEv, hWd⟩ := hv
  have C : CX p s m _ meth c cX8_isTurns 1 RX8 wc_X8_isTurns (some .boolean) := ⟨B0.exec, B0.bytes, hml, findClass_of_methodNamed B0.named, atoms_spec (ws := wc_X8_isTurns) B0.pre, B0.returns, B0.notSynchronized⟩
  have hl := lv_entry [.int x0] (n := 1) (Nat.le_of_ble_eq_true rfl)
  rw [lg_entry_eq]
  generalize (lg_sl [.int x0] ++ List.replicate (1 - (lg_sl [.int x0]).length) Slot.unset).toArray = ls at hl ⊢
  have hl : lv_has ls 1 [(0, .int x0)] := hl
  exact kb_X8_isTurns_0 C  ⟨hEv, hWd, va_S.rf⟩ hl hf
abbrev wc_X8_closed : List Cond := Cond.code yX8_closed cX8_closed 5 (some .int) :: TG
abbrev rm_X8_closed : Room := { frames := 5, cells := 0, slots := 0, locals := 171 }
theorem cd_X8_closed : yX8_closed.cls = RX8 ∧ yX8_closed.cls ≠ "java/lang/invoke/MethodHandle" ∧ yX8_closed.cls ≠ "java/lang/invoke/VarHandle" ∧ (parseMethodDescriptor yX8_closed.desc).map (fun d => d.parameters.length) = some 3 := by decide +kernel
theorem dX8_closed_0 : decode cX8_closed 0 = .ok (.aload_n 0, 1) := by decide +kernel
theorem dX8_closed_1 : decode cX8_closed 1 = .ok (.getfield 12, 3) := by decide +kernel
theorem dX8_closed_4 : decode cX8_closed 4 = .ok (.iload_n 1, 1) := by decide +kernel
theorem dX8_closed_5 : decode cX8_closed 5 = .ok (.invokevirtual 93, 3) := by decide +kernel
theorem dX8_closed_8 : decode cX8_closed 8 = .ok (.astore 4, 2) := by decide +kernel
theorem dX8_closed_10 : decode cX8_closed 10 = .ok (.aload 4, 2) := by decide +kernel
theorem dX8_closed_12 : decode cX8_closed 12 = .ok (.ifnonnull 5, 3) := by decide +kernel
theorem dX8_closed_15 : decode cX8_closed 15 = .ok (.iconst (-1), 1) := by decide +kernel
theorem dX8_closed_16 : decode cX8_closed 16 = .ok (.ireturn, 1) := by decide +kernel
theorem dX8_closed_17 : decode cX8_closed 17 = .ok (.iload_n 2, 1) := by decide +kernel
theorem dX8_closed_18 : decode cX8_closed 18 = .ok (.invokestatic 138, 3) := by decide +kernel
theorem dX8_closed_21 : decode cX8_closed 21 = .ok (.ifCond .eq 10, 3) := by decide +kernel
theorem dX8_closed_24 : decode cX8_closed 24 = .ok (.iload_n 3, 1) := by decide +kernel
theorem dX8_closed_25 : decode cX8_closed 25 = .ok (.invokestatic 138, 3) := by decide +kernel
theorem dX8_closed_28 : decode cX8_closed 28 = .ok (.ifCond .ne 6, 3) := by decide +kernel
theorem dX8_closed_31 : decode cX8_closed 31 = .ok (.bipush (-2), 2) := by decide +kernel
theorem dX8_closed_33 : decode cX8_closed 33 = .ok (.ireturn, 1) := by decide +kernel
theorem dX8_closed_34 : decode cX8_closed 34 = .ok (.aload 4, 2) := by decide +kernel
theorem dX8_closed_36 : decode cX8_closed 36 = .ok (.iload_n 2, 1) := by decide +kernel
theorem dX8_closed_37 : decode cX8_closed 37 = .ok (.iload_n 3, 1) := by decide +kernel
theorem dX8_closed_38 : decode cX8_closed 38 = .ok (.invokevirtual 141, 3) := by decide +kernel
theorem dX8_closed_41 : decode cX8_closed 41 = .ok (.ireturn, 1) := by decide +kernel
set_option maxRecDepth 100000 in
set_option maxHeartbeats 4000000 in
theorem kb_X8_closed_0 {x1 : Int32} {x2 : Int32} {x3 : Int32} {w : WX} {out : Int32 × WX} {H : Heap} {locs : List Loc} {ls : Array Slot} (C : CX p s m args meth c cX8_closed 5 RX8 wc_X8_closed (some .int))  (hG : Gd s G A 153 B (entX G B w) X H locs) (hl : lv_has ls 5 [(0, .ref (B + 0)), (1, .int x1), (2, .int x2), (3, .int x3)]) (hf : sh_X8_closed x1 x2 x3 w = some out) :
    W p l e rm_X8_closed s m args below meth c H locs 0 0 (MQ below (CPost G A 153 B (entX G B out.2) X (some (.int out.1))) args s 0 0 A) (F0 m 0 ls []) := by
  refine lv_aload_n C.1 C.2.1 dX8_closed_0 rfl (lv_at hl 0 rfl) ?_
  refine gf_X8_12 C hG rfl dX8_closed_1 ?_
  refine lv_iload_n C.1 C.2.1 dX8_closed_4 rfl (lv_at hl 1 rfl) ?_
  obtain ⟨v1, hv1, hf⟩ := of_bind hf
  refine r_callV1 C hG hl.1 (c0 := 1) (As := [.int x1]) (by decide) (entX_O4 (n := 4) rfl) rfl (mt_X4_algebraAt l rfl hv1) (cwV 1 C.2.2.2.2.1 (gd_V tg_2_119 tg_2_120 tg_2_121 tg_1_2 tg_2_122) rfl rfl rfl cd_X4_algebraAt ⟨Nat.le_of_ble_eq_true rfl, Nat.le_of_ble_eq_true rfl⟩) rfl rfl (Nat.le_of_ble_eq_true rfl) dX8_closed_5 (fun H locs hG => ?_)
  rcases of_ite hf with ⟨c2, hf⟩ | ⟨c2, hf⟩
  · refine r_rvN c2 ?_
    refine lv_astoreN (lv' := [(4, .null), (0, .ref (B + 0)), (1, .int x1), (2, .int x2), (3, .int x3)]) C.1 C.2.1 dX8_closed_8 hl (by decide) rfl (fun ls hl => ?_)
    refine lv_aloadN C.1 C.2.1 dX8_closed_10 (lv_at hl 0 rfl) ?_
    refine lv_ifnonnullN C.1 C.2.1 dX8_closed_12 ?_
    refine lv_iconst (v := (-1 : Int32)) C.1 C.2.1 dX8_closed_15 (by decide) ?_
    obtain rfl := Option.some.inj hf
    exact r_iret C hG dX8_closed_16
  · refine r_rvR c2 ?_
    obtain ⟨c3, hf⟩ := of_grd hf
    refine lv_astore (lv' := [(4, .ref (B + v1)), (0, .ref (B + 0)), (1, .int x1), (2, .int x2), (3, .int x3)]) C.1 C.2.1 dX8_closed_8 hl (by decide) rfl (fun ls hl => ?_)
    refine lv_aload C.1 C.2.1 dX8_closed_10 (lv_at hl 0 rfl) ?_
    refine lv_ifnonnull (tgt := 17) C.1 C.2.1 dX8_closed_12 (by decide) ?_
    refine lv_iload_n C.1 C.2.1 dX8_closed_17 rfl (lv_at hl 3 rfl) ?_
    obtain ⟨v4, hv4, hf⟩ := of_bind hf
    refine r_callS1 C hG hl.1 (As := [.int x2]) (mt_X8_isTurns l  hv4) (va_cwS 1 C.2.2.2.2.1 (gd_S tg_2_164 tg_2_165 tg_1_1 tg_2_166) rfl rfl rfl cd_X8_isTurns.2 ⟨Nat.le_of_ble_eq_true rfl, Nat.le_of_ble_eq_true rfl⟩) rfl rfl (Nat.le_of_ble_eq_true rfl) dX8_closed_18 (fun H locs hG => ?_)
    rcases of_ite hf with ⟨c5, hf⟩ | ⟨c5, hf⟩
    · refine lv_if_eq (tgt := 31) C.1 C.2.1 dX8_closed_21 (by decide) (fun _ => ?_) (fun q => absurd c5 q)
      refine lv_bipush (v := (-2 : Int32)) C.1 C.2.1 dX8_closed_31 (by decide) ?_
      obtain rfl := Option.some.inj hf
      exact r_iret C hG dX8_closed_33
    · refine lv_if_eq (tgt := 31) C.1 C.2.1 dX8_closed_21 (by decide) (fun q => absurd q c5) (fun _ => ?_)
      refine lv_iload_n C.1 C.2.1 dX8_closed_24 rfl (lv_at hl 4 rfl) ?_
      obtain ⟨v6, hv6, hf⟩ := of_bind hf
      refine r_callS1 C hG hl.1 (As := [.int x3]) (mt_X8_isTurns l  hv6) (va_cwS 1 C.2.2.2.2.1 (gd_S tg_2_164 tg_2_165 tg_1_1 tg_2_166) rfl rfl rfl cd_X8_isTurns.2 ⟨Nat.le_of_ble_eq_true rfl, Nat.le_of_ble_eq_true rfl⟩) rfl rfl (Nat.le_of_ble_eq_true rfl) dX8_closed_25 (fun H locs hG => ?_)
      rcases of_ite hf with ⟨c7, hf⟩ | ⟨c7, hf⟩
      · refine lv_if_ne (tgt := 34) C.1 C.2.1 dX8_closed_28 (by decide) (fun q => absurd c7 q) (fun _ => ?_)
        refine lv_bipush (v := (-2 : Int32)) C.1 C.2.1 dX8_closed_31 (by decide) ?_
        obtain rfl := Option.some.inj hf
        exact r_iret C hG dX8_closed_33
      · refine lv_if_ne (tgt := 34) C.1 C.2.1 dX8_closed_28 (by decide) (fun _ => ?_) (fun q => absurd q c7)
        refine lv_aload C.1 C.2.1 dX8_closed_34 (lv_at hl 0 rfl) ?_
        refine lv_iload_n C.1 C.2.1 dX8_closed_36 rfl (lv_at hl 3 rfl) ?_
        refine lv_iload_n C.1 C.2.1 dX8_closed_37 rfl (lv_at hl 4 rfl) ?_
        obtain ⟨v8, hv8, hf⟩ := of_bind hf
        refine r_callV1 C hG hl.1 (c0 := v1) (As := [.int x2, .int x3]) (kdx_lt c3 (by decide)) (entX_O0 c3) rfl (mt_X0_closedBy l c3 hv8) (cwV 2 C.2.2.2.2.1 (gd_V tg_2_167 tg_2_168 tg_2_169 tg_1_4 tg_2_170) rfl rfl rfl cd_X0_closedBy ⟨Nat.le_of_ble_eq_true rfl, Nat.le_of_ble_eq_true rfl⟩) rfl rfl (Nat.le_of_ble_eq_true rfl) dX8_closed_38 (fun H locs hG => ?_)
        obtain rfl := Option.some.inj hf
        exact r_iret C hG dX8_closed_41
set_option maxRecDepth 100000 in
set_option maxHeartbeats 4000000 in
theorem mt_X8_closed (l : Launch) {G : GG} {A : Nat → Prop} {B : Nat} {X : va_W} {x1 : Int32} {x2 : Int32} {x3 : Int32} {w : WX} {out : Int32 × WX}  (hf : sh_X8_closed x1 x2 x3 w = some out) : MetW l yX8_closed wc_X8_closed rm_X8_closed G A 153 B (entX G B w) X [.ref (B + 0), .int x1, .int x2, .int x3] (some (.int out.1)) (entX G B out.2) := by
  refine Met.ofW (cc := cX8_closed) (maxL := 5) (ret := (some .int)) (by decide) rfl ?_
  intro p e s m args below meth c s₁ B0 hml hv
  obtain ⟨rfl, hEv, hWd⟩ := hv
  have C : CX p s m _ meth c cX8_closed 5 RX8 wc_X8_closed (some .int) := ⟨B0.exec, B0.bytes, hml, findClass_of_methodNamed B0.named, atoms_spec (ws := wc_X8_closed) B0.pre, B0.returns, B0.notSynchronized⟩
  have hl := lv_entry [.ref (B + 0), .int x1, .int x2, .int x3] (n := 5) (Nat.le_of_ble_eq_true rfl)
  rw [lg_entry_eq]
  generalize (lg_sl [.ref (B + 0), .int x1, .int x2, .int x3] ++ List.replicate (5 - (lg_sl [.ref (B + 0), .int x1, .int x2, .int x3]).length) Slot.unset).toArray = ls at hl ⊢
  have hl : lv_has ls 5 [(0, .ref (B + 0)), (1, .int x1), (2, .int x2), (3, .int x3)] := hl
  exact kb_X8_closed_0 C  ⟨hEv, hWd, va_S.rf⟩ hl hf
abbrev wc_X8_handles : List Cond := Cond.code yX8_handles cX8_handles 6 (some .int) :: TG
abbrev rm_X8_handles : Room := { frames := 5, cells := 0, slots := 0, locals := 171 }
theorem cd_X8_handles : yX8_handles.cls = RX8 ∧ yX8_handles.cls ≠ "java/lang/invoke/MethodHandle" ∧ yX8_handles.cls ≠ "java/lang/invoke/VarHandle" ∧ (parseMethodDescriptor yX8_handles.desc).map (fun d => d.parameters.length) = some 3 := by decide +kernel
theorem dX8_handles_0 : decode cX8_handles 0 = .ok (.aload_n 0, 1) := by decide +kernel
theorem dX8_handles_1 : decode cX8_handles 1 = .ok (.getfield 12, 3) := by decide +kernel
theorem dX8_handles_4 : decode cX8_handles 4 = .ok (.iload_n 1, 1) := by decide +kernel
theorem dX8_handles_5 : decode cX8_handles 5 = .ok (.invokevirtual 93, 3) := by decide +kernel
theorem dX8_handles_8 : decode cX8_handles 8 = .ok (.astore 4, 2) := by decide +kernel
theorem dX8_handles_10 : decode cX8_handles 10 = .ok (.aload 4, 2) := by decide +kernel
theorem dX8_handles_12 : decode cX8_handles 12 = .ok (.ifnonnull 5, 3) := by decide +kernel
theorem dX8_handles_15 : decode cX8_handles 15 = .ok (.iconst (-1), 1) := by decide +kernel
theorem dX8_handles_16 : decode cX8_handles 16 = .ok (.ireturn, 1) := by decide +kernel
theorem dX8_handles_17 : decode cX8_handles 17 = .ok (.iload_n 2, 1) := by decide +kernel
theorem dX8_handles_18 : decode cX8_handles 18 = .ok (.invokestatic 138, 3) := by decide +kernel
theorem dX8_handles_21 : decode cX8_handles 21 = .ok (.ifCond .ne 6, 3) := by decide +kernel
theorem dX8_handles_24 : decode cX8_handles 24 = .ok (.bipush (-2), 2) := by decide +kernel
theorem dX8_handles_26 : decode cX8_handles 26 = .ok (.ireturn, 1) := by decide +kernel
theorem dX8_handles_27 : decode cX8_handles 27 = .ok (.iconst 0, 1) := by decide +kernel
theorem dX8_handles_28 : decode cX8_handles 28 = .ok (.istore 5, 2) := by decide +kernel
theorem dX8_handles_30 : decode cX8_handles 30 = .ok (.iload 5, 2) := by decide +kernel
theorem dX8_handles_32 : decode cX8_handles 32 = .ok (.bipush 20, 2) := by decide +kernel
theorem dX8_handles_34 : decode cX8_handles 34 = .ok (.if_icmp .gt 24, 3) := by decide +kernel
theorem dX8_handles_37 : decode cX8_handles 37 = .ok (.aload 4, 2) := by decide +kernel
theorem dX8_handles_39 : decode cX8_handles 39 = .ok (.iload 5, 2) := by decide +kernel
theorem dX8_handles_41 : decode cX8_handles 41 = .ok (.iload_n 2, 1) := by decide +kernel
theorem dX8_handles_42 : decode cX8_handles 42 = .ok (.invokevirtual 141, 3) := by decide +kernel
theorem dX8_handles_45 : decode cX8_handles 45 = .ok (.iload_n 3, 1) := by decide +kernel
theorem dX8_handles_46 : decode cX8_handles 46 = .ok (.if_icmp .ne 6, 3) := by decide +kernel
theorem dX8_handles_49 : decode cX8_handles 49 = .ok (.iload 5, 2) := by decide +kernel
theorem dX8_handles_51 : decode cX8_handles 51 = .ok (.ireturn, 1) := by decide +kernel
theorem dX8_handles_52 : decode cX8_handles 52 = .ok (.iinc 5 1, 3) := by decide +kernel
theorem dX8_handles_55 : decode cX8_handles 55 = .ok (.goto (-25), 3) := by decide +kernel
theorem dX8_handles_58 : decode cX8_handles 58 = .ok (.bipush (-5), 2) := by decide +kernel
theorem dX8_handles_60 : decode cX8_handles 60 = .ok (.ireturn, 1) := by decide +kernel
set_option maxRecDepth 100000 in
set_option maxHeartbeats 4000000 in
theorem kb_X8_handles_30 {x2 : Int32} {x3 : Int32} {x4 : Nat} {st : Int32 × WX} {r : (Int32 × WX) ⊕ ((Int32 × WX) ⊕ (WX))} {H : Heap} {locs : List Loc} {ls : Array Slot} (C : CX p s m args meth c cX8_handles 6 RX8 wc_X8_handles (some .int)) (h4 : KDx x4 = (0, 13)) (hG : Gd s G A 153 B (entX G B st.2) X H locs) (hl : lv_has ls 6 [(2, .int x2), (3, .int x3), (4, .ref (B + x4)), (5, .int st.1)]) (hf : sh_X8_handles_s30 x2 x3 x4 st = some r)
    (kL : ∀ st' : Int32 × WX, r = Sum.inl st' → ∀ (H : Heap) (locs : List Loc) (ls : Array Slot), Gd s G A 153 B (entX G B st'.2) X H locs → lv_has ls 6 [(2, .int x2), (3, .int x3), (4, .ref (B + x4)), (5, .int st'.1)] → W p l e rm_X8_handles s m args below meth c H locs 0 0 Q (F0 m 30 ls []))
    (kX0 : ∀ y' : Int32 × WX, r = Sum.inr (Sum.inl y') → ∀ (H : Heap) (locs : List Loc) (ls : Array Slot), Gd s G A 153 B (entX G B y'.2) X H locs → lv_has ls 6 [(5, .int y'.1)] → W p l e rm_X8_handles s m args below meth c H locs 0 0 Q (F0 m 49 ls []))
    (kX1 : ∀ y' : WX, r = Sum.inr (Sum.inr y') → ∀ (H : Heap) (locs : List Loc) (ls : Array Slot), Gd s G A 153 B (entX G B y') X H locs → lv_has ls 6 [] → W p l e rm_X8_handles s m args below meth c H locs 0 0 Q (F0 m 58 ls [])) :
    W p l e rm_X8_handles s m args below meth c H locs 0 0 Q (F0 m 30 ls []) := by
  refine lv_iload C.1 C.2.1 dX8_handles_30 (lv_at hl 3 rfl) ?_
  refine lv_bipush (v := nI 20) C.1 C.2.1 dX8_handles_32 (by decide) ?_
  rcases of_ite hf with ⟨c1, hf⟩ | ⟨c1, hf⟩
  · refine lv_icmp_gt (tgt := 58) C.1 C.2.1 dX8_handles_34 (by decide) (fun _ => ?_) (fun q => absurd c1 q)
    obtain rfl := Option.some.inj hf
    exact kX1 _ rfl _ _ _ hG (lv_sub hl [] rfl)
  · refine lv_icmp_gt (tgt := 58) C.1 C.2.1 dX8_handles_34 (by decide) (fun q => absurd q c1) (fun _ => ?_)
    refine lv_aload C.1 C.2.1 dX8_handles_37 (lv_at hl 2 rfl) ?_
    refine lv_iload C.1 C.2.1 dX8_handles_39 (lv_at hl 3 rfl) ?_
    refine lv_iload_n C.1 C.2.1 dX8_handles_41 rfl (lv_at hl 0 rfl) ?_
    obtain ⟨v2, hv2, hf⟩ := of_bind hf
    refine r_callV1 C hG hl.1 (c0 := x4) (As := [.int st.1, .int x2]) (kdx_lt h4 (by decide)) (entX_O0 h4) rfl (mt_X0_closedBy l h4 hv2) (cwV 2 C.2.2.2.2.1 (gd_V tg_2_167 tg_2_168 tg_2_169 tg_1_4 tg_2_170) rfl rfl rfl cd_X0_closedBy ⟨Nat.le_of_ble_eq_true rfl, Nat.le_of_ble_eq_true rfl⟩) rfl rfl (Nat.le_of_ble_eq_true rfl) dX8_handles_42 (fun H locs hG => ?_)
    refine lv_iload_n C.1 C.2.1 dX8_handles_45 rfl (lv_at hl 1 rfl) ?_
    rcases of_ite hf with ⟨c3, hf⟩ | ⟨c3, hf⟩
    · refine lv_icmp_ne (tgt := 52) C.1 C.2.1 dX8_handles_46 (by decide) (fun q => absurd c3 q) (fun _ => ?_)
      obtain rfl := Option.some.inj hf
      exact kX0 _ rfl _ _ _ hG (lv_sub hl [3] rfl)
    · refine lv_icmp_ne (tgt := 52) C.1 C.2.1 dX8_handles_46 (by decide) (fun _ => ?_) (fun q => absurd q c3)
      obtain ⟨v4, ev4, hf⟩ := of_letv hf
      refine lv_iinc (v := v4) (lv' := [(5, .int v4), (2, .int x2), (3, .int x3), (4, .ref (B + x4))]) C.1 C.2.1 dX8_handles_52 hl (k := 3) rfl (by rw [ev4, show Int32.ofInt (1) = nI 1 from by decide]) (by decide) rfl (fun ls hl => ?_)
      refine lv_goto (tgt := 30) C.1 C.2.1 dX8_handles_55 (by decide) ?_
      obtain rfl := Option.some.inj hf
      exact kL _ rfl _ _ _ hG (lv_sub hl [1, 2, 3, 0] rfl)
set_option maxRecDepth 100000 in
set_option maxHeartbeats 4000000 in
theorem kl_X8_handles_30 {x2 : Int32} {x3 : Int32} {x4 : Nat} (C : CX p s m args meth c cX8_handles 6 RX8 wc_X8_handles (some .int)) (h4 : KDx x4 = (0, 13)) : ∀ (n : Nat) (st : Int32 × WX) (x : (Int32 × WX) ⊕ (WX)) (H : Heap) (locs : List Loc) (ls : Array Slot), Gd s G A 153 B (entX G B st.2) X H locs → lv_has ls 6 [(2, .int x2), (3, .int x3), (4, .ref (B + x4)), (5, .int st.1)] → lpw (sh_X8_handles_s30 x2 x3 x4) n st = some x →
    (∀ y' : Int32 × WX, x = (Sum.inl y') → ∀ (H : Heap) (locs : List Loc) (ls : Array Slot), Gd s G A 153 B (entX G B y'.2) X H locs → lv_has ls 6 [(5, .int y'.1)] → W p l e rm_X8_handles s m args below meth c H locs 0 0 Q (F0 m 49 ls [])) →
    (∀ y' : WX, x = (Sum.inr y') → ∀ (H : Heap) (locs : List Loc) (ls : Array Slot), Gd s G A 153 B (entX G B y') X H locs → lv_has ls 6 [] → W p l e rm_X8_handles s m args below meth c H locs 0 0 Q (F0 m 58 ls [])) → W p l e rm_X8_handles s m args below meth c H locs 0 0 Q (F0 m 30 ls []) := by
  intro n
  induction n with
  | zero =>
    intro st x H locs ls hG hl hf
    cases hf
  | succ n ih =>
    intro st x H locs ls hG hl hf kX0 kX1
    obtain ⟨r, hr, hh⟩ := of_lpw hf
    refine kb_X8_handles_30 C h4 hG hl hr (fun st2 e1 H locs ls hG hl => ?_) (fun y2 e1 H locs ls hG hl => ?_) (fun y2 e1 H locs ls hG hl => ?_)
    · rcases hh with ⟨s3, e2, hh⟩ | e2
      · rw [e2] at e1
        cases e1
        exact ih _ _ _ _ _ hG hl hh kX0 kX1
      · rw [e2] at e1
        cases e1
    · rcases hh with ⟨s3, e2, hh⟩ | e2
      · rw [e2] at e1
        cases e1
      · rw [e2] at e1
        cases e1
        exact kX0 _ rfl _ _ _ hG hl
    · rcases hh with ⟨s3, e2, hh⟩ | e2
      · rw [e2] at e1
        cases e1
      · rw [e2] at e1
        cases e1
        exact kX1 _ rfl _ _ _ hG hl
set_option maxRecDepth 100000 in
set_option maxHeartbeats 4000000 in
theorem kb_X8_handles_0 {x1 : Int32} {x2 : Int32} {x3 : Int32} {w : WX} {out : Int32 × WX} {H : Heap} {locs : List Loc} {ls : Array Slot} (C : CX p s m args meth c cX8_handles 6 RX8 wc_X8_handles (some .int))  (hG : Gd s G A 153 B (entX G B w) X H locs) (hl : lv_has ls 6 [(0, .ref (B + 0)), (1, .int x1), (2, .int x2), (3, .int x3)]) (hf : sh_X8_handles x1 x2 x3 w = some out) :
    W p l e rm_X8_handles s m args below meth c H locs 0 0 (MQ below (CPost G A 153 B (entX G B out.2) X (some (.int out.1))) args s 0 0 A) (F0 m 0 ls []) := by
  refine lv_aload_n C.1 C.2.1 dX8_handles_0 rfl (lv_at hl 0 rfl) ?_
  refine gf_X8_12 C hG rfl dX8_handles_1 ?_
  refine lv_iload_n C.1 C.2.1 dX8_handles_4 rfl (lv_at hl 1 rfl) ?_
  obtain ⟨v1, hv1, hf⟩ := of_bind hf
  refine r_callV1 C hG hl.1 (c0 := 1) (As := [.int x1]) (by decide) (entX_O4 (n := 4) rfl) rfl (mt_X4_algebraAt l rfl hv1) (cwV 1 C.2.2.2.2.1 (gd_V tg_2_119 tg_2_120 tg_2_121 tg_1_2 tg_2_122) rfl rfl rfl cd_X4_algebraAt ⟨Nat.le_of_ble_eq_true rfl, Nat.le_of_ble_eq_true rfl⟩) rfl rfl (Nat.le_of_ble_eq_true rfl) dX8_handles_5 (fun H locs hG => ?_)
  rcases of_ite hf with ⟨c2, hf⟩ | ⟨c2, hf⟩
  · refine r_rvN c2 ?_
    refine lv_astoreN (lv' := [(4, .null), (0, .ref (B + 0)), (1, .int x1), (2, .int x2), (3, .int x3)]) C.1 C.2.1 dX8_handles_8 hl (by decide) rfl (fun ls hl => ?_)
    refine lv_aloadN C.1 C.2.1 dX8_handles_10 (lv_at hl 0 rfl) ?_
    refine lv_ifnonnullN C.1 C.2.1 dX8_handles_12 ?_
    refine lv_iconst (v := (-1 : Int32)) C.1 C.2.1 dX8_handles_15 (by decide) ?_
    obtain rfl := Option.some.inj hf
    exact r_iret C hG dX8_handles_16
  · refine r_rvR c2 ?_
    obtain ⟨c3, hf⟩ := of_grd hf
    refine lv_astore (lv' := [(4, .ref (B + v1)), (0, .ref (B + 0)), (1, .int x1), (2, .int x2), (3, .int x3)]) C.1 C.2.1 dX8_handles_8 hl (by decide) rfl (fun ls hl => ?_)
    refine lv_aload C.1 C.2.1 dX8_handles_10 (lv_at hl 0 rfl) ?_
    refine lv_ifnonnull (tgt := 17) C.1 C.2.1 dX8_handles_12 (by decide) ?_
    refine lv_iload_n C.1 C.2.1 dX8_handles_17 rfl (lv_at hl 3 rfl) ?_
    obtain ⟨v4, hv4, hf⟩ := of_bind hf
    refine r_callS1 C hG hl.1 (As := [.int x2]) (mt_X8_isTurns l  hv4) (va_cwS 1 C.2.2.2.2.1 (gd_S tg_2_164 tg_2_165 tg_1_1 tg_2_166) rfl rfl rfl cd_X8_isTurns.2 ⟨Nat.le_of_ble_eq_true rfl, Nat.le_of_ble_eq_true rfl⟩) rfl rfl (Nat.le_of_ble_eq_true rfl) dX8_handles_18 (fun H locs hG => ?_)
    rcases of_ite hf with ⟨c5, hf⟩ | ⟨c5, hf⟩
    · refine lv_if_ne (tgt := 27) C.1 C.2.1 dX8_handles_21 (by decide) (fun q => absurd c5 q) (fun _ => ?_)
      refine lv_bipush (v := (-2 : Int32)) C.1 C.2.1 dX8_handles_24 (by decide) ?_
      obtain rfl := Option.some.inj hf
      exact r_iret C hG dX8_handles_26
    · refine lv_if_ne (tgt := 27) C.1 C.2.1 dX8_handles_21 (by decide) (fun _ => ?_) (fun q => absurd q c5)
      refine lv_iconst (v := nI 0) C.1 C.2.1 dX8_handles_27 (by decide) ?_
      refine lv_istore (lv' := [(5, .int (nI 0)), (4, .ref (B + v1)), (0, .ref (B + 0)), (1, .int x1), (2, .int x2), (3, .int x3)]) C.1 C.2.1 dX8_handles_28 hl (by decide) rfl (fun ls hl => ?_)
      obtain ⟨ex6, hex6, hf⟩ := of_bind hf
      refine kl_X8_handles_30 C c3 FU (nI 0, w) ex6 _ _ _ hG (lv_sub hl [4, 5, 1, 0] rfl) hex6 (fun y7 e0 H locs ls hG hl => ?_) (fun y8 e0 H locs ls hG hl => ?_)
      · subst e0
        simp only [Sum.elim_inl, Sum.elim_inr] at hf
        refine lv_iload C.1 C.2.1 dX8_handles_49 (lv_at hl 0 rfl) ?_
        obtain rfl := Option.some.inj hf
        exact r_iret C hG dX8_handles_51
      · subst e0
        simp only [Sum.elim_inl, Sum.elim_inr] at hf
        refine lv_bipush (v := (-5 : Int32)) C.1 C.2.1 dX8_handles_58 (by decide) ?_
        obtain rfl := Option.some.inj hf
        exact r_iret C hG dX8_handles_60
set_option maxRecDepth 100000 in
set_option maxHeartbeats 4000000 in
theorem mt_X8_handles (l : Launch) {G : GG} {A : Nat → Prop} {B : Nat} {X : va_W} {x1 : Int32} {x2 : Int32} {x3 : Int32} {w : WX} {out : Int32 × WX}  (hf : sh_X8_handles x1 x2 x3 w = some out) : MetW l yX8_handles wc_X8_handles rm_X8_handles G A 153 B (entX G B w) X [.ref (B + 0), .int x1, .int x2, .int x3] (some (.int out.1)) (entX G B out.2) := by
  refine Met.ofW (cc := cX8_handles) (maxL := 6) (ret := (some .int)) (by decide) rfl ?_
  intro p e s m args below meth c s₁ B0 hml hv
  obtain ⟨rfl, hEv, hWd⟩ := hv
  have C : CX p s m _ meth c cX8_handles 6 RX8 wc_X8_handles (some .int) := ⟨B0.exec, B0.bytes, hml, findClass_of_methodNamed B0.named, atoms_spec (ws := wc_X8_handles) B0.pre, B0.returns, B0.notSynchronized⟩
  have hl := lv_entry [.ref (B + 0), .int x1, .int x2, .int x3] (n := 6) (Nat.le_of_ble_eq_true rfl)
  rw [lg_entry_eq]
  generalize (lg_sl [.ref (B + 0), .int x1, .int x2, .int x3] ++ List.replicate (6 - (lg_sl [.ref (B + 0), .int x1, .int x2, .int x3]).length) Slot.unset).toArray = ls at hl ⊢
  have hl : lv_has ls 6 [(0, .ref (B + 0)), (1, .int x1), (2, .int x2), (3, .int x3)] := hl
  exact kb_X8_handles_0 C  ⟨hEv, hWd, va_S.rf⟩ hl hf
abbrev wc_X8_were : List Cond := Cond.code yX8_were cX8_were 8 (some .int) :: TG
abbrev rm_X8_were : Room := { frames := 6, cells := 0, slots := 0, locals := 193 }
theorem cd_X8_were : yX8_were.cls = RX8 ∧ yX8_were.cls ≠ "java/lang/invoke/MethodHandle" ∧ yX8_were.cls ≠ "java/lang/invoke/VarHandle" ∧ (parseMethodDescriptor yX8_were.desc).map (fun d => d.parameters.length) = some 4 := by decide +kernel
theorem dX8_were_0 : decode cX8_were 0 = .ok (.aload_n 0, 1) := by decide +kernel
theorem dX8_were_1 : decode cX8_were 1 = .ok (.getfield 12, 3) := by decide +kernel
theorem dX8_were_4 : decode cX8_were 4 = .ok (.iload_n 1, 1) := by decide +kernel
theorem dX8_were_5 : decode cX8_were 5 = .ok (.invokevirtual 93, 3) := by decide +kernel
theorem dX8_were_8 : decode cX8_were 8 = .ok (.astore 5, 2) := by decide +kernel
theorem dX8_were_10 : decode cX8_were 10 = .ok (.aload 5, 2) := by decide +kernel
theorem dX8_were_12 : decode cX8_were 12 = .ok (.ifnonnull 5, 3) := by decide +kernel
theorem dX8_were_15 : decode cX8_were 15 = .ok (.iconst (-1), 1) := by decide +kernel
theorem dX8_were_16 : decode cX8_were 16 = .ok (.ireturn, 1) := by decide +kernel
theorem dX8_were_17 : decode cX8_were 17 = .ok (.iload_n 2, 1) := by decide +kernel
theorem dX8_were_18 : decode cX8_were 18 = .ok (.invokestatic 138, 3) := by decide +kernel
theorem dX8_were_21 : decode cX8_were 21 = .ok (.ifCond .eq 10, 3) := by decide +kernel
theorem dX8_were_24 : decode cX8_were 24 = .ok (.iload_n 3, 1) := by decide +kernel
theorem dX8_were_25 : decode cX8_were 25 = .ok (.invokestatic 138, 3) := by decide +kernel
theorem dX8_were_28 : decode cX8_were 28 = .ok (.ifCond .ne 6, 3) := by decide +kernel
theorem dX8_were_31 : decode cX8_were 31 = .ok (.bipush (-2), 2) := by decide +kernel
theorem dX8_were_33 : decode cX8_were 33 = .ok (.ireturn, 1) := by decide +kernel
theorem dX8_were_34 : decode cX8_were 34 = .ok (.iconst 0, 1) := by decide +kernel
theorem dX8_were_35 : decode cX8_were 35 = .ok (.istore 6, 2) := by decide +kernel
theorem dX8_were_37 : decode cX8_were 37 = .ok (.iconst 0, 1) := by decide +kernel
theorem dX8_were_38 : decode cX8_were 38 = .ok (.istore 7, 2) := by decide +kernel
theorem dX8_were_40 : decode cX8_were 40 = .ok (.iload 7, 2) := by decide +kernel
theorem dX8_were_42 : decode cX8_were 42 = .ok (.bipush 9, 2) := by decide +kernel
theorem dX8_were_44 : decode cX8_were 44 = .ok (.if_icmp .gt 51, 3) := by decide +kernel
theorem dX8_were_47 : decode cX8_were 47 = .ok (.aload_n 0, 1) := by decide +kernel
theorem dX8_were_48 : decode cX8_were 48 = .ok (.getfield 49, 3) := by decide +kernel
theorem dX8_were_51 : decode cX8_were 51 = .ok (.aload 5, 2) := by decide +kernel
theorem dX8_were_53 : decode cX8_were 53 = .ok (.getfield 100, 3) := by decide +kernel
theorem dX8_were_56 : decode cX8_were 56 = .ok (.aload 5, 2) := by decide +kernel
theorem dX8_were_58 : decode cX8_were 58 = .ok (.getfield 103, 3) := by decide +kernel
theorem dX8_were_61 : decode cX8_were 61 = .ok (.iload 7, 2) := by decide +kernel
theorem dX8_were_63 : decode cX8_were 63 = .ok (.invokevirtual 89, 3) := by decide +kernel
theorem dX8_were_66 : decode cX8_were 66 = .ok (.aload_n 0, 1) := by decide +kernel
theorem dX8_were_67 : decode cX8_were 67 = .ok (.getfield 49, 3) := by decide +kernel
theorem dX8_were_70 : decode cX8_were 70 = .ok (.iload_n 2, 1) := by decide +kernel
theorem dX8_were_71 : decode cX8_were 71 = .ok (.iload_n 3, 1) := by decide +kernel
theorem dX8_were_72 : decode cX8_were 72 = .ok (.invokevirtual 141, 3) := by decide +kernel
theorem dX8_were_75 : decode cX8_were 75 = .ok (.iload 4, 2) := by decide +kernel
theorem dX8_were_77 : decode cX8_were 77 = .ok (.if_icmp .ne 12, 3) := by decide +kernel
theorem dX8_were_80 : decode cX8_were 80 = .ok (.iload 6, 2) := by decide +kernel
theorem dX8_were_82 : decode cX8_were 82 = .ok (.iconst 1, 1) := by decide +kernel
theorem dX8_were_83 : decode cX8_were 83 = .ok (.iload 7, 2) := by decide +kernel
theorem dX8_were_85 : decode cX8_were 85 = .ok (.ishl, 1) := by decide +kernel
theorem dX8_were_86 : decode cX8_were 86 = .ok (.ior, 1) := by decide +kernel
theorem dX8_were_87 : decode cX8_were 87 = .ok (.istore 6, 2) := by decide +kernel
theorem dX8_were_89 : decode cX8_were 89 = .ok (.iinc 7 1, 3) := by decide +kernel
theorem dX8_were_92 : decode cX8_were 92 = .ok (.goto (-52), 3) := by decide +kernel
theorem dX8_were_95 : decode cX8_were 95 = .ok (.iload 6, 2) := by decide +kernel
theorem dX8_were_97 : decode cX8_were 97 = .ok (.ireturn, 1) := by decide +kernel
set_option maxRecDepth 100000 in
set_option maxHeartbeats 4000000 in
theorem kb_X8_were_40 {x2 : Int32} {x3 : Int32} {x4 : Int32} {x5 : Nat} {st : Int32 × Int32 × WX} {r : (Int32 × Int32 × WX) ⊕ ((Int32 × WX))} {H : Heap} {locs : List Loc} {ls : Array Slot} (C : CX p s m args meth c cX8_were 8 RX8 wc_X8_were (some .int)) (h5 : KDx x5 = (0, 13)) (hG : Gd s G A 153 B (entX G B st.2.2) X H locs) (hl : lv_has ls 8 [(0, .ref (B + 0)), (2, .int x2), (3, .int x3), (4, .int x4), (5, .ref (B + x5)), (6, .int st.1), (7, .int st.2.1)]) (hf : sh_X8_were_s40 x2 x3 x4 x5 st = some r)
    (kL : ∀ st' : Int32 × Int32 × WX, r = Sum.inl st' → ∀ (H : Heap) (locs : List Loc) (ls : Array Slot), Gd s G A 153 B (entX G B st'.2.2) X H locs → lv_has ls 8 [(0, .ref (B + 0)), (2, .int x2), (3, .int x3), (4, .int x4), (5, .ref (B + x5)), (6, .int st'.1), (7, .int st'.2.1)] → W p l e rm_X8_were s m args below meth c H locs 0 0 Q (F0 m 40 ls []))
    (kX0 : ∀ y' : Int32 × WX, r = Sum.inr y' → ∀ (H : Heap) (locs : List Loc) (ls : Array Slot), Gd s G A 153 B (entX G B y'.2) X H locs → lv_has ls 8 [(6, .int y'.1)] → W p l e rm_X8_were s m args below meth c H locs 0 0 Q (F0 m 95 ls [])) :
    W p l e rm_X8_were s m args below meth c H locs 0 0 Q (F0 m 40 ls []) := by
  refine lv_iload C.1 C.2.1 dX8_were_40 (lv_at hl 6 rfl) ?_
  refine lv_bipush (v := nI 9) C.1 C.2.1 dX8_were_42 (by decide) ?_
  rcases of_ite hf with ⟨c1, hf⟩ | ⟨c1, hf⟩
  · refine lv_icmp_gt (tgt := 95) C.1 C.2.1 dX8_were_44 (by decide) (fun _ => ?_) (fun q => absurd c1 q)
    obtain rfl := Option.some.inj hf
    exact kX0 _ rfl _ _ _ hG (lv_sub hl [5] rfl)
  · refine lv_icmp_gt (tgt := 95) C.1 C.2.1 dX8_were_44 (by decide) (fun q => absurd q c1) (fun _ => ?_)
    refine lv_aload_n C.1 C.2.1 dX8_were_47 rfl (lv_at hl 0 rfl) ?_
    refine gf_X8_49 C hG rfl dX8_were_48 ?_
    refine lv_aload C.1 C.2.1 dX8_were_51 (lv_at hl 4 rfl) ?_
    refine gf_X8_100 C hG h5 dX8_were_53 ?_
    refine lv_aload C.1 C.2.1 dX8_were_56 (lv_at hl 4 rfl) ?_
    refine gf_X8_103 C hG h5 dX8_were_58 ?_
    refine lv_iload C.1 C.2.1 dX8_were_61 (lv_at hl 6 rfl) ?_
    obtain ⟨w2, hw2, hf⟩ := of_bind hf
    refine r_callV0 C hG hl.1 (c0 := 121) (As := [.int (st.2.2.1 x5 0), .int (st.2.2.1 x5 1), .int st.2.1]) (by decide) (entX_O0 (n := 13) rfl) rfl (mt_X0_make l rfl hw2) (cwV 3 C.2.2.2.2.1 (gd_V tg_2_60 tg_2_61 tg_2_62 tg_1_4 tg_2_63) rfl rfl rfl cd_X0_make ⟨Nat.le_of_ble_eq_true rfl, Nat.le_of_ble_eq_true rfl⟩) rfl rfl (Nat.le_of_ble_eq_true rfl) dX8_were_63 (fun H locs hG => ?_)
    refine lv_aload_n C.1 C.2.1 dX8_were_66 rfl (lv_at hl 0 rfl) ?_
    refine gf_X8_49 C hG rfl dX8_were_67 ?_
    refine lv_iload_n C.1 C.2.1 dX8_were_70 rfl (lv_at hl 1 rfl) ?_
    refine lv_iload_n C.1 C.2.1 dX8_were_71 rfl (lv_at hl 2 rfl) ?_
    obtain ⟨v3, hv3, hf⟩ := of_bind hf
    refine r_callV1 C hG hl.1 (c0 := 121) (As := [.int x2, .int x3]) (by decide) (entX_O0 (n := 13) rfl) rfl (mt_X0_closedBy l rfl hv3) (cwV 2 C.2.2.2.2.1 (gd_V tg_2_167 tg_2_168 tg_2_169 tg_1_4 tg_2_170) rfl rfl rfl cd_X0_closedBy ⟨Nat.le_of_ble_eq_true rfl, Nat.le_of_ble_eq_true rfl⟩) rfl rfl (Nat.le_of_ble_eq_true rfl) dX8_were_72 (fun H locs hG => ?_)
    refine lv_iload C.1 C.2.1 dX8_were_75 (lv_at hl 3 rfl) ?_
    rcases of_ite hf with ⟨c4, hf⟩ | ⟨c4, hf⟩
    · refine lv_icmp_ne (tgt := 89) C.1 C.2.1 dX8_were_77 (by decide) (fun q => absurd c4 q) (fun _ => ?_)
      refine lv_iload C.1 C.2.1 dX8_were_80 (lv_at hl 5 rfl) ?_
      refine lv_iconst (v := nI 1) C.1 C.2.1 dX8_were_82 (by decide) ?_
      refine lv_iload C.1 C.2.1 dX8_were_83 (lv_at hl 6 rfl) ?_
      refine lv_ishl C.1 C.2.1 dX8_were_85 ?_
      refine lv_ior C.1 C.2.1 dX8_were_86 ?_
      obtain ⟨v6, ev6, hf⟩ := of_letv hf
      refine r_top ev6 ?_
      refine lv_istore (lv' := [(6, .int v6), (0, .ref (B + 0)), (2, .int x2), (3, .int x3), (4, .int x4), (5, .ref (B + x5)), (7, .int st.2.1)]) C.1 C.2.1 dX8_were_87 hl (by decide) rfl (fun ls hl => ?_)
      obtain ⟨v7, ev7, hf⟩ := of_letv hf
      refine lv_iinc (v := v7) (lv' := [(7, .int v7), (6, .int v6), (0, .ref (B + 0)), (2, .int x2), (3, .int x3), (4, .int x4), (5, .ref (B + x5))]) C.1 C.2.1 dX8_were_89 hl (k := 6) rfl (by rw [ev7, show Int32.ofInt (1) = nI 1 from by decide]) (by decide) rfl (fun ls hl => ?_)
      refine lv_goto (tgt := 40) C.1 C.2.1 dX8_were_92 (by decide) ?_
      obtain rfl := Option.some.inj hf
      exact kL _ rfl _ _ _ hG (lv_sub hl [2, 3, 4, 5, 6, 1, 0] rfl)
    · refine lv_icmp_ne (tgt := 89) C.1 C.2.1 dX8_were_77 (by decide) (fun _ => ?_) (fun q => absurd q c4)
      obtain ⟨v5, ev5, hf⟩ := of_letv hf
      refine lv_iinc (v := v5) (lv' := [(7, .int v5), (0, .ref (B + 0)), (2, .int x2), (3, .int x3), (4, .int x4), (5, .ref (B + x5)), (6, .int st.1)]) C.1 C.2.1 dX8_were_89 hl (k := 6) rfl (by rw [ev5, show Int32.ofInt (1) = nI 1 from by decide]) (by decide) rfl (fun ls hl => ?_)
      refine lv_goto (tgt := 40) C.1 C.2.1 dX8_were_92 (by decide) ?_
      obtain rfl := Option.some.inj hf
      exact kL _ rfl _ _ _ hG (lv_sub hl [1, 2, 3, 4, 5, 6, 0] rfl)
set_option maxRecDepth 100000 in
set_option maxHeartbeats 4000000 in
theorem kl_X8_were_40 {x2 : Int32} {x3 : Int32} {x4 : Int32} {x5 : Nat} (C : CX p s m args meth c cX8_were 8 RX8 wc_X8_were (some .int)) (h5 : KDx x5 = (0, 13)) : ∀ (n : Nat) (st : Int32 × Int32 × WX) (x : (Int32 × WX)) (H : Heap) (locs : List Loc) (ls : Array Slot), Gd s G A 153 B (entX G B st.2.2) X H locs → lv_has ls 8 [(0, .ref (B + 0)), (2, .int x2), (3, .int x3), (4, .int x4), (5, .ref (B + x5)), (6, .int st.1), (7, .int st.2.1)] → lpw (sh_X8_were_s40 x2 x3 x4 x5) n st = some x →
    (∀ y' : Int32 × WX, x = y' → ∀ (H : Heap) (locs : List Loc) (ls : Array Slot), Gd s G A 153 B (entX G B y'.2) X H locs → lv_has ls 8 [(6, .int y'.1)] → W p l e rm_X8_were s m args below meth c H locs 0 0 Q (F0 m 95 ls [])) → W p l e rm_X8_were s m args below meth c H locs 0 0 Q (F0 m 40 ls []) := by
  intro n
  induction n with
  | zero =>
    intro st x H locs ls hG hl hf
    cases hf
  | succ n ih =>
    intro st x H locs ls hG hl hf kX0
    obtain ⟨r, hr, hh⟩ := of_lpw hf
    refine kb_X8_were_40 C h5 hG hl hr (fun st2 e1 H locs ls hG hl => ?_) (fun y2 e1 H locs ls hG hl => ?_)
    · rcases hh with ⟨s3, e2, hh⟩ | e2
      · rw [e2] at e1
        cases e1
        exact ih _ _ _ _ _ hG hl hh kX0
      · rw [e2] at e1
        cases e1
    · rcases hh with ⟨s3, e2, hh⟩ | e2
      · rw [e2] at e1
        cases e1
      · rw [e2] at e1
        cases e1
        exact kX0 _ rfl _ _ _ hG hl
set_option maxRecDepth 100000 in
set_option maxHeartbeats 4000000 in
theorem kb_X8_were_0 {x1 : Int32} {x2 : Int32} {x3 : Int32} {x4 : Int32} {w : WX} {out : Int32 × WX} {H : Heap} {locs : List Loc} {ls : Array Slot} (C : CX p s m args meth c cX8_were 8 RX8 wc_X8_were (some .int))  (hG : Gd s G A 153 B (entX G B w) X H locs) (hl : lv_has ls 8 [(0, .ref (B + 0)), (1, .int x1), (2, .int x2), (3, .int x3), (4, .int x4)]) (hf : sh_X8_were x1 x2 x3 x4 w = some out) :
    W p l e rm_X8_were s m args below meth c H locs 0 0 (MQ below (CPost G A 153 B (entX G B out.2) X (some (.int out.1))) args s 0 0 A) (F0 m 0 ls []) := by
  refine lv_aload_n C.1 C.2.1 dX8_were_0 rfl (lv_at hl 0 rfl) ?_
  refine gf_X8_12 C hG rfl dX8_were_1 ?_
  refine lv_iload_n C.1 C.2.1 dX8_were_4 rfl (lv_at hl 1 rfl) ?_
  obtain ⟨v1, hv1, hf⟩ := of_bind hf
  refine r_callV1 C hG hl.1 (c0 := 1) (As := [.int x1]) (by decide) (entX_O4 (n := 4) rfl) rfl (mt_X4_algebraAt l rfl hv1) (cwV 1 C.2.2.2.2.1 (gd_V tg_2_119 tg_2_120 tg_2_121 tg_1_2 tg_2_122) rfl rfl rfl cd_X4_algebraAt ⟨Nat.le_of_ble_eq_true rfl, Nat.le_of_ble_eq_true rfl⟩) rfl rfl (Nat.le_of_ble_eq_true rfl) dX8_were_5 (fun H locs hG => ?_)
  rcases of_ite hf with ⟨c2, hf⟩ | ⟨c2, hf⟩
  · refine r_rvN c2 ?_
    refine lv_astoreN (lv' := [(5, .null), (0, .ref (B + 0)), (1, .int x1), (2, .int x2), (3, .int x3), (4, .int x4)]) C.1 C.2.1 dX8_were_8 hl (by decide) rfl (fun ls hl => ?_)
    refine lv_aloadN C.1 C.2.1 dX8_were_10 (lv_at hl 0 rfl) ?_
    refine lv_ifnonnullN C.1 C.2.1 dX8_were_12 ?_
    refine lv_iconst (v := (-1 : Int32)) C.1 C.2.1 dX8_were_15 (by decide) ?_
    obtain rfl := Option.some.inj hf
    exact r_iret C hG dX8_were_16
  · refine r_rvR c2 ?_
    obtain ⟨c3, hf⟩ := of_grd hf
    refine lv_astore (lv' := [(5, .ref (B + v1)), (0, .ref (B + 0)), (1, .int x1), (2, .int x2), (3, .int x3), (4, .int x4)]) C.1 C.2.1 dX8_were_8 hl (by decide) rfl (fun ls hl => ?_)
    refine lv_aload C.1 C.2.1 dX8_were_10 (lv_at hl 0 rfl) ?_
    refine lv_ifnonnull (tgt := 17) C.1 C.2.1 dX8_were_12 (by decide) ?_
    refine lv_iload_n C.1 C.2.1 dX8_were_17 rfl (lv_at hl 3 rfl) ?_
    obtain ⟨v4, hv4, hf⟩ := of_bind hf
    refine r_callS1 C hG hl.1 (As := [.int x2]) (mt_X8_isTurns l  hv4) (va_cwS 1 C.2.2.2.2.1 (gd_S tg_2_164 tg_2_165 tg_1_1 tg_2_166) rfl rfl rfl cd_X8_isTurns.2 ⟨Nat.le_of_ble_eq_true rfl, Nat.le_of_ble_eq_true rfl⟩) rfl rfl (Nat.le_of_ble_eq_true rfl) dX8_were_18 (fun H locs hG => ?_)
    rcases of_ite hf with ⟨c5, hf⟩ | ⟨c5, hf⟩
    · refine lv_if_eq (tgt := 31) C.1 C.2.1 dX8_were_21 (by decide) (fun _ => ?_) (fun q => absurd c5 q)
      refine lv_bipush (v := (-2 : Int32)) C.1 C.2.1 dX8_were_31 (by decide) ?_
      obtain rfl := Option.some.inj hf
      exact r_iret C hG dX8_were_33
    · refine lv_if_eq (tgt := 31) C.1 C.2.1 dX8_were_21 (by decide) (fun q => absurd q c5) (fun _ => ?_)
      refine lv_iload_n C.1 C.2.1 dX8_were_24 rfl (lv_at hl 4 rfl) ?_
      obtain ⟨v6, hv6, hf⟩ := of_bind hf
      refine r_callS1 C hG hl.1 (As := [.int x3]) (mt_X8_isTurns l  hv6) (va_cwS 1 C.2.2.2.2.1 (gd_S tg_2_164 tg_2_165 tg_1_1 tg_2_166) rfl rfl rfl cd_X8_isTurns.2 ⟨Nat.le_of_ble_eq_true rfl, Nat.le_of_ble_eq_true rfl⟩) rfl rfl (Nat.le_of_ble_eq_true rfl) dX8_were_25 (fun H locs hG => ?_)
      rcases of_ite hf with ⟨c7, hf⟩ | ⟨c7, hf⟩
      · refine lv_if_ne (tgt := 34) C.1 C.2.1 dX8_were_28 (by decide) (fun q => absurd c7 q) (fun _ => ?_)
        refine lv_bipush (v := (-2 : Int32)) C.1 C.2.1 dX8_were_31 (by decide) ?_
        obtain rfl := Option.some.inj hf
        exact r_iret C hG dX8_were_33
      · refine lv_if_ne (tgt := 34) C.1 C.2.1 dX8_were_28 (by decide) (fun _ => ?_) (fun q => absurd q c7)
        refine lv_iconst (v := nI 0) C.1 C.2.1 dX8_were_34 (by decide) ?_
        refine lv_istore (lv' := [(6, .int (nI 0)), (5, .ref (B + v1)), (0, .ref (B + 0)), (1, .int x1), (2, .int x2), (3, .int x3), (4, .int x4)]) C.1 C.2.1 dX8_were_35 hl (by decide) rfl (fun ls hl => ?_)
        refine lv_iconst (v := nI 0) C.1 C.2.1 dX8_were_37 (by decide) ?_
        refine lv_istore (lv' := [(7, .int (nI 0)), (6, .int (nI 0)), (5, .ref (B + v1)), (0, .ref (B + 0)), (1, .int x1), (2, .int x2), (3, .int x3), (4, .int x4)]) C.1 C.2.1 dX8_were_38 hl (by decide) rfl (fun ls hl => ?_)
        obtain ⟨ex8, hex8, hf⟩ := of_bind hf
        refine kl_X8_were_40 C c3 FU (nI 0, nI 0, w) ex8 _ _ _ hG (lv_sub hl [3, 5, 6, 7, 2, 1, 0] rfl) hex8 (fun y e0 H locs ls hG hl => ?_)
        subst e0
        refine lv_iload C.1 C.2.1 dX8_were_95 (lv_at hl 0 rfl) ?_
        obtain rfl := Option.some.inj hf
        exact r_iret C hG dX8_were_97
set_option maxRecDepth 100000 in
set_option maxHeartbeats 4000000 in
theorem mt_X8_were (l : Launch) {G : GG} {A : Nat → Prop} {B : Nat} {X : va_W} {x1 : Int32} {x2 : Int32} {x3 : Int32} {x4 : Int32} {w : WX} {out : Int32 × WX}  (hf : sh_X8_were x1 x2 x3 x4 w = some out) : MetW l yX8_were wc_X8_were rm_X8_were G A 153 B (entX G B w) X [.ref (B + 0), .int x1, .int x2, .int x3, .int x4] (some (.int out.1)) (entX G B out.2) := by
  refine Met.ofW (cc := cX8_were) (maxL := 8) (ret := (some .int)) (by decide) rfl ?_
  intro p e s m args below meth c s₁ B0 hml hv
  obtain ⟨rfl, hEv, hWd⟩ := hv
  have C : CX p s m _ meth c cX8_were 8 RX8 wc_X8_were (some .int) := ⟨B0.exec, B0.bytes, hml, findClass_of_methodNamed B0.named, atoms_spec (ws := wc_X8_were) B0.pre, B0.returns, B0.notSynchronized⟩
  have hl := lv_entry [.ref (B + 0), .int x1, .int x2, .int x3, .int x4] (n := 8) (Nat.le_of_ble_eq_true rfl)
  rw [lg_entry_eq]
  generalize (lg_sl [.ref (B + 0), .int x1, .int x2, .int x3, .int x4] ++ List.replicate (8 - (lg_sl [.ref (B + 0), .int x1, .int x2, .int x3, .int x4]).length) Slot.unset).toArray = ls at hl ⊢
  have hl : lv_has ls 8 [(0, .ref (B + 0)), (1, .int x1), (2, .int x2), (3, .int x3), (4, .int x4)] := hl
  exact kb_X8_were_0 C  ⟨hEv, hWd, va_S.rf⟩ hl hf
abbrev wc_X8_feed : List Cond := Cond.code yX8_feed cX8_feed 2 (some .int) :: TG
abbrev rm_X8_feed : Room := { frames := 3, cells := 0, slots := 0, locals := 121 }
theorem cd_X8_feed : yX8_feed.cls = RX8 ∧ yX8_feed.cls ≠ "java/lang/invoke/MethodHandle" ∧ yX8_feed.cls ≠ "java/lang/invoke/VarHandle" ∧ (parseMethodDescriptor yX8_feed.desc).map (fun d => d.parameters.length) = some 1 := by decide +kernel
theorem dX8_feed_0 : decode cX8_feed 0 = .ok (.iload_n 1, 1) := by decide +kernel
theorem dX8_feed_1 : decode cX8_feed 1 = .ok (.iconst 1, 1) := by decide +kernel
theorem dX8_feed_2 : decode cX8_feed 2 = .ok (.if_icmp .lt 9, 3) := by decide +kernel
theorem dX8_feed_5 : decode cX8_feed 5 = .ok (.iload_n 1, 1) := by decide +kernel
theorem dX8_feed_6 : decode cX8_feed 6 = .ok (.bipush 127, 2) := by decide +kernel
theorem dX8_feed_8 : decode cX8_feed 8 = .ok (.if_icmp .le 6, 3) := by decide +kernel
theorem dX8_feed_11 : decode cX8_feed 11 = .ok (.bipush (-2), 2) := by decide +kernel
theorem dX8_feed_13 : decode cX8_feed 13 = .ok (.ireturn, 1) := by decide +kernel
theorem dX8_feed_14 : decode cX8_feed 14 = .ok (.aload_n 0, 1) := by decide +kernel
theorem dX8_feed_15 : decode cX8_feed 15 = .ok (.getfield 24, 3) := by decide +kernel
theorem dX8_feed_18 : decode cX8_feed 18 = .ok (.getfield 144, 3) := by decide +kernel
theorem dX8_feed_21 : decode cX8_feed 21 = .ok (.bipush 60, 2) := by decide +kernel
theorem dX8_feed_23 : decode cX8_feed 23 = .ok (.if_icmp .lt 6, 3) := by decide +kernel
theorem dX8_feed_26 : decode cX8_feed 26 = .ok (.bipush (-4), 2) := by decide +kernel
theorem dX8_feed_28 : decode cX8_feed 28 = .ok (.ireturn, 1) := by decide +kernel
theorem dX8_feed_29 : decode cX8_feed 29 = .ok (.aload_n 0, 1) := by decide +kernel
theorem dX8_feed_30 : decode cX8_feed 30 = .ok (.getfield 24, 3) := by decide +kernel
theorem dX8_feed_33 : decode cX8_feed 33 = .ok (.iload_n 1, 1) := by decide +kernel
theorem dX8_feed_34 : decode cX8_feed 34 = .ok (.invokevirtual 145, 3) := by decide +kernel
theorem dX8_feed_37 : decode cX8_feed 37 = .ok (.aload_n 0, 1) := by decide +kernel
theorem dX8_feed_38 : decode cX8_feed 38 = .ok (.getfield 24, 3) := by decide +kernel
theorem dX8_feed_41 : decode cX8_feed 41 = .ok (.getfield 144, 3) := by decide +kernel
theorem dX8_feed_44 : decode cX8_feed 44 = .ok (.ireturn, 1) := by decide +kernel
set_option maxRecDepth 100000 in
set_option maxHeartbeats 4000000 in
theorem kb_X8_feed_0 {x1 : Int32} {w : WX} {out : Int32 × WX} {H : Heap} {locs : List Loc} {ls : Array Slot} (C : CX p s m args meth c cX8_feed 2 RX8 wc_X8_feed (some .int))  (hG : Gd s G A 153 B (entX G B w) X H locs) (hl : lv_has ls 2 [(0, .ref (B + 0)), (1, .int x1)]) (hf : sh_X8_feed x1 w = some out) :
    W p l e rm_X8_feed s m args below meth c H locs 0 0 (MQ below (CPost G A 153 B (entX G B out.2) X (some (.int out.1))) args s 0 0 A) (F0 m 0 ls []) := by
  refine lv_iload_n C.1 C.2.1 dX8_feed_0 rfl (lv_at hl 1 rfl) ?_
  refine lv_iconst (v := nI 1) C.1 C.2.1 dX8_feed_1 (by decide) ?_
  rcases of_ite hf with ⟨c1, hf⟩ | ⟨c1, hf⟩
  · refine lv_icmp_lt (tgt := 11) C.1 C.2.1 dX8_feed_2 (by decide) (fun _ => ?_) (fun q => absurd c1 q)
    refine lv_bipush (v := (-2 : Int32)) C.1 C.2.1 dX8_feed_11 (by decide) ?_
    obtain rfl := Option.some.inj hf
    exact r_iret C hG dX8_feed_13
  · refine lv_icmp_lt (tgt := 11) C.1 C.2.1 dX8_feed_2 (by decide) (fun q => absurd q c1) (fun _ => ?_)
    refine lv_iload_n C.1 C.2.1 dX8_feed_5 rfl (lv_at hl 1 rfl) ?_
    refine lv_bipush (v := nI 127) C.1 C.2.1 dX8_feed_6 (by decide) ?_
    rcases of_ite hf with ⟨c2, hf⟩ | ⟨c2, hf⟩
    · refine lv_icmp_le (tgt := 14) C.1 C.2.1 dX8_feed_8 (by decide) (fun _ => ?_) (fun q => absurd c2 q)
      refine lv_aload_n C.1 C.2.1 dX8_feed_14 rfl (lv_at hl 0 rfl) ?_
      refine gf_X8_24 C hG rfl dX8_feed_15 ?_
      refine gf_X8_144 C hG rfl dX8_feed_18 ?_
      refine lv_bipush (v := nI 60) C.1 C.2.1 dX8_feed_21 (by decide) ?_
      rcases of_ite hf with ⟨c3, hf⟩ | ⟨c3, hf⟩
      · refine lv_icmp_lt (tgt := 29) C.1 C.2.1 dX8_feed_23 (by decide) (fun _ => ?_) (fun q => absurd c3 q)
        refine lv_aload_n C.1 C.2.1 dX8_feed_29 rfl (lv_at hl 0 rfl) ?_
        refine gf_X8_24 C hG rfl dX8_feed_30 ?_
        refine lv_iload_n C.1 C.2.1 dX8_feed_33 rfl (lv_at hl 1 rfl) ?_
        obtain ⟨w4, hw4, hf⟩ := of_bind hf
        refine r_callV0 C hG hl.1 (c0 := 109) (As := [.int x1]) (by decide) (entX_O7 (n := 2) rfl) rfl (mt_X7_append l  hw4) (cwV 1 C.2.2.2.2.1 (gd_V tg_2_187 tg_2_188 tg_2_189 tg_1_6 tg_2_190) rfl rfl rfl cd_X7_append ⟨Nat.le_of_ble_eq_true rfl, Nat.le_of_ble_eq_true rfl⟩) rfl rfl (Nat.le_of_ble_eq_true rfl) dX8_feed_34 (fun H locs hG => ?_)
        refine lv_aload_n C.1 C.2.1 dX8_feed_37 rfl (lv_at hl 0 rfl) ?_
        refine gf_X8_24 C hG rfl dX8_feed_38 ?_
        refine gf_X8_144 C hG rfl dX8_feed_41 ?_
        obtain rfl := Option.some.inj hf
        exact r_iret C hG dX8_feed_44
      · refine lv_icmp_lt (tgt := 29) C.1 C.2.1 dX8_feed_23 (by decide) (fun q => absurd q c3) (fun _ => ?_)
        refine lv_bipush (v := (-4 : Int32)) C.1 C.2.1 dX8_feed_26 (by decide) ?_
        obtain rfl := Option.some.inj hf
        exact r_iret C hG dX8_feed_28
    · refine lv_icmp_le (tgt := 14) C.1 C.2.1 dX8_feed_8 (by decide) (fun q => absurd q c2) (fun _ => ?_)
      refine lv_bipush (v := (-2 : Int32)) C.1 C.2.1 dX8_feed_11 (by decide) ?_
      obtain rfl := Option.some.inj hf
      exact r_iret C hG dX8_feed_13
set_option maxRecDepth 100000 in
set_option maxHeartbeats 4000000 in
theorem mt_X8_feed (l : Launch) {G : GG} {A : Nat → Prop} {B : Nat} {X : va_W} {x1 : Int32} {w : WX} {out : Int32 × WX}  (hf : sh_X8_feed x1 w = some out) : MetW l yX8_feed wc_X8_feed rm_X8_feed G A 153 B (entX G B w) X [.ref (B + 0), .int x1] (some (.int out.1)) (entX G B out.2) := by
  refine Met.ofW (cc := cX8_feed) (maxL := 2) (ret := (some .int)) (by decide) rfl ?_
  intro p e s m args below meth c s₁ B0 hml hv
  obtain ⟨rfl, hEv, hWd⟩ := hv
  have C : CX p s m _ meth c cX8_feed 2 RX8 wc_X8_feed (some .int) := ⟨B0.exec, B0.bytes, hml, findClass_of_methodNamed B0.named, atoms_spec (ws := wc_X8_feed) B0.pre, B0.returns, B0.notSynchronized⟩
  have hl := lv_entry [.ref (B + 0), .int x1] (n := 2) (Nat.le_of_ble_eq_true rfl)
  rw [lg_entry_eq]
  generalize (lg_sl [.ref (B + 0), .int x1] ++ List.replicate (2 - (lg_sl [.ref (B + 0), .int x1]).length) Slot.unset).toArray = ls at hl ⊢
  have hl : lv_has ls 2 [(0, .ref (B + 0)), (1, .int x1)] := hl
  exact kb_X8_feed_0 C  ⟨hEv, hWd, va_S.rf⟩ hl hf
abbrev wc_X8_surface : List Cond := Cond.code yX8_surface cX8_surface 4 (some .int) :: TG
abbrev rm_X8_surface : Room := { frames := 6, cells := 0, slots := 0, locals := 191 }
theorem cd_X8_surface : yX8_surface.cls = RX8 ∧ yX8_surface.cls ≠ "java/lang/invoke/MethodHandle" ∧ yX8_surface.cls ≠ "java/lang/invoke/VarHandle" ∧ (parseMethodDescriptor yX8_surface.desc).map (fun d => d.parameters.length) = some 1 := by decide +kernel
theorem dX8_surface_0 : decode cX8_surface 0 = .ok (.aload_n 0, 1) := by decide +kernel
theorem dX8_surface_1 : decode cX8_surface 1 = .ok (.getfield 12, 3) := by decide +kernel
theorem dX8_surface_4 : decode cX8_surface 4 = .ok (.iload_n 1, 1) := by decide +kernel
theorem dX8_surface_5 : decode cX8_surface 5 = .ok (.invokevirtual 149, 3) := by decide +kernel
theorem dX8_surface_8 : decode cX8_surface 8 = .ok (.astore_n 2, 1) := by decide +kernel
theorem dX8_surface_9 : decode cX8_surface 9 = .ok (.aload_n 2, 1) := by decide +kernel
theorem dX8_surface_10 : decode cX8_surface 10 = .ok (.ifnonnull 5, 3) := by decide +kernel
theorem dX8_surface_13 : decode cX8_surface 13 = .ok (.iconst (-1), 1) := by decide +kernel
theorem dX8_surface_14 : decode cX8_surface 14 = .ok (.ireturn, 1) := by decide +kernel
theorem dX8_surface_15 : decode cX8_surface 15 = .ok (.aload_n 0, 1) := by decide +kernel
theorem dX8_surface_16 : decode cX8_surface 16 = .ok (.getfield 24, 3) := by decide +kernel
theorem dX8_surface_19 : decode cX8_surface 19 = .ok (.aload_n 0, 1) := by decide +kernel
theorem dX8_surface_20 : decode cX8_surface 20 = .ok (.getfield 42, 3) := by decide +kernel
theorem dX8_surface_23 : decode cX8_surface 23 = .ok (.invokevirtual 153, 3) := by decide +kernel
theorem dX8_surface_26 : decode cX8_surface 26 = .ok (.istore_n 3, 1) := by decide +kernel
theorem dX8_surface_27 : decode cX8_surface 27 = .ok (.aload_n 0, 1) := by decide +kernel
theorem dX8_surface_28 : decode cX8_surface 28 = .ok (.getfield 24, 3) := by decide +kernel
theorem dX8_surface_31 : decode cX8_surface 31 = .ok (.iconst 0, 1) := by decide +kernel
theorem dX8_surface_32 : decode cX8_surface 32 = .ok (.putfield 144, 3) := by decide +kernel
theorem dX8_surface_35 : decode cX8_surface 35 = .ok (.iload_n 3, 1) := by decide +kernel
theorem dX8_surface_36 : decode cX8_surface 36 = .ok (.iconst (-1), 1) := by decide +kernel
theorem dX8_surface_37 : decode cX8_surface 37 = .ok (.if_icmp .eq 8, 3) := by decide +kernel
theorem dX8_surface_40 : decode cX8_surface 40 = .ok (.bipush (-100), 2) := by decide +kernel
theorem dX8_surface_42 : decode cX8_surface 42 = .ok (.iload_n 3, 1) := by decide +kernel
theorem dX8_surface_43 : decode cX8_surface 43 = .ok (.isub, 1) := by decide +kernel
theorem dX8_surface_44 : decode cX8_surface 44 = .ok (.ireturn, 1) := by decide +kernel
theorem dX8_surface_45 : decode cX8_surface 45 = .ok (.aload_n 2, 1) := by decide +kernel
theorem dX8_surface_46 : decode cX8_surface 46 = .ok (.aload_n 0, 1) := by decide +kernel
theorem dX8_surface_47 : decode cX8_surface 47 = .ok (.getfield 42, 3) := by decide +kernel
theorem dX8_surface_50 : decode cX8_surface 50 = .ok (.invokevirtual 157, 3) := by decide +kernel
theorem dX8_surface_53 : decode cX8_surface 53 = .ok (.aload_n 2, 1) := by decide +kernel
theorem dX8_surface_54 : decode cX8_surface 54 = .ok (.getfield 161, 3) := by decide +kernel
theorem dX8_surface_57 : decode cX8_surface 57 = .ok (.ireturn, 1) := by decide +kernel
set_option maxRecDepth 100000 in
set_option maxHeartbeats 4000000 in
theorem kb_X8_surface_0 {x1 : Int32} {w : WX} {out : Int32 × WX} {H : Heap} {locs : List Loc} {ls : Array Slot} (C : CX p s m args meth c cX8_surface 4 RX8 wc_X8_surface (some .int))  (hG : Gd s G A 153 B (entX G B w) X H locs) (hl : lv_has ls 4 [(0, .ref (B + 0)), (1, .int x1)]) (hf : sh_X8_surface x1 w = some out) :
    W p l e rm_X8_surface s m args below meth c H locs 0 0 (MQ below (CPost G A 153 B (entX G B out.2) X (some (.int out.1))) args s 0 0 A) (F0 m 0 ls []) := by
  refine lv_aload_n C.1 C.2.1 dX8_surface_0 rfl (lv_at hl 0 rfl) ?_
  refine gf_X8_12 C hG rfl dX8_surface_1 ?_
  refine lv_iload_n C.1 C.2.1 dX8_surface_4 rfl (lv_at hl 1 rfl) ?_
  obtain ⟨v1, hv1, hf⟩ := of_bind hf
  refine r_callV1 C hG hl.1 (c0 := 1) (As := [.int x1]) (by decide) (entX_O4 (n := 4) rfl) rfl (mt_X4_surfaceAt l rfl hv1) (cwV 1 C.2.2.2.2.1 (gd_V tg_2_195 tg_2_196 tg_2_197 tg_1_2 tg_2_198) rfl rfl rfl cd_X4_surfaceAt ⟨Nat.le_of_ble_eq_true rfl, Nat.le_of_ble_eq_true rfl⟩) rfl rfl (Nat.le_of_ble_eq_true rfl) dX8_surface_5 (fun H locs hG => ?_)
  rcases of_ite hf with ⟨c2, hf⟩ | ⟨c2, hf⟩
  · refine r_rvN c2 ?_
    refine lv_astore_nN (lv' := [(2, .null), (0, .ref (B + 0)), (1, .int x1)]) C.1 C.2.1 dX8_surface_8 rfl hl (by decide) rfl (fun ls hl => ?_)
    refine lv_aload_nN C.1 C.2.1 dX8_surface_9 rfl (lv_at hl 0 rfl) ?_
    refine lv_ifnonnullN C.1 C.2.1 dX8_surface_10 ?_
    refine lv_iconst (v := (-1 : Int32)) C.1 C.2.1 dX8_surface_13 (by decide) ?_
    obtain rfl := Option.some.inj hf
    exact r_iret C hG dX8_surface_14
  · refine r_rvR c2 ?_
    obtain ⟨c3, hf⟩ := of_grd hf
    refine lv_astore_n (lv' := [(2, .ref (B + v1)), (0, .ref (B + 0)), (1, .int x1)]) C.1 C.2.1 dX8_surface_8 rfl hl (by decide) rfl (fun ls hl => ?_)
    refine lv_aload_n C.1 C.2.1 dX8_surface_9 rfl (lv_at hl 0 rfl) ?_
    refine lv_ifnonnull (tgt := 15) C.1 C.2.1 dX8_surface_10 (by decide) ?_
    refine lv_aload_n C.1 C.2.1 dX8_surface_15 rfl (lv_at hl 1 rfl) ?_
    refine gf_X8_24 C hG rfl dX8_surface_16 ?_
    refine lv_aload_n C.1 C.2.1 dX8_surface_19 rfl (lv_at hl 1 rfl) ?_
    refine gf_X8_42 C hG rfl dX8_surface_20 ?_
    obtain ⟨v4, hv4, hf⟩ := of_bind hf
    refine r_callV1 C hG hl.1 (c0 := 109) (As := [.ref (B + 119)]) (by decide) (entX_O7 (n := 2) rfl) rfl (mt_X7_readInto l rfl hv4) (cwV 1 C.2.2.2.2.1 (gd_V tg_2_199 tg_2_200 tg_2_201 tg_1_6 tg_2_202) rfl rfl rfl cd_X7_readInto ⟨Nat.le_of_ble_eq_true rfl, Nat.le_of_ble_eq_true rfl⟩) rfl rfl (Nat.le_of_ble_eq_true rfl) dX8_surface_23 (fun H locs hG => ?_)
    refine lv_istore_n (lv' := [(3, .int v4.1), (2, .ref (B + v1)), (0, .ref (B + 0)), (1, .int x1)]) C.1 C.2.1 dX8_surface_26 rfl hl (by decide) rfl (fun ls hl => ?_)
    refine lv_aload_n C.1 C.2.1 dX8_surface_27 rfl (lv_at hl 2 rfl) ?_
    refine gf_X8_24 C hG rfl dX8_surface_28 ?_
    refine lv_iconst (v := nI 0) C.1 C.2.1 dX8_surface_31 (by decide) ?_
    obtain ⟨w5, ew5, hf⟩ := of_letv hf
    refine pf_X8_144 C hG rfl dX8_surface_32 (fun H locs hG => ?_)
    rw [← ew5] at hG
    refine lv_iload_n C.1 C.2.1 dX8_surface_35 rfl (lv_at hl 0 rfl) ?_
    refine lv_iconst (v := (-1 : Int32)) C.1 C.2.1 dX8_surface_36 (by decide) ?_
    rcases of_ite hf with ⟨c6, hf⟩ | ⟨c6, hf⟩
    · refine lv_icmp_eq (tgt := 45) C.1 C.2.1 dX8_surface_37 (by decide) (fun _ => ?_) (fun q => absurd c6 q)
      refine lv_aload_n C.1 C.2.1 dX8_surface_45 rfl (lv_at hl 1 rfl) ?_
      refine lv_aload_n C.1 C.2.1 dX8_surface_46 rfl (lv_at hl 2 rfl) ?_
      refine gf_X8_42 C hG rfl dX8_surface_47 ?_
      obtain ⟨w7, hw7, hf⟩ := of_bind hf
      refine r_callV0 C hG hl.1 (c0 := v1) (As := [.ref (B + 119)]) (kdx_lt c3 (by decide)) (entX_O6 c3) rfl (mt_X6_copyFrom l c3 rfl hw7) (cwV 1 C.2.2.2.2.1 (gd_V tg_2_236 tg_2_237 tg_2_238 tg_1_5 tg_2_239) rfl rfl rfl cd_X6_copyFrom ⟨Nat.le_of_ble_eq_true rfl, Nat.le_of_ble_eq_true rfl⟩) rfl rfl (Nat.le_of_ble_eq_true rfl) dX8_surface_50 (fun H locs hG => ?_)
      refine lv_aload_n C.1 C.2.1 dX8_surface_53 rfl (lv_at hl 1 rfl) ?_
      refine gf_X8_161 C hG c3 dX8_surface_54 ?_
      obtain rfl := Option.some.inj hf
      exact r_iret C hG dX8_surface_57
    · refine lv_icmp_eq (tgt := 45) C.1 C.2.1 dX8_surface_37 (by decide) (fun q => absurd q c6) (fun _ => ?_)
      refine lv_bipush (v := (-100 : Int32)) C.1 C.2.1 dX8_surface_40 (by decide) ?_
      refine lv_iload_n C.1 C.2.1 dX8_surface_42 rfl (lv_at hl 0 rfl) ?_
      refine lv_isub C.1 C.2.1 dX8_surface_43 ?_
      obtain rfl := Option.some.inj hf
      exact r_iret C hG dX8_surface_44
set_option maxRecDepth 100000 in
set_option maxHeartbeats 4000000 in
theorem mt_X8_surface (l : Launch) {G : GG} {A : Nat → Prop} {B : Nat} {X : va_W} {x1 : Int32} {w : WX} {out : Int32 × WX}  (hf : sh_X8_surface x1 w = some out) : MetW l yX8_surface wc_X8_surface rm_X8_surface G A 153 B (entX G B w) X [.ref (B + 0), .int x1] (some (.int out.1)) (entX G B out.2) := by
  refine Met.ofW (cc := cX8_surface) (maxL := 4) (ret := (some .int)) (by decide) rfl ?_
  intro p e s m args below meth c s₁ B0 hml hv
  obtain ⟨rfl, hEv, hWd⟩ := hv
  have C : CX p s m _ meth c cX8_surface 4 RX8 wc_X8_surface (some .int) := ⟨B0.exec, B0.bytes, hml, findClass_of_methodNamed B0.named, atoms_spec (ws := wc_X8_surface) B0.pre, B0.returns, B0.notSynchronized⟩
  have hl := lv_entry [.ref (B + 0), .int x1] (n := 4) (Nat.le_of_ble_eq_true rfl)
  rw [lg_entry_eq]
  generalize (lg_sl [.ref (B + 0), .int x1] ++ List.replicate (4 - (lg_sl [.ref (B + 0), .int x1]).length) Slot.unset).toArray = ls at hl ⊢
  have hl : lv_has ls 4 [(0, .ref (B + 0)), (1, .int x1)] := hl
  exact kb_X8_surface_0 C  ⟨hEv, hWd, va_S.rf⟩ hl hf
abbrev wc_X8_piece : List Cond := Cond.code yX8_piece cX8_piece 4 (some .int) :: TG
abbrev rm_X8_piece : Room := { frames := 4, cells := 0, slots := 0, locals := 142 }
theorem cd_X8_piece : yX8_piece.cls = RX8 ∧ yX8_piece.cls ≠ "java/lang/invoke/MethodHandle" ∧ yX8_piece.cls ≠ "java/lang/invoke/VarHandle" ∧ (parseMethodDescriptor yX8_piece.desc).map (fun d => d.parameters.length) = some 2 := by decide +kernel
theorem dX8_piece_0 : decode cX8_piece 0 = .ok (.aload_n 0, 1) := by decide +kernel
theorem dX8_piece_1 : decode cX8_piece 1 = .ok (.getfield 12, 3) := by decide +kernel
theorem dX8_piece_4 : decode cX8_piece 4 = .ok (.iload_n 1, 1) := by decide +kernel
theorem dX8_piece_5 : decode cX8_piece 5 = .ok (.invokevirtual 149, 3) := by decide +kernel
theorem dX8_piece_8 : decode cX8_piece 8 = .ok (.astore_n 3, 1) := by decide +kernel
theorem dX8_piece_9 : decode cX8_piece 9 = .ok (.aload_n 3, 1) := by decide +kernel
theorem dX8_piece_10 : decode cX8_piece 10 = .ok (.ifnull 13, 3) := by decide +kernel
theorem dX8_piece_13 : decode cX8_piece 13 = .ok (.iload_n 2, 1) := by decide +kernel
theorem dX8_piece_14 : decode cX8_piece 14 = .ok (.ifCond .lt 9, 3) := by decide +kernel
theorem dX8_piece_17 : decode cX8_piece 17 = .ok (.iload_n 2, 1) := by decide +kernel
theorem dX8_piece_18 : decode cX8_piece 18 = .ok (.bipush 7, 2) := by decide +kernel
theorem dX8_piece_20 : decode cX8_piece 20 = .ok (.if_icmp .lt 5, 3) := by decide +kernel
theorem dX8_piece_23 : decode cX8_piece 23 = .ok (.iconst (-1), 1) := by decide +kernel
theorem dX8_piece_24 : decode cX8_piece 24 = .ok (.ireturn, 1) := by decide +kernel
theorem dX8_piece_25 : decode cX8_piece 25 = .ok (.iload_n 2, 1) := by decide +kernel
theorem dX8_piece_26 : decode cX8_piece 26 = .ok (.aload_n 3, 1) := by decide +kernel
theorem dX8_piece_27 : decode cX8_piece 27 = .ok (.getfield 162, 3) := by decide +kernel
theorem dX8_piece_30 : decode cX8_piece 30 = .ok (.invokestatic 165, 3) := by decide +kernel
theorem dX8_piece_33 : decode cX8_piece 33 = .ok (.ifCond .ne 6, 3) := by decide +kernel
theorem dX8_piece_36 : decode cX8_piece 36 = .ok (.bipush (-3), 2) := by decide +kernel
theorem dX8_piece_38 : decode cX8_piece 38 = .ok (.ireturn, 1) := by decide +kernel
theorem dX8_piece_39 : decode cX8_piece 39 = .ok (.aload_n 3, 1) := by decide +kernel
theorem dX8_piece_40 : decode cX8_piece 40 = .ok (.iload_n 2, 1) := by decide +kernel
theorem dX8_piece_41 : decode cX8_piece 41 = .ok (.invokevirtual 169, 3) := by decide +kernel
theorem dX8_piece_44 : decode cX8_piece 44 = .ok (.ifCond .eq 10, 3) := by decide +kernel
theorem dX8_piece_47 : decode cX8_piece 47 = .ok (.aload_n 3, 1) := by decide +kernel
theorem dX8_piece_48 : decode cX8_piece 48 = .ok (.getfield 161, 3) := by decide +kernel
theorem dX8_piece_51 : decode cX8_piece 51 = .ok (.goto 5, 3) := by decide +kernel
theorem dX8_piece_54 : decode cX8_piece 54 = .ok (.bipush (-4), 2) := by decide +kernel
theorem dX8_piece_56 : decode cX8_piece 56 = .ok (.ireturn, 1) := by decide +kernel
set_option maxRecDepth 100000 in
set_option maxHeartbeats 4000000 in
theorem kb_X8_piece_0 {x1 : Int32} {x2 : Int32} {w : WX} {out : Int32 × WX} {H : Heap} {locs : List Loc} {ls : Array Slot} (C : CX p s m args meth c cX8_piece 4 RX8 wc_X8_piece (some .int))  (hG : Gd s G A 153 B (entX G B w) X H locs) (hl : lv_has ls 4 [(0, .ref (B + 0)), (1, .int x1), (2, .int x2)]) (hf : sh_X8_piece x1 x2 w = some out) :
    W p l e rm_X8_piece s m args below meth c H locs 0 0 (MQ below (CPost G A 153 B (entX G B out.2) X (some (.int out.1))) args s 0 0 A) (F0 m 0 ls []) := by
  refine lv_aload_n C.1 C.2.1 dX8_piece_0 rfl (lv_at hl 0 rfl) ?_
  refine gf_X8_12 C hG rfl dX8_piece_1 ?_
  refine lv_iload_n C.1 C.2.1 dX8_piece_4 rfl (lv_at hl 1 rfl) ?_
  obtain ⟨v1, hv1, hf⟩ := of_bind hf
  refine r_callV1 C hG hl.1 (c0 := 1) (As := [.int x1]) (by decide) (entX_O4 (n := 4) rfl) rfl (mt_X4_surfaceAt l rfl hv1) (cwV 1 C.2.2.2.2.1 (gd_V tg_2_195 tg_2_196 tg_2_197 tg_1_2 tg_2_198) rfl rfl rfl cd_X4_surfaceAt ⟨Nat.le_of_ble_eq_true rfl, Nat.le_of_ble_eq_true rfl⟩) rfl rfl (Nat.le_of_ble_eq_true rfl) dX8_piece_5 (fun H locs hG => ?_)
  rcases of_ite hf with ⟨c2, hf⟩ | ⟨c2, hf⟩
  · refine r_rvN c2 ?_
    refine lv_astore_nN (lv' := [(3, .null), (0, .ref (B + 0)), (1, .int x1), (2, .int x2)]) C.1 C.2.1 dX8_piece_8 rfl hl (by decide) rfl (fun ls hl => ?_)
    refine lv_aload_nN C.1 C.2.1 dX8_piece_9 rfl (lv_at hl 0 rfl) ?_
    refine lv_ifnullN (tgt := 23) C.1 C.2.1 dX8_piece_10 (by decide) ?_
    refine lv_iconst (v := (-1 : Int32)) C.1 C.2.1 dX8_piece_23 (by decide) ?_
    obtain rfl := Option.some.inj hf
    exact r_iret C hG dX8_piece_24
  · refine r_rvR c2 ?_
    obtain ⟨c3, hf⟩ := of_grd hf
    refine lv_astore_n (lv' := [(3, .ref (B + v1)), (0, .ref (B + 0)), (1, .int x1), (2, .int x2)]) C.1 C.2.1 dX8_piece_8 rfl hl (by decide) rfl (fun ls hl => ?_)
    refine lv_aload_n C.1 C.2.1 dX8_piece_9 rfl (lv_at hl 0 rfl) ?_
    refine lv_ifnull C.1 C.2.1 dX8_piece_10 ?_
    refine lv_iload_n C.1 C.2.1 dX8_piece_13 rfl (lv_at hl 3 rfl) ?_
    rcases of_ite hf with ⟨c4, hf⟩ | ⟨c4, hf⟩
    · refine lv_if_lt (tgt := 23) C.1 C.2.1 dX8_piece_14 (by decide) (fun _ => ?_) (fun q => absurd c4 q)
      refine lv_iconst (v := (-1 : Int32)) C.1 C.2.1 dX8_piece_23 (by decide) ?_
      obtain rfl := Option.some.inj hf
      exact r_iret C hG dX8_piece_24
    · refine lv_if_lt (tgt := 23) C.1 C.2.1 dX8_piece_14 (by decide) (fun q => absurd q c4) (fun _ => ?_)
      refine lv_iload_n C.1 C.2.1 dX8_piece_17 rfl (lv_at hl 3 rfl) ?_
      refine lv_bipush (v := nI 7) C.1 C.2.1 dX8_piece_18 (by decide) ?_
      rcases of_ite hf with ⟨c5, hf⟩ | ⟨c5, hf⟩
      · refine lv_icmp_lt (tgt := 25) C.1 C.2.1 dX8_piece_20 (by decide) (fun _ => ?_) (fun q => absurd c5 q)
        refine lv_iload_n C.1 C.2.1 dX8_piece_25 rfl (lv_at hl 3 rfl) ?_
        refine lv_aload_n C.1 C.2.1 dX8_piece_26 rfl (lv_at hl 0 rfl) ?_
        refine gf_X8_162 C hG c3 dX8_piece_27 ?_
        obtain ⟨v6, hv6, hf⟩ := of_bind hf
        refine r_callS1 C hG hl.1 (As := [.int x2, .int (w.1 v1 2)]) (mt_X8_canStand l  hv6) (va_cwS 2 C.2.2.2.2.1 (gd_S tg_3_7 tg_2_231 tg_1_1 tg_2_232) rfl rfl rfl cd_X8_canStand.2 ⟨Nat.le_of_ble_eq_true rfl, Nat.le_of_ble_eq_true rfl⟩) rfl rfl (Nat.le_of_ble_eq_true rfl) dX8_piece_30 (fun H locs hG => ?_)
        rcases of_ite hf with ⟨c7, hf⟩ | ⟨c7, hf⟩
        · refine lv_if_ne (tgt := 39) C.1 C.2.1 dX8_piece_33 (by decide) (fun q => absurd c7 q) (fun _ => ?_)
          refine lv_bipush (v := (-3 : Int32)) C.1 C.2.1 dX8_piece_36 (by decide) ?_
          obtain rfl := Option.some.inj hf
          exact r_iret C hG dX8_piece_38
        · refine lv_if_ne (tgt := 39) C.1 C.2.1 dX8_piece_33 (by decide) (fun _ => ?_) (fun q => absurd q c7)
          refine lv_aload_n C.1 C.2.1 dX8_piece_39 rfl (lv_at hl 0 rfl) ?_
          refine lv_iload_n C.1 C.2.1 dX8_piece_40 rfl (lv_at hl 3 rfl) ?_
          obtain ⟨v8, hv8, hf⟩ := of_bind hf
          refine r_callV1 C hG hl.1 (c0 := v1) (As := [.int x2]) (kdx_lt c3 (by decide)) (entX_O6 c3) rfl (mt_X6_append l c3 hv8) (cwV 1 C.2.2.2.2.1 (gd_V tg_3_8 tg_2_227 tg_2_228 tg_1_5 tg_2_229) rfl rfl rfl cd_X6_append ⟨Nat.le_of_ble_eq_true rfl, Nat.le_of_ble_eq_true rfl⟩) rfl rfl (Nat.le_of_ble_eq_true rfl) dX8_piece_41 (fun H locs hG => ?_)
          rcases of_ite hf with ⟨c9, hf⟩ | ⟨c9, hf⟩
          · refine lv_if_eq (tgt := 54) C.1 C.2.1 dX8_piece_44 (by decide) (fun _ => ?_) (fun q => absurd c9 q)
            refine lv_bipush (v := (-4 : Int32)) C.1 C.2.1 dX8_piece_54 (by decide) ?_
            obtain rfl := Option.some.inj hf
            exact r_iret C hG dX8_piece_56
          · refine lv_if_eq (tgt := 54) C.1 C.2.1 dX8_piece_44 (by decide) (fun q => absurd q c9) (fun _ => ?_)
            refine lv_aload_n C.1 C.2.1 dX8_piece_47 rfl (lv_at hl 0 rfl) ?_
            refine gf_X8_161 C hG c3 dX8_piece_48 ?_
            refine lv_goto (tgt := 56) C.1 C.2.1 dX8_piece_51 (by decide) ?_
            obtain rfl := Option.some.inj hf
            exact r_iret C hG dX8_piece_56
      · refine lv_icmp_lt (tgt := 25) C.1 C.2.1 dX8_piece_20 (by decide) (fun q => absurd q c5) (fun _ => ?_)
        refine lv_iconst (v := (-1 : Int32)) C.1 C.2.1 dX8_piece_23 (by decide) ?_
        obtain rfl := Option.some.inj hf
        exact r_iret C hG dX8_piece_24
set_option maxRecDepth 100000 in
set_option maxHeartbeats 4000000 in
theorem mt_X8_piece (l : Launch) {G : GG} {A : Nat → Prop} {B : Nat} {X : va_W} {x1 : Int32} {x2 : Int32} {w : WX} {out : Int32 × WX}  (hf : sh_X8_piece x1 x2 w = some out) : MetW l yX8_piece wc_X8_piece rm_X8_piece G A 153 B (entX G B w) X [.ref (B + 0), .int x1, .int x2] (some (.int out.1)) (entX G B out.2) := by
  refine Met.ofW (cc := cX8_piece) (maxL := 4) (ret := (some .int)) (by decide) rfl ?_
  intro p e s m args below meth c s₁ B0 hml hv
  obtain ⟨rfl, hEv, hWd⟩ := hv
  have C : CX p s m _ meth c cX8_piece 4 RX8 wc_X8_piece (some .int) := ⟨B0.exec, B0.bytes, hml, findClass_of_methodNamed B0.named, atoms_spec (ws := wc_X8_piece) B0.pre, B0.returns, B0.notSynchronized⟩
  have hl := lv_entry [.ref (B + 0), .int x1, .int x2] (n := 4) (Nat.le_of_ble_eq_true rfl)
  rw [lg_entry_eq]
  generalize (lg_sl [.ref (B + 0), .int x1, .int x2] ++ List.replicate (4 - (lg_sl [.ref (B + 0), .int x1, .int x2]).length) Slot.unset).toArray = ls at hl ⊢
  have hl : lv_has ls 4 [(0, .ref (B + 0)), (1, .int x1), (2, .int x2)] := hl
  exact kb_X8_piece_0 C  ⟨hEv, hWd, va_S.rf⟩ hl hf
abbrev wc_X8_pieceOf : List Cond := Cond.code yX8_pieceOf cX8_pieceOf 4 (some .int) :: TG
abbrev rm_X8_pieceOf : Room := { frames := 3, cells := 0, slots := 0, locals := 121 }
theorem cd_X8_pieceOf : yX8_pieceOf.cls = RX8 ∧ yX8_pieceOf.cls ≠ "java/lang/invoke/MethodHandle" ∧ yX8_pieceOf.cls ≠ "java/lang/invoke/VarHandle" ∧ (parseMethodDescriptor yX8_pieceOf.desc).map (fun d => d.parameters.length) = some 2 := by decide +kernel
theorem dX8_pieceOf_0 : decode cX8_pieceOf 0 = .ok (.aload_n 0, 1) := by decide +kernel
theorem dX8_pieceOf_1 : decode cX8_pieceOf 1 = .ok (.getfield 12, 3) := by decide +kernel
theorem dX8_pieceOf_4 : decode cX8_pieceOf 4 = .ok (.iload_n 1, 1) := by decide +kernel
theorem dX8_pieceOf_5 : decode cX8_pieceOf 5 = .ok (.invokevirtual 149, 3) := by decide +kernel
theorem dX8_pieceOf_8 : decode cX8_pieceOf 8 = .ok (.astore_n 3, 1) := by decide +kernel
theorem dX8_pieceOf_9 : decode cX8_pieceOf 9 = .ok (.aload_n 3, 1) := by decide +kernel
theorem dX8_pieceOf_10 : decode cX8_pieceOf 10 = .ok (.ifnull 15, 3) := by decide +kernel
theorem dX8_pieceOf_13 : decode cX8_pieceOf 13 = .ok (.iload_n 2, 1) := by decide +kernel
theorem dX8_pieceOf_14 : decode cX8_pieceOf 14 = .ok (.ifCond .lt 11, 3) := by decide +kernel
theorem dX8_pieceOf_17 : decode cX8_pieceOf 17 = .ok (.iload_n 2, 1) := by decide +kernel
theorem dX8_pieceOf_18 : decode cX8_pieceOf 18 = .ok (.aload_n 3, 1) := by decide +kernel
theorem dX8_pieceOf_19 : decode cX8_pieceOf 19 = .ok (.getfield 161, 3) := by decide +kernel
theorem dX8_pieceOf_22 : decode cX8_pieceOf 22 = .ok (.if_icmp .lt 5, 3) := by decide +kernel
theorem dX8_pieceOf_25 : decode cX8_pieceOf 25 = .ok (.iconst (-1), 1) := by decide +kernel
theorem dX8_pieceOf_26 : decode cX8_pieceOf 26 = .ok (.ireturn, 1) := by decide +kernel
theorem dX8_pieceOf_27 : decode cX8_pieceOf 27 = .ok (.aload_n 3, 1) := by decide +kernel
theorem dX8_pieceOf_28 : decode cX8_pieceOf 28 = .ok (.getfield 171, 3) := by decide +kernel
theorem dX8_pieceOf_31 : decode cX8_pieceOf 31 = .ok (.iload_n 2, 1) := by decide +kernel
theorem dX8_pieceOf_32 : decode cX8_pieceOf 32 = .ok (.iaload, 1) := by decide +kernel
theorem dX8_pieceOf_33 : decode cX8_pieceOf 33 = .ok (.ireturn, 1) := by decide +kernel
set_option maxRecDepth 100000 in
set_option maxHeartbeats 4000000 in
theorem kb_X8_pieceOf_0 {x1 : Int32} {x2 : Int32} {w : WX} {out : Int32} {H : Heap} {locs : List Loc} {ls : Array Slot} (C : CX p s m args meth c cX8_pieceOf 4 RX8 wc_X8_pieceOf (some .int))  (hG : Gd s G A 153 B (entX G B w) X H locs) (hl : lv_has ls 4 [(0, .ref (B + 0)), (1, .int x1), (2, .int x2)]) (hf : sh_X8_pieceOf x1 x2 w = some out) :
    W p l e rm_X8_pieceOf s m args below meth c H locs 0 0 (MQ below (CPost G A 153 B (entX G B w) X (some (.int out))) args s 0 0 A) (F0 m 0 ls []) := by
  refine lv_aload_n C.1 C.2.1 dX8_pieceOf_0 rfl (lv_at hl 0 rfl) ?_
  refine gf_X8_12 C hG rfl dX8_pieceOf_1 ?_
  refine lv_iload_n C.1 C.2.1 dX8_pieceOf_4 rfl (lv_at hl 1 rfl) ?_
  obtain ⟨v1, hv1, hf⟩ := of_bind hf
  refine r_callV1 C hG hl.1 (c0 := 1) (As := [.int x1]) (by decide) (entX_O4 (n := 4) rfl) rfl (mt_X4_surfaceAt l rfl hv1) (cwV 1 C.2.2.2.2.1 (gd_V tg_2_195 tg_2_196 tg_2_197 tg_1_2 tg_2_198) rfl rfl rfl cd_X4_surfaceAt ⟨Nat.le_of_ble_eq_true rfl, Nat.le_of_ble_eq_true rfl⟩) rfl rfl (Nat.le_of_ble_eq_true rfl) dX8_pieceOf_5 (fun H locs hG => ?_)
  rcases of_ite hf with ⟨c2, hf⟩ | ⟨c2, hf⟩
  · refine r_rvN c2 ?_
    refine lv_astore_nN (lv' := [(3, .null), (0, .ref (B + 0)), (1, .int x1), (2, .int x2)]) C.1 C.2.1 dX8_pieceOf_8 rfl hl (by decide) rfl (fun ls hl => ?_)
    refine lv_aload_nN C.1 C.2.1 dX8_pieceOf_9 rfl (lv_at hl 0 rfl) ?_
    refine lv_ifnullN (tgt := 25) C.1 C.2.1 dX8_pieceOf_10 (by decide) ?_
    refine lv_iconst (v := (-1 : Int32)) C.1 C.2.1 dX8_pieceOf_25 (by decide) ?_
    obtain rfl := Option.some.inj hf
    exact r_iret C hG dX8_pieceOf_26
  · refine r_rvR c2 ?_
    obtain ⟨c3, hf⟩ := of_grd hf
    refine lv_astore_n (lv' := [(3, .ref (B + v1)), (0, .ref (B + 0)), (1, .int x1), (2, .int x2)]) C.1 C.2.1 dX8_pieceOf_8 rfl hl (by decide) rfl (fun ls hl => ?_)
    refine lv_aload_n C.1 C.2.1 dX8_pieceOf_9 rfl (lv_at hl 0 rfl) ?_
    refine lv_ifnull C.1 C.2.1 dX8_pieceOf_10 ?_
    refine lv_iload_n C.1 C.2.1 dX8_pieceOf_13 rfl (lv_at hl 3 rfl) ?_
    rcases of_ite hf with ⟨c4, hf⟩ | ⟨c4, hf⟩
    · refine lv_if_lt (tgt := 25) C.1 C.2.1 dX8_pieceOf_14 (by decide) (fun _ => ?_) (fun q => absurd c4 q)
      refine lv_iconst (v := (-1 : Int32)) C.1 C.2.1 dX8_pieceOf_25 (by decide) ?_
      obtain rfl := Option.some.inj hf
      exact r_iret C hG dX8_pieceOf_26
    · refine lv_if_lt (tgt := 25) C.1 C.2.1 dX8_pieceOf_14 (by decide) (fun q => absurd q c4) (fun _ => ?_)
      refine lv_iload_n C.1 C.2.1 dX8_pieceOf_17 rfl (lv_at hl 3 rfl) ?_
      refine lv_aload_n C.1 C.2.1 dX8_pieceOf_18 rfl (lv_at hl 0 rfl) ?_
      refine gf_X8_161 C hG c3 dX8_pieceOf_19 ?_
      rcases of_ite hf with ⟨c5, hf⟩ | ⟨c5, hf⟩
      · refine lv_icmp_lt (tgt := 27) C.1 C.2.1 dX8_pieceOf_22 (by decide) (fun _ => ?_) (fun q => absurd c5 q)
        refine lv_aload_n C.1 C.2.1 dX8_pieceOf_27 rfl (lv_at hl 0 rfl) ?_
        refine gf_X8_171 C hG c3 dX8_pieceOf_28 ?_
        refine lv_iload_n C.1 C.2.1 dX8_pieceOf_31 rfl (lv_at hl 3 rfl) ?_
        obtain ⟨v6, hv6, hf⟩ := of_bind hf
        obtain ⟨bv6, ev6⟩ := of_ldS hv6
        refine r_iald C hG (c0 := (v1 + 1)) (kdx_lt (kx_6_0 c3) (by decide)) (entX_I (kx_6_0 c3)) bv6 dX8_pieceOf_32 ?_
        refine r_top ev6 ?_
        obtain rfl := Option.some.inj hf
        exact r_iret C hG dX8_pieceOf_33
      · refine lv_icmp_lt (tgt := 27) C.1 C.2.1 dX8_pieceOf_22 (by decide) (fun q => absurd q c5) (fun _ => ?_)
        refine lv_iconst (v := (-1 : Int32)) C.1 C.2.1 dX8_pieceOf_25 (by decide) ?_
        obtain rfl := Option.some.inj hf
        exact r_iret C hG dX8_pieceOf_26
set_option maxRecDepth 100000 in
set_option maxHeartbeats 4000000 in
theorem mt_X8_pieceOf (l : Launch) {G : GG} {A : Nat → Prop} {B : Nat} {X : va_W} {x1 : Int32} {x2 : Int32} {w : WX} {out : Int32}  (hf : sh_X8_pieceOf x1 x2 w = some out) : MetW l yX8_pieceOf wc_X8_pieceOf rm_X8_pieceOf G A 153 B (entX G B w) X [.ref (B + 0), .int x1, .int x2] (some (.int out)) (entX G B w) := by
  refine Met.ofW (cc := cX8_pieceOf) (maxL := 4) (ret := (some .int)) (by decide) rfl ?_
  intro p e s m args below meth c s₁ B0 hml hv
  obtain ⟨rfl, hEv, hWd⟩ := hv
  have C : CX p s m _ meth c cX8_pieceOf 4 RX8 wc_X8_pieceOf (some .int) := ⟨B0.exec, B0.bytes, hml, findClass_of_methodNamed B0.named, atoms_spec (ws := wc_X8_pieceOf) B0.pre, B0.returns, B0.notSynchronized⟩
  have hl := lv_entry [.ref (B + 0), .int x1, .int x2] (n := 4) (Nat.le_of_ble_eq_true rfl)
  rw [lg_entry_eq]
  generalize (lg_sl [.ref (B + 0), .int x1, .int x2] ++ List.replicate (4 - (lg_sl [.ref (B + 0), .int x1, .int x2]).length) Slot.unset).toArray = ls at hl ⊢
  have hl : lv_has ls 4 [(0, .ref (B + 0)), (1, .int x1), (2, .int x2)] := hl
  exact kb_X8_pieceOf_0 C  ⟨hEv, hWd, va_S.rf⟩ hl hf
abbrev wc_X8_shape : List Cond := Cond.code yX8_shape cX8_shape 4 (some .int) :: TG
abbrev rm_X8_shape : Room := { frames := 6, cells := 0, slots := 0, locals := 191 }
theorem cd_X8_shape : yX8_shape.cls = RX8 ∧ yX8_shape.cls ≠ "java/lang/invoke/MethodHandle" ∧ yX8_shape.cls ≠ "java/lang/invoke/VarHandle" ∧ (parseMethodDescriptor yX8_shape.desc).map (fun d => d.parameters.length) = some 2 := by decide +kernel
theorem dX8_shape_0 : decode cX8_shape 0 = .ok (.aload_n 0, 1) := by decide +kernel
theorem dX8_shape_1 : decode cX8_shape 1 = .ok (.getfield 12, 3) := by decide +kernel
theorem dX8_shape_4 : decode cX8_shape 4 = .ok (.iload_n 1, 1) := by decide +kernel
theorem dX8_shape_5 : decode cX8_shape 5 = .ok (.invokevirtual 149, 3) := by decide +kernel
theorem dX8_shape_8 : decode cX8_shape 8 = .ok (.astore_n 3, 1) := by decide +kernel
theorem dX8_shape_9 : decode cX8_shape 9 = .ok (.aload_n 3, 1) := by decide +kernel
theorem dX8_shape_10 : decode cX8_shape 10 = .ok (.ifnonnull 5, 3) := by decide +kernel
theorem dX8_shape_13 : decode cX8_shape 13 = .ok (.iconst (-1), 1) := by decide +kernel
theorem dX8_shape_14 : decode cX8_shape 14 = .ok (.ireturn, 1) := by decide +kernel
theorem dX8_shape_15 : decode cX8_shape 15 = .ok (.aload_n 0, 1) := by decide +kernel
theorem dX8_shape_16 : decode cX8_shape 16 = .ok (.getfield 56, 3) := by decide +kernel
theorem dX8_shape_19 : decode cX8_shape 19 = .ok (.aload_n 3, 1) := by decide +kernel
theorem dX8_shape_20 : decode cX8_shape 20 = .ok (.invokevirtual 174, 3) := by decide +kernel
theorem dX8_shape_23 : decode cX8_shape 23 = .ok (.iload_n 2, 1) := by decide +kernel
theorem dX8_shape_24 : decode cX8_shape 24 = .ok (.tableswitch 85 0 5 #[40, 45, 50, 58, 66, 74], 40) := by decide +kernel
theorem dX8_shape_64 : decode cX8_shape 64 = .ok (.aload_n 3, 1) := by decide +kernel
theorem dX8_shape_65 : decode cX8_shape 65 = .ok (.getfield 161, 3) := by decide +kernel
theorem dX8_shape_68 : decode cX8_shape 68 = .ok (.ireturn, 1) := by decide +kernel
theorem dX8_shape_69 : decode cX8_shape 69 = .ok (.aload_n 3, 1) := by decide +kernel
theorem dX8_shape_70 : decode cX8_shape 70 = .ok (.getfield 162, 3) := by decide +kernel
theorem dX8_shape_73 : decode cX8_shape 73 = .ok (.ireturn, 1) := by decide +kernel
theorem dX8_shape_74 : decode cX8_shape 74 = .ok (.aload_n 0, 1) := by decide +kernel
theorem dX8_shape_75 : decode cX8_shape 75 = .ok (.getfield 56, 3) := by decide +kernel
theorem dX8_shape_78 : decode cX8_shape 78 = .ok (.getfield 177, 3) := by decide +kernel
theorem dX8_shape_81 : decode cX8_shape 81 = .ok (.ireturn, 1) := by decide +kernel
theorem dX8_shape_82 : decode cX8_shape 82 = .ok (.aload_n 0, 1) := by decide +kernel
theorem dX8_shape_83 : decode cX8_shape 83 = .ok (.getfield 56, 3) := by decide +kernel
theorem dX8_shape_86 : decode cX8_shape 86 = .ok (.invokevirtual 178, 3) := by decide +kernel
theorem dX8_shape_89 : decode cX8_shape 89 = .ok (.ireturn, 1) := by decide +kernel
theorem dX8_shape_90 : decode cX8_shape 90 = .ok (.aload_n 0, 1) := by decide +kernel
theorem dX8_shape_91 : decode cX8_shape 91 = .ok (.getfield 56, 3) := by decide +kernel
theorem dX8_shape_94 : decode cX8_shape 94 = .ok (.invokevirtual 182, 3) := by decide +kernel
theorem dX8_shape_97 : decode cX8_shape 97 = .ok (.ireturn, 1) := by decide +kernel
theorem dX8_shape_98 : decode cX8_shape 98 = .ok (.bipush 100, 2) := by decide +kernel
theorem dX8_shape_100 : decode cX8_shape 100 = .ok (.aload_n 0, 1) := by decide +kernel
theorem dX8_shape_101 : decode cX8_shape 101 = .ok (.getfield 56, 3) := by decide +kernel
theorem dX8_shape_104 : decode cX8_shape 104 = .ok (.invokevirtual 185, 3) := by decide +kernel
theorem dX8_shape_107 : decode cX8_shape 107 = .ok (.iadd, 1) := by decide +kernel
theorem dX8_shape_108 : decode cX8_shape 108 = .ok (.ireturn, 1) := by decide +kernel
theorem dX8_shape_109 : decode cX8_shape 109 = .ok (.iconst (-1), 1) := by decide +kernel
theorem dX8_shape_110 : decode cX8_shape 110 = .ok (.ireturn, 1) := by decide +kernel
set_option maxRecDepth 100000 in
set_option maxHeartbeats 4000000 in
theorem kb_X8_shape_0 {x1 : Int32} {x2 : Int32} {w : WX} {out : Int32 × WX} {H : Heap} {locs : List Loc} {ls : Array Slot} (C : CX p s m args meth c cX8_shape 4 RX8 wc_X8_shape (some .int))  (hG : Gd s G A 153 B (entX G B w) X H locs) (hl : lv_has ls 4 [(0, .ref (B + 0)), (1, .int x1), (2, .int x2)]) (hf : sh_X8_shape x1 x2 w = some out) :
    W p l e rm_X8_shape s m args below meth c H locs 0 0 (MQ below (CPost G A 153 B (entX G B out.2) X (some (.int out.1))) args s 0 0 A) (F0 m 0 ls []) := by
  refine lv_aload_n C.1 C.2.1 dX8_shape_0 rfl (lv_at hl 0 rfl) ?_
  refine gf_X8_12 C hG rfl dX8_shape_1 ?_
  refine lv_iload_n C.1 C.2.1 dX8_shape_4 rfl (lv_at hl 1 rfl) ?_
  obtain ⟨v1, hv1, hf⟩ := of_bind hf
  refine r_callV1 C hG hl.1 (c0 := 1) (As := [.int x1]) (by decide) (entX_O4 (n := 4) rfl) rfl (mt_X4_surfaceAt l rfl hv1) (cwV 1 C.2.2.2.2.1 (gd_V tg_2_195 tg_2_196 tg_2_197 tg_1_2 tg_2_198) rfl rfl rfl cd_X4_surfaceAt ⟨Nat.le_of_ble_eq_true rfl, Nat.le_of_ble_eq_true rfl⟩) rfl rfl (Nat.le_of_ble_eq_true rfl) dX8_shape_5 (fun H locs hG => ?_)
  rcases of_ite hf with ⟨c2, hf⟩ | ⟨c2, hf⟩
  · refine r_rvN c2 ?_
    refine lv_astore_nN (lv' := [(3, .null), (0, .ref (B + 0)), (1, .int x1), (2, .int x2)]) C.1 C.2.1 dX8_shape_8 rfl hl (by decide) rfl (fun ls hl => ?_)
    refine lv_aload_nN C.1 C.2.1 dX8_shape_9 rfl (lv_at hl 0 rfl) ?_
    refine lv_ifnonnullN C.1 C.2.1 dX8_shape_10 ?_
    refine lv_iconst (v := (-1 : Int32)) C.1 C.2.1 dX8_shape_13 (by decide) ?_
    obtain rfl := Option.some.inj hf
    exact r_iret C hG dX8_shape_14
  · refine r_rvR c2 ?_
    obtain ⟨c3, hf⟩ := of_grd hf
    refine lv_astore_n (lv' := [(3, .ref (B + v1)), (0, .ref (B + 0)), (1, .int x1), (2, .int x2)]) C.1 C.2.1 dX8_shape_8 rfl hl (by decide) rfl (fun ls hl => ?_)
    refine lv_aload_n C.1 C.2.1 dX8_shape_9 rfl (lv_at hl 0 rfl) ?_
    refine lv_ifnonnull (tgt := 15) C.1 C.2.1 dX8_shape_10 (by decide) ?_
    refine lv_aload_n C.1 C.2.1 dX8_shape_15 rfl (lv_at hl 1 rfl) ?_
    refine gf_X8_56 C hG rfl dX8_shape_16 ?_
    refine lv_aload_n C.1 C.2.1 dX8_shape_19 rfl (lv_at hl 0 rfl) ?_
    obtain ⟨w4, hw4, hf⟩ := of_bind hf
    refine r_callV0 C hG hl.1 (c0 := 131) (As := [.ref (B + v1)]) (by decide) (entX_O2 (n := 8) rfl) rfl (mt_X2_find l rfl c3 hw4) (cwV 1 C.2.2.2.2.1 (gd_V tg_3_17 tg_3_18 tg_3_19 tg_1_8 tg_3_20) rfl rfl rfl cd_X2_find ⟨Nat.le_of_ble_eq_true rfl, Nat.le_of_ble_eq_true rfl⟩) rfl rfl (Nat.le_of_ble_eq_true rfl) dX8_shape_20 (fun H locs hG => ?_)
    refine lv_iload_n C.1 C.2.1 dX8_shape_23 rfl (lv_at hl 3 rfl) ?_
    rcases of_ite hf with ⟨c5, hf⟩ | ⟨c5, hf⟩
    · refine lv_tableIn (tgt := 64) (off := 40) C.1 C.2.1 dX8_shape_24 (by rw [c5]; decide) (by rw [c5]; decide) (by rw [c5]; rfl) (by decide) ?_
      refine lv_aload_n C.1 C.2.1 dX8_shape_64 rfl (lv_at hl 0 rfl) ?_
      refine gf_X8_161 C hG c3 dX8_shape_65 ?_
      obtain rfl := Option.some.inj hf
      exact r_iret C hG dX8_shape_68
    · skip
      rcases of_ite hf with ⟨c6, hf⟩ | ⟨c6, hf⟩
      · refine lv_tableIn (tgt := 69) (off := 45) C.1 C.2.1 dX8_shape_24 (by rw [c6]; decide) (by rw [c6]; decide) (by rw [c6]; rfl) (by decide) ?_
        refine lv_aload_n C.1 C.2.1 dX8_shape_69 rfl (lv_at hl 0 rfl) ?_
        refine gf_X8_162 C hG c3 dX8_shape_70 ?_
        obtain rfl := Option.some.inj hf
        exact r_iret C hG dX8_shape_73
      · skip
        rcases of_ite hf with ⟨c7, hf⟩ | ⟨c7, hf⟩
        · refine lv_tableIn (tgt := 74) (off := 50) C.1 C.2.1 dX8_shape_24 (by rw [c7]; decide) (by rw [c7]; decide) (by rw [c7]; rfl) (by decide) ?_
          refine lv_aload_n C.1 C.2.1 dX8_shape_74 rfl (lv_at hl 1 rfl) ?_
          refine gf_X8_56 C hG rfl dX8_shape_75 ?_
          refine gf_X8_177 C hG rfl dX8_shape_78 ?_
          obtain rfl := Option.some.inj hf
          exact r_iret C hG dX8_shape_81
        · skip
          rcases of_ite hf with ⟨c8, hf⟩ | ⟨c8, hf⟩
          · refine lv_tableIn (tgt := 82) (off := 58) C.1 C.2.1 dX8_shape_24 (by rw [c8]; decide) (by rw [c8]; decide) (by rw [c8]; rfl) (by decide) ?_
            refine lv_aload_n C.1 C.2.1 dX8_shape_82 rfl (lv_at hl 1 rfl) ?_
            refine gf_X8_56 C hG rfl dX8_shape_83 ?_
            obtain ⟨v9, hv9, hf⟩ := of_bind hf
            refine r_callV1 C hG hl.1 (c0 := 131) (As := []) (by decide) (entX_O2 (n := 8) rfl) rfl (mt_X2_unlike l rfl hv9) (cwV 0 C.2.2.2.2.1 (gd_V tg_3_51 tg_3_52 tg_3_53 tg_1_8 tg_3_54) rfl rfl rfl cd_X2_unlike ⟨Nat.le_of_ble_eq_true rfl, Nat.le_of_ble_eq_true rfl⟩) rfl rfl (Nat.le_of_ble_eq_true rfl) dX8_shape_86 (fun H locs hG => ?_)
            obtain rfl := Option.some.inj hf
            exact r_iret C hG dX8_shape_89
          · skip
            rcases of_ite hf with ⟨c10, hf⟩ | ⟨c10, hf⟩
            · refine lv_tableIn (tgt := 90) (off := 66) C.1 C.2.1 dX8_shape_24 (by rw [c10]; decide) (by rw [c10]; decide) (by rw [c10]; rfl) (by decide) ?_
              refine lv_aload_n C.1 C.2.1 dX8_shape_90 rfl (lv_at hl 1 rfl) ?_
              refine gf_X8_56 C hG rfl dX8_shape_91 ?_
              obtain ⟨v11, hv11, hf⟩ := of_bind hf
              refine r_callV1 C hG hl.1 (c0 := 131) (As := []) (by decide) (entX_O2 (n := 8) rfl) rfl (mt_X2_withoutRims l rfl hv11) (cwV 0 C.2.2.2.2.1 (gd_V tg_3_63 tg_3_64 tg_3_65 tg_1_8 tg_3_66) rfl rfl rfl cd_X2_withoutRims ⟨Nat.le_of_ble_eq_true rfl, Nat.le_of_ble_eq_true rfl⟩) rfl rfl (Nat.le_of_ble_eq_true rfl) dX8_shape_94 (fun H locs hG => ?_)
              obtain rfl := Option.some.inj hf
              exact r_iret C hG dX8_shape_97
            · skip
              rcases of_ite hf with ⟨c12, hf⟩ | ⟨c12, hf⟩
              · refine lv_tableIn (tgt := 98) (off := 74) C.1 C.2.1 dX8_shape_24 (by rw [c12]; decide) (by rw [c12]; decide) (by rw [c12]; rfl) (by decide) ?_
                refine lv_bipush (v := nI 100) C.1 C.2.1 dX8_shape_98 (by decide) ?_
                refine lv_aload_n C.1 C.2.1 dX8_shape_100 rfl (lv_at hl 1 rfl) ?_
                refine gf_X8_56 C hG rfl dX8_shape_101 ?_
                obtain ⟨v13, hv13, hf⟩ := of_bind hf
                refine r_callV1 C hG hl.1 (c0 := 131) (As := []) (by decide) (entX_O2 (n := 8) rfl) rfl (mt_X2_eulerOfAll l rfl hv13) (cwV 0 C.2.2.2.2.1 (gd_V tg_3_67 tg_3_68 tg_3_69 tg_1_8 tg_3_70) rfl rfl rfl cd_X2_eulerOfAll ⟨Nat.le_of_ble_eq_true rfl, Nat.le_of_ble_eq_true rfl⟩) rfl rfl (Nat.le_of_ble_eq_true rfl) dX8_shape_104 (fun H locs hG => ?_)
                refine lv_iadd C.1 C.2.1 dX8_shape_107 ?_
                obtain rfl := Option.some.inj hf
                exact r_iret C hG dX8_shape_108
              · skip
                refine lv_tableOut (tgt := 109) C.1 C.2.1 dX8_shape_24 (sw_out (n := 6) (by decide) (lt_s (lt_s (lt_s (lt_s (lt_s (lt_s lt_0 c5) c6) c7) c8) c10) c12)) (by decide) ?_
                refine lv_iconst (v := (-1 : Int32)) C.1 C.2.1 dX8_shape_109 (by decide) ?_
                obtain rfl := Option.some.inj hf
                exact r_iret C hG dX8_shape_110
set_option maxRecDepth 100000 in
set_option maxHeartbeats 4000000 in
theorem mt_X8_shape (l : Launch) {G : GG} {A : Nat → Prop} {B : Nat} {X : va_W} {x1 : Int32} {x2 : Int32} {w : WX} {out : Int32 × WX}  (hf : sh_X8_shape x1 x2 w = some out) : MetW l yX8_shape wc_X8_shape rm_X8_shape G A 153 B (entX G B w) X [.ref (B + 0), .int x1, .int x2] (some (.int out.1)) (entX G B out.2) := by
  refine Met.ofW (cc := cX8_shape) (maxL := 4) (ret := (some .int)) (by decide) rfl ?_
  intro p e s m args below meth c s₁ B0 hml hv
  obtain ⟨rfl, hEv, hWd⟩ := hv
  have C : CX p s m _ meth c cX8_shape 4 RX8 wc_X8_shape (some .int) := ⟨B0.exec, B0.bytes, hml, findClass_of_methodNamed B0.named, atoms_spec (ws := wc_X8_shape) B0.pre, B0.returns, B0.notSynchronized⟩
  have hl := lv_entry [.ref (B + 0), .int x1, .int x2] (n := 4) (Nat.le_of_ble_eq_true rfl)
  rw [lg_entry_eq]
  generalize (lg_sl [.ref (B + 0), .int x1, .int x2] ++ List.replicate (4 - (lg_sl [.ref (B + 0), .int x1, .int x2]).length) Slot.unset).toArray = ls at hl ⊢
  have hl : lv_has ls 4 [(0, .ref (B + 0)), (1, .int x1), (2, .int x2)] := hl
  exact kb_X8_shape_0 C  ⟨hEv, hWd, va_S.rf⟩ hl hf
abbrev wc_X8_part : List Cond := Cond.code yX8_part cX8_part 5 (some .int) :: TG
abbrev rm_X8_part : Room := { frames := 6, cells := 0, slots := 0, locals := 191 }
theorem cd_X8_part : yX8_part.cls = RX8 ∧ yX8_part.cls ≠ "java/lang/invoke/MethodHandle" ∧ yX8_part.cls ≠ "java/lang/invoke/VarHandle" ∧ (parseMethodDescriptor yX8_part.desc).map (fun d => d.parameters.length) = some 3 := by decide +kernel
theorem dX8_part_0 : decode cX8_part 0 = .ok (.aload_n 0, 1) := by decide +kernel
theorem dX8_part_1 : decode cX8_part 1 = .ok (.getfield 12, 3) := by decide +kernel
theorem dX8_part_4 : decode cX8_part 4 = .ok (.iload_n 1, 1) := by decide +kernel
theorem dX8_part_5 : decode cX8_part 5 = .ok (.invokevirtual 149, 3) := by decide +kernel
theorem dX8_part_8 : decode cX8_part 8 = .ok (.astore 4, 2) := by decide +kernel
theorem dX8_part_10 : decode cX8_part 10 = .ok (.aload 4, 2) := by decide +kernel
theorem dX8_part_12 : decode cX8_part 12 = .ok (.ifnonnull 5, 3) := by decide +kernel
theorem dX8_part_15 : decode cX8_part 15 = .ok (.iconst (-1), 1) := by decide +kernel
theorem dX8_part_16 : decode cX8_part 16 = .ok (.ireturn, 1) := by decide +kernel
theorem dX8_part_17 : decode cX8_part 17 = .ok (.aload_n 0, 1) := by decide +kernel
theorem dX8_part_18 : decode cX8_part 18 = .ok (.getfield 56, 3) := by decide +kernel
theorem dX8_part_21 : decode cX8_part 21 = .ok (.aload 4, 2) := by decide +kernel
theorem dX8_part_23 : decode cX8_part 23 = .ok (.invokevirtual 174, 3) := by decide +kernel
theorem dX8_part_26 : decode cX8_part 26 = .ok (.iload_n 2, 1) := by decide +kernel
theorem dX8_part_27 : decode cX8_part 27 = .ok (.ifCond .lt 14, 3) := by decide +kernel
theorem dX8_part_30 : decode cX8_part 30 = .ok (.iload_n 2, 1) := by decide +kernel
theorem dX8_part_31 : decode cX8_part 31 = .ok (.aload_n 0, 1) := by decide +kernel
theorem dX8_part_32 : decode cX8_part 32 = .ok (.getfield 56, 3) := by decide +kernel
theorem dX8_part_35 : decode cX8_part 35 = .ok (.getfield 177, 3) := by decide +kernel
theorem dX8_part_38 : decode cX8_part 38 = .ok (.if_icmp .lt 5, 3) := by decide +kernel
theorem dX8_part_41 : decode cX8_part 41 = .ok (.iconst (-1), 1) := by decide +kernel
theorem dX8_part_42 : decode cX8_part 42 = .ok (.ireturn, 1) := by decide +kernel
theorem dX8_part_43 : decode cX8_part 43 = .ok (.iload_n 3, 1) := by decide +kernel
theorem dX8_part_44 : decode cX8_part 44 = .ok (.tableswitch 82 0 3 #[32, 42, 55, 73], 32) := by decide +kernel
theorem dX8_part_76 : decode cX8_part 76 = .ok (.aload_n 0, 1) := by decide +kernel
theorem dX8_part_77 : decode cX8_part 77 = .ok (.getfield 56, 3) := by decide +kernel
theorem dX8_part_80 : decode cX8_part 80 = .ok (.getfield 188, 3) := by decide +kernel
theorem dX8_part_83 : decode cX8_part 83 = .ok (.iload_n 2, 1) := by decide +kernel
theorem dX8_part_84 : decode cX8_part 84 = .ok (.iaload, 1) := by decide +kernel
theorem dX8_part_85 : decode cX8_part 85 = .ok (.ireturn, 1) := by decide +kernel
theorem dX8_part_86 : decode cX8_part 86 = .ok (.bipush 100, 2) := by decide +kernel
theorem dX8_part_88 : decode cX8_part 88 = .ok (.aload_n 0, 1) := by decide +kernel
theorem dX8_part_89 : decode cX8_part 89 = .ok (.getfield 56, 3) := by decide +kernel
theorem dX8_part_92 : decode cX8_part 92 = .ok (.getfield 191, 3) := by decide +kernel
theorem dX8_part_95 : decode cX8_part 95 = .ok (.iload_n 2, 1) := by decide +kernel
theorem dX8_part_96 : decode cX8_part 96 = .ok (.iaload, 1) := by decide +kernel
theorem dX8_part_97 : decode cX8_part 97 = .ok (.iadd, 1) := by decide +kernel
theorem dX8_part_98 : decode cX8_part 98 = .ok (.ireturn, 1) := by decide +kernel
theorem dX8_part_99 : decode cX8_part 99 = .ok (.aload_n 0, 1) := by decide +kernel
theorem dX8_part_100 : decode cX8_part 100 = .ok (.getfield 56, 3) := by decide +kernel
theorem dX8_part_103 : decode cX8_part 103 = .ok (.getfield 194, 3) := by decide +kernel
theorem dX8_part_106 : decode cX8_part 106 = .ok (.iload_n 2, 1) := by decide +kernel
theorem dX8_part_107 : decode cX8_part 107 = .ok (.baload, 1) := by decide +kernel
theorem dX8_part_108 : decode cX8_part 108 = .ok (.ifCond .eq 7, 3) := by decide +kernel
theorem dX8_part_111 : decode cX8_part 111 = .ok (.iconst 1, 1) := by decide +kernel
theorem dX8_part_112 : decode cX8_part 112 = .ok (.goto 4, 3) := by decide +kernel
theorem dX8_part_115 : decode cX8_part 115 = .ok (.iconst 0, 1) := by decide +kernel
theorem dX8_part_116 : decode cX8_part 116 = .ok (.ireturn, 1) := by decide +kernel
theorem dX8_part_117 : decode cX8_part 117 = .ok (.aload_n 0, 1) := by decide +kernel
theorem dX8_part_118 : decode cX8_part 118 = .ok (.getfield 56, 3) := by decide +kernel
theorem dX8_part_121 : decode cX8_part 121 = .ok (.iload_n 2, 1) := by decide +kernel
theorem dX8_part_122 : decode cX8_part 122 = .ok (.invokevirtual 198, 3) := by decide +kernel
theorem dX8_part_125 : decode cX8_part 125 = .ok (.ireturn, 1) := by decide +kernel
theorem dX8_part_126 : decode cX8_part 126 = .ok (.iconst (-1), 1) := by decide +kernel
theorem dX8_part_127 : decode cX8_part 127 = .ok (.ireturn, 1) := by decide +kernel
set_option maxRecDepth 100000 in
set_option maxHeartbeats 4000000 in
theorem kb_X8_part_0 {x1 : Int32} {x2 : Int32} {x3 : Int32} {w : WX} {out : Int32 × WX} {H : Heap} {locs : List Loc} {ls : Array Slot} (C : CX p s m args meth c cX8_part 5 RX8 wc_X8_part (some .int))  (hG : Gd s G A 153 B (entX G B w) X H locs) (hl : lv_has ls 5 [(0, .ref (B + 0)), (1, .int x1), (2, .int x2), (3, .int x3)]) (hf : sh_X8_part x1 x2 x3 w = some out) :
    W p l e rm_X8_part s m args below meth c H locs 0 0 (MQ below (CPost G A 153 B (entX G B out.2) X (some (.int out.1))) args s 0 0 A) (F0 m 0 ls []) := by
  refine lv_aload_n C.1 C.2.1 dX8_part_0 rfl (lv_at hl 0 rfl) ?_
  refine gf_X8_12 C hG rfl dX8_part_1 ?_
  refine lv_iload_n C.1 C.2.1 dX8_part_4 rfl (lv_at hl 1 rfl) ?_
  obtain ⟨v1, hv1, hf⟩ := of_bind hf
  refine r_callV1 C hG hl.1 (c0 := 1) (As := [.int x1]) (by decide) (entX_O4 (n := 4) rfl) rfl (mt_X4_surfaceAt l rfl hv1) (cwV 1 C.2.2.2.2.1 (gd_V tg_2_195 tg_2_196 tg_2_197 tg_1_2 tg_2_198) rfl rfl rfl cd_X4_surfaceAt ⟨Nat.le_of_ble_eq_true rfl, Nat.le_of_ble_eq_true rfl⟩) rfl rfl (Nat.le_of_ble_eq_true rfl) dX8_part_5 (fun H locs hG => ?_)
  rcases of_ite hf with ⟨c2, hf⟩ | ⟨c2, hf⟩
  · refine r_rvN c2 ?_
    refine lv_astoreN (lv' := [(4, .null), (0, .ref (B + 0)), (1, .int x1), (2, .int x2), (3, .int x3)]) C.1 C.2.1 dX8_part_8 hl (by decide) rfl (fun ls hl => ?_)
    refine lv_aloadN C.1 C.2.1 dX8_part_10 (lv_at hl 0 rfl) ?_
    refine lv_ifnonnullN C.1 C.2.1 dX8_part_12 ?_
    refine lv_iconst (v := (-1 : Int32)) C.1 C.2.1 dX8_part_15 (by decide) ?_
    obtain rfl := Option.some.inj hf
    exact r_iret C hG dX8_part_16
  · refine r_rvR c2 ?_
    obtain ⟨c3, hf⟩ := of_grd hf
    refine lv_astore (lv' := [(4, .ref (B + v1)), (0, .ref (B + 0)), (1, .int x1), (2, .int x2), (3, .int x3)]) C.1 C.2.1 dX8_part_8 hl (by decide) rfl (fun ls hl => ?_)
    refine lv_aload C.1 C.2.1 dX8_part_10 (lv_at hl 0 rfl) ?_
    refine lv_ifnonnull (tgt := 17) C.1 C.2.1 dX8_part_12 (by decide) ?_
    refine lv_aload_n C.1 C.2.1 dX8_part_17 rfl (lv_at hl 1 rfl) ?_
    refine gf_X8_56 C hG rfl dX8_part_18 ?_
    refine lv_aload C.1 C.2.1 dX8_part_21 (lv_at hl 0 rfl) ?_
    obtain ⟨w4, hw4, hf⟩ := of_bind hf
    refine r_callV0 C hG hl.1 (c0 := 131) (As := [.ref (B + v1)]) (by decide) (entX_O2 (n := 8) rfl) rfl (mt_X2_find l rfl c3 hw4) (cwV 1 C.2.2.2.2.1 (gd_V tg_3_17 tg_3_18 tg_3_19 tg_1_8 tg_3_20) rfl rfl rfl cd_X2_find ⟨Nat.le_of_ble_eq_true rfl, Nat.le_of_ble_eq_true rfl⟩) rfl rfl (Nat.le_of_ble_eq_true rfl) dX8_part_23 (fun H locs hG => ?_)
    refine lv_iload_n C.1 C.2.1 dX8_part_26 rfl (lv_at hl 3 rfl) ?_
    rcases of_ite hf with ⟨c5, hf⟩ | ⟨c5, hf⟩
    · refine lv_if_lt (tgt := 41) C.1 C.2.1 dX8_part_27 (by decide) (fun _ => ?_) (fun q => absurd c5 q)
      refine lv_iconst (v := (-1 : Int32)) C.1 C.2.1 dX8_part_41 (by decide) ?_
      obtain rfl := Option.some.inj hf
      exact r_iret C hG dX8_part_42
    · refine lv_if_lt (tgt := 41) C.1 C.2.1 dX8_part_27 (by decide) (fun q => absurd q c5) (fun _ => ?_)
      refine lv_iload_n C.1 C.2.1 dX8_part_30 rfl (lv_at hl 3 rfl) ?_
      refine lv_aload_n C.1 C.2.1 dX8_part_31 rfl (lv_at hl 1 rfl) ?_
      refine gf_X8_56 C hG rfl dX8_part_32 ?_
      refine gf_X8_177 C hG rfl dX8_part_35 ?_
      rcases of_ite hf with ⟨c6, hf⟩ | ⟨c6, hf⟩
      · refine lv_icmp_lt (tgt := 43) C.1 C.2.1 dX8_part_38 (by decide) (fun _ => ?_) (fun q => absurd c6 q)
        refine lv_iload_n C.1 C.2.1 dX8_part_43 rfl (lv_at hl 4 rfl) ?_
        rcases of_ite hf with ⟨c7, hf⟩ | ⟨c7, hf⟩
        · refine lv_tableIn (tgt := 76) (off := 32) C.1 C.2.1 dX8_part_44 (by rw [c7]; decide) (by rw [c7]; decide) (by rw [c7]; rfl) (by decide) ?_
          refine lv_aload_n C.1 C.2.1 dX8_part_76 rfl (lv_at hl 1 rfl) ?_
          refine gf_X8_56 C hG rfl dX8_part_77 ?_
          refine gf_X8_188 C hG rfl dX8_part_80 ?_
          refine lv_iload_n C.1 C.2.1 dX8_part_83 rfl (lv_at hl 3 rfl) ?_
          obtain ⟨v8, hv8, hf⟩ := of_bind hf
          obtain ⟨bv8, ev8⟩ := of_ldS hv8
          refine r_iald C hG (c0 := (131 + 2)) (kdx_lt (kx_2_3 rfl) (by decide)) (entX_I (kx_2_3 rfl)) bv8 dX8_part_84 ?_
          refine r_top ev8 ?_
          obtain rfl := Option.some.inj hf
          exact r_iret C hG dX8_part_85
        · skip
          rcases of_ite hf with ⟨c9, hf⟩ | ⟨c9, hf⟩
          · refine lv_tableIn (tgt := 86) (off := 42) C.1 C.2.1 dX8_part_44 (by rw [c9]; decide) (by rw [c9]; decide) (by rw [c9]; rfl) (by decide) ?_
            refine lv_bipush (v := nI 100) C.1 C.2.1 dX8_part_86 (by decide) ?_
            refine lv_aload_n C.1 C.2.1 dX8_part_88 rfl (lv_at hl 1 rfl) ?_
            refine gf_X8_56 C hG rfl dX8_part_89 ?_
            refine gf_X8_191 C hG rfl dX8_part_92 ?_
            refine lv_iload_n C.1 C.2.1 dX8_part_95 rfl (lv_at hl 3 rfl) ?_
            obtain ⟨v10, hv10, hf⟩ := of_bind hf
            obtain ⟨bv10, ev10⟩ := of_ldS hv10
            refine r_iald C hG (c0 := (131 + 1)) (kdx_lt (kx_2_2 rfl) (by decide)) (entX_I (kx_2_2 rfl)) bv10 dX8_part_96 ?_
            refine r_top ev10 ?_
            refine lv_iadd C.1 C.2.1 dX8_part_97 ?_
            obtain rfl := Option.some.inj hf
            exact r_iret C hG dX8_part_98
          · skip
            rcases of_ite hf with ⟨c11, hf⟩ | ⟨c11, hf⟩
            · refine lv_tableIn (tgt := 99) (off := 55) C.1 C.2.1 dX8_part_44 (by rw [c11]; decide) (by rw [c11]; decide) (by rw [c11]; rfl) (by decide) ?_
              refine lv_aload_n C.1 C.2.1 dX8_part_99 rfl (lv_at hl 1 rfl) ?_
              refine gf_X8_56 C hG rfl dX8_part_100 ?_
              refine gf_X8_194 C hG rfl dX8_part_103 ?_
              refine lv_iload_n C.1 C.2.1 dX8_part_106 rfl (lv_at hl 3 rfl) ?_
              obtain ⟨v12, hv12, hf⟩ := of_bind hf
              obtain ⟨bv12, ev12⟩ := of_ldS hv12
              refine r_zald C hG (c0 := (131 + 3)) (kdx_lt (kx_2_4 rfl) (by decide)) (entX_Z (kx_2_4 rfl)) bv12 dX8_part_107 ?_
              refine r_top ev12 ?_
              rcases of_ite hf with ⟨c13, hf⟩ | ⟨c13, hf⟩
              · refine lv_if_eq (tgt := 115) C.1 C.2.1 dX8_part_108 (by decide) (fun _ => ?_) (fun q => absurd c13 q)
                refine lv_iconst (v := nI 0) C.1 C.2.1 dX8_part_115 (by decide) ?_
                obtain rfl := Option.some.inj hf
                exact r_iret C hG dX8_part_116
              · refine lv_if_eq (tgt := 115) C.1 C.2.1 dX8_part_108 (by decide) (fun q => absurd q c13) (fun _ => ?_)
                refine lv_iconst (v := nI 1) C.1 C.2.1 dX8_part_111 (by decide) ?_
                refine lv_goto (tgt := 116) C.1 C.2.1 dX8_part_112 (by decide) ?_
                obtain rfl := Option.some.inj hf
                exact r_iret C hG dX8_part_116
            · skip
              rcases of_ite hf with ⟨c14, hf⟩ | ⟨c14, hf⟩
              · refine lv_tableIn (tgt := 117) (off := 73) C.1 C.2.1 dX8_part_44 (by rw [c14]; decide) (by rw [c14]; decide) (by rw [c14]; rfl) (by decide) ?_
                refine lv_aload_n C.1 C.2.1 dX8_part_117 rfl (lv_at hl 1 rfl) ?_
                refine gf_X8_56 C hG rfl dX8_part_118 ?_
                refine lv_iload_n C.1 C.2.1 dX8_part_121 rfl (lv_at hl 3 rfl) ?_
                obtain ⟨v15, hv15, hf⟩ := of_bind hf
                refine r_callV1 C hG hl.1 (c0 := 131) (As := [.int x2]) (by decide) (entX_O2 (n := 8) rfl) rfl (mt_X2_genus l rfl hv15) (cwV 1 C.2.2.2.2.1 (gd_V tg_3_75 tg_3_76 tg_3_77 tg_1_8 tg_3_78) rfl rfl rfl cd_X2_genus ⟨Nat.le_of_ble_eq_true rfl, Nat.le_of_ble_eq_true rfl⟩) rfl rfl (Nat.le_of_ble_eq_true rfl) dX8_part_122 (fun H locs hG => ?_)
                obtain rfl := Option.some.inj hf
                exact r_iret C hG dX8_part_125
              · skip
                refine lv_tableOut (tgt := 126) C.1 C.2.1 dX8_part_44 (sw_out (n := 4) (by decide) (lt_s (lt_s (lt_s (lt_s lt_0 c7) c9) c11) c14)) (by decide) ?_
                refine lv_iconst (v := (-1 : Int32)) C.1 C.2.1 dX8_part_126 (by decide) ?_
                obtain rfl := Option.some.inj hf
                exact r_iret C hG dX8_part_127
      · refine lv_icmp_lt (tgt := 43) C.1 C.2.1 dX8_part_38 (by decide) (fun q => absurd q c6) (fun _ => ?_)
        refine lv_iconst (v := (-1 : Int32)) C.1 C.2.1 dX8_part_41 (by decide) ?_
        obtain rfl := Option.some.inj hf
        exact r_iret C hG dX8_part_42
set_option maxRecDepth 100000 in
set_option maxHeartbeats 4000000 in
theorem mt_X8_part (l : Launch) {G : GG} {A : Nat → Prop} {B : Nat} {X : va_W} {x1 : Int32} {x2 : Int32} {x3 : Int32} {w : WX} {out : Int32 × WX}  (hf : sh_X8_part x1 x2 x3 w = some out) : MetW l yX8_part wc_X8_part rm_X8_part G A 153 B (entX G B w) X [.ref (B + 0), .int x1, .int x2, .int x3] (some (.int out.1)) (entX G B out.2) := by
  refine Met.ofW (cc := cX8_part) (maxL := 5) (ret := (some .int)) (by decide) rfl ?_
  intro p e s m args below meth c s₁ B0 hml hv
  obtain ⟨rfl, hEv, hWd⟩ := hv
  have C : CX p s m _ meth c cX8_part 5 RX8 wc_X8_part (some .int) := ⟨B0.exec, B0.bytes, hml, findClass_of_methodNamed B0.named, atoms_spec (ws := wc_X8_part) B0.pre, B0.returns, B0.notSynchronized⟩
  have hl := lv_entry [.ref (B + 0), .int x1, .int x2, .int x3] (n := 5) (Nat.le_of_ble_eq_true rfl)
  rw [lg_entry_eq]
  generalize (lg_sl [.ref (B + 0), .int x1, .int x2, .int x3] ++ List.replicate (5 - (lg_sl [.ref (B + 0), .int x1, .int x2, .int x3]).length) Slot.unset).toArray = ls at hl ⊢
  have hl : lv_has ls 5 [(0, .ref (B + 0)), (1, .int x1), (2, .int x2), (3, .int x3)] := hl
  exact kb_X8_part_0 C  ⟨hEv, hWd, va_S.rf⟩ hl hf
abbrev wc_X8_rim : List Cond := Cond.code yX8_rim cX8_rim 4 (some .int) :: TG
abbrev rm_X8_rim : Room := { frames := 6, cells := 0, slots := 0, locals := 191 }
theorem cd_X8_rim : yX8_rim.cls = RX8 ∧ yX8_rim.cls ≠ "java/lang/invoke/MethodHandle" ∧ yX8_rim.cls ≠ "java/lang/invoke/VarHandle" ∧ (parseMethodDescriptor yX8_rim.desc).map (fun d => d.parameters.length) = some 2 := by decide +kernel
theorem dX8_rim_0 : decode cX8_rim 0 = .ok (.aload_n 0, 1) := by decide +kernel
theorem dX8_rim_1 : decode cX8_rim 1 = .ok (.getfield 12, 3) := by decide +kernel
theorem dX8_rim_4 : decode cX8_rim 4 = .ok (.iload_n 1, 1) := by decide +kernel
theorem dX8_rim_5 : decode cX8_rim 5 = .ok (.invokevirtual 149, 3) := by decide +kernel
theorem dX8_rim_8 : decode cX8_rim 8 = .ok (.astore_n 3, 1) := by decide +kernel
theorem dX8_rim_9 : decode cX8_rim 9 = .ok (.aload_n 3, 1) := by decide +kernel
theorem dX8_rim_10 : decode cX8_rim 10 = .ok (.ifnull 15, 3) := by decide +kernel
theorem dX8_rim_13 : decode cX8_rim 13 = .ok (.iload_n 2, 1) := by decide +kernel
theorem dX8_rim_14 : decode cX8_rim 14 = .ok (.ifCond .lt 11, 3) := by decide +kernel
theorem dX8_rim_17 : decode cX8_rim 17 = .ok (.iload_n 2, 1) := by decide +kernel
theorem dX8_rim_18 : decode cX8_rim 18 = .ok (.aload_n 3, 1) := by decide +kernel
theorem dX8_rim_19 : decode cX8_rim 19 = .ok (.getfield 162, 3) := by decide +kernel
theorem dX8_rim_22 : decode cX8_rim 22 = .ok (.if_icmp .lt 5, 3) := by decide +kernel
theorem dX8_rim_25 : decode cX8_rim 25 = .ok (.iconst (-1), 1) := by decide +kernel
theorem dX8_rim_26 : decode cX8_rim 26 = .ok (.ireturn, 1) := by decide +kernel
theorem dX8_rim_27 : decode cX8_rim 27 = .ok (.aload_n 0, 1) := by decide +kernel
theorem dX8_rim_28 : decode cX8_rim 28 = .ok (.getfield 56, 3) := by decide +kernel
theorem dX8_rim_31 : decode cX8_rim 31 = .ok (.aload_n 3, 1) := by decide +kernel
theorem dX8_rim_32 : decode cX8_rim 32 = .ok (.invokevirtual 174, 3) := by decide +kernel
theorem dX8_rim_35 : decode cX8_rim 35 = .ok (.aload_n 0, 1) := by decide +kernel
theorem dX8_rim_36 : decode cX8_rim 36 = .ok (.getfield 56, 3) := by decide +kernel
theorem dX8_rim_39 : decode cX8_rim 39 = .ok (.getfield 201, 3) := by decide +kernel
theorem dX8_rim_42 : decode cX8_rim 42 = .ok (.iload_n 2, 1) := by decide +kernel
theorem dX8_rim_43 : decode cX8_rim 43 = .ok (.iaload, 1) := by decide +kernel
theorem dX8_rim_44 : decode cX8_rim 44 = .ok (.ireturn, 1) := by decide +kernel
set_option maxRecDepth 100000 in
set_option maxHeartbeats 4000000 in
theorem kb_X8_rim_0 {x1 : Int32} {x2 : Int32} {w : WX} {out : Int32 × WX} {H : Heap} {locs : List Loc} {ls : Array Slot} (C : CX p s m args meth c cX8_rim 4 RX8 wc_X8_rim (some .int))  (hG : Gd s G A 153 B (entX G B w) X H locs) (hl : lv_has ls 4 [(0, .ref (B + 0)), (1, .int x1), (2, .int x2)]) (hf : sh_X8_rim x1 x2 w = some out) :
    W p l e rm_X8_rim s m args below meth c H locs 0 0 (MQ below (CPost G A 153 B (entX G B out.2) X (some (.int out.1))) args s 0 0 A) (F0 m 0 ls []) := by
  refine lv_aload_n C.1 C.2.1 dX8_rim_0 rfl (lv_at hl 0 rfl) ?_
  refine gf_X8_12 C hG rfl dX8_rim_1 ?_
  refine lv_iload_n C.1 C.2.1 dX8_rim_4 rfl (lv_at hl 1 rfl) ?_
  obtain ⟨v1, hv1, hf⟩ := of_bind hf
  refine r_callV1 C hG hl.1 (c0 := 1) (As := [.int x1]) (by decide) (entX_O4 (n := 4) rfl) rfl (mt_X4_surfaceAt l rfl hv1) (cwV 1 C.2.2.2.2.1 (gd_V tg_2_195 tg_2_196 tg_2_197 tg_1_2 tg_2_198) rfl rfl rfl cd_X4_surfaceAt ⟨Nat.le_of_ble_eq_true rfl, Nat.le_of_ble_eq_true rfl⟩) rfl rfl (Nat.le_of_ble_eq_true rfl) dX8_rim_5 (fun H locs hG => ?_)
  rcases of_ite hf with ⟨c2, hf⟩ | ⟨c2, hf⟩
  · refine r_rvN c2 ?_
    refine lv_astore_nN (lv' := [(3, .null), (0, .ref (B + 0)), (1, .int x1), (2, .int x2)]) C.1 C.2.1 dX8_rim_8 rfl hl (by decide) rfl (fun ls hl => ?_)
    refine lv_aload_nN C.1 C.2.1 dX8_rim_9 rfl (lv_at hl 0 rfl) ?_
    refine lv_ifnullN (tgt := 25) C.1 C.2.1 dX8_rim_10 (by decide) ?_
    refine lv_iconst (v := (-1 : Int32)) C.1 C.2.1 dX8_rim_25 (by decide) ?_
    obtain rfl := Option.some.inj hf
    exact r_iret C hG dX8_rim_26
  · refine r_rvR c2 ?_
    obtain ⟨c3, hf⟩ := of_grd hf
    refine lv_astore_n (lv' := [(3, .ref (B + v1)), (0, .ref (B + 0)), (1, .int x1), (2, .int x2)]) C.1 C.2.1 dX8_rim_8 rfl hl (by decide) rfl (fun ls hl => ?_)
    refine lv_aload_n C.1 C.2.1 dX8_rim_9 rfl (lv_at hl 0 rfl) ?_
    refine lv_ifnull C.1 C.2.1 dX8_rim_10 ?_
    refine lv_iload_n C.1 C.2.1 dX8_rim_13 rfl (lv_at hl 3 rfl) ?_
    rcases of_ite hf with ⟨c4, hf⟩ | ⟨c4, hf⟩
    · refine lv_if_lt (tgt := 25) C.1 C.2.1 dX8_rim_14 (by decide) (fun _ => ?_) (fun q => absurd c4 q)
      refine lv_iconst (v := (-1 : Int32)) C.1 C.2.1 dX8_rim_25 (by decide) ?_
      obtain rfl := Option.some.inj hf
      exact r_iret C hG dX8_rim_26
    · refine lv_if_lt (tgt := 25) C.1 C.2.1 dX8_rim_14 (by decide) (fun q => absurd q c4) (fun _ => ?_)
      refine lv_iload_n C.1 C.2.1 dX8_rim_17 rfl (lv_at hl 3 rfl) ?_
      refine lv_aload_n C.1 C.2.1 dX8_rim_18 rfl (lv_at hl 0 rfl) ?_
      refine gf_X8_162 C hG c3 dX8_rim_19 ?_
      rcases of_ite hf with ⟨c5, hf⟩ | ⟨c5, hf⟩
      · refine lv_icmp_lt (tgt := 27) C.1 C.2.1 dX8_rim_22 (by decide) (fun _ => ?_) (fun q => absurd c5 q)
        refine lv_aload_n C.1 C.2.1 dX8_rim_27 rfl (lv_at hl 1 rfl) ?_
        refine gf_X8_56 C hG rfl dX8_rim_28 ?_
        refine lv_aload_n C.1 C.2.1 dX8_rim_31 rfl (lv_at hl 0 rfl) ?_
        obtain ⟨w6, hw6, hf⟩ := of_bind hf
        refine r_callV0 C hG hl.1 (c0 := 131) (As := [.ref (B + v1)]) (by decide) (entX_O2 (n := 8) rfl) rfl (mt_X2_find l rfl c3 hw6) (cwV 1 C.2.2.2.2.1 (gd_V tg_3_17 tg_3_18 tg_3_19 tg_1_8 tg_3_20) rfl rfl rfl cd_X2_find ⟨Nat.le_of_ble_eq_true rfl, Nat.le_of_ble_eq_true rfl⟩) rfl rfl (Nat.le_of_ble_eq_true rfl) dX8_rim_32 (fun H locs hG => ?_)
        refine lv_aload_n C.1 C.2.1 dX8_rim_35 rfl (lv_at hl 1 rfl) ?_
        refine gf_X8_56 C hG rfl dX8_rim_36 ?_
        refine gf_X8_201 C hG rfl dX8_rim_39 ?_
        refine lv_iload_n C.1 C.2.1 dX8_rim_42 rfl (lv_at hl 3 rfl) ?_
        obtain ⟨v7, hv7, hf⟩ := of_bind hf
        obtain ⟨bv7, ev7⟩ := of_ldS hv7
        refine r_iald C hG (c0 := (131 + 4)) (kdx_lt (kx_2_5 rfl) (by decide)) (entX_I (kx_2_5 rfl)) bv7 dX8_rim_43 ?_
        refine r_top ev7 ?_
        obtain rfl := Option.some.inj hf
        exact r_iret C hG dX8_rim_44
      · refine lv_icmp_lt (tgt := 27) C.1 C.2.1 dX8_rim_22 (by decide) (fun q => absurd q c5) (fun _ => ?_)
        refine lv_iconst (v := (-1 : Int32)) C.1 C.2.1 dX8_rim_25 (by decide) ?_
        obtain rfl := Option.some.inj hf
        exact r_iret C hG dX8_rim_26
set_option maxRecDepth 100000 in
set_option maxHeartbeats 4000000 in
theorem mt_X8_rim (l : Launch) {G : GG} {A : Nat → Prop} {B : Nat} {X : va_W} {x1 : Int32} {x2 : Int32} {w : WX} {out : Int32 × WX}  (hf : sh_X8_rim x1 x2 w = some out) : MetW l yX8_rim wc_X8_rim rm_X8_rim G A 153 B (entX G B w) X [.ref (B + 0), .int x1, .int x2] (some (.int out.1)) (entX G B out.2) := by
  refine Met.ofW (cc := cX8_rim) (maxL := 4) (ret := (some .int)) (by decide) rfl ?_
  intro p e s m args below meth c s₁ B0 hml hv
  obtain ⟨rfl, hEv, hWd⟩ := hv
  have C : CX p s m _ meth c cX8_rim 4 RX8 wc_X8_rim (some .int) := ⟨B0.exec, B0.bytes, hml, findClass_of_methodNamed B0.named, atoms_spec (ws := wc_X8_rim) B0.pre, B0.returns, B0.notSynchronized⟩
  have hl := lv_entry [.ref (B + 0), .int x1, .int x2] (n := 4) (Nat.le_of_ble_eq_true rfl)
  rw [lg_entry_eq]
  generalize (lg_sl [.ref (B + 0), .int x1, .int x2] ++ List.replicate (4 - (lg_sl [.ref (B + 0), .int x1, .int x2]).length) Slot.unset).toArray = ls at hl ⊢
  have hl : lv_has ls 4 [(0, .ref (B + 0)), (1, .int x1), (2, .int x2)] := hl
  exact kb_X8_rim_0 C  ⟨hEv, hWd, va_S.rf⟩ hl hf
abbrev wc_X8_match : List Cond := Cond.code yX8_match cX8_match 5 (some .int) :: TG
abbrev rm_X8_match : Room := { frames := 6, cells := 0, slots := 0, locals := 191 }
theorem cd_X8_match : yX8_match.cls = RX8 ∧ yX8_match.cls ≠ "java/lang/invoke/MethodHandle" ∧ yX8_match.cls ≠ "java/lang/invoke/VarHandle" ∧ (parseMethodDescriptor yX8_match.desc).map (fun d => d.parameters.length) = some 2 := by decide +kernel
theorem dX8_match_0 : decode cX8_match 0 = .ok (.aload_n 0, 1) := by decide +kernel
theorem dX8_match_1 : decode cX8_match 1 = .ok (.getfield 12, 3) := by decide +kernel
theorem dX8_match_4 : decode cX8_match 4 = .ok (.iload_n 1, 1) := by decide +kernel
theorem dX8_match_5 : decode cX8_match 5 = .ok (.invokevirtual 149, 3) := by decide +kernel
theorem dX8_match_8 : decode cX8_match 8 = .ok (.astore_n 3, 1) := by decide +kernel
theorem dX8_match_9 : decode cX8_match 9 = .ok (.aload_n 0, 1) := by decide +kernel
theorem dX8_match_10 : decode cX8_match 10 = .ok (.getfield 12, 3) := by decide +kernel
theorem dX8_match_13 : decode cX8_match 13 = .ok (.iload_n 2, 1) := by decide +kernel
theorem dX8_match_14 : decode cX8_match 14 = .ok (.invokevirtual 149, 3) := by decide +kernel
theorem dX8_match_17 : decode cX8_match 17 = .ok (.astore 4, 2) := by decide +kernel
theorem dX8_match_19 : decode cX8_match 19 = .ok (.aload_n 3, 1) := by decide +kernel
theorem dX8_match_20 : decode cX8_match 20 = .ok (.ifnull 8, 3) := by decide +kernel
theorem dX8_match_23 : decode cX8_match 23 = .ok (.aload 4, 2) := by decide +kernel
theorem dX8_match_25 : decode cX8_match 25 = .ok (.ifnonnull 5, 3) := by decide +kernel
theorem dX8_match_28 : decode cX8_match 28 = .ok (.iconst (-1), 1) := by decide +kernel
theorem dX8_match_29 : decode cX8_match 29 = .ok (.ireturn, 1) := by decide +kernel
theorem dX8_match_30 : decode cX8_match 30 = .ok (.aload_n 0, 1) := by decide +kernel
theorem dX8_match_31 : decode cX8_match 31 = .ok (.getfield 56, 3) := by decide +kernel
theorem dX8_match_34 : decode cX8_match 34 = .ok (.aload_n 3, 1) := by decide +kernel
theorem dX8_match_35 : decode cX8_match 35 = .ok (.invokevirtual 174, 3) := by decide +kernel
theorem dX8_match_38 : decode cX8_match 38 = .ok (.aload_n 0, 1) := by decide +kernel
theorem dX8_match_39 : decode cX8_match 39 = .ok (.getfield 60, 3) := by decide +kernel
theorem dX8_match_42 : decode cX8_match 42 = .ok (.aload 4, 2) := by decide +kernel
theorem dX8_match_44 : decode cX8_match 44 = .ok (.invokevirtual 174, 3) := by decide +kernel
theorem dX8_match_47 : decode cX8_match 47 = .ok (.aload_n 0, 1) := by decide +kernel
theorem dX8_match_48 : decode cX8_match 48 = .ok (.getfield 56, 3) := by decide +kernel
theorem dX8_match_51 : decode cX8_match 51 = .ok (.aload_n 0, 1) := by decide +kernel
theorem dX8_match_52 : decode cX8_match 52 = .ok (.getfield 60, 3) := by decide +kernel
theorem dX8_match_55 : decode cX8_match 55 = .ok (.invokevirtual 204, 3) := by decide +kernel
theorem dX8_match_58 : decode cX8_match 58 = .ok (.ireturn, 1) := by decide +kernel
set_option maxRecDepth 100000 in
set_option maxHeartbeats 4000000 in
theorem kb_X8_match_0 {x1 : Int32} {x2 : Int32} {w : WX} {out : Int32 × WX} {H : Heap} {locs : List Loc} {ls : Array Slot} (C : CX p s m args meth c cX8_match 5 RX8 wc_X8_match (some .int))  (hG : Gd s G A 153 B (entX G B w) X H locs) (hl : lv_has ls 5 [(0, .ref (B + 0)), (1, .int x1), (2, .int x2)]) (hf : sh_X8_match x1 x2 w = some out) :
    W p l e rm_X8_match s m args below meth c H locs 0 0 (MQ below (CPost G A 153 B (entX G B out.2) X (some (.int out.1))) args s 0 0 A) (F0 m 0 ls []) := by
  refine lv_aload_n C.1 C.2.1 dX8_match_0 rfl (lv_at hl 0 rfl) ?_
  refine gf_X8_12 C hG rfl dX8_match_1 ?_
  refine lv_iload_n C.1 C.2.1 dX8_match_4 rfl (lv_at hl 1 rfl) ?_
  obtain ⟨v1, hv1, hf⟩ := of_bind hf
  refine r_callV1 C hG hl.1 (c0 := 1) (As := [.int x1]) (by decide) (entX_O4 (n := 4) rfl) rfl (mt_X4_surfaceAt l rfl hv1) (cwV 1 C.2.2.2.2.1 (gd_V tg_2_195 tg_2_196 tg_2_197 tg_1_2 tg_2_198) rfl rfl rfl cd_X4_surfaceAt ⟨Nat.le_of_ble_eq_true rfl, Nat.le_of_ble_eq_true rfl⟩) rfl rfl (Nat.le_of_ble_eq_true rfl) dX8_match_5 (fun H locs hG => ?_)
  rcases of_ite hf with ⟨c2, hf⟩ | ⟨c2, hf⟩
  · refine r_rvN c2 ?_
    refine lv_astore_nN (lv' := [(3, .null), (0, .ref (B + 0)), (1, .int x1), (2, .int x2)]) C.1 C.2.1 dX8_match_8 rfl hl (by decide) rfl (fun ls hl => ?_)
    refine lv_aload_n C.1 C.2.1 dX8_match_9 rfl (lv_at hl 1 rfl) ?_
    refine gf_X8_12 C hG rfl dX8_match_10 ?_
    refine lv_iload_n C.1 C.2.1 dX8_match_13 rfl (lv_at hl 3 rfl) ?_
    obtain ⟨v4, hv4, hf⟩ := of_bind hf
    refine r_callV1 C hG hl.1 (c0 := 1) (As := [.int x2]) (by decide) (entX_O4 (n := 4) rfl) rfl (mt_X4_surfaceAt l rfl hv4) (cwV 1 C.2.2.2.2.1 (gd_V tg_2_195 tg_2_196 tg_2_197 tg_1_2 tg_2_198) rfl rfl rfl cd_X4_surfaceAt ⟨Nat.le_of_ble_eq_true rfl, Nat.le_of_ble_eq_true rfl⟩) rfl rfl (Nat.le_of_ble_eq_true rfl) dX8_match_14 (fun H locs hG => ?_)
    rcases of_ite hf with ⟨c5, hf⟩ | ⟨c5, hf⟩
    · refine r_rvN c5 ?_
      refine lv_astoreN (lv' := [(4, .null), (3, .null), (0, .ref (B + 0)), (1, .int x1), (2, .int x2)]) C.1 C.2.1 dX8_match_17 hl (by decide) rfl (fun ls hl => ?_)
      refine lv_aload_nN C.1 C.2.1 dX8_match_19 rfl (lv_at hl 1 rfl) ?_
      refine lv_ifnullN (tgt := 28) C.1 C.2.1 dX8_match_20 (by decide) ?_
      refine lv_iconst (v := (-1 : Int32)) C.1 C.2.1 dX8_match_28 (by decide) ?_
      obtain rfl := Option.some.inj hf
      exact r_iret C hG dX8_match_29
    · refine r_rvR c5 ?_
      obtain ⟨c6, hf⟩ := of_grd hf
      refine lv_astore (lv' := [(4, .ref (B + v4)), (3, .null), (0, .ref (B + 0)), (1, .int x1), (2, .int x2)]) C.1 C.2.1 dX8_match_17 hl (by decide) rfl (fun ls hl => ?_)
      refine lv_aload_nN C.1 C.2.1 dX8_match_19 rfl (lv_at hl 1 rfl) ?_
      refine lv_ifnullN (tgt := 28) C.1 C.2.1 dX8_match_20 (by decide) ?_
      refine lv_iconst (v := (-1 : Int32)) C.1 C.2.1 dX8_match_28 (by decide) ?_
      obtain rfl := Option.some.inj hf
      exact r_iret C hG dX8_match_29
  · refine r_rvR c2 ?_
    obtain ⟨c3, hf⟩ := of_grd hf
    refine lv_astore_n (lv' := [(3, .ref (B + v1)), (0, .ref (B + 0)), (1, .int x1), (2, .int x2)]) C.1 C.2.1 dX8_match_8 rfl hl (by decide) rfl (fun ls hl => ?_)
    refine lv_aload_n C.1 C.2.1 dX8_match_9 rfl (lv_at hl 1 rfl) ?_
    refine gf_X8_12 C hG rfl dX8_match_10 ?_
    refine lv_iload_n C.1 C.2.1 dX8_match_13 rfl (lv_at hl 3 rfl) ?_
    obtain ⟨v7, hv7, hf⟩ := of_bind hf
    refine r_callV1 C hG hl.1 (c0 := 1) (As := [.int x2]) (by decide) (entX_O4 (n := 4) rfl) rfl (mt_X4_surfaceAt l rfl hv7) (cwV 1 C.2.2.2.2.1 (gd_V tg_2_195 tg_2_196 tg_2_197 tg_1_2 tg_2_198) rfl rfl rfl cd_X4_surfaceAt ⟨Nat.le_of_ble_eq_true rfl, Nat.le_of_ble_eq_true rfl⟩) rfl rfl (Nat.le_of_ble_eq_true rfl) dX8_match_14 (fun H locs hG => ?_)
    rcases of_ite hf with ⟨c8, hf⟩ | ⟨c8, hf⟩
    · refine r_rvN c8 ?_
      refine lv_astoreN (lv' := [(4, .null), (3, .ref (B + v1)), (0, .ref (B + 0)), (1, .int x1), (2, .int x2)]) C.1 C.2.1 dX8_match_17 hl (by decide) rfl (fun ls hl => ?_)
      refine lv_aload_n C.1 C.2.1 dX8_match_19 rfl (lv_at hl 1 rfl) ?_
      refine lv_ifnull C.1 C.2.1 dX8_match_20 ?_
      refine lv_aloadN C.1 C.2.1 dX8_match_23 (lv_at hl 0 rfl) ?_
      refine lv_ifnonnullN C.1 C.2.1 dX8_match_25 ?_
      refine lv_iconst (v := (-1 : Int32)) C.1 C.2.1 dX8_match_28 (by decide) ?_
      obtain rfl := Option.some.inj hf
      exact r_iret C hG dX8_match_29
    · refine r_rvR c8 ?_
      obtain ⟨c9, hf⟩ := of_grd hf
      refine lv_astore (lv' := [(4, .ref (B + v7)), (3, .ref (B + v1)), (0, .ref (B + 0)), (1, .int x1), (2, .int x2)]) C.1 C.2.1 dX8_match_17 hl (by decide) rfl (fun ls hl => ?_)
      refine lv_aload_n C.1 C.2.1 dX8_match_19 rfl (lv_at hl 1 rfl) ?_
      refine lv_ifnull C.1 C.2.1 dX8_match_20 ?_
      refine lv_aload C.1 C.2.1 dX8_match_23 (lv_at hl 0 rfl) ?_
      refine lv_ifnonnull (tgt := 30) C.1 C.2.1 dX8_match_25 (by decide) ?_
      refine lv_aload_n C.1 C.2.1 dX8_match_30 rfl (lv_at hl 2 rfl) ?_
      refine gf_X8_56 C hG rfl dX8_match_31 ?_
      refine lv_aload_n C.1 C.2.1 dX8_match_34 rfl (lv_at hl 1 rfl) ?_
      obtain ⟨w10, hw10, hf⟩ := of_bind hf
      refine r_callV0 C hG hl.1 (c0 := 131) (As := [.ref (B + v1)]) (by decide) (entX_O2 (n := 8) rfl) rfl (mt_X2_find l rfl c3 hw10) (cwV 1 C.2.2.2.2.1 (gd_V tg_3_17 tg_3_18 tg_3_19 tg_1_8 tg_3_20) rfl rfl rfl cd_X2_find ⟨Nat.le_of_ble_eq_true rfl, Nat.le_of_ble_eq_true rfl⟩) rfl rfl (Nat.le_of_ble_eq_true rfl) dX8_match_35 (fun H locs hG => ?_)
      refine lv_aload_n C.1 C.2.1 dX8_match_38 rfl (lv_at hl 2 rfl) ?_
      refine gf_X8_60 C hG rfl dX8_match_39 ?_
      refine lv_aload C.1 C.2.1 dX8_match_42 (lv_at hl 0 rfl) ?_
      obtain ⟨w11, hw11, hf⟩ := of_bind hf
      refine r_callV0 C hG hl.1 (c0 := 138) (As := [.ref (B + v7)]) (by decide) (entX_O2 (n := 8) rfl) rfl (mt_X2_find l rfl c9 hw11) (cwV 1 C.2.2.2.2.1 (gd_V tg_3_17 tg_3_18 tg_3_19 tg_1_8 tg_3_20) rfl rfl rfl cd_X2_find ⟨Nat.le_of_ble_eq_true rfl, Nat.le_of_ble_eq_true rfl⟩) rfl rfl (Nat.le_of_ble_eq_true rfl) dX8_match_44 (fun H locs hG => ?_)
      refine lv_aload_n C.1 C.2.1 dX8_match_47 rfl (lv_at hl 2 rfl) ?_
      refine gf_X8_56 C hG rfl dX8_match_48 ?_
      refine lv_aload_n C.1 C.2.1 dX8_match_51 rfl (lv_at hl 2 rfl) ?_
      refine gf_X8_60 C hG rfl dX8_match_52 ?_
      obtain ⟨v12, hv12, hf⟩ := of_bind hf
      refine r_callV1 C hG hl.1 (c0 := 131) (As := [.ref (B + 138)]) (by decide) (entX_O2 (n := 8) rfl) rfl (mt_X2_matched l rfl rfl hv12) (cwV 1 C.2.2.2.2.1 (gd_V tg_3_87 tg_3_88 tg_3_89 tg_1_8 tg_3_90) rfl rfl rfl cd_X2_matched ⟨Nat.le_of_ble_eq_true rfl, Nat.le_of_ble_eq_true rfl⟩) rfl rfl (Nat.le_of_ble_eq_true rfl) dX8_match_55 (fun H locs hG => ?_)
      obtain rfl := Option.some.inj hf
      exact r_iret C hG dX8_match_58
set_option maxRecDepth 100000 in
set_option maxHeartbeats 4000000 in
theorem mt_X8_match (l : Launch) {G : GG} {A : Nat → Prop} {B : Nat} {X : va_W} {x1 : Int32} {x2 : Int32} {w : WX} {out : Int32 × WX}  (hf : sh_X8_match x1 x2 w = some out) : MetW l yX8_match wc_X8_match rm_X8_match G A 153 B (entX G B w) X [.ref (B + 0), .int x1, .int x2] (some (.int out.1)) (entX G B out.2) := by
  refine Met.ofW (cc := cX8_match) (maxL := 5) (ret := (some .int)) (by decide) rfl ?_
  intro p e s m args below meth c s₁ B0 hml hv
  obtain ⟨rfl, hEv, hWd⟩ := hv
  have C : CX p s m _ meth c cX8_match 5 RX8 wc_X8_match (some .int) := ⟨B0.exec, B0.bytes, hml, findClass_of_methodNamed B0.named, atoms_spec (ws := wc_X8_match) B0.pre, B0.returns, B0.notSynchronized⟩
  have hl := lv_entry [.ref (B + 0), .int x1, .int x2] (n := 5) (Nat.le_of_ble_eq_true rfl)
  rw [lg_entry_eq]
  generalize (lg_sl [.ref (B + 0), .int x1, .int x2] ++ List.replicate (5 - (lg_sl [.ref (B + 0), .int x1, .int x2]).length) Slot.unset).toArray = ls at hl ⊢
  have hl : lv_has ls 5 [(0, .ref (B + 0)), (1, .int x1), (2, .int x2)] := hl
  exact kb_X8_match_0 C  ⟨hEv, hWd, va_S.rf⟩ hl hf
abbrev wc_X8_sum : List Cond := Cond.code yX8_sum cX8_sum 6 (some .int) :: TG
abbrev rm_X8_sum : Room := { frames := 7, cells := 0, slots := 0, locals := 221 }
theorem cd_X8_sum : yX8_sum.cls = RX8 ∧ yX8_sum.cls ≠ "java/lang/invoke/MethodHandle" ∧ yX8_sum.cls ≠ "java/lang/invoke/VarHandle" ∧ (parseMethodDescriptor yX8_sum.desc).map (fun d => d.parameters.length) = some 3 := by decide +kernel
theorem dX8_sum_0 : decode cX8_sum 0 = .ok (.aload_n 0, 1) := by decide +kernel
theorem dX8_sum_1 : decode cX8_sum 1 = .ok (.getfield 12, 3) := by decide +kernel
theorem dX8_sum_4 : decode cX8_sum 4 = .ok (.iload_n 1, 1) := by decide +kernel
theorem dX8_sum_5 : decode cX8_sum 5 = .ok (.invokevirtual 149, 3) := by decide +kernel
theorem dX8_sum_8 : decode cX8_sum 8 = .ok (.astore 4, 2) := by decide +kernel
theorem dX8_sum_10 : decode cX8_sum 10 = .ok (.aload_n 0, 1) := by decide +kernel
theorem dX8_sum_11 : decode cX8_sum 11 = .ok (.getfield 12, 3) := by decide +kernel
theorem dX8_sum_14 : decode cX8_sum 14 = .ok (.iload_n 2, 1) := by decide +kernel
theorem dX8_sum_15 : decode cX8_sum 15 = .ok (.invokevirtual 93, 3) := by decide +kernel
theorem dX8_sum_18 : decode cX8_sum 18 = .ok (.astore 5, 2) := by decide +kernel
theorem dX8_sum_20 : decode cX8_sum 20 = .ok (.aload 4, 2) := by decide +kernel
theorem dX8_sum_22 : decode cX8_sum 22 = .ok (.ifnull 8, 3) := by decide +kernel
theorem dX8_sum_25 : decode cX8_sum 25 = .ok (.aload 5, 2) := by decide +kernel
theorem dX8_sum_27 : decode cX8_sum 27 = .ok (.ifnonnull 5, 3) := by decide +kernel
theorem dX8_sum_30 : decode cX8_sum 30 = .ok (.iconst (-1), 1) := by decide +kernel
theorem dX8_sum_31 : decode cX8_sum 31 = .ok (.ireturn, 1) := by decide +kernel
theorem dX8_sum_32 : decode cX8_sum 32 = .ok (.aload_n 0, 1) := by decide +kernel
theorem dX8_sum_33 : decode cX8_sum 33 = .ok (.getfield 66, 3) := by decide +kernel
theorem dX8_sum_36 : decode cX8_sum 36 = .ok (.aload 4, 2) := by decide +kernel
theorem dX8_sum_38 : decode cX8_sum 38 = .ok (.aload 5, 2) := by decide +kernel
theorem dX8_sum_40 : decode cX8_sum 40 = .ok (.invokevirtual 208, 3) := by decide +kernel
theorem dX8_sum_43 : decode cX8_sum 43 = .ok (.aload_n 0, 1) := by decide +kernel
theorem dX8_sum_44 : decode cX8_sum 44 = .ok (.getfield 66, 3) := by decide +kernel
theorem dX8_sum_47 : decode cX8_sum 47 = .ok (.iload_n 3, 1) := by decide +kernel
theorem dX8_sum_48 : decode cX8_sum 48 = .ok (.invokevirtual 211, 3) := by decide +kernel
theorem dX8_sum_51 : decode cX8_sum 51 = .ok (.ifCond .eq 15, 3) := by decide +kernel
theorem dX8_sum_54 : decode cX8_sum 54 = .ok (.aload_n 0, 1) := by decide +kernel
theorem dX8_sum_55 : decode cX8_sum 55 = .ok (.getfield 66, 3) := by decide +kernel
theorem dX8_sum_58 : decode cX8_sum 58 = .ok (.getfield 214, 3) := by decide +kernel
theorem dX8_sum_61 : decode cX8_sum 61 = .ok (.iload_n 3, 1) := by decide +kernel
theorem dX8_sum_62 : decode cX8_sum 62 = .ok (.iaload, 1) := by decide +kernel
theorem dX8_sum_63 : decode cX8_sum 63 = .ok (.goto 4, 3) := by decide +kernel
theorem dX8_sum_66 : decode cX8_sum 66 = .ok (.iconst (-1), 1) := by decide +kernel
theorem dX8_sum_67 : decode cX8_sum 67 = .ok (.ireturn, 1) := by decide +kernel
set_option maxRecDepth 100000 in
set_option maxHeartbeats 4000000 in
theorem kb_X8_sum_0 {x1 : Int32} {x2 : Int32} {x3 : Int32} {w : WX} {out : Int32 × WX} {H : Heap} {locs : List Loc} {ls : Array Slot} (C : CX p s m args meth c cX8_sum 6 RX8 wc_X8_sum (some .int))  (hG : Gd s G A 153 B (entX G B w) X H locs) (hl : lv_has ls 6 [(0, .ref (B + 0)), (1, .int x1), (2, .int x2), (3, .int x3)]) (hf : sh_X8_sum x1 x2 x3 w = some out) :
    W p l e rm_X8_sum s m args below meth c H locs 0 0 (MQ below (CPost G A 153 B (entX G B out.2) X (some (.int out.1))) args s 0 0 A) (F0 m 0 ls []) := by
  refine lv_aload_n C.1 C.2.1 dX8_sum_0 rfl (lv_at hl 0 rfl) ?_
  refine gf_X8_12 C hG rfl dX8_sum_1 ?_
  refine lv_iload_n C.1 C.2.1 dX8_sum_4 rfl (lv_at hl 1 rfl) ?_
  obtain ⟨v1, hv1, hf⟩ := of_bind hf
  refine r_callV1 C hG hl.1 (c0 := 1) (As := [.int x1]) (by decide) (entX_O4 (n := 4) rfl) rfl (mt_X4_surfaceAt l rfl hv1) (cwV 1 C.2.2.2.2.1 (gd_V tg_2_195 tg_2_196 tg_2_197 tg_1_2 tg_2_198) rfl rfl rfl cd_X4_surfaceAt ⟨Nat.le_of_ble_eq_true rfl, Nat.le_of_ble_eq_true rfl⟩) rfl rfl (Nat.le_of_ble_eq_true rfl) dX8_sum_5 (fun H locs hG => ?_)
  rcases of_ite hf with ⟨c2, hf⟩ | ⟨c2, hf⟩
  · refine r_rvN c2 ?_
    refine lv_astoreN (lv' := [(4, .null), (0, .ref (B + 0)), (1, .int x1), (2, .int x2), (3, .int x3)]) C.1 C.2.1 dX8_sum_8 hl (by decide) rfl (fun ls hl => ?_)
    refine lv_aload_n C.1 C.2.1 dX8_sum_10 rfl (lv_at hl 1 rfl) ?_
    refine gf_X8_12 C hG rfl dX8_sum_11 ?_
    refine lv_iload_n C.1 C.2.1 dX8_sum_14 rfl (lv_at hl 3 rfl) ?_
    obtain ⟨v4, hv4, hf⟩ := of_bind hf
    refine r_callV1 C hG hl.1 (c0 := 1) (As := [.int x2]) (by decide) (entX_O4 (n := 4) rfl) rfl (mt_X4_algebraAt l rfl hv4) (cwV 1 C.2.2.2.2.1 (gd_V tg_2_119 tg_2_120 tg_2_121 tg_1_2 tg_2_122) rfl rfl rfl cd_X4_algebraAt ⟨Nat.le_of_ble_eq_true rfl, Nat.le_of_ble_eq_true rfl⟩) rfl rfl (Nat.le_of_ble_eq_true rfl) dX8_sum_15 (fun H locs hG => ?_)
    rcases of_ite hf with ⟨c5, hf⟩ | ⟨c5, hf⟩
    · refine r_rvN c5 ?_
      refine lv_astoreN (lv' := [(5, .null), (4, .null), (0, .ref (B + 0)), (1, .int x1), (2, .int x2), (3, .int x3)]) C.1 C.2.1 dX8_sum_18 hl (by decide) rfl (fun ls hl => ?_)
      refine lv_aloadN C.1 C.2.1 dX8_sum_20 (lv_at hl 1 rfl) ?_
      refine lv_ifnullN (tgt := 30) C.1 C.2.1 dX8_sum_22 (by decide) ?_
      refine lv_iconst (v := (-1 : Int32)) C.1 C.2.1 dX8_sum_30 (by decide) ?_
      obtain rfl := Option.some.inj hf
      exact r_iret C hG dX8_sum_31
    · refine r_rvR c5 ?_
      obtain ⟨c6, hf⟩ := of_grd hf
      refine lv_astore (lv' := [(5, .ref (B + v4)), (4, .null), (0, .ref (B + 0)), (1, .int x1), (2, .int x2), (3, .int x3)]) C.1 C.2.1 dX8_sum_18 hl (by decide) rfl (fun ls hl => ?_)
      refine lv_aloadN C.1 C.2.1 dX8_sum_20 (lv_at hl 1 rfl) ?_
      refine lv_ifnullN (tgt := 30) C.1 C.2.1 dX8_sum_22 (by decide) ?_
      refine lv_iconst (v := (-1 : Int32)) C.1 C.2.1 dX8_sum_30 (by decide) ?_
      obtain rfl := Option.some.inj hf
      exact r_iret C hG dX8_sum_31
  · refine r_rvR c2 ?_
    obtain ⟨c3, hf⟩ := of_grd hf
    refine lv_astore (lv' := [(4, .ref (B + v1)), (0, .ref (B + 0)), (1, .int x1), (2, .int x2), (3, .int x3)]) C.1 C.2.1 dX8_sum_8 hl (by decide) rfl (fun ls hl => ?_)
    refine lv_aload_n C.1 C.2.1 dX8_sum_10 rfl (lv_at hl 1 rfl) ?_
    refine gf_X8_12 C hG rfl dX8_sum_11 ?_
    refine lv_iload_n C.1 C.2.1 dX8_sum_14 rfl (lv_at hl 3 rfl) ?_
    obtain ⟨v7, hv7, hf⟩ := of_bind hf
    refine r_callV1 C hG hl.1 (c0 := 1) (As := [.int x2]) (by decide) (entX_O4 (n := 4) rfl) rfl (mt_X4_algebraAt l rfl hv7) (cwV 1 C.2.2.2.2.1 (gd_V tg_2_119 tg_2_120 tg_2_121 tg_1_2 tg_2_122) rfl rfl rfl cd_X4_algebraAt ⟨Nat.le_of_ble_eq_true rfl, Nat.le_of_ble_eq_true rfl⟩) rfl rfl (Nat.le_of_ble_eq_true rfl) dX8_sum_15 (fun H locs hG => ?_)
    rcases of_ite hf with ⟨c8, hf⟩ | ⟨c8, hf⟩
    · refine r_rvN c8 ?_
      refine lv_astoreN (lv' := [(5, .null), (4, .ref (B + v1)), (0, .ref (B + 0)), (1, .int x1), (2, .int x2), (3, .int x3)]) C.1 C.2.1 dX8_sum_18 hl (by decide) rfl (fun ls hl => ?_)
      refine lv_aload C.1 C.2.1 dX8_sum_20 (lv_at hl 1 rfl) ?_
      refine lv_ifnull C.1 C.2.1 dX8_sum_22 ?_
      refine lv_aloadN C.1 C.2.1 dX8_sum_25 (lv_at hl 0 rfl) ?_
      refine lv_ifnonnullN C.1 C.2.1 dX8_sum_27 ?_
      refine lv_iconst (v := (-1 : Int32)) C.1 C.2.1 dX8_sum_30 (by decide) ?_
      obtain rfl := Option.some.inj hf
      exact r_iret C hG dX8_sum_31
    · refine r_rvR c8 ?_
      obtain ⟨c9, hf⟩ := of_grd hf
      refine lv_astore (lv' := [(5, .ref (B + v7)), (4, .ref (B + v1)), (0, .ref (B + 0)), (1, .int x1), (2, .int x2), (3, .int x3)]) C.1 C.2.1 dX8_sum_18 hl (by decide) rfl (fun ls hl => ?_)
      refine lv_aload C.1 C.2.1 dX8_sum_20 (lv_at hl 1 rfl) ?_
      refine lv_ifnull C.1 C.2.1 dX8_sum_22 ?_
      refine lv_aload C.1 C.2.1 dX8_sum_25 (lv_at hl 0 rfl) ?_
      refine lv_ifnonnull (tgt := 32) C.1 C.2.1 dX8_sum_27 (by decide) ?_
      refine lv_aload_n C.1 C.2.1 dX8_sum_32 rfl (lv_at hl 2 rfl) ?_
      refine gf_X8_66 C hG rfl dX8_sum_33 ?_
      refine lv_aload C.1 C.2.1 dX8_sum_36 (lv_at hl 1 rfl) ?_
      refine lv_aload C.1 C.2.1 dX8_sum_38 (lv_at hl 0 rfl) ?_
      obtain ⟨w10, hw10, hf⟩ := of_bind hf
      refine r_callV0 C hG hl.1 (c0 := 145) (As := [.ref (B + v1), .ref (B + v7)]) (by decide) (entX_O5 (n := 5) rfl) rfl (mt_X5_find l rfl c3 c9 hw10) (cwV 2 C.2.2.2.2.1 (gd_V tg_3_95 tg_3_96 tg_3_97 tg_1_9 tg_3_98) rfl rfl rfl cd_X5_find ⟨Nat.le_of_ble_eq_true rfl, Nat.le_of_ble_eq_true rfl⟩) rfl rfl (Nat.le_of_ble_eq_true rfl) dX8_sum_40 (fun H locs hG => ?_)
      refine lv_aload_n C.1 C.2.1 dX8_sum_43 rfl (lv_at hl 2 rfl) ?_
      refine gf_X8_66 C hG rfl dX8_sum_44 ?_
      refine lv_iload_n C.1 C.2.1 dX8_sum_47 rfl (lv_at hl 5 rfl) ?_
      obtain ⟨v11, hv11, hf⟩ := of_bind hf
      refine r_callV1 C hG hl.1 (c0 := 145) (As := [.int x3]) (by decide) (entX_O5 (n := 5) rfl) rfl (mt_X5_hasPlace l rfl hv11) (cwV 1 C.2.2.2.2.1 (gd_V tg_3_144 tg_3_145 tg_3_146 tg_1_9 tg_3_147) rfl rfl rfl cd_X5_hasPlace ⟨Nat.le_of_ble_eq_true rfl, Nat.le_of_ble_eq_true rfl⟩) rfl rfl (Nat.le_of_ble_eq_true rfl) dX8_sum_48 (fun H locs hG => ?_)
      rcases of_ite hf with ⟨c12, hf⟩ | ⟨c12, hf⟩
      · refine lv_if_eq (tgt := 66) C.1 C.2.1 dX8_sum_51 (by decide) (fun _ => ?_) (fun q => absurd c12 q)
        refine lv_iconst (v := (-1 : Int32)) C.1 C.2.1 dX8_sum_66 (by decide) ?_
        obtain rfl := Option.some.inj hf
        exact r_iret C hG dX8_sum_67
      · refine lv_if_eq (tgt := 66) C.1 C.2.1 dX8_sum_51 (by decide) (fun q => absurd q c12) (fun _ => ?_)
        refine lv_aload_n C.1 C.2.1 dX8_sum_54 rfl (lv_at hl 2 rfl) ?_
        refine gf_X8_66 C hG rfl dX8_sum_55 ?_
        refine gf_X8_214 C hG rfl dX8_sum_58 ?_
        refine lv_iload_n C.1 C.2.1 dX8_sum_61 rfl (lv_at hl 5 rfl) ?_
        obtain ⟨v13, hv13, hf⟩ := of_bind hf
        obtain ⟨kv13, bv13, ev13⟩ := of_ldD hv13
        refine r_iald C hG (c0 := w10.2 145 0) (kdx_lt (kd_eta kv13) (by decide)) (entX_I (kd_eta kv13)) bv13 dX8_sum_62 ?_
        refine r_top ev13 ?_
        refine lv_goto (tgt := 67) C.1 C.2.1 dX8_sum_63 (by decide) ?_
        obtain rfl := Option.some.inj hf
        exact r_iret C hG dX8_sum_67
set_option maxRecDepth 100000 in
set_option maxHeartbeats 4000000 in
theorem mt_X8_sum (l : Launch) {G : GG} {A : Nat → Prop} {B : Nat} {X : va_W} {x1 : Int32} {x2 : Int32} {x3 : Int32} {w : WX} {out : Int32 × WX}  (hf : sh_X8_sum x1 x2 x3 w = some out) : MetW l yX8_sum wc_X8_sum rm_X8_sum G A 153 B (entX G B w) X [.ref (B + 0), .int x1, .int x2, .int x3] (some (.int out.1)) (entX G B out.2) := by
  refine Met.ofW (cc := cX8_sum) (maxL := 6) (ret := (some .int)) (by decide) rfl ?_
  intro p e s m args below meth c s₁ B0 hml hv
  obtain ⟨rfl, hEv, hWd⟩ := hv
  have C : CX p s m _ meth c cX8_sum 6 RX8 wc_X8_sum (some .int) := ⟨B0.exec, B0.bytes, hml, findClass_of_methodNamed B0.named, atoms_spec (ws := wc_X8_sum) B0.pre, B0.returns, B0.notSynchronized⟩
  have hl := lv_entry [.ref (B + 0), .int x1, .int x2, .int x3] (n := 6) (Nat.le_of_ble_eq_true rfl)
  rw [lg_entry_eq]
  generalize (lg_sl [.ref (B + 0), .int x1, .int x2, .int x3] ++ List.replicate (6 - (lg_sl [.ref (B + 0), .int x1, .int x2, .int x3]).length) Slot.unset).toArray = ls at hl ⊢
  have hl : lv_has ls 6 [(0, .ref (B + 0)), (1, .int x1), (2, .int x2), (3, .int x3)] := hl
  exact kb_X8_sum_0 C  ⟨hEv, hWd, va_S.rf⟩ hl hf
abbrev wc_X8_total : List Cond := Cond.code yX8_total cX8_total 6 (some .int) :: TG
abbrev rm_X8_total : Room := { frames := 7, cells := 0, slots := 0, locals := 221 }
theorem cd_X8_total : yX8_total.cls = RX8 ∧ yX8_total.cls ≠ "java/lang/invoke/MethodHandle" ∧ yX8_total.cls ≠ "java/lang/invoke/VarHandle" ∧ (parseMethodDescriptor yX8_total.desc).map (fun d => d.parameters.length) = some 3 := by decide +kernel
theorem dX8_total_0 : decode cX8_total 0 = .ok (.aload_n 0, 1) := by decide +kernel
theorem dX8_total_1 : decode cX8_total 1 = .ok (.getfield 12, 3) := by decide +kernel
theorem dX8_total_4 : decode cX8_total 4 = .ok (.iload_n 1, 1) := by decide +kernel
theorem dX8_total_5 : decode cX8_total 5 = .ok (.invokevirtual 149, 3) := by decide +kernel
theorem dX8_total_8 : decode cX8_total 8 = .ok (.astore 4, 2) := by decide +kernel
theorem dX8_total_10 : decode cX8_total 10 = .ok (.aload_n 0, 1) := by decide +kernel
theorem dX8_total_11 : decode cX8_total 11 = .ok (.getfield 12, 3) := by decide +kernel
theorem dX8_total_14 : decode cX8_total 14 = .ok (.iload_n 2, 1) := by decide +kernel
theorem dX8_total_15 : decode cX8_total 15 = .ok (.invokevirtual 93, 3) := by decide +kernel
theorem dX8_total_18 : decode cX8_total 18 = .ok (.astore 5, 2) := by decide +kernel
theorem dX8_total_20 : decode cX8_total 20 = .ok (.aload 4, 2) := by decide +kernel
theorem dX8_total_22 : decode cX8_total 22 = .ok (.ifnull 8, 3) := by decide +kernel
theorem dX8_total_25 : decode cX8_total 25 = .ok (.aload 5, 2) := by decide +kernel
theorem dX8_total_27 : decode cX8_total 27 = .ok (.ifnonnull 5, 3) := by decide +kernel
theorem dX8_total_30 : decode cX8_total 30 = .ok (.iconst (-1), 1) := by decide +kernel
theorem dX8_total_31 : decode cX8_total 31 = .ok (.ireturn, 1) := by decide +kernel
theorem dX8_total_32 : decode cX8_total 32 = .ok (.aload_n 0, 1) := by decide +kernel
theorem dX8_total_33 : decode cX8_total 33 = .ok (.getfield 66, 3) := by decide +kernel
theorem dX8_total_36 : decode cX8_total 36 = .ok (.aload 4, 2) := by decide +kernel
theorem dX8_total_38 : decode cX8_total 38 = .ok (.aload 5, 2) := by decide +kernel
theorem dX8_total_40 : decode cX8_total 40 = .ok (.invokevirtual 208, 3) := by decide +kernel
theorem dX8_total_43 : decode cX8_total 43 = .ok (.iload_n 3, 1) := by decide +kernel
theorem dX8_total_44 : decode cX8_total 44 = .ok (.tableswitch 64 0 3 #[32, 40, 48, 56], 32) := by decide +kernel
theorem dX8_total_76 : decode cX8_total 76 = .ok (.aload_n 0, 1) := by decide +kernel
theorem dX8_total_77 : decode cX8_total 77 = .ok (.getfield 66, 3) := by decide +kernel
theorem dX8_total_80 : decode cX8_total 80 = .ok (.invokevirtual 217, 3) := by decide +kernel
theorem dX8_total_83 : decode cX8_total 83 = .ok (.ireturn, 1) := by decide +kernel
theorem dX8_total_84 : decode cX8_total 84 = .ok (.aload_n 0, 1) := by decide +kernel
theorem dX8_total_85 : decode cX8_total 85 = .ok (.getfield 66, 3) := by decide +kernel
theorem dX8_total_88 : decode cX8_total 88 = .ok (.invokevirtual 220, 3) := by decide +kernel
theorem dX8_total_91 : decode cX8_total 91 = .ok (.ireturn, 1) := by decide +kernel
theorem dX8_total_92 : decode cX8_total 92 = .ok (.aload_n 0, 1) := by decide +kernel
theorem dX8_total_93 : decode cX8_total 93 = .ok (.getfield 66, 3) := by decide +kernel
theorem dX8_total_96 : decode cX8_total 96 = .ok (.invokevirtual 223, 3) := by decide +kernel
theorem dX8_total_99 : decode cX8_total 99 = .ok (.ireturn, 1) := by decide +kernel
theorem dX8_total_100 : decode cX8_total 100 = .ok (.aload_n 0, 1) := by decide +kernel
theorem dX8_total_101 : decode cX8_total 101 = .ok (.getfield 66, 3) := by decide +kernel
theorem dX8_total_104 : decode cX8_total 104 = .ok (.invokevirtual 226, 3) := by decide +kernel
theorem dX8_total_107 : decode cX8_total 107 = .ok (.ireturn, 1) := by decide +kernel
theorem dX8_total_108 : decode cX8_total 108 = .ok (.iconst (-1), 1) := by decide +kernel
theorem dX8_total_109 : decode cX8_total 109 = .ok (.ireturn, 1) := by decide +kernel
set_option maxRecDepth 100000 in
set_option maxHeartbeats 4000000 in
theorem kb_X8_total_0 {x1 : Int32} {x2 : Int32} {x3 : Int32} {w : WX} {out : Int32 × WX} {H : Heap} {locs : List Loc} {ls : Array Slot} (C : CX p s m args meth c cX8_total 6 RX8 wc_X8_total (some .int))  (hG : Gd s G A 153 B (entX G B w) X H locs) (hl : lv_has ls 6 [(0, .ref (B + 0)), (1, .int x1), (2, .int x2), (3, .int x3)]) (hf : sh_X8_total x1 x2 x3 w = some out) :
    W p l e rm_X8_total s m args below meth c H locs 0 0 (MQ below (CPost G A 153 B (entX G B out.2) X (some (.int out.1))) args s 0 0 A) (F0 m 0 ls []) := by
  refine lv_aload_n C.1 C.2.1 dX8_total_0 rfl (lv_at hl 0 rfl) ?_
  refine gf_X8_12 C hG rfl dX8_total_1 ?_
  refine lv_iload_n C.1 C.2.1 dX8_total_4 rfl (lv_at hl 1 rfl) ?_
  obtain ⟨v1, hv1, hf⟩ := of_bind hf
  refine r_callV1 C hG hl.1 (c0 := 1) (As := [.int x1]) (by decide) (entX_O4 (n := 4) rfl) rfl (mt_X4_surfaceAt l rfl hv1) (cwV 1 C.2.2.2.2.1 (gd_V tg_2_195 tg_2_196 tg_2_197 tg_1_2 tg_2_198) rfl rfl rfl cd_X4_surfaceAt ⟨Nat.le_of_ble_eq_true rfl, Nat.le_of_ble_eq_true rfl⟩) rfl rfl (Nat.le_of_ble_eq_true rfl) dX8_total_5 (fun H locs hG => ?_)
  rcases of_ite hf with ⟨c2, hf⟩ | ⟨c2, hf⟩
  · refine r_rvN c2 ?_
    refine lv_astoreN (lv' := [(4, .null), (0, .ref (B + 0)), (1, .int x1), (2, .int x2), (3, .int x3)]) C.1 C.2.1 dX8_total_8 hl (by decide) rfl (fun ls hl => ?_)
    refine lv_aload_n C.1 C.2.1 dX8_total_10 rfl (lv_at hl 1 rfl) ?_
    refine gf_X8_12 C hG rfl dX8_total_11 ?_
    refine lv_iload_n C.1 C.2.1 dX8_total_14 rfl (lv_at hl 3 rfl) ?_
    obtain ⟨v4, hv4, hf⟩ := of_bind hf
    refine r_callV1 C hG hl.1 (c0 := 1) (As := [.int x2]) (by decide) (entX_O4 (n := 4) rfl) rfl (mt_X4_algebraAt l rfl hv4) (cwV 1 C.2.2.2.2.1 (gd_V tg_2_119 tg_2_120 tg_2_121 tg_1_2 tg_2_122) rfl rfl rfl cd_X4_algebraAt ⟨Nat.le_of_ble_eq_true rfl, Nat.le_of_ble_eq_true rfl⟩) rfl rfl (Nat.le_of_ble_eq_true rfl) dX8_total_15 (fun H locs hG => ?_)
    rcases of_ite hf with ⟨c5, hf⟩ | ⟨c5, hf⟩
    · refine r_rvN c5 ?_
      refine lv_astoreN (lv' := [(5, .null), (4, .null), (0, .ref (B + 0)), (1, .int x1), (2, .int x2), (3, .int x3)]) C.1 C.2.1 dX8_total_18 hl (by decide) rfl (fun ls hl => ?_)
      refine lv_aloadN C.1 C.2.1 dX8_total_20 (lv_at hl 1 rfl) ?_
      refine lv_ifnullN (tgt := 30) C.1 C.2.1 dX8_total_22 (by decide) ?_
      refine lv_iconst (v := (-1 : Int32)) C.1 C.2.1 dX8_total_30 (by decide) ?_
      obtain rfl := Option.some.inj hf
      exact r_iret C hG dX8_total_31
    · refine r_rvR c5 ?_
      obtain ⟨c6, hf⟩ := of_grd hf
      refine lv_astore (lv' := [(5, .ref (B + v4)), (4, .null), (0, .ref (B + 0)), (1, .int x1), (2, .int x2), (3, .int x3)]) C.1 C.2.1 dX8_total_18 hl (by decide) rfl (fun ls hl => ?_)
      refine lv_aloadN C.1 C.2.1 dX8_total_20 (lv_at hl 1 rfl) ?_
      refine lv_ifnullN (tgt := 30) C.1 C.2.1 dX8_total_22 (by decide) ?_
      refine lv_iconst (v := (-1 : Int32)) C.1 C.2.1 dX8_total_30 (by decide) ?_
      obtain rfl := Option.some.inj hf
      exact r_iret C hG dX8_total_31
  · refine r_rvR c2 ?_
    obtain ⟨c3, hf⟩ := of_grd hf
    refine lv_astore (lv' := [(4, .ref (B + v1)), (0, .ref (B + 0)), (1, .int x1), (2, .int x2), (3, .int x3)]) C.1 C.2.1 dX8_total_8 hl (by decide) rfl (fun ls hl => ?_)
    refine lv_aload_n C.1 C.2.1 dX8_total_10 rfl (lv_at hl 1 rfl) ?_
    refine gf_X8_12 C hG rfl dX8_total_11 ?_
    refine lv_iload_n C.1 C.2.1 dX8_total_14 rfl (lv_at hl 3 rfl) ?_
    obtain ⟨v7, hv7, hf⟩ := of_bind hf
    refine r_callV1 C hG hl.1 (c0 := 1) (As := [.int x2]) (by decide) (entX_O4 (n := 4) rfl) rfl (mt_X4_algebraAt l rfl hv7) (cwV 1 C.2.2.2.2.1 (gd_V tg_2_119 tg_2_120 tg_2_121 tg_1_2 tg_2_122) rfl rfl rfl cd_X4_algebraAt ⟨Nat.le_of_ble_eq_true rfl, Nat.le_of_ble_eq_true rfl⟩) rfl rfl (Nat.le_of_ble_eq_true rfl) dX8_total_15 (fun H locs hG => ?_)
    rcases of_ite hf with ⟨c8, hf⟩ | ⟨c8, hf⟩
    · refine r_rvN c8 ?_
      refine lv_astoreN (lv' := [(5, .null), (4, .ref (B + v1)), (0, .ref (B + 0)), (1, .int x1), (2, .int x2), (3, .int x3)]) C.1 C.2.1 dX8_total_18 hl (by decide) rfl (fun ls hl => ?_)
      refine lv_aload C.1 C.2.1 dX8_total_20 (lv_at hl 1 rfl) ?_
      refine lv_ifnull C.1 C.2.1 dX8_total_22 ?_
      refine lv_aloadN C.1 C.2.1 dX8_total_25 (lv_at hl 0 rfl) ?_
      refine lv_ifnonnullN C.1 C.2.1 dX8_total_27 ?_
      refine lv_iconst (v := (-1 : Int32)) C.1 C.2.1 dX8_total_30 (by decide) ?_
      obtain rfl := Option.some.inj hf
      exact r_iret C hG dX8_total_31
    · refine r_rvR c8 ?_
      obtain ⟨c9, hf⟩ := of_grd hf
      refine lv_astore (lv' := [(5, .ref (B + v7)), (4, .ref (B + v1)), (0, .ref (B + 0)), (1, .int x1), (2, .int x2), (3, .int x3)]) C.1 C.2.1 dX8_total_18 hl (by decide) rfl (fun ls hl => ?_)
      refine lv_aload C.1 C.2.1 dX8_total_20 (lv_at hl 1 rfl) ?_
      refine lv_ifnull C.1 C.2.1 dX8_total_22 ?_
      refine lv_aload C.1 C.2.1 dX8_total_25 (lv_at hl 0 rfl) ?_
      refine lv_ifnonnull (tgt := 32) C.1 C.2.1 dX8_total_27 (by decide) ?_
      refine lv_aload_n C.1 C.2.1 dX8_total_32 rfl (lv_at hl 2 rfl) ?_
      refine gf_X8_66 C hG rfl dX8_total_33 ?_
      refine lv_aload C.1 C.2.1 dX8_total_36 (lv_at hl 1 rfl) ?_
      refine lv_aload C.1 C.2.1 dX8_total_38 (lv_at hl 0 rfl) ?_
      obtain ⟨w10, hw10, hf⟩ := of_bind hf
      refine r_callV0 C hG hl.1 (c0 := 145) (As := [.ref (B + v1), .ref (B + v7)]) (by decide) (entX_O5 (n := 5) rfl) rfl (mt_X5_find l rfl c3 c9 hw10) (cwV 2 C.2.2.2.2.1 (gd_V tg_3_95 tg_3_96 tg_3_97 tg_1_9 tg_3_98) rfl rfl rfl cd_X5_find ⟨Nat.le_of_ble_eq_true rfl, Nat.le_of_ble_eq_true rfl⟩) rfl rfl (Nat.le_of_ble_eq_true rfl) dX8_total_40 (fun H locs hG => ?_)
      refine lv_iload_n C.1 C.2.1 dX8_total_43 rfl (lv_at hl 5 rfl) ?_
      rcases of_ite hf with ⟨c11, hf⟩ | ⟨c11, hf⟩
      · refine lv_tableIn (tgt := 76) (off := 32) C.1 C.2.1 dX8_total_44 (by rw [c11]; decide) (by rw [c11]; decide) (by rw [c11]; rfl) (by decide) ?_
        refine lv_aload_n C.1 C.2.1 dX8_total_76 rfl (lv_at hl 2 rfl) ?_
        refine gf_X8_66 C hG rfl dX8_total_77 ?_
        obtain ⟨v12, hv12, hf⟩ := of_bind hf
        refine r_callV1 C hG hl.1 (c0 := 145) (As := []) (by decide) (entX_O5 (n := 5) rfl) rfl (mt_X5_places l rfl hv12) (cwV 0 C.2.2.2.2.1 (gd_V tg_3_156 tg_3_149 tg_3_150 tg_1_9 tg_3_151) rfl rfl rfl cd_X5_places ⟨Nat.le_of_ble_eq_true rfl, Nat.le_of_ble_eq_true rfl⟩) rfl rfl (Nat.le_of_ble_eq_true rfl) dX8_total_80 (fun H locs hG => ?_)
        obtain rfl := Option.some.inj hf
        exact r_iret C hG dX8_total_83
      · skip
        rcases of_ite hf with ⟨c13, hf⟩ | ⟨c13, hf⟩
        · refine lv_tableIn (tgt := 84) (off := 40) C.1 C.2.1 dX8_total_44 (by rw [c13]; decide) (by rw [c13]; decide) (by rw [c13]; rfl) (by decide) ?_
          refine lv_aload_n C.1 C.2.1 dX8_total_84 rfl (lv_at hl 2 rfl) ?_
          refine gf_X8_66 C hG rfl dX8_total_85 ?_
          obtain ⟨v14, hv14, hf⟩ := of_bind hf
          refine r_callV1 C hG hl.1 (c0 := 145) (As := []) (by decide) (entX_O5 (n := 5) rfl) rfl (mt_X5_notZero l rfl hv14) (cwV 0 C.2.2.2.2.1 (gd_V tg_3_157 tg_3_158 tg_3_159 tg_1_9 tg_3_160) rfl rfl rfl cd_X5_notZero ⟨Nat.le_of_ble_eq_true rfl, Nat.le_of_ble_eq_true rfl⟩) rfl rfl (Nat.le_of_ble_eq_true rfl) dX8_total_88 (fun H locs hG => ?_)
          obtain rfl := Option.some.inj hf
          exact r_iret C hG dX8_total_91
        · skip
          rcases of_ite hf with ⟨c15, hf⟩ | ⟨c15, hf⟩
          · refine lv_tableIn (tgt := 92) (off := 48) C.1 C.2.1 dX8_total_44 (by rw [c15]; decide) (by rw [c15]; decide) (by rw [c15]; rfl) (by decide) ?_
            refine lv_aload_n C.1 C.2.1 dX8_total_92 rfl (lv_at hl 2 rfl) ?_
            refine gf_X8_66 C hG rfl dX8_total_93 ?_
            obtain ⟨v16, hv16, hf⟩ := of_bind hf
            refine r_callV1 C hG hl.1 (c0 := 145) (As := []) (by decide) (entX_O5 (n := 5) rfl) rfl (mt_X5_firstNotZero l rfl hv16) (cwV 0 C.2.2.2.2.1 (gd_V tg_3_161 tg_3_162 tg_3_163 tg_1_9 tg_3_164) rfl rfl rfl cd_X5_firstNotZero ⟨Nat.le_of_ble_eq_true rfl, Nat.le_of_ble_eq_true rfl⟩) rfl rfl (Nat.le_of_ble_eq_true rfl) dX8_total_96 (fun H locs hG => ?_)
            obtain rfl := Option.some.inj hf
            exact r_iret C hG dX8_total_99
          · skip
            rcases of_ite hf with ⟨c17, hf⟩ | ⟨c17, hf⟩
            · refine lv_tableIn (tgt := 100) (off := 56) C.1 C.2.1 dX8_total_44 (by rw [c17]; decide) (by rw [c17]; decide) (by rw [c17]; rfl) (by decide) ?_
              refine lv_aload_n C.1 C.2.1 dX8_total_100 rfl (lv_at hl 2 rfl) ?_
              refine gf_X8_66 C hG rfl dX8_total_101 ?_
              obtain ⟨v18, hv18, hf⟩ := of_bind hf
              refine r_callV1 C hG hl.1 (c0 := 145) (As := []) (by decide) (entX_O5 (n := 5) rfl) rfl (mt_X5_together l rfl hv18) (cwV 0 C.2.2.2.2.1 (gd_V tg_3_165 tg_3_166 tg_3_167 tg_1_9 tg_3_168) rfl rfl rfl cd_X5_together ⟨Nat.le_of_ble_eq_true rfl, Nat.le_of_ble_eq_true rfl⟩) rfl rfl (Nat.le_of_ble_eq_true rfl) dX8_total_104 (fun H locs hG => ?_)
              obtain rfl := Option.some.inj hf
              exact r_iret C hG dX8_total_107
            · skip
              refine lv_tableOut (tgt := 108) C.1 C.2.1 dX8_total_44 (sw_out (n := 4) (by decide) (lt_s (lt_s (lt_s (lt_s lt_0 c11) c13) c15) c17)) (by decide) ?_
              refine lv_iconst (v := (-1 : Int32)) C.1 C.2.1 dX8_total_108 (by decide) ?_
              obtain rfl := Option.some.inj hf
              exact r_iret C hG dX8_total_109
set_option maxRecDepth 100000 in
set_option maxHeartbeats 4000000 in
theorem mt_X8_total (l : Launch) {G : GG} {A : Nat → Prop} {B : Nat} {X : va_W} {x1 : Int32} {x2 : Int32} {x3 : Int32} {w : WX} {out : Int32 × WX}  (hf : sh_X8_total x1 x2 x3 w = some out) : MetW l yX8_total wc_X8_total rm_X8_total G A 153 B (entX G B w) X [.ref (B + 0), .int x1, .int x2, .int x3] (some (.int out.1)) (entX G B out.2) := by
  refine Met.ofW (cc := cX8_total) (maxL := 6) (ret := (some .int)) (by decide) rfl ?_
  intro p e s m args below meth c s₁ B0 hml hv
  obtain ⟨rfl, hEv, hWd⟩ := hv
  have C : CX p s m _ meth c cX8_total 6 RX8 wc_X8_total (some .int) := ⟨B0.exec, B0.bytes, hml, findClass_of_methodNamed B0.named, atoms_spec (ws := wc_X8_total) B0.pre, B0.returns, B0.notSynchronized⟩
  have hl := lv_entry [.ref (B + 0), .int x1, .int x2, .int x3] (n := 6) (Nat.le_of_ble_eq_true rfl)
  rw [lg_entry_eq]
  generalize (lg_sl [.ref (B + 0), .int x1, .int x2, .int x3] ++ List.replicate (6 - (lg_sl [.ref (B + 0), .int x1, .int x2, .int x3]).length) Slot.unset).toArray = ls at hl ⊢
  have hl : lv_has ls 6 [(0, .ref (B + 0)), (1, .int x1), (2, .int x2), (3, .int x3)] := hl
  exact kb_X8_total_0 C  ⟨hEv, hWd, va_S.rf⟩ hl hf
abbrev wc_X8_alike : List Cond := Cond.code yX8_alike cX8_alike 7 (some .int) :: TG
abbrev rm_X8_alike : Room := { frames := 7, cells := 0, slots := 0, locals := 221 }
theorem cd_X8_alike : yX8_alike.cls = RX8 ∧ yX8_alike.cls ≠ "java/lang/invoke/MethodHandle" ∧ yX8_alike.cls ≠ "java/lang/invoke/VarHandle" ∧ (parseMethodDescriptor yX8_alike.desc).map (fun d => d.parameters.length) = some 3 := by decide +kernel
theorem dX8_alike_0 : decode cX8_alike 0 = .ok (.aload_n 0, 1) := by decide +kernel
theorem dX8_alike_1 : decode cX8_alike 1 = .ok (.getfield 12, 3) := by decide +kernel
theorem dX8_alike_4 : decode cX8_alike 4 = .ok (.iload_n 1, 1) := by decide +kernel
theorem dX8_alike_5 : decode cX8_alike 5 = .ok (.invokevirtual 149, 3) := by decide +kernel
theorem dX8_alike_8 : decode cX8_alike 8 = .ok (.astore 4, 2) := by decide +kernel
theorem dX8_alike_10 : decode cX8_alike 10 = .ok (.aload_n 0, 1) := by decide +kernel
theorem dX8_alike_11 : decode cX8_alike 11 = .ok (.getfield 12, 3) := by decide +kernel
theorem dX8_alike_14 : decode cX8_alike 14 = .ok (.iload_n 2, 1) := by decide +kernel
theorem dX8_alike_15 : decode cX8_alike 15 = .ok (.invokevirtual 149, 3) := by decide +kernel
theorem dX8_alike_18 : decode cX8_alike 18 = .ok (.astore 5, 2) := by decide +kernel
theorem dX8_alike_20 : decode cX8_alike 20 = .ok (.aload_n 0, 1) := by decide +kernel
theorem dX8_alike_21 : decode cX8_alike 21 = .ok (.getfield 12, 3) := by decide +kernel
theorem dX8_alike_24 : decode cX8_alike 24 = .ok (.iload_n 3, 1) := by decide +kernel
theorem dX8_alike_25 : decode cX8_alike 25 = .ok (.invokevirtual 93, 3) := by decide +kernel
theorem dX8_alike_28 : decode cX8_alike 28 = .ok (.astore 6, 2) := by decide +kernel
theorem dX8_alike_30 : decode cX8_alike 30 = .ok (.aload 4, 2) := by decide +kernel
theorem dX8_alike_32 : decode cX8_alike 32 = .ok (.ifnull 13, 3) := by decide +kernel
theorem dX8_alike_35 : decode cX8_alike 35 = .ok (.aload 5, 2) := by decide +kernel
theorem dX8_alike_37 : decode cX8_alike 37 = .ok (.ifnull 8, 3) := by decide +kernel
theorem dX8_alike_40 : decode cX8_alike 40 = .ok (.aload 6, 2) := by decide +kernel
theorem dX8_alike_42 : decode cX8_alike 42 = .ok (.ifnonnull 5, 3) := by decide +kernel
theorem dX8_alike_45 : decode cX8_alike 45 = .ok (.iconst (-1), 1) := by decide +kernel
theorem dX8_alike_46 : decode cX8_alike 46 = .ok (.ireturn, 1) := by decide +kernel
theorem dX8_alike_47 : decode cX8_alike 47 = .ok (.aload_n 0, 1) := by decide +kernel
theorem dX8_alike_48 : decode cX8_alike 48 = .ok (.getfield 66, 3) := by decide +kernel
theorem dX8_alike_51 : decode cX8_alike 51 = .ok (.aload 4, 2) := by decide +kernel
theorem dX8_alike_53 : decode cX8_alike 53 = .ok (.aload 6, 2) := by decide +kernel
theorem dX8_alike_55 : decode cX8_alike 55 = .ok (.invokevirtual 208, 3) := by decide +kernel
theorem dX8_alike_58 : decode cX8_alike 58 = .ok (.aload_n 0, 1) := by decide +kernel
theorem dX8_alike_59 : decode cX8_alike 59 = .ok (.getfield 70, 3) := by decide +kernel
theorem dX8_alike_62 : decode cX8_alike 62 = .ok (.aload 5, 2) := by decide +kernel
theorem dX8_alike_64 : decode cX8_alike 64 = .ok (.aload 6, 2) := by decide +kernel
theorem dX8_alike_66 : decode cX8_alike 66 = .ok (.invokevirtual 208, 3) := by decide +kernel
theorem dX8_alike_69 : decode cX8_alike 69 = .ok (.aload_n 0, 1) := by decide +kernel
theorem dX8_alike_70 : decode cX8_alike 70 = .ok (.getfield 66, 3) := by decide +kernel
theorem dX8_alike_73 : decode cX8_alike 73 = .ok (.aload_n 0, 1) := by decide +kernel
theorem dX8_alike_74 : decode cX8_alike 74 = .ok (.getfield 70, 3) := by decide +kernel
theorem dX8_alike_77 : decode cX8_alike 77 = .ok (.invokevirtual 229, 3) := by decide +kernel
theorem dX8_alike_80 : decode cX8_alike 80 = .ok (.ifCond .eq 7, 3) := by decide +kernel
theorem dX8_alike_83 : decode cX8_alike 83 = .ok (.iconst 1, 1) := by decide +kernel
theorem dX8_alike_84 : decode cX8_alike 84 = .ok (.goto 4, 3) := by decide +kernel
theorem dX8_alike_87 : decode cX8_alike 87 = .ok (.iconst 0, 1) := by decide +kernel
theorem dX8_alike_88 : decode cX8_alike 88 = .ok (.ireturn, 1) := by decide +kernel
set_option maxRecDepth 100000 in
set_option maxHeartbeats 4000000 in
theorem kb_X8_alike_0 {x1 : Int32} {x2 : Int32} {x3 : Int32} {w : WX} {out : Int32 × WX} {H : Heap} {locs : List Loc} {ls : Array Slot} (C : CX p s m args meth c cX8_alike 7 RX8 wc_X8_alike (some .int))  (hG : Gd s G A 153 B (entX G B w) X H locs) (hl : lv_has ls 7 [(0, .ref (B + 0)), (1, .int x1), (2, .int x2), (3, .int x3)]) (hf : sh_X8_alike x1 x2 x3 w = some out) :
    W p l e rm_X8_alike s m args below meth c H locs 0 0 (MQ below (CPost G A 153 B (entX G B out.2) X (some (.int out.1))) args s 0 0 A) (F0 m 0 ls []) := by
  refine lv_aload_n C.1 C.2.1 dX8_alike_0 rfl (lv_at hl 0 rfl) ?_
  refine gf_X8_12 C hG rfl dX8_alike_1 ?_
  refine lv_iload_n C.1 C.2.1 dX8_alike_4 rfl (lv_at hl 1 rfl) ?_
  obtain ⟨v1, hv1, hf⟩ := of_bind hf
  refine r_callV1 C hG hl.1 (c0 := 1) (As := [.int x1]) (by decide) (entX_O4 (n := 4) rfl) rfl (mt_X4_surfaceAt l rfl hv1) (cwV 1 C.2.2.2.2.1 (gd_V tg_2_195 tg_2_196 tg_2_197 tg_1_2 tg_2_198) rfl rfl rfl cd_X4_surfaceAt ⟨Nat.le_of_ble_eq_true rfl, Nat.le_of_ble_eq_true rfl⟩) rfl rfl (Nat.le_of_ble_eq_true rfl) dX8_alike_5 (fun H locs hG => ?_)
  rcases of_ite hf with ⟨c2, hf⟩ | ⟨c2, hf⟩
  · refine r_rvN c2 ?_
    refine lv_astoreN (lv' := [(4, .null), (0, .ref (B + 0)), (1, .int x1), (2, .int x2), (3, .int x3)]) C.1 C.2.1 dX8_alike_8 hl (by decide) rfl (fun ls hl => ?_)
    refine lv_aload_n C.1 C.2.1 dX8_alike_10 rfl (lv_at hl 1 rfl) ?_
    refine gf_X8_12 C hG rfl dX8_alike_11 ?_
    refine lv_iload_n C.1 C.2.1 dX8_alike_14 rfl (lv_at hl 3 rfl) ?_
    obtain ⟨v4, hv4, hf⟩ := of_bind hf
    refine r_callV1 C hG hl.1 (c0 := 1) (As := [.int x2]) (by decide) (entX_O4 (n := 4) rfl) rfl (mt_X4_surfaceAt l rfl hv4) (cwV 1 C.2.2.2.2.1 (gd_V tg_2_195 tg_2_196 tg_2_197 tg_1_2 tg_2_198) rfl rfl rfl cd_X4_surfaceAt ⟨Nat.le_of_ble_eq_true rfl, Nat.le_of_ble_eq_true rfl⟩) rfl rfl (Nat.le_of_ble_eq_true rfl) dX8_alike_15 (fun H locs hG => ?_)
    rcases of_ite hf with ⟨c5, hf⟩ | ⟨c5, hf⟩
    · refine r_rvN c5 ?_
      refine lv_astoreN (lv' := [(5, .null), (4, .null), (0, .ref (B + 0)), (1, .int x1), (2, .int x2), (3, .int x3)]) C.1 C.2.1 dX8_alike_18 hl (by decide) rfl (fun ls hl => ?_)
      refine lv_aload_n C.1 C.2.1 dX8_alike_20 rfl (lv_at hl 2 rfl) ?_
      refine gf_X8_12 C hG rfl dX8_alike_21 ?_
      refine lv_iload_n C.1 C.2.1 dX8_alike_24 rfl (lv_at hl 5 rfl) ?_
      obtain ⟨v7, hv7, hf⟩ := of_bind hf
      refine r_callV1 C hG hl.1 (c0 := 1) (As := [.int x3]) (by decide) (entX_O4 (n := 4) rfl) rfl (mt_X4_algebraAt l rfl hv7) (cwV 1 C.2.2.2.2.1 (gd_V tg_2_119 tg_2_120 tg_2_121 tg_1_2 tg_2_122) rfl rfl rfl cd_X4_algebraAt ⟨Nat.le_of_ble_eq_true rfl, Nat.le_of_ble_eq_true rfl⟩) rfl rfl (Nat.le_of_ble_eq_true rfl) dX8_alike_25 (fun H locs hG => ?_)
      rcases of_ite hf with ⟨c8, hf⟩ | ⟨c8, hf⟩
      · refine r_rvN c8 ?_
        refine lv_astoreN (lv' := [(6, .null), (5, .null), (4, .null), (0, .ref (B + 0)), (1, .int x1), (2, .int x2), (3, .int x3)]) C.1 C.2.1 dX8_alike_28 hl (by decide) rfl (fun ls hl => ?_)
        refine lv_aloadN C.1 C.2.1 dX8_alike_30 (lv_at hl 2 rfl) ?_
        refine lv_ifnullN (tgt := 45) C.1 C.2.1 dX8_alike_32 (by decide) ?_
        refine lv_iconst (v := (-1 : Int32)) C.1 C.2.1 dX8_alike_45 (by decide) ?_
        obtain rfl := Option.some.inj hf
        exact r_iret C hG dX8_alike_46
      · refine r_rvR c8 ?_
        obtain ⟨c9, hf⟩ := of_grd hf
        refine lv_astore (lv' := [(6, .ref (B + v7)), (5, .null), (4, .null), (0, .ref (B + 0)), (1, .int x1), (2, .int x2), (3, .int x3)]) C.1 C.2.1 dX8_alike_28 hl (by decide) rfl (fun ls hl => ?_)
        refine lv_aloadN C.1 C.2.1 dX8_alike_30 (lv_at hl 2 rfl) ?_
        refine lv_ifnullN (tgt := 45) C.1 C.2.1 dX8_alike_32 (by decide) ?_
        refine lv_iconst (v := (-1 : Int32)) C.1 C.2.1 dX8_alike_45 (by decide) ?_
        obtain rfl := Option.some.inj hf
        exact r_iret C hG dX8_alike_46
    · refine r_rvR c5 ?_
      obtain ⟨c6, hf⟩ := of_grd hf
      refine lv_astore (lv' := [(5, .ref (B + v4)), (4, .null), (0, .ref (B + 0)), (1, .int x1), (2, .int x2), (3, .int x3)]) C.1 C.2.1 dX8_alike_18 hl (by decide) rfl (fun ls hl => ?_)
      refine lv_aload_n C.1 C.2.1 dX8_alike_20 rfl (lv_at hl 2 rfl) ?_
      refine gf_X8_12 C hG rfl dX8_alike_21 ?_
      refine lv_iload_n C.1 C.2.1 dX8_alike_24 rfl (lv_at hl 5 rfl) ?_
      obtain ⟨v10, hv10, hf⟩ := of_bind hf
      refine r_callV1 C hG hl.1 (c0 := 1) (As := [.int x3]) (by decide) (entX_O4 (n := 4) rfl) rfl (mt_X4_algebraAt l rfl hv10) (cwV 1 C.2.2.2.2.1 (gd_V tg_2_119 tg_2_120 tg_2_121 tg_1_2 tg_2_122) rfl rfl rfl cd_X4_algebraAt ⟨Nat.le_of_ble_eq_true rfl, Nat.le_of_ble_eq_true rfl⟩) rfl rfl (Nat.le_of_ble_eq_true rfl) dX8_alike_25 (fun H locs hG => ?_)
      rcases of_ite hf with ⟨c11, hf⟩ | ⟨c11, hf⟩
      · refine r_rvN c11 ?_
        refine lv_astoreN (lv' := [(6, .null), (5, .ref (B + v4)), (4, .null), (0, .ref (B + 0)), (1, .int x1), (2, .int x2), (3, .int x3)]) C.1 C.2.1 dX8_alike_28 hl (by decide) rfl (fun ls hl => ?_)
        refine lv_aloadN C.1 C.2.1 dX8_alike_30 (lv_at hl 2 rfl) ?_
        refine lv_ifnullN (tgt := 45) C.1 C.2.1 dX8_alike_32 (by decide) ?_
        refine lv_iconst (v := (-1 : Int32)) C.1 C.2.1 dX8_alike_45 (by decide) ?_
        obtain rfl := Option.some.inj hf
        exact r_iret C hG dX8_alike_46
      · refine r_rvR c11 ?_
        obtain ⟨c12, hf⟩ := of_grd hf
        refine lv_astore (lv' := [(6, .ref (B + v10)), (5, .ref (B + v4)), (4, .null), (0, .ref (B + 0)), (1, .int x1), (2, .int x2), (3, .int x3)]) C.1 C.2.1 dX8_alike_28 hl (by decide) rfl (fun ls hl => ?_)
        refine lv_aloadN C.1 C.2.1 dX8_alike_30 (lv_at hl 2 rfl) ?_
        refine lv_ifnullN (tgt := 45) C.1 C.2.1 dX8_alike_32 (by decide) ?_
        refine lv_iconst (v := (-1 : Int32)) C.1 C.2.1 dX8_alike_45 (by decide) ?_
        obtain rfl := Option.some.inj hf
        exact r_iret C hG dX8_alike_46
  · refine r_rvR c2 ?_
    obtain ⟨c3, hf⟩ := of_grd hf
    refine lv_astore (lv' := [(4, .ref (B + v1)), (0, .ref (B + 0)), (1, .int x1), (2, .int x2), (3, .int x3)]) C.1 C.2.1 dX8_alike_8 hl (by decide) rfl (fun ls hl => ?_)
    refine lv_aload_n C.1 C.2.1 dX8_alike_10 rfl (lv_at hl 1 rfl) ?_
    refine gf_X8_12 C hG rfl dX8_alike_11 ?_
    refine lv_iload_n C.1 C.2.1 dX8_alike_14 rfl (lv_at hl 3 rfl) ?_
    obtain ⟨v13, hv13, hf⟩ := of_bind hf
    refine r_callV1 C hG hl.1 (c0 := 1) (As := [.int x2]) (by decide) (entX_O4 (n := 4) rfl) rfl (mt_X4_surfaceAt l rfl hv13) (cwV 1 C.2.2.2.2.1 (gd_V tg_2_195 tg_2_196 tg_2_197 tg_1_2 tg_2_198) rfl rfl rfl cd_X4_surfaceAt ⟨Nat.le_of_ble_eq_true rfl, Nat.le_of_ble_eq_true rfl⟩) rfl rfl (Nat.le_of_ble_eq_true rfl) dX8_alike_15 (fun H locs hG => ?_)
    rcases of_ite hf with ⟨c14, hf⟩ | ⟨c14, hf⟩
    · refine r_rvN c14 ?_
      refine lv_astoreN (lv' := [(5, .null), (4, .ref (B + v1)), (0, .ref (B + 0)), (1, .int x1), (2, .int x2), (3, .int x3)]) C.1 C.2.1 dX8_alike_18 hl (by decide) rfl (fun ls hl => ?_)
      refine lv_aload_n C.1 C.2.1 dX8_alike_20 rfl (lv_at hl 2 rfl) ?_
      refine gf_X8_12 C hG rfl dX8_alike_21 ?_
      refine lv_iload_n C.1 C.2.1 dX8_alike_24 rfl (lv_at hl 5 rfl) ?_
      obtain ⟨v16, hv16, hf⟩ := of_bind hf
      refine r_callV1 C hG hl.1 (c0 := 1) (As := [.int x3]) (by decide) (entX_O4 (n := 4) rfl) rfl (mt_X4_algebraAt l rfl hv16) (cwV 1 C.2.2.2.2.1 (gd_V tg_2_119 tg_2_120 tg_2_121 tg_1_2 tg_2_122) rfl rfl rfl cd_X4_algebraAt ⟨Nat.le_of_ble_eq_true rfl, Nat.le_of_ble_eq_true rfl⟩) rfl rfl (Nat.le_of_ble_eq_true rfl) dX8_alike_25 (fun H locs hG => ?_)
      rcases of_ite hf with ⟨c17, hf⟩ | ⟨c17, hf⟩
      · refine r_rvN c17 ?_
        refine lv_astoreN (lv' := [(6, .null), (5, .null), (4, .ref (B + v1)), (0, .ref (B + 0)), (1, .int x1), (2, .int x2), (3, .int x3)]) C.1 C.2.1 dX8_alike_28 hl (by decide) rfl (fun ls hl => ?_)
        refine lv_aload C.1 C.2.1 dX8_alike_30 (lv_at hl 2 rfl) ?_
        refine lv_ifnull C.1 C.2.1 dX8_alike_32 ?_
        refine lv_aloadN C.1 C.2.1 dX8_alike_35 (lv_at hl 1 rfl) ?_
        refine lv_ifnullN (tgt := 45) C.1 C.2.1 dX8_alike_37 (by decide) ?_
        refine lv_iconst (v := (-1 : Int32)) C.1 C.2.1 dX8_alike_45 (by decide) ?_
        obtain rfl := Option.some.inj hf
        exact r_iret C hG dX8_alike_46
      · refine r_rvR c17 ?_
        obtain ⟨c18, hf⟩ := of_grd hf
        refine lv_astore (lv' := [(6, .ref (B + v16)), (5, .null), (4, .ref (B + v1)), (0, .ref (B + 0)), (1, .int x1), (2, .int x2), (3, .int x3)]) C.1 C.2.1 dX8_alike_28 hl (by decide) rfl (fun ls hl => ?_)
        refine lv_aload C.1 C.2.1 dX8_alike_30 (lv_at hl 2 rfl) ?_
        refine lv_ifnull C.1 C.2.1 dX8_alike_32 ?_
        refine lv_aloadN C.1 C.2.1 dX8_alike_35 (lv_at hl 1 rfl) ?_
        refine lv_ifnullN (tgt := 45) C.1 C.2.1 dX8_alike_37 (by decide) ?_
        refine lv_iconst (v := (-1 : Int32)) C.1 C.2.1 dX8_alike_45 (by decide) ?_
        obtain rfl := Option.some.inj hf
        exact r_iret C hG dX8_alike_46
    · refine r_rvR c14 ?_
      obtain ⟨c15, hf⟩ := of_grd hf
      refine lv_astore (lv' := [(5, .ref (B + v13)), (4, .ref (B + v1)), (0, .ref (B + 0)), (1, .int x1), (2, .int x2), (3, .int x3)]) C.1 C.2.1 dX8_alike_18 hl (by decide) rfl (fun ls hl => ?_)
      refine lv_aload_n C.1 C.2.1 dX8_alike_20 rfl (lv_at hl 2 rfl) ?_
      refine gf_X8_12 C hG rfl dX8_alike_21 ?_
      refine lv_iload_n C.1 C.2.1 dX8_alike_24 rfl (lv_at hl 5 rfl) ?_
      obtain ⟨v19, hv19, hf⟩ := of_bind hf
      refine r_callV1 C hG hl.1 (c0 := 1) (As := [.int x3]) (by decide) (entX_O4 (n := 4) rfl) rfl (mt_X4_algebraAt l rfl hv19) (cwV 1 C.2.2.2.2.1 (gd_V tg_2_119 tg_2_120 tg_2_121 tg_1_2 tg_2_122) rfl rfl rfl cd_X4_algebraAt ⟨Nat.le_of_ble_eq_true rfl, Nat.le_of_ble_eq_true rfl⟩) rfl rfl (Nat.le_of_ble_eq_true rfl) dX8_alike_25 (fun H locs hG => ?_)
      rcases of_ite hf with ⟨c20, hf⟩ | ⟨c20, hf⟩
      · refine r_rvN c20 ?_
        refine lv_astoreN (lv' := [(6, .null), (5, .ref (B + v13)), (4, .ref (B + v1)), (0, .ref (B + 0)), (1, .int x1), (2, .int x2), (3, .int x3)]) C.1 C.2.1 dX8_alike_28 hl (by decide) rfl (fun ls hl => ?_)
        refine lv_aload C.1 C.2.1 dX8_alike_30 (lv_at hl 2 rfl) ?_
        refine lv_ifnull C.1 C.2.1 dX8_alike_32 ?_
        refine lv_aload C.1 C.2.1 dX8_alike_35 (lv_at hl 1 rfl) ?_
        refine lv_ifnull C.1 C.2.1 dX8_alike_37 ?_
        refine lv_aloadN C.1 C.2.1 dX8_alike_40 (lv_at hl 0 rfl) ?_
        refine lv_ifnonnullN C.1 C.2.1 dX8_alike_42 ?_
        refine lv_iconst (v := (-1 : Int32)) C.1 C.2.1 dX8_alike_45 (by decide) ?_
        obtain rfl := Option.some.inj hf
        exact r_iret C hG dX8_alike_46
      · refine r_rvR c20 ?_
        obtain ⟨c21, hf⟩ := of_grd hf
        refine lv_astore (lv' := [(6, .ref (B + v19)), (5, .ref (B + v13)), (4, .ref (B + v1)), (0, .ref (B + 0)), (1, .int x1), (2, .int x2), (3, .int x3)]) C.1 C.2.1 dX8_alike_28 hl (by decide) rfl (fun ls hl => ?_)
        refine lv_aload C.1 C.2.1 dX8_alike_30 (lv_at hl 2 rfl) ?_
        refine lv_ifnull C.1 C.2.1 dX8_alike_32 ?_
        refine lv_aload C.1 C.2.1 dX8_alike_35 (lv_at hl 1 rfl) ?_
        refine lv_ifnull C.1 C.2.1 dX8_alike_37 ?_
        refine lv_aload C.1 C.2.1 dX8_alike_40 (lv_at hl 0 rfl) ?_
        refine lv_ifnonnull (tgt := 47) C.1 C.2.1 dX8_alike_42 (by decide) ?_
        refine lv_aload_n C.1 C.2.1 dX8_alike_47 rfl (lv_at hl 3 rfl) ?_
        refine gf_X8_66 C hG rfl dX8_alike_48 ?_
        refine lv_aload C.1 C.2.1 dX8_alike_51 (lv_at hl 2 rfl) ?_
        refine lv_aload C.1 C.2.1 dX8_alike_53 (lv_at hl 0 rfl) ?_
        obtain ⟨w22, hw22, hf⟩ := of_bind hf
        refine r_callV0 C hG hl.1 (c0 := 145) (As := [.ref (B + v1), .ref (B + v19)]) (by decide) (entX_O5 (n := 5) rfl) rfl (mt_X5_find l rfl c3 c21 hw22) (cwV 2 C.2.2.2.2.1 (gd_V tg_3_95 tg_3_96 tg_3_97 tg_1_9 tg_3_98) rfl rfl rfl cd_X5_find ⟨Nat.le_of_ble_eq_true rfl, Nat.le_of_ble_eq_true rfl⟩) rfl rfl (Nat.le_of_ble_eq_true rfl) dX8_alike_55 (fun H locs hG => ?_)
        refine lv_aload_n C.1 C.2.1 dX8_alike_58 rfl (lv_at hl 3 rfl) ?_
        refine gf_X8_70 C hG rfl dX8_alike_59 ?_
        refine lv_aload C.1 C.2.1 dX8_alike_62 (lv_at hl 1 rfl) ?_
        refine lv_aload C.1 C.2.1 dX8_alike_64 (lv_at hl 0 rfl) ?_
        obtain ⟨w23, hw23, hf⟩ := of_bind hf
        refine r_callV0 C hG hl.1 (c0 := 149) (As := [.ref (B + v13), .ref (B + v19)]) (by decide) (entX_O5 (n := 5) rfl) rfl (mt_X5_find l rfl c15 c21 hw23) (cwV 2 C.2.2.2.2.1 (gd_V tg_3_95 tg_3_96 tg_3_97 tg_1_9 tg_3_98) rfl rfl rfl cd_X5_find ⟨Nat.le_of_ble_eq_true rfl, Nat.le_of_ble_eq_true rfl⟩) rfl rfl (Nat.le_of_ble_eq_true rfl) dX8_alike_66 (fun H locs hG => ?_)
        refine lv_aload_n C.1 C.2.1 dX8_alike_69 rfl (lv_at hl 3 rfl) ?_
        refine gf_X8_66 C hG rfl dX8_alike_70 ?_
        refine lv_aload_n C.1 C.2.1 dX8_alike_73 rfl (lv_at hl 3 rfl) ?_
        refine gf_X8_70 C hG rfl dX8_alike_74 ?_
        obtain ⟨v24, hv24, hf⟩ := of_bind hf
        refine r_callV1 C hG hl.1 (c0 := 145) (As := [.ref (B + 149)]) (by decide) (entX_O5 (n := 5) rfl) rfl (mt_X5_sameAs l rfl rfl hv24) (cwV 1 C.2.2.2.2.1 (gd_V tg_3_173 tg_3_174 tg_3_175 tg_1_9 tg_3_176) rfl rfl rfl cd_X5_sameAs ⟨Nat.le_of_ble_eq_true rfl, Nat.le_of_ble_eq_true rfl⟩) rfl rfl (Nat.le_of_ble_eq_true rfl) dX8_alike_77 (fun H locs hG => ?_)
        rcases of_ite hf with ⟨c25, hf⟩ | ⟨c25, hf⟩
        · refine lv_if_eq (tgt := 87) C.1 C.2.1 dX8_alike_80 (by decide) (fun _ => ?_) (fun q => absurd c25 q)
          refine lv_iconst (v := nI 0) C.1 C.2.1 dX8_alike_87 (by decide) ?_
          obtain rfl := Option.some.inj hf
          exact r_iret C hG dX8_alike_88
        · refine lv_if_eq (tgt := 87) C.1 C.2.1 dX8_alike_80 (by decide) (fun q => absurd q c25) (fun _ => ?_)
          refine lv_iconst (v := nI 1) C.1 C.2.1 dX8_alike_83 (by decide) ?_
          refine lv_goto (tgt := 88) C.1 C.2.1 dX8_alike_84 (by decide) ?_
          obtain rfl := Option.some.inj hf
          exact r_iret C hG dX8_alike_88
set_option maxRecDepth 100000 in
set_option maxHeartbeats 4000000 in
theorem mt_X8_alike (l : Launch) {G : GG} {A : Nat → Prop} {B : Nat} {X : va_W} {x1 : Int32} {x2 : Int32} {x3 : Int32} {w : WX} {out : Int32 × WX}  (hf : sh_X8_alike x1 x2 x3 w = some out) : MetW l yX8_alike wc_X8_alike rm_X8_alike G A 153 B (entX G B w) X [.ref (B + 0), .int x1, .int x2, .int x3] (some (.int out.1)) (entX G B out.2) := by
  refine Met.ofW (cc := cX8_alike) (maxL := 7) (ret := (some .int)) (by decide) rfl ?_
  intro p e s m args below meth c s₁ B0 hml hv
  obtain ⟨rfl, hEv, hWd⟩ := hv
  have C : CX p s m _ meth c cX8_alike 7 RX8 wc_X8_alike (some .int) := ⟨B0.exec, B0.bytes, hml, findClass_of_methodNamed B0.named, atoms_spec (ws := wc_X8_alike) B0.pre, B0.returns, B0.notSynchronized⟩
  have hl := lv_entry [.ref (B + 0), .int x1, .int x2, .int x3] (n := 7) (Nat.le_of_ble_eq_true rfl)
  rw [lg_entry_eq]
  generalize (lg_sl [.ref (B + 0), .int x1, .int x2, .int x3] ++ List.replicate (7 - (lg_sl [.ref (B + 0), .int x1, .int x2, .int x3]).length) Slot.unset).toArray = ls at hl ⊢
  have hl : lv_has ls 7 [(0, .ref (B + 0)), (1, .int x1), (2, .int x2), (3, .int x3)] := hl
  exact kb_X8_alike_0 C  ⟨hEv, hWd, va_S.rf⟩ hl hf
end
