section
variable {p : Program} {l : Launch} {e : Env} {s : State} {m : MethodId} {args : Array Value} {below : List Frame} {meth : Method} {c : Code} {Q : State → Prop} {G : GG} {A : Nat → Prop} {N B : Nat} {E : Nat → va_E} {X : va_W}
abbrev wc_X8_glue : List Cond := Cond.code yX8_glue cX8_glue 6 (some .int) :: TG
abbrev rm_X8_glue : Room := { frames := 5, cells := 0, slots := 0, locals := 165 }
theorem cd_X8_glue : yX8_glue.cls = RX8 ∧ yX8_glue.cls ≠ "java/lang/invoke/MethodHandle" ∧ yX8_glue.cls ≠ "java/lang/invoke/VarHandle" ∧ (parseMethodDescriptor yX8_glue.desc).map (fun d => d.parameters.length) = some 2 := by decide +kernel
theorem dX8_glue_0 : decode cX8_glue 0 = .ok (.aload_n 0, 1) := by decide +kernel
theorem dX8_glue_1 : decode cX8_glue 1 = .ok (.getfield 12, 3) := by decide +kernel
theorem dX8_glue_4 : decode cX8_glue 4 = .ok (.iload_n 1, 1) := by decide +kernel
theorem dX8_glue_5 : decode cX8_glue 5 = .ok (.invokevirtual 149, 3) := by decide +kernel
theorem dX8_glue_8 : decode cX8_glue 8 = .ok (.astore_n 3, 1) := by decide +kernel
theorem dX8_glue_9 : decode cX8_glue 9 = .ok (.aload_n 0, 1) := by decide +kernel
theorem dX8_glue_10 : decode cX8_glue 10 = .ok (.getfield 12, 3) := by decide +kernel
theorem dX8_glue_13 : decode cX8_glue 13 = .ok (.iload_n 2, 1) := by decide +kernel
theorem dX8_glue_14 : decode cX8_glue 14 = .ok (.invokevirtual 149, 3) := by decide +kernel
theorem dX8_glue_17 : decode cX8_glue 17 = .ok (.astore 4, 2) := by decide +kernel
theorem dX8_glue_19 : decode cX8_glue 19 = .ok (.aload_n 3, 1) := by decide +kernel
theorem dX8_glue_20 : decode cX8_glue 20 = .ok (.ifnull 8, 3) := by decide +kernel
theorem dX8_glue_23 : decode cX8_glue 23 = .ok (.aload 4, 2) := by decide +kernel
theorem dX8_glue_25 : decode cX8_glue 25 = .ok (.ifnonnull 5, 3) := by decide +kernel
theorem dX8_glue_28 : decode cX8_glue 28 = .ok (.iconst (-1), 1) := by decide +kernel
theorem dX8_glue_29 : decode cX8_glue 29 = .ok (.ireturn, 1) := by decide +kernel
theorem dX8_glue_30 : decode cX8_glue 30 = .ok (.aload_n 3, 1) := by decide +kernel
theorem dX8_glue_31 : decode cX8_glue 31 = .ok (.aload 4, 2) := by decide +kernel
theorem dX8_glue_33 : decode cX8_glue 33 = .ok (.invokevirtual 233, 3) := by decide +kernel
theorem dX8_glue_36 : decode cX8_glue 36 = .ok (.istore 5, 2) := by decide +kernel
theorem dX8_glue_38 : decode cX8_glue 38 = .ok (.iload 5, 2) := by decide +kernel
theorem dX8_glue_40 : decode cX8_glue 40 = .ok (.ifCond .eq 6, 3) := by decide +kernel
theorem dX8_glue_43 : decode cX8_glue 43 = .ok (.iload 5, 2) := by decide +kernel
theorem dX8_glue_45 : decode cX8_glue 45 = .ok (.ireturn, 1) := by decide +kernel
theorem dX8_glue_46 : decode cX8_glue 46 = .ok (.aload_n 3, 1) := by decide +kernel
theorem dX8_glue_47 : decode cX8_glue 47 = .ok (.aload 4, 2) := by decide +kernel
theorem dX8_glue_49 : decode cX8_glue 49 = .ok (.invokevirtual 236, 3) := by decide +kernel
theorem dX8_glue_52 : decode cX8_glue 52 = .ok (.aload_n 3, 1) := by decide +kernel
theorem dX8_glue_53 : decode cX8_glue 53 = .ok (.getfield 161, 3) := by decide +kernel
theorem dX8_glue_56 : decode cX8_glue 56 = .ok (.ireturn, 1) := by decide +kernel
set_option maxRecDepth 100000 in
set_option maxHeartbeats 4000000 in
theorem kb_X8_glue_0 {x1 : Int32} {x2 : Int32} {w : WX} {out : Int32 × WX} {H : Heap} {locs : List Loc} {ls : Array Slot} (C : CX p s m args meth c cX8_glue 6 RX8 wc_X8_glue (some .int))  (hG : Gd s G A 153 B (entX G B w) X H locs) (hl : lv_has ls 6 [(0, .ref (B + 0)), (1, .int x1), (2, .int x2)]) (hf : sh_X8_glue x1 x2 w = some out) :
    W p l e rm_X8_glue s m args below meth c H locs 0 0 (MQ below (CPost G A 153 B (entX G B out.2) X (some (.int out.1))) args s 0 0 A) (F0 m 0 ls []) := by
  refine lv_aload_n C.1 C.2.1 dX8_glue_0 rfl (lv_at hl 0 rfl) ?_
  refine gf_X8_12 C hG rfl dX8_glue_1 ?_
  refine lv_iload_n C.1 C.2.1 dX8_glue_4 rfl (lv_at hl 1 rfl) ?_
  obtain ⟨v1, hv1, hf⟩ := of_bind hf
  refine r_callV1 C hG hl.1 (c0 := 1) (As := [.int x1]) (by decide) (entX_O4 (n := 4) rfl) rfl (mt_X4_surfaceAt l rfl hv1) (cwV 1 C.2.2.2.2.1 (gd_V tg_2_195 tg_2_196 tg_2_197 tg_1_2 tg_2_198) rfl rfl rfl cd_X4_surfaceAt ⟨Nat.le_of_ble_eq_true rfl, Nat.le_of_ble_eq_true rfl⟩) rfl rfl (Nat.le_of_ble_eq_true rfl) dX8_glue_5 (fun H locs hG => ?_)
  rcases of_ite hf with ⟨c2, hf⟩ | ⟨c2, hf⟩
  · refine r_rvN c2 ?_
    refine lv_astore_nN (lv' := [(3, .null), (0, .ref (B + 0)), (1, .int x1), (2, .int x2)]) C.1 C.2.1 dX8_glue_8 rfl hl (by decide) rfl (fun ls hl => ?_)
    refine lv_aload_n C.1 C.2.1 dX8_glue_9 rfl (lv_at hl 1 rfl) ?_
    refine gf_X8_12 C hG rfl dX8_glue_10 ?_
    refine lv_iload_n C.1 C.2.1 dX8_glue_13 rfl (lv_at hl 3 rfl) ?_
    obtain ⟨v4, hv4, hf⟩ := of_bind hf
    refine r_callV1 C hG hl.1 (c0 := 1) (As := [.int x2]) (by decide) (entX_O4 (n := 4) rfl) rfl (mt_X4_surfaceAt l rfl hv4) (cwV 1 C.2.2.2.2.1 (gd_V tg_2_195 tg_2_196 tg_2_197 tg_1_2 tg_2_198) rfl rfl rfl cd_X4_surfaceAt ⟨Nat.le_of_ble_eq_true rfl, Nat.le_of_ble_eq_true rfl⟩) rfl rfl (Nat.le_of_ble_eq_true rfl) dX8_glue_14 (fun H locs hG => ?_)
    rcases of_ite hf with ⟨c5, hf⟩ | ⟨c5, hf⟩
    · refine r_rvN c5 ?_
      refine lv_astoreN (lv' := [(4, .null), (3, .null), (0, .ref (B + 0)), (1, .int x1), (2, .int x2)]) C.1 C.2.1 dX8_glue_17 hl (by decide) rfl (fun ls hl => ?_)
      refine lv_aload_nN C.1 C.2.1 dX8_glue_19 rfl (lv_at hl 1 rfl) ?_
      refine lv_ifnullN (tgt := 28) C.1 C.2.1 dX8_glue_20 (by decide) ?_
      refine lv_iconst (v := (-1 : Int32)) C.1 C.2.1 dX8_glue_28 (by decide) ?_
      obtain rfl := Option.some.inj hf
      exact r_iret C hG dX8_glue_29
    · refine r_rvR c5 ?_
      obtain ⟨c6, hf⟩ := of_grd hf
      refine lv_astore (lv' := [(4, .ref (B + v4)), (3, .null), (0, .ref (B + 0)), (1, .int x1), (2, .int x2)]) C.1 C.2.1 dX8_glue_17 hl (by decide) rfl (fun ls hl => ?_)
      refine lv_aload_nN C.1 C.2.1 dX8_glue_19 rfl (lv_at hl 1 rfl) ?_
      refine lv_ifnullN (tgt := 28) C.1 C.2.1 dX8_glue_20 (by decide) ?_
      refine lv_iconst (v := (-1 : Int32)) C.1 C.2.1 dX8_glue_28 (by decide) ?_
      obtain rfl := Option.some.inj hf
      exact r_iret C hG dX8_glue_29
  · refine r_rvR c2 ?_
    obtain ⟨c3, hf⟩ := of_grd hf
    refine lv_astore_n (lv' := [(3, .ref (B + v1)), (0, .ref (B + 0)), (1, .int x1), (2, .int x2)]) C.1 C.2.1 dX8_glue_8 rfl hl (by decide) rfl (fun ls hl => ?_)
    refine lv_aload_n C.1 C.2.1 dX8_glue_9 rfl (lv_at hl 1 rfl) ?_
    refine gf_X8_12 C hG rfl dX8_glue_10 ?_
    refine lv_iload_n C.1 C.2.1 dX8_glue_13 rfl (lv_at hl 3 rfl) ?_
    obtain ⟨v7, hv7, hf⟩ := of_bind hf
    refine r_callV1 C hG hl.1 (c0 := 1) (As := [.int x2]) (by decide) (entX_O4 (n := 4) rfl) rfl (mt_X4_surfaceAt l rfl hv7) (cwV 1 C.2.2.2.2.1 (gd_V tg_2_195 tg_2_196 tg_2_197 tg_1_2 tg_2_198) rfl rfl rfl cd_X4_surfaceAt ⟨Nat.le_of_ble_eq_true rfl, Nat.le_of_ble_eq_true rfl⟩) rfl rfl (Nat.le_of_ble_eq_true rfl) dX8_glue_14 (fun H locs hG => ?_)
    rcases of_ite hf with ⟨c8, hf⟩ | ⟨c8, hf⟩
    · refine r_rvN c8 ?_
      refine lv_astoreN (lv' := [(4, .null), (3, .ref (B + v1)), (0, .ref (B + 0)), (1, .int x1), (2, .int x2)]) C.1 C.2.1 dX8_glue_17 hl (by decide) rfl (fun ls hl => ?_)
      refine lv_aload_n C.1 C.2.1 dX8_glue_19 rfl (lv_at hl 1 rfl) ?_
      refine lv_ifnull C.1 C.2.1 dX8_glue_20 ?_
      refine lv_aloadN C.1 C.2.1 dX8_glue_23 (lv_at hl 0 rfl) ?_
      refine lv_ifnonnullN C.1 C.2.1 dX8_glue_25 ?_
      refine lv_iconst (v := (-1 : Int32)) C.1 C.2.1 dX8_glue_28 (by decide) ?_
      obtain rfl := Option.some.inj hf
      exact r_iret C hG dX8_glue_29
    · refine r_rvR c8 ?_
      obtain ⟨c9, hf⟩ := of_grd hf
      refine lv_astore (lv' := [(4, .ref (B + v7)), (3, .ref (B + v1)), (0, .ref (B + 0)), (1, .int x1), (2, .int x2)]) C.1 C.2.1 dX8_glue_17 hl (by decide) rfl (fun ls hl => ?_)
      refine lv_aload_n C.1 C.2.1 dX8_glue_19 rfl (lv_at hl 1 rfl) ?_
      refine lv_ifnull C.1 C.2.1 dX8_glue_20 ?_
      refine lv_aload C.1 C.2.1 dX8_glue_23 (lv_at hl 0 rfl) ?_
      refine lv_ifnonnull (tgt := 30) C.1 C.2.1 dX8_glue_25 (by decide) ?_
      refine lv_aload_n C.1 C.2.1 dX8_glue_30 rfl (lv_at hl 1 rfl) ?_
      refine lv_aload C.1 C.2.1 dX8_glue_31 (lv_at hl 0 rfl) ?_
      obtain ⟨v10, hv10, hf⟩ := of_bind hf
      refine r_callV1 C hG hl.1 (c0 := v1) (As := [.ref (B + v7)]) (kdx_lt c3 (by decide)) (entX_O6 c3) rfl (mt_X6_glueFault l c3 c9 hv10) (cwV 1 C.2.2.2.2.1 (gd_V tg_3_181 tg_3_182 tg_3_183 tg_1_5 tg_3_184) rfl rfl rfl cd_X6_glueFault ⟨Nat.le_of_ble_eq_true rfl, Nat.le_of_ble_eq_true rfl⟩) rfl rfl (Nat.le_of_ble_eq_true rfl) dX8_glue_33 (fun H locs hG => ?_)
      refine lv_istore (lv' := [(5, .int v10), (4, .ref (B + v7)), (3, .ref (B + v1)), (0, .ref (B + 0)), (1, .int x1), (2, .int x2)]) C.1 C.2.1 dX8_glue_36 hl (by decide) rfl (fun ls hl => ?_)
      refine lv_iload C.1 C.2.1 dX8_glue_38 (lv_at hl 0 rfl) ?_
      rcases of_ite hf with ⟨c11, hf⟩ | ⟨c11, hf⟩
      · refine lv_if_eq (tgt := 46) C.1 C.2.1 dX8_glue_40 (by decide) (fun _ => ?_) (fun q => absurd c11 q)
        refine lv_aload_n C.1 C.2.1 dX8_glue_46 rfl (lv_at hl 2 rfl) ?_
        refine lv_aload C.1 C.2.1 dX8_glue_47 (lv_at hl 1 rfl) ?_
        obtain ⟨w12, hw12, hf⟩ := of_bind hf
        refine r_callV0 C hG hl.1 (c0 := v1) (As := [.ref (B + v7)]) (kdx_lt c3 (by decide)) (entX_O6 c3) rfl (mt_X6_glueOn l c3 c9 hw12) (cwV 1 C.2.2.2.2.1 (gd_V tg_3_189 tg_3_190 tg_3_191 tg_1_5 tg_3_192) rfl rfl rfl cd_X6_glueOn ⟨Nat.le_of_ble_eq_true rfl, Nat.le_of_ble_eq_true rfl⟩) rfl rfl (Nat.le_of_ble_eq_true rfl) dX8_glue_49 (fun H locs hG => ?_)
        refine lv_aload_n C.1 C.2.1 dX8_glue_52 rfl (lv_at hl 2 rfl) ?_
        refine gf_X8_161 C hG c3 dX8_glue_53 ?_
        obtain rfl := Option.some.inj hf
        exact r_iret C hG dX8_glue_56
      · refine lv_if_eq (tgt := 46) C.1 C.2.1 dX8_glue_40 (by decide) (fun q => absurd q c11) (fun _ => ?_)
        refine lv_iload C.1 C.2.1 dX8_glue_43 (lv_at hl 0 rfl) ?_
        obtain rfl := Option.some.inj hf
        exact r_iret C hG dX8_glue_45
set_option maxRecDepth 100000 in
set_option maxHeartbeats 4000000 in
theorem mt_X8_glue (l : Launch) {G : GG} {A : Nat → Prop} {B : Nat} {X : va_W} {x1 : Int32} {x2 : Int32} {w : WX} {out : Int32 × WX}  (hf : sh_X8_glue x1 x2 w = some out) : MetW l yX8_glue wc_X8_glue rm_X8_glue G A 153 B (entX G B w) X [.ref (B + 0), .int x1, .int x2] (some (.int out.1)) (entX G B out.2) := by
  refine Met.ofW (cc := cX8_glue) (maxL := 6) (ret := (some .int)) (by decide) rfl ?_
  intro p e s m args below meth c s₁ B0 hml hv
  obtain ⟨rfl, hEv, hWd⟩ := hv
  have C : CX p s m _ meth c cX8_glue 6 RX8 wc_X8_glue (some .int) := ⟨B0.exec, B0.bytes, hml, findClass_of_methodNamed B0.named, atoms_spec (ws := wc_X8_glue) B0.pre, B0.returns, B0.notSynchronized⟩
  have hl := lv_entry [.ref (B + 0), .int x1, .int x2] (n := 6) (Nat.le_of_ble_eq_true rfl)
  rw [lg_entry_eq]
  generalize (lg_sl [.ref (B + 0), .int x1, .int x2] ++ List.replicate (6 - (lg_sl [.ref (B + 0), .int x1, .int x2]).length) Slot.unset).toArray = ls at hl ⊢
  have hl : lv_has ls 6 [(0, .ref (B + 0)), (1, .int x1), (2, .int x2)] := hl
  exact kb_X8_glue_0 C  ⟨hEv, hWd, va_S.rf⟩ hl hf
abbrev wc_X8_cut : List Cond := Cond.code yX8_cut cX8_cut 5 (some .int) :: TG
abbrev rm_X8_cut : Room := { frames := 3, cells := 0, slots := 0, locals := 122 }
theorem cd_X8_cut : yX8_cut.cls = RX8 ∧ yX8_cut.cls ≠ "java/lang/invoke/MethodHandle" ∧ yX8_cut.cls ≠ "java/lang/invoke/VarHandle" ∧ (parseMethodDescriptor yX8_cut.desc).map (fun d => d.parameters.length) = some 2 := by decide +kernel
theorem dX8_cut_0 : decode cX8_cut 0 = .ok (.aload_n 0, 1) := by decide +kernel
theorem dX8_cut_1 : decode cX8_cut 1 = .ok (.getfield 12, 3) := by decide +kernel
theorem dX8_cut_4 : decode cX8_cut 4 = .ok (.iload_n 1, 1) := by decide +kernel
theorem dX8_cut_5 : decode cX8_cut 5 = .ok (.invokevirtual 149, 3) := by decide +kernel
theorem dX8_cut_8 : decode cX8_cut 8 = .ok (.astore_n 3, 1) := by decide +kernel
theorem dX8_cut_9 : decode cX8_cut 9 = .ok (.aload_n 3, 1) := by decide +kernel
theorem dX8_cut_10 : decode cX8_cut 10 = .ok (.ifnonnull 5, 3) := by decide +kernel
theorem dX8_cut_13 : decode cX8_cut 13 = .ok (.iconst (-1), 1) := by decide +kernel
theorem dX8_cut_14 : decode cX8_cut 14 = .ok (.ireturn, 1) := by decide +kernel
theorem dX8_cut_15 : decode cX8_cut 15 = .ok (.iload_n 2, 1) := by decide +kernel
theorem dX8_cut_16 : decode cX8_cut 16 = .ok (.ifCond .lt 11, 3) := by decide +kernel
theorem dX8_cut_19 : decode cX8_cut 19 = .ok (.iload_n 2, 1) := by decide +kernel
theorem dX8_cut_20 : decode cX8_cut 20 = .ok (.aload_n 3, 1) := by decide +kernel
theorem dX8_cut_21 : decode cX8_cut 21 = .ok (.getfield 161, 3) := by decide +kernel
theorem dX8_cut_24 : decode cX8_cut 24 = .ok (.if_icmp .le 6, 3) := by decide +kernel
theorem dX8_cut_27 : decode cX8_cut 27 = .ok (.bipush (-2), 2) := by decide +kernel
theorem dX8_cut_29 : decode cX8_cut 29 = .ok (.ireturn, 1) := by decide +kernel
theorem dX8_cut_30 : decode cX8_cut 30 = .ok (.aload_n 3, 1) := by decide +kernel
theorem dX8_cut_31 : decode cX8_cut 31 = .ok (.getfield 161, 3) := by decide +kernel
theorem dX8_cut_34 : decode cX8_cut 34 = .ok (.istore 4, 2) := by decide +kernel
theorem dX8_cut_36 : decode cX8_cut 36 = .ok (.aload_n 3, 1) := by decide +kernel
theorem dX8_cut_37 : decode cX8_cut 37 = .ok (.iload_n 2, 1) := by decide +kernel
theorem dX8_cut_38 : decode cX8_cut 38 = .ok (.invokevirtual 239, 3) := by decide +kernel
theorem dX8_cut_41 : decode cX8_cut 41 = .ok (.iload 4, 2) := by decide +kernel
theorem dX8_cut_43 : decode cX8_cut 43 = .ok (.ireturn, 1) := by decide +kernel
set_option maxRecDepth 100000 in
set_option maxHeartbeats 4000000 in
theorem kb_X8_cut_0 {x1 : Int32} {x2 : Int32} {w : WX} {out : Int32 × WX} {H : Heap} {locs : List Loc} {ls : Array Slot} (C : CX p s m args meth c cX8_cut 5 RX8 wc_X8_cut (some .int))  (hG : Gd s G A 153 B (entX G B w) X H locs) (hl : lv_has ls 5 [(0, .ref (B + 0)), (1, .int x1), (2, .int x2)]) (hf : sh_X8_cut x1 x2 w = some out) :
    W p l e rm_X8_cut s m args below meth c H locs 0 0 (MQ below (CPost G A 153 B (entX G B out.2) X (some (.int out.1))) args s 0 0 A) (F0 m 0 ls []) := by
  refine lv_aload_n C.1 C.2.1 dX8_cut_0 rfl (lv_at hl 0 rfl) ?_
  refine gf_X8_12 C hG rfl dX8_cut_1 ?_
  refine lv_iload_n C.1 C.2.1 dX8_cut_4 rfl (lv_at hl 1 rfl) ?_
  obtain ⟨v1, hv1, hf⟩ := of_bind hf
  refine r_callV1 C hG hl.1 (c0 := 1) (As := [.int x1]) (by decide) (entX_O4 (n := 4) rfl) rfl (mt_X4_surfaceAt l rfl hv1) (cwV 1 C.2.2.2.2.1 (gd_V tg_2_195 tg_2_196 tg_2_197 tg_1_2 tg_2_198) rfl rfl rfl cd_X4_surfaceAt ⟨Nat.le_of_ble_eq_true rfl, Nat.le_of_ble_eq_true rfl⟩) rfl rfl (Nat.le_of_ble_eq_true rfl) dX8_cut_5 (fun H locs hG => ?_)
  rcases of_ite hf with ⟨c2, hf⟩ | ⟨c2, hf⟩
  · refine r_rvN c2 ?_
    refine lv_astore_nN (lv' := [(3, .null), (0, .ref (B + 0)), (1, .int x1), (2, .int x2)]) C.1 C.2.1 dX8_cut_8 rfl hl (by decide) rfl (fun ls hl => ?_)
    refine lv_aload_nN C.1 C.2.1 dX8_cut_9 rfl (lv_at hl 0 rfl) ?_
    refine lv_ifnonnullN C.1 C.2.1 dX8_cut_10 ?_
    refine lv_iconst (v := (-1 : Int32)) C.1 C.2.1 dX8_cut_13 (by decide) ?_
    obtain rfl := Option.some.inj hf
    exact r_iret C hG dX8_cut_14
  · refine r_rvR c2 ?_
    obtain ⟨c3, hf⟩ := of_grd hf
    refine lv_astore_n (lv' := [(3, .ref (B + v1)), (0, .ref (B + 0)), (1, .int x1), (2, .int x2)]) C.1 C.2.1 dX8_cut_8 rfl hl (by decide) rfl (fun ls hl => ?_)
    refine lv_aload_n C.1 C.2.1 dX8_cut_9 rfl (lv_at hl 0 rfl) ?_
    refine lv_ifnonnull (tgt := 15) C.1 C.2.1 dX8_cut_10 (by decide) ?_
    refine lv_iload_n C.1 C.2.1 dX8_cut_15 rfl (lv_at hl 3 rfl) ?_
    rcases of_ite hf with ⟨c4, hf⟩ | ⟨c4, hf⟩
    · refine lv_if_lt (tgt := 27) C.1 C.2.1 dX8_cut_16 (by decide) (fun _ => ?_) (fun q => absurd c4 q)
      refine lv_bipush (v := (-2 : Int32)) C.1 C.2.1 dX8_cut_27 (by decide) ?_
      obtain rfl := Option.some.inj hf
      exact r_iret C hG dX8_cut_29
    · refine lv_if_lt (tgt := 27) C.1 C.2.1 dX8_cut_16 (by decide) (fun q => absurd q c4) (fun _ => ?_)
      refine lv_iload_n C.1 C.2.1 dX8_cut_19 rfl (lv_at hl 3 rfl) ?_
      refine lv_aload_n C.1 C.2.1 dX8_cut_20 rfl (lv_at hl 0 rfl) ?_
      refine gf_X8_161 C hG c3 dX8_cut_21 ?_
      rcases of_ite hf with ⟨c5, hf⟩ | ⟨c5, hf⟩
      · refine lv_icmp_le (tgt := 30) C.1 C.2.1 dX8_cut_24 (by decide) (fun _ => ?_) (fun q => absurd c5 q)
        refine lv_aload_n C.1 C.2.1 dX8_cut_30 rfl (lv_at hl 0 rfl) ?_
        refine gf_X8_161 C hG c3 dX8_cut_31 ?_
        obtain ⟨v6, ev6, hf⟩ := of_letv hf
        refine r_top ev6 ?_
        refine lv_istore (lv' := [(4, .int v6), (3, .ref (B + v1)), (0, .ref (B + 0)), (1, .int x1), (2, .int x2)]) C.1 C.2.1 dX8_cut_34 hl (by decide) rfl (fun ls hl => ?_)
        refine lv_aload_n C.1 C.2.1 dX8_cut_36 rfl (lv_at hl 1 rfl) ?_
        refine lv_iload_n C.1 C.2.1 dX8_cut_37 rfl (lv_at hl 4 rfl) ?_
        obtain ⟨w7, hw7, hf⟩ := of_bind hf
        refine r_callV0 C hG hl.1 (c0 := v1) (As := [.int x2]) (kdx_lt c3 (by decide)) (entX_O6 c3) rfl (mt_X6_keepFirst l c3 hw7) (cwV 1 C.2.2.2.2.1 (gd_V tg_3_198 tg_2_204 tg_2_205 tg_1_5 tg_2_206) rfl rfl rfl cd_X6_keepFirst ⟨Nat.le_of_ble_eq_true rfl, Nat.le_of_ble_eq_true rfl⟩) rfl rfl (Nat.le_of_ble_eq_true rfl) dX8_cut_38 (fun H locs hG => ?_)
        refine lv_iload C.1 C.2.1 dX8_cut_41 (lv_at hl 0 rfl) ?_
        obtain rfl := Option.some.inj hf
        exact r_iret C hG dX8_cut_43
      · refine lv_icmp_le (tgt := 30) C.1 C.2.1 dX8_cut_24 (by decide) (fun q => absurd q c5) (fun _ => ?_)
        refine lv_bipush (v := (-2 : Int32)) C.1 C.2.1 dX8_cut_27 (by decide) ?_
        obtain rfl := Option.some.inj hf
        exact r_iret C hG dX8_cut_29
set_option maxRecDepth 100000 in
set_option maxHeartbeats 4000000 in
theorem mt_X8_cut (l : Launch) {G : GG} {A : Nat → Prop} {B : Nat} {X : va_W} {x1 : Int32} {x2 : Int32} {w : WX} {out : Int32 × WX}  (hf : sh_X8_cut x1 x2 w = some out) : MetW l yX8_cut wc_X8_cut rm_X8_cut G A 153 B (entX G B w) X [.ref (B + 0), .int x1, .int x2] (some (.int out.1)) (entX G B out.2) := by
  refine Met.ofW (cc := cX8_cut) (maxL := 5) (ret := (some .int)) (by decide) rfl ?_
  intro p e s m args below meth c s₁ B0 hml hv
  obtain ⟨rfl, hEv, hWd⟩ := hv
  have C : CX p s m _ meth c cX8_cut 5 RX8 wc_X8_cut (some .int) := ⟨B0.exec, B0.bytes, hml, findClass_of_methodNamed B0.named, atoms_spec (ws := wc_X8_cut) B0.pre, B0.returns, B0.notSynchronized⟩
  have hl := lv_entry [.ref (B + 0), .int x1, .int x2] (n := 5) (Nat.le_of_ble_eq_true rfl)
  rw [lg_entry_eq]
  generalize (lg_sl [.ref (B + 0), .int x1, .int x2] ++ List.replicate (5 - (lg_sl [.ref (B + 0), .int x1, .int x2]).length) Slot.unset).toArray = ls at hl ⊢
  have hl : lv_has ls 5 [(0, .ref (B + 0)), (1, .int x1), (2, .int x2)] := hl
  exact kb_X8_cut_0 C  ⟨hEv, hWd, va_S.rf⟩ hl hf
abbrev wc_X8_draws : List Cond := Cond.code yX8_draws cX8_draws 5 (some .int) :: TG
abbrev rm_X8_draws : Room := { frames := 5, cells := 0, slots := 0, locals := 166 }
theorem cd_X8_draws : yX8_draws.cls = RX8 ∧ yX8_draws.cls ≠ "java/lang/invoke/MethodHandle" ∧ yX8_draws.cls ≠ "java/lang/invoke/VarHandle" ∧ (parseMethodDescriptor yX8_draws.desc).map (fun d => d.parameters.length) = some 3 := by decide +kernel
theorem dX8_draws_0 : decode cX8_draws 0 = .ok (.aload_n 0, 1) := by decide +kernel
theorem dX8_draws_1 : decode cX8_draws 1 = .ok (.getfield 12, 3) := by decide +kernel
theorem dX8_draws_4 : decode cX8_draws 4 = .ok (.iload_n 1, 1) := by decide +kernel
theorem dX8_draws_5 : decode cX8_draws 5 = .ok (.invokevirtual 149, 3) := by decide +kernel
theorem dX8_draws_8 : decode cX8_draws 8 = .ok (.astore 4, 2) := by decide +kernel
theorem dX8_draws_10 : decode cX8_draws 10 = .ok (.aload 4, 2) := by decide +kernel
theorem dX8_draws_12 : decode cX8_draws 12 = .ok (.ifnonnull 5, 3) := by decide +kernel
theorem dX8_draws_15 : decode cX8_draws 15 = .ok (.iconst (-1), 1) := by decide +kernel
theorem dX8_draws_16 : decode cX8_draws 16 = .ok (.ireturn, 1) := by decide +kernel
theorem dX8_draws_17 : decode cX8_draws 17 = .ok (.iload_n 2, 1) := by decide +kernel
theorem dX8_draws_18 : decode cX8_draws 18 = .ok (.iconst 1, 1) := by decide +kernel
theorem dX8_draws_19 : decode cX8_draws 19 = .ok (.if_icmp .lt 9, 3) := by decide +kernel
theorem dX8_draws_22 : decode cX8_draws 22 = .ok (.iload_n 2, 1) := by decide +kernel
theorem dX8_draws_23 : decode cX8_draws 23 = .ok (.bipush 24, 2) := by decide +kernel
theorem dX8_draws_25 : decode cX8_draws 25 = .ok (.if_icmp .le 6, 3) := by decide +kernel
theorem dX8_draws_28 : decode cX8_draws 28 = .ok (.bipush (-2), 2) := by decide +kernel
theorem dX8_draws_30 : decode cX8_draws 30 = .ok (.ireturn, 1) := by decide +kernel
theorem dX8_draws_31 : decode cX8_draws 31 = .ok (.aload 4, 2) := by decide +kernel
theorem dX8_draws_33 : decode cX8_draws 33 = .ok (.iload_n 2, 1) := by decide +kernel
theorem dX8_draws_34 : decode cX8_draws 34 = .ok (.iload_n 3, 1) := by decide +kernel
theorem dX8_draws_35 : decode cX8_draws 35 = .ok (.invokevirtual 242, 3) := by decide +kernel
theorem dX8_draws_38 : decode cX8_draws 38 = .ok (.aload 4, 2) := by decide +kernel
theorem dX8_draws_40 : decode cX8_draws 40 = .ok (.getfield 161, 3) := by decide +kernel
theorem dX8_draws_43 : decode cX8_draws 43 = .ok (.ireturn, 1) := by decide +kernel
set_option maxRecDepth 100000 in
set_option maxHeartbeats 4000000 in
theorem kb_X8_draws_0 {x1 : Int32} {x2 : Int32} {x3 : Int32} {w : WX} {out : Int32 × WX} {H : Heap} {locs : List Loc} {ls : Array Slot} (C : CX p s m args meth c cX8_draws 5 RX8 wc_X8_draws (some .int))  (hG : Gd s G A 153 B (entX G B w) X H locs) (hl : lv_has ls 5 [(0, .ref (B + 0)), (1, .int x1), (2, .int x2), (3, .int x3)]) (hf : sh_X8_draws x1 x2 x3 w = some out) :
    W p l e rm_X8_draws s m args below meth c H locs 0 0 (MQ below (CPost G A 153 B (entX G B out.2) X (some (.int out.1))) args s 0 0 A) (F0 m 0 ls []) := by
  refine lv_aload_n C.1 C.2.1 dX8_draws_0 rfl (lv_at hl 0 rfl) ?_
  refine gf_X8_12 C hG rfl dX8_draws_1 ?_
  refine lv_iload_n C.1 C.2.1 dX8_draws_4 rfl (lv_at hl 1 rfl) ?_
  obtain ⟨v1, hv1, hf⟩ := of_bind hf
  refine r_callV1 C hG hl.1 (c0 := 1) (As := [.int x1]) (by decide) (entX_O4 (n := 4) rfl) rfl (mt_X4_surfaceAt l rfl hv1) (cwV 1 C.2.2.2.2.1 (gd_V tg_2_195 tg_2_196 tg_2_197 tg_1_2 tg_2_198) rfl rfl rfl cd_X4_surfaceAt ⟨Nat.le_of_ble_eq_true rfl, Nat.le_of_ble_eq_true rfl⟩) rfl rfl (Nat.le_of_ble_eq_true rfl) dX8_draws_5 (fun H locs hG => ?_)
  rcases of_ite hf with ⟨c2, hf⟩ | ⟨c2, hf⟩
  · refine r_rvN c2 ?_
    refine lv_astoreN (lv' := [(4, .null), (0, .ref (B + 0)), (1, .int x1), (2, .int x2), (3, .int x3)]) C.1 C.2.1 dX8_draws_8 hl (by decide) rfl (fun ls hl => ?_)
    refine lv_aloadN C.1 C.2.1 dX8_draws_10 (lv_at hl 0 rfl) ?_
    refine lv_ifnonnullN C.1 C.2.1 dX8_draws_12 ?_
    refine lv_iconst (v := (-1 : Int32)) C.1 C.2.1 dX8_draws_15 (by decide) ?_
    obtain rfl := Option.some.inj hf
    exact r_iret C hG dX8_draws_16
  · refine r_rvR c2 ?_
    obtain ⟨c3, hf⟩ := of_grd hf
    refine lv_astore (lv' := [(4, .ref (B + v1)), (0, .ref (B + 0)), (1, .int x1), (2, .int x2), (3, .int x3)]) C.1 C.2.1 dX8_draws_8 hl (by decide) rfl (fun ls hl => ?_)
    refine lv_aload C.1 C.2.1 dX8_draws_10 (lv_at hl 0 rfl) ?_
    refine lv_ifnonnull (tgt := 17) C.1 C.2.1 dX8_draws_12 (by decide) ?_
    refine lv_iload_n C.1 C.2.1 dX8_draws_17 rfl (lv_at hl 3 rfl) ?_
    refine lv_iconst (v := nI 1) C.1 C.2.1 dX8_draws_18 (by decide) ?_
    rcases of_ite hf with ⟨c4, hf⟩ | ⟨c4, hf⟩
    · refine lv_icmp_lt (tgt := 28) C.1 C.2.1 dX8_draws_19 (by decide) (fun _ => ?_) (fun q => absurd c4 q)
      refine lv_bipush (v := (-2 : Int32)) C.1 C.2.1 dX8_draws_28 (by decide) ?_
      obtain rfl := Option.some.inj hf
      exact r_iret C hG dX8_draws_30
    · refine lv_icmp_lt (tgt := 28) C.1 C.2.1 dX8_draws_19 (by decide) (fun q => absurd q c4) (fun _ => ?_)
      refine lv_iload_n C.1 C.2.1 dX8_draws_22 rfl (lv_at hl 3 rfl) ?_
      refine lv_bipush (v := nI 24) C.1 C.2.1 dX8_draws_23 (by decide) ?_
      rcases of_ite hf with ⟨c5, hf⟩ | ⟨c5, hf⟩
      · refine lv_icmp_le (tgt := 31) C.1 C.2.1 dX8_draws_25 (by decide) (fun _ => ?_) (fun q => absurd c5 q)
        refine lv_aload C.1 C.2.1 dX8_draws_31 (lv_at hl 0 rfl) ?_
        refine lv_iload_n C.1 C.2.1 dX8_draws_33 rfl (lv_at hl 3 rfl) ?_
        refine lv_iload_n C.1 C.2.1 dX8_draws_34 rfl (lv_at hl 4 rfl) ?_
        obtain ⟨w6, hw6, hf⟩ := of_bind hf
        refine r_callV0 C hG hl.1 (c0 := v1) (As := [.int x2, .int x3]) (kdx_lt c3 (by decide)) (entX_O6 c3) rfl (mt_X6_drawMore l c3 hw6) (cwV 2 C.2.2.2.2.1 (gd_V tg_3_203 tg_3_204 tg_3_205 tg_1_5 tg_3_206) rfl rfl rfl cd_X6_drawMore ⟨Nat.le_of_ble_eq_true rfl, Nat.le_of_ble_eq_true rfl⟩) rfl rfl (Nat.le_of_ble_eq_true rfl) dX8_draws_35 (fun H locs hG => ?_)
        refine lv_aload C.1 C.2.1 dX8_draws_38 (lv_at hl 0 rfl) ?_
        refine gf_X8_161 C hG c3 dX8_draws_40 ?_
        obtain rfl := Option.some.inj hf
        exact r_iret C hG dX8_draws_43
      · refine lv_icmp_le (tgt := 31) C.1 C.2.1 dX8_draws_25 (by decide) (fun q => absurd q c5) (fun _ => ?_)
        refine lv_bipush (v := (-2 : Int32)) C.1 C.2.1 dX8_draws_28 (by decide) ?_
        obtain rfl := Option.some.inj hf
        exact r_iret C hG dX8_draws_30
set_option maxRecDepth 100000 in
set_option maxHeartbeats 4000000 in
theorem mt_X8_draws (l : Launch) {G : GG} {A : Nat → Prop} {B : Nat} {X : va_W} {x1 : Int32} {x2 : Int32} {x3 : Int32} {w : WX} {out : Int32 × WX}  (hf : sh_X8_draws x1 x2 x3 w = some out) : MetW l yX8_draws wc_X8_draws rm_X8_draws G A 153 B (entX G B w) X [.ref (B + 0), .int x1, .int x2, .int x3] (some (.int out.1)) (entX G B out.2) := by
  refine Met.ofW (cc := cX8_draws) (maxL := 5) (ret := (some .int)) (by decide) rfl ?_
  intro p e s m args below meth c s₁ B0 hml hv
  obtain ⟨rfl, hEv, hWd⟩ := hv
  have C : CX p s m _ meth c cX8_draws 5 RX8 wc_X8_draws (some .int) := ⟨B0.exec, B0.bytes, hml, findClass_of_methodNamed B0.named, atoms_spec (ws := wc_X8_draws) B0.pre, B0.returns, B0.notSynchronized⟩
  have hl := lv_entry [.ref (B + 0), .int x1, .int x2, .int x3] (n := 5) (Nat.le_of_ble_eq_true rfl)
  rw [lg_entry_eq]
  generalize (lg_sl [.ref (B + 0), .int x1, .int x2, .int x3] ++ List.replicate (5 - (lg_sl [.ref (B + 0), .int x1, .int x2, .int x3]).length) Slot.unset).toArray = ls at hl ⊢
  have hl : lv_has ls 5 [(0, .ref (B + 0)), (1, .int x1), (2, .int x2), (3, .int x3)] := hl
  exact kb_X8_draws_0 C  ⟨hEv, hWd, va_S.rf⟩ hl hf
abbrev wc_X8_commonDivisor : List Cond := Cond.code yX8_commonDivisor cX8_commonDivisor 3 (some .int) :: TG
abbrev rm_X8_commonDivisor : Room := { frames := 2, cells := 0, slots := 0, locals := 100 }
theorem cd_X8_commonDivisor : yX8_commonDivisor.cls = RX8 ∧ yX8_commonDivisor.cls ≠ "java/lang/invoke/MethodHandle" ∧ yX8_commonDivisor.cls ≠ "java/lang/invoke/VarHandle" ∧ (parseMethodDescriptor yX8_commonDivisor.desc).map (fun d => d.parameters.length) = some 2 := by decide +kernel
theorem dX8_commonDivisor_0 : decode cX8_commonDivisor 0 = .ok (.iload_n 1, 1) := by decide +kernel
theorem dX8_commonDivisor_1 : decode cX8_commonDivisor 1 = .ok (.istore_n 2, 1) := by decide +kernel
theorem dX8_commonDivisor_2 : decode cX8_commonDivisor 2 = .ok (.iload_n 2, 1) := by decide +kernel
theorem dX8_commonDivisor_3 : decode cX8_commonDivisor 3 = .ok (.iconst 1, 1) := by decide +kernel
theorem dX8_commonDivisor_4 : decode cX8_commonDivisor 4 = .ok (.if_icmp .le 23, 3) := by decide +kernel
theorem dX8_commonDivisor_7 : decode cX8_commonDivisor 7 = .ok (.iload_n 0, 1) := by decide +kernel
theorem dX8_commonDivisor_8 : decode cX8_commonDivisor 8 = .ok (.iload_n 2, 1) := by decide +kernel
theorem dX8_commonDivisor_9 : decode cX8_commonDivisor 9 = .ok (.irem, 1) := by decide +kernel
theorem dX8_commonDivisor_10 : decode cX8_commonDivisor 10 = .ok (.ifCond .ne 11, 3) := by decide +kernel
theorem dX8_commonDivisor_13 : decode cX8_commonDivisor 13 = .ok (.iload_n 1, 1) := by decide +kernel
theorem dX8_commonDivisor_14 : decode cX8_commonDivisor 14 = .ok (.iload_n 2, 1) := by decide +kernel
theorem dX8_commonDivisor_15 : decode cX8_commonDivisor 15 = .ok (.irem, 1) := by decide +kernel
theorem dX8_commonDivisor_16 : decode cX8_commonDivisor 16 = .ok (.ifCond .ne 5, 3) := by decide +kernel
theorem dX8_commonDivisor_19 : decode cX8_commonDivisor 19 = .ok (.iload_n 2, 1) := by decide +kernel
theorem dX8_commonDivisor_20 : decode cX8_commonDivisor 20 = .ok (.ireturn, 1) := by decide +kernel
theorem dX8_commonDivisor_21 : decode cX8_commonDivisor 21 = .ok (.iinc 2 (-1), 3) := by decide +kernel
theorem dX8_commonDivisor_24 : decode cX8_commonDivisor 24 = .ok (.goto (-22), 3) := by decide +kernel
theorem dX8_commonDivisor_27 : decode cX8_commonDivisor 27 = .ok (.iconst 1, 1) := by decide +kernel
theorem dX8_commonDivisor_28 : decode cX8_commonDivisor 28 = .ok (.ireturn, 1) := by decide +kernel
set_option maxRecDepth 100000 in
set_option maxHeartbeats 4000000 in
theorem kb_X8_commonDivisor_2 {x0 : Int32} {x1 : Int32} {st : Int32} {r : (Int32) ⊕ ((Int32) ⊕ (Unit))} {H : Heap} {locs : List Loc} {ls : Array Slot} (C : CX p s m args meth c cX8_commonDivisor 3 RX8 wc_X8_commonDivisor (some .int))  (hG : Gd s G A N B E X H locs) (hl : lv_has ls 3 [(0, .int x0), (1, .int x1), (2, .int st)]) (hf : sh_X8_commonDivisor_s2 x0 x1 st = some r)
    (kL : ∀ st' : Int32, r = Sum.inl st' → ∀ (H : Heap) (locs : List Loc) (ls : Array Slot), Gd s G A N B E X H locs → lv_has ls 3 [(0, .int x0), (1, .int x1), (2, .int st')] → W p l e rm_X8_commonDivisor s m args below meth c H locs 0 0 Q (F0 m 2 ls []))
    (kX0 : ∀ y' : Int32, r = Sum.inr (Sum.inl y') → ∀ (H : Heap) (locs : List Loc) (ls : Array Slot), Gd s G A N B E X H locs → lv_has ls 3 [(2, .int y')] → W p l e rm_X8_commonDivisor s m args below meth c H locs 0 0 Q (F0 m 19 ls []))
    (kX1 : ∀ y' : Unit, r = Sum.inr (Sum.inr y') → ∀ (H : Heap) (locs : List Loc) (ls : Array Slot), Gd s G A N B E X H locs → lv_has ls 3 [] → W p l e rm_X8_commonDivisor s m args below meth c H locs 0 0 Q (F0 m 27 ls [])) :
    W p l e rm_X8_commonDivisor s m args below meth c H locs 0 0 Q (F0 m 2 ls []) := by
  refine lv_iload_n C.1 C.2.1 dX8_commonDivisor_2 rfl (lv_at hl 2 rfl) ?_
  refine lv_iconst (v := nI 1) C.1 C.2.1 dX8_commonDivisor_3 (by decide) ?_
  rcases of_ite hf with ⟨c1, hf⟩ | ⟨c1, hf⟩
  · refine lv_icmp_le (tgt := 27) C.1 C.2.1 dX8_commonDivisor_4 (by decide) (fun _ => ?_) (fun q => absurd c1 q)
    obtain rfl := Option.some.inj hf
    exact kX1 _ rfl _ _ _ hG (lv_sub hl [] rfl)
  · refine lv_icmp_le (tgt := 27) C.1 C.2.1 dX8_commonDivisor_4 (by decide) (fun q => absurd q c1) (fun _ => ?_)
    refine lv_iload_n C.1 C.2.1 dX8_commonDivisor_7 rfl (lv_at hl 0 rfl) ?_
    refine lv_iload_n C.1 C.2.1 dX8_commonDivisor_8 rfl (lv_at hl 2 rfl) ?_
    obtain ⟨c2, hf⟩ := of_grd hf
    refine r_irem C dX8_commonDivisor_9 c2 ?_
    rcases of_ite hf with ⟨c3, hf⟩ | ⟨c3, hf⟩
    · refine lv_if_ne (tgt := 21) C.1 C.2.1 dX8_commonDivisor_10 (by decide) (fun q => absurd c3 q) (fun _ => ?_)
      refine lv_iload_n C.1 C.2.1 dX8_commonDivisor_13 rfl (lv_at hl 1 rfl) ?_
      refine lv_iload_n C.1 C.2.1 dX8_commonDivisor_14 rfl (lv_at hl 2 rfl) ?_
      obtain ⟨c5, hf⟩ := of_grd hf
      refine r_irem C dX8_commonDivisor_15 c5 ?_
      rcases of_ite hf with ⟨c6, hf⟩ | ⟨c6, hf⟩
      · refine lv_if_ne (tgt := 21) C.1 C.2.1 dX8_commonDivisor_16 (by decide) (fun q => absurd c6 q) (fun _ => ?_)
        obtain rfl := Option.some.inj hf
        exact kX0 _ rfl _ _ _ hG (lv_sub hl [2] rfl)
      · refine lv_if_ne (tgt := 21) C.1 C.2.1 dX8_commonDivisor_16 (by decide) (fun _ => ?_) (fun q => absurd q c6)
        obtain ⟨v7, ev7, hf⟩ := of_letv hf
        refine lv_iinc (v := v7) (lv' := [(2, .int v7), (0, .int x0), (1, .int x1)]) C.1 C.2.1 dX8_commonDivisor_21 hl (k := 2) rfl (by rw [ev7, show Int32.ofInt (-1) = (-1 : Int32) from by decide]) (by decide) rfl (fun ls hl => ?_)
        refine lv_goto (tgt := 2) C.1 C.2.1 dX8_commonDivisor_24 (by decide) ?_
        obtain rfl := Option.some.inj hf
        exact kL _ rfl _ _ _ hG (lv_sub hl [1, 2, 0] rfl)
    · refine lv_if_ne (tgt := 21) C.1 C.2.1 dX8_commonDivisor_10 (by decide) (fun _ => ?_) (fun q => absurd q c3)
      obtain ⟨v4, ev4, hf⟩ := of_letv hf
      refine lv_iinc (v := v4) (lv' := [(2, .int v4), (0, .int x0), (1, .int x1)]) C.1 C.2.1 dX8_commonDivisor_21 hl (k := 2) rfl (by rw [ev4, show Int32.ofInt (-1) = (-1 : Int32) from by decide]) (by decide) rfl (fun ls hl => ?_)
      refine lv_goto (tgt := 2) C.1 C.2.1 dX8_commonDivisor_24 (by decide) ?_
      obtain rfl := Option.some.inj hf
      exact kL _ rfl _ _ _ hG (lv_sub hl [1, 2, 0] rfl)
set_option maxRecDepth 100000 in
set_option maxHeartbeats 4000000 in
theorem kl_X8_commonDivisor_2 {x0 : Int32} {x1 : Int32} (C : CX p s m args meth c cX8_commonDivisor 3 RX8 wc_X8_commonDivisor (some .int))  : ∀ (n : Nat) (st : Int32) (x : (Int32) ⊕ (Unit)) (H : Heap) (locs : List Loc) (ls : Array Slot), Gd s G A N B E X H locs → lv_has ls 3 [(0, .int x0), (1, .int x1), (2, .int st)] → lpw (sh_X8_commonDivisor_s2 x0 x1) n st = some x →
    (∀ y' : Int32, x = (Sum.inl y') → ∀ (H : Heap) (locs : List Loc) (ls : Array Slot), Gd s G A N B E X H locs → lv_has ls 3 [(2, .int y')] → W p l e rm_X8_commonDivisor s m args below meth c H locs 0 0 Q (F0 m 19 ls [])) →
    (∀ y' : Unit, x = (Sum.inr y') → ∀ (H : Heap) (locs : List Loc) (ls : Array Slot), Gd s G A N B E X H locs → lv_has ls 3 [] → W p l e rm_X8_commonDivisor s m args below meth c H locs 0 0 Q (F0 m 27 ls [])) → W p l e rm_X8_commonDivisor s m args below meth c H locs 0 0 Q (F0 m 2 ls []) := by
  intro n
  induction n with
  | zero =>
    intro st x H locs ls hG hl hf
    cases hf
  | succ n ih =>
    intro st x H locs ls hG hl hf kX0 kX1
    obtain ⟨r, hr, hh⟩ := of_lpw hf
    refine kb_X8_commonDivisor_2 C  hG hl hr (fun st2 e1 H locs ls hG hl => ?_) (fun y2 e1 H locs ls hG hl => ?_) (fun y2 e1 H locs ls hG hl => ?_)
    · rcases hh with ⟨s3, e2, hh⟩ | e2
      · rw [e2] at e1
        cases e1
        exact ih _ _ _ _ _ hG hl hh kX0 kX1
      · rw [e2] at e1
        cases e1
    · rcases hh with ⟨s3, e2, hh⟩ | e2
      · rw [e2] at e1
        cases e1
      · rw [e2] at e1
        cases e1
        exact kX0 _ rfl _ _ _ hG hl
    · rcases hh with ⟨s3, e2, hh⟩ | e2
      · rw [e2] at e1
        cases e1
      · rw [e2] at e1
        cases e1
        exact kX1 _ rfl _ _ _ hG hl
set_option maxRecDepth 100000 in
set_option maxHeartbeats 4000000 in
theorem kb_X8_commonDivisor_0 {x0 : Int32} {x1 : Int32} {out : Int32} {H : Heap} {locs : List Loc} {ls : Array Slot} (C : CX p s m args meth c cX8_commonDivisor 3 RX8 wc_X8_commonDivisor (some .int))  (hG : Gd s G A N B E X H locs) (hl : lv_has ls 3 [(0, .int x0), (1, .int x1)]) (hf : sh_X8_commonDivisor x0 x1 = some out) :
    W p l e rm_X8_commonDivisor s m args below meth c H locs 0 0 (MQ below (CPost G A N B E X (some (.int out))) args s 0 0 A) (F0 m 0 ls []) := by
  refine lv_iload_n C.1 C.2.1 dX8_commonDivisor_0 rfl (lv_at hl 1 rfl) ?_
  refine lv_istore_n (lv' := [(2, .int x1), (0, .int x0), (1, .int x1)]) C.1 C.2.1 dX8_commonDivisor_1 rfl hl (by decide) rfl (fun ls hl => ?_)
  obtain ⟨ex1, hex1, hf⟩ := of_bind hf
  refine kl_X8_commonDivisor_2 C  FU x1 ex1 _ _ _ hG (lv_sub hl [1, 2, 0] rfl) hex1 (fun y2 e0 H locs ls hG hl => ?_) (fun y3 e0 H locs ls hG hl => ?_)
  · subst e0
    simp only [Sum.elim_inl, Sum.elim_inr] at hf
    refine lv_iload_n C.1 C.2.1 dX8_commonDivisor_19 rfl (lv_at hl 0 rfl) ?_
    obtain rfl := Option.some.inj hf
    exact r_iret C hG dX8_commonDivisor_20
  · subst e0
    simp only [Sum.elim_inl, Sum.elim_inr] at hf
    refine lv_iconst (v := nI 1) C.1 C.2.1 dX8_commonDivisor_27 (by decide) ?_
    obtain rfl := Option.some.inj hf
    exact r_iret C hG dX8_commonDivisor_28
set_option maxRecDepth 100000 in
set_option maxHeartbeats 4000000 in
theorem mt_X8_commonDivisor (l : Launch) {G : GG} {A : Nat → Prop} {N B : Nat} {E : Nat → va_E} {X : va_W} {x0 : Int32} {x1 : Int32} {out : Int32}  (hf : sh_X8_commonDivisor x0 x1 = some out) : MetW l yX8_commonDivisor wc_X8_commonDivisor rm_X8_commonDivisor G A N B E X [.int x0, .int x1] (some (.int out)) E := by
  refine Met.ofW (cc := cX8_commonDivisor) (maxL := 3) (ret := (some .int)) (by decide) rfl ?_
  intro p e s m args below meth c s₁ B0 hml hv
  obtain ⟨rfl, hEv, hWd⟩ := hv
  have C : CX p s m _ meth c cX8_commonDivisor 3 RX8 wc_X8_commonDivisor (some .int) := ⟨B0.exec, B0.bytes, hml, findClass_of_methodNamed B0.named, atoms_spec (ws := wc_X8_commonDivisor) B0.pre, B0.returns, B0.notSynchronized⟩
  have hl := lv_entry [.int x0, .int x1] (n := 3) (Nat.le_of_ble_eq_true rfl)
  rw [lg_entry_eq]
  generalize (lg_sl [.int x0, .int x1] ++ List.replicate (3 - (lg_sl [.int x0, .int x1]).length) Slot.unset).toArray = ls at hl ⊢
  have hl : lv_has ls 3 [(0, .int x0), (1, .int x1)] := hl
  exact kb_X8_commonDivisor_0 C  ⟨hEv, hWd, va_S.rf⟩ hl hf
abbrev wc_X8_odds : List Cond := Cond.code yX8_odds cX8_odds 7 (some .long) :: TG
abbrev rm_X8_odds : Room := { frames := 5, cells := 0, slots := 0, locals := 166 }
theorem cd_X8_odds : yX8_odds.cls = RX8 ∧ yX8_odds.cls ≠ "java/lang/invoke/MethodHandle" ∧ yX8_odds.cls ≠ "java/lang/invoke/VarHandle" ∧ (parseMethodDescriptor yX8_odds.desc).map (fun d => d.parameters.length) = some 4 := by decide +kernel
theorem dX8_odds_0 : decode cX8_odds 0 = .ok (.iload_n 1, 1) := by decide +kernel
theorem dX8_odds_1 : decode cX8_odds 1 = .ok (.iconst 1, 1) := by decide +kernel
theorem dX8_odds_2 : decode cX8_odds 2 = .ok (.if_icmp .lt 31, 3) := by decide +kernel
theorem dX8_odds_5 : decode cX8_odds 5 = .ok (.iload_n 1, 1) := by decide +kernel
theorem dX8_odds_6 : decode cX8_odds 6 = .ok (.bipush 24, 2) := by decide +kernel
theorem dX8_odds_8 : decode cX8_odds 8 = .ok (.if_icmp .gt 25, 3) := by decide +kernel
theorem dX8_odds_11 : decode cX8_odds 11 = .ok (.iload_n 3, 1) := by decide +kernel
theorem dX8_odds_12 : decode cX8_odds 12 = .ok (.iconst 1, 1) := by decide +kernel
theorem dX8_odds_13 : decode cX8_odds 13 = .ok (.if_icmp .lt 20, 3) := by decide +kernel
theorem dX8_odds_16 : decode cX8_odds 16 = .ok (.iload_n 3, 1) := by decide +kernel
theorem dX8_odds_17 : decode cX8_odds 17 = .ok (.bipush 30, 2) := by decide +kernel
theorem dX8_odds_19 : decode cX8_odds 19 = .ok (.if_icmp .gt 14, 3) := by decide +kernel
theorem dX8_odds_22 : decode cX8_odds 22 = .ok (.iload 4, 2) := by decide +kernel
theorem dX8_odds_24 : decode cX8_odds 24 = .ok (.ifCond .lt 9, 3) := by decide +kernel
theorem dX8_odds_27 : decode cX8_odds 27 = .ok (.iload 4, 2) := by decide +kernel
theorem dX8_odds_29 : decode cX8_odds 29 = .ok (.iconst 1, 1) := by decide +kernel
theorem dX8_odds_30 : decode cX8_odds 30 = .ok (.if_icmp .le 7, 3) := by decide +kernel
theorem dX8_odds_33 : decode cX8_odds 33 = .ok (.ldc2_w 246, 3) := by decide +kernel
theorem dX8_odds_36 : decode cX8_odds 36 = .ok (.lreturn, 1) := by decide +kernel
theorem dX8_odds_37 : decode cX8_odds 37 = .ok (.iconst 0, 1) := by decide +kernel
theorem dX8_odds_38 : decode cX8_odds 38 = .ok (.istore 5, 2) := by decide +kernel
theorem dX8_odds_40 : decode cX8_odds 40 = .ok (.iconst 0, 1) := by decide +kernel
theorem dX8_odds_41 : decode cX8_odds 41 = .ok (.istore 6, 2) := by decide +kernel
theorem dX8_odds_43 : decode cX8_odds 43 = .ok (.iload 6, 2) := by decide +kernel
theorem dX8_odds_45 : decode cX8_odds 45 = .ok (.iload_n 3, 1) := by decide +kernel
theorem dX8_odds_46 : decode cX8_odds 46 = .ok (.if_icmp .ge 42, 3) := by decide +kernel
theorem dX8_odds_49 : decode cX8_odds 49 = .ok (.aload_n 0, 1) := by decide +kernel
theorem dX8_odds_50 : decode cX8_odds 50 = .ok (.getfield 42, 3) := by decide +kernel
theorem dX8_odds_53 : decode cX8_odds 53 = .ok (.iconst 0, 1) := by decide +kernel
theorem dX8_odds_54 : decode cX8_odds 54 = .ok (.invokevirtual 239, 3) := by decide +kernel
theorem dX8_odds_57 : decode cX8_odds 57 = .ok (.aload_n 0, 1) := by decide +kernel
theorem dX8_odds_58 : decode cX8_odds 58 = .ok (.getfield 42, 3) := by decide +kernel
theorem dX8_odds_61 : decode cX8_odds 61 = .ok (.iload_n 1, 1) := by decide +kernel
theorem dX8_odds_62 : decode cX8_odds 62 = .ok (.iload_n 2, 1) := by decide +kernel
theorem dX8_odds_63 : decode cX8_odds 63 = .ok (.iload 6, 2) := by decide +kernel
theorem dX8_odds_65 : decode cX8_odds 65 = .ok (.iadd, 1) := by decide +kernel
theorem dX8_odds_66 : decode cX8_odds 66 = .ok (.invokevirtual 242, 3) := by decide +kernel
theorem dX8_odds_69 : decode cX8_odds 69 = .ok (.aload_n 0, 1) := by decide +kernel
theorem dX8_odds_70 : decode cX8_odds 70 = .ok (.getfield 42, 3) := by decide +kernel
theorem dX8_odds_73 : decode cX8_odds 73 = .ok (.getfield 162, 3) := by decide +kernel
theorem dX8_odds_76 : decode cX8_odds 76 = .ok (.ifCond .ne 6, 3) := by decide +kernel
theorem dX8_odds_79 : decode cX8_odds 79 = .ok (.iinc 5 1, 3) := by decide +kernel
theorem dX8_odds_82 : decode cX8_odds 82 = .ok (.iinc 6 1, 3) := by decide +kernel
theorem dX8_odds_85 : decode cX8_odds 85 = .ok (.goto (-42), 3) := by decide +kernel
theorem dX8_odds_88 : decode cX8_odds 88 = .ok (.iload 5, 2) := by decide +kernel
theorem dX8_odds_90 : decode cX8_odds 90 = .ok (.iload_n 3, 1) := by decide +kernel
theorem dX8_odds_91 : decode cX8_odds 91 = .ok (.invokestatic 248, 3) := by decide +kernel
theorem dX8_odds_94 : decode cX8_odds 94 = .ok (.istore 6, 2) := by decide +kernel
theorem dX8_odds_96 : decode cX8_odds 96 = .ok (.iload 4, 2) := by decide +kernel
theorem dX8_odds_98 : decode cX8_odds 98 = .ok (.ifCond .ne 12, 3) := by decide +kernel
theorem dX8_odds_101 : decode cX8_odds 101 = .ok (.iload 5, 2) := by decide +kernel
theorem dX8_odds_103 : decode cX8_odds 103 = .ok (.iload 6, 2) := by decide +kernel
theorem dX8_odds_105 : decode cX8_odds 105 = .ok (.idiv, 1) := by decide +kernel
theorem dX8_odds_106 : decode cX8_odds 106 = .ok (.i2l, 1) := by decide +kernel
theorem dX8_odds_107 : decode cX8_odds 107 = .ok (.goto 8, 3) := by decide +kernel
theorem dX8_odds_110 : decode cX8_odds 110 = .ok (.iload_n 3, 1) := by decide +kernel
theorem dX8_odds_111 : decode cX8_odds 111 = .ok (.iload 6, 2) := by decide +kernel
theorem dX8_odds_113 : decode cX8_odds 113 = .ok (.idiv, 1) := by decide +kernel
theorem dX8_odds_114 : decode cX8_odds 114 = .ok (.i2l, 1) := by decide +kernel
theorem dX8_odds_115 : decode cX8_odds 115 = .ok (.lreturn, 1) := by decide +kernel
set_option maxRecDepth 100000 in
set_option maxHeartbeats 4000000 in
theorem kb_X8_odds_43 {x1 : Int32} {x2 : Int32} {x3 : Int32} {x4 : Int32} {st : Int32 × Int32 × WX} {r : (Int32 × Int32 × WX) ⊕ ((Int32 × WX))} {H : Heap} {locs : List Loc} {ls : Array Slot} (C : CX p s m args meth c cX8_odds 7 RX8 wc_X8_odds (some .long))  (hG : Gd s G A 153 B (entX G B st.2.2) X H locs) (hl : lv_has ls 7 [(0, .ref (B + 0)), (1, .int x1), (2, .int x2), (3, .int x3), (4, .int x4), (5, .int st.1), (6, .int st.2.1)]) (hf : sh_X8_odds_s43 x1 x2 x3 x4 st = some r)
    (kL : ∀ st' : Int32 × Int32 × WX, r = Sum.inl st' → ∀ (H : Heap) (locs : List Loc) (ls : Array Slot), Gd s G A 153 B (entX G B st'.2.2) X H locs → lv_has ls 7 [(0, .ref (B + 0)), (1, .int x1), (2, .int x2), (3, .int x3), (4, .int x4), (5, .int st'.1), (6, .int st'.2.1)] → W p l e rm_X8_odds s m args below meth c H locs 0 0 Q (F0 m 43 ls []))
    (kX0 : ∀ y' : Int32 × WX, r = Sum.inr y' → ∀ (H : Heap) (locs : List Loc) (ls : Array Slot), Gd s G A 153 B (entX G B y'.2) X H locs → lv_has ls 7 [(3, .int x3), (4, .int x4), (5, .int y'.1)] → W p l e rm_X8_odds s m args below meth c H locs 0 0 Q (F0 m 88 ls [])) :
    W p l e rm_X8_odds s m args below meth c H locs 0 0 Q (F0 m 43 ls []) := by
  refine lv_iload C.1 C.2.1 dX8_odds_43 (lv_at hl 6 rfl) ?_
  refine lv_iload_n C.1 C.2.1 dX8_odds_45 rfl (lv_at hl 3 rfl) ?_
  rcases of_ite hf with ⟨c1, hf⟩ | ⟨c1, hf⟩
  · refine lv_icmp_ge (tgt := 88) C.1 C.2.1 dX8_odds_46 (by decide) (fun _ => ?_) (fun q => absurd c1 q)
    obtain rfl := Option.some.inj hf
    exact kX0 _ rfl _ _ _ hG (lv_sub hl [3, 4, 5] rfl)
  · refine lv_icmp_ge (tgt := 88) C.1 C.2.1 dX8_odds_46 (by decide) (fun q => absurd q c1) (fun _ => ?_)
    refine lv_aload_n C.1 C.2.1 dX8_odds_49 rfl (lv_at hl 0 rfl) ?_
    refine gf_X8_42 C hG rfl dX8_odds_50 ?_
    refine lv_iconst (v := nI 0) C.1 C.2.1 dX8_odds_53 (by decide) ?_
    obtain ⟨w2, hw2, hf⟩ := of_bind hf
    refine r_callV0 C hG hl.1 (c0 := 119) (As := [.int (nI 0)]) (by decide) (entX_O6 (n := 3) rfl) rfl (mt_X6_keepFirst l rfl hw2) (cwV 1 C.2.2.2.2.1 (gd_V tg_3_198 tg_2_204 tg_2_205 tg_1_5 tg_2_206) rfl rfl rfl cd_X6_keepFirst ⟨Nat.le_of_ble_eq_true rfl, Nat.le_of_ble_eq_true rfl⟩) rfl rfl (Nat.le_of_ble_eq_true rfl) dX8_odds_54 (fun H locs hG => ?_)
    refine lv_aload_n C.1 C.2.1 dX8_odds_57 rfl (lv_at hl 0 rfl) ?_
    refine gf_X8_42 C hG rfl dX8_odds_58 ?_
    refine lv_iload_n C.1 C.2.1 dX8_odds_61 rfl (lv_at hl 1 rfl) ?_
    refine lv_iload_n C.1 C.2.1 dX8_odds_62 rfl (lv_at hl 2 rfl) ?_
    refine lv_iload C.1 C.2.1 dX8_odds_63 (lv_at hl 6 rfl) ?_
    refine lv_iadd C.1 C.2.1 dX8_odds_65 ?_
    obtain ⟨w3, hw3, hf⟩ := of_bind hf
    refine r_callV0 C hG hl.1 (c0 := 119) (As := [.int x1, .int (x2 + st.2.1)]) (by decide) (entX_O6 (n := 3) rfl) rfl (mt_X6_drawMore l rfl hw3) (cwV 2 C.2.2.2.2.1 (gd_V tg_3_203 tg_3_204 tg_3_205 tg_1_5 tg_3_206) rfl rfl rfl cd_X6_drawMore ⟨Nat.le_of_ble_eq_true rfl, Nat.le_of_ble_eq_true rfl⟩) rfl rfl (Nat.le_of_ble_eq_true rfl) dX8_odds_66 (fun H locs hG => ?_)
    refine lv_aload_n C.1 C.2.1 dX8_odds_69 rfl (lv_at hl 0 rfl) ?_
    refine gf_X8_42 C hG rfl dX8_odds_70 ?_
    refine gf_X8_162 C hG rfl dX8_odds_73 ?_
    rcases of_ite hf with ⟨c4, hf⟩ | ⟨c4, hf⟩
    · refine lv_if_ne (tgt := 82) C.1 C.2.1 dX8_odds_76 (by decide) (fun q => absurd c4 q) (fun _ => ?_)
      obtain ⟨v6, ev6, hf⟩ := of_letv hf
      refine lv_iinc (v := v6) (lv' := [(5, .int v6), (0, .ref (B + 0)), (1, .int x1), (2, .int x2), (3, .int x3), (4, .int x4), (6, .int st.2.1)]) C.1 C.2.1 dX8_odds_79 hl (k := 5) rfl (by rw [ev6, show Int32.ofInt (1) = nI 1 from by decide]) (by decide) rfl (fun ls hl => ?_)
      obtain ⟨v7, ev7, hf⟩ := of_letv hf
      refine lv_iinc (v := v7) (lv' := [(6, .int v7), (5, .int v6), (0, .ref (B + 0)), (1, .int x1), (2, .int x2), (3, .int x3), (4, .int x4)]) C.1 C.2.1 dX8_odds_82 hl (k := 6) rfl (by rw [ev7, show Int32.ofInt (1) = nI 1 from by decide]) (by decide) rfl (fun ls hl => ?_)
      refine lv_goto (tgt := 43) C.1 C.2.1 dX8_odds_85 (by decide) ?_
      obtain rfl := Option.some.inj hf
      exact kL _ rfl _ _ _ hG (lv_sub hl [2, 3, 4, 5, 6, 1, 0] rfl)
    · refine lv_if_ne (tgt := 82) C.1 C.2.1 dX8_odds_76 (by decide) (fun _ => ?_) (fun q => absurd q c4)
      obtain ⟨v5, ev5, hf⟩ := of_letv hf
      refine lv_iinc (v := v5) (lv' := [(6, .int v5), (0, .ref (B + 0)), (1, .int x1), (2, .int x2), (3, .int x3), (4, .int x4), (5, .int st.1)]) C.1 C.2.1 dX8_odds_82 hl (k := 6) rfl (by rw [ev5, show Int32.ofInt (1) = nI 1 from by decide]) (by decide) rfl (fun ls hl => ?_)
      refine lv_goto (tgt := 43) C.1 C.2.1 dX8_odds_85 (by decide) ?_
      obtain rfl := Option.some.inj hf
      exact kL _ rfl _ _ _ hG (lv_sub hl [1, 2, 3, 4, 5, 6, 0] rfl)
set_option maxRecDepth 100000 in
set_option maxHeartbeats 4000000 in
theorem kl_X8_odds_43 {x1 : Int32} {x2 : Int32} {x3 : Int32} {x4 : Int32} (C : CX p s m args meth c cX8_odds 7 RX8 wc_X8_odds (some .long))  : ∀ (n : Nat) (st : Int32 × Int32 × WX) (x : (Int32 × WX)) (H : Heap) (locs : List Loc) (ls : Array Slot), Gd s G A 153 B (entX G B st.2.2) X H locs → lv_has ls 7 [(0, .ref (B + 0)), (1, .int x1), (2, .int x2), (3, .int x3), (4, .int x4), (5, .int st.1), (6, .int st.2.1)] → lpw (sh_X8_odds_s43 x1 x2 x3 x4) n st = some x →
    (∀ y' : Int32 × WX, x = y' → ∀ (H : Heap) (locs : List Loc) (ls : Array Slot), Gd s G A 153 B (entX G B y'.2) X H locs → lv_has ls 7 [(3, .int x3), (4, .int x4), (5, .int y'.1)] → W p l e rm_X8_odds s m args below meth c H locs 0 0 Q (F0 m 88 ls [])) → W p l e rm_X8_odds s m args below meth c H locs 0 0 Q (F0 m 43 ls []) := by
  intro n
  induction n with
  | zero =>
    intro st x H locs ls hG hl hf
    cases hf
  | succ n ih =>
    intro st x H locs ls hG hl hf kX0
    obtain ⟨r, hr, hh⟩ := of_lpw hf
    refine kb_X8_odds_43 C  hG hl hr (fun st2 e1 H locs ls hG hl => ?_) (fun y2 e1 H locs ls hG hl => ?_)
    · rcases hh with ⟨s3, e2, hh⟩ | e2
      · rw [e2] at e1
        cases e1
        exact ih _ _ _ _ _ hG hl hh kX0
      · rw [e2] at e1
        cases e1
    · rcases hh with ⟨s3, e2, hh⟩ | e2
      · rw [e2] at e1
        cases e1
      · rw [e2] at e1
        cases e1
        exact kX0 _ rfl _ _ _ hG hl
set_option maxRecDepth 100000 in
set_option maxHeartbeats 4000000 in
theorem kb_X8_odds_0 {x1 : Int32} {x2 : Int32} {x3 : Int32} {x4 : Int32} {w : WX} {out : Int64 × WX} {H : Heap} {locs : List Loc} {ls : Array Slot} (C : CX p s m args meth c cX8_odds 7 RX8 wc_X8_odds (some .long))  (hG : Gd s G A 153 B (entX G B w) X H locs) (hl : lv_has ls 7 [(0, .ref (B + 0)), (1, .int x1), (2, .int x2), (3, .int x3), (4, .int x4)]) (hf : sh_X8_odds x1 x2 x3 x4 w = some out) :
    W p l e rm_X8_odds s m args below meth c H locs 0 0 (MQ below (CPost G A 153 B (entX G B out.2) X (some (.long out.1))) args s 0 0 A) (F0 m 0 ls []) := by
  refine lv_iload_n C.1 C.2.1 dX8_odds_0 rfl (lv_at hl 1 rfl) ?_
  refine lv_iconst (v := nI 1) C.1 C.2.1 dX8_odds_1 (by decide) ?_
  rcases of_ite hf with ⟨c1, hf⟩ | ⟨c1, hf⟩
  · refine lv_icmp_lt (tgt := 33) C.1 C.2.1 dX8_odds_2 (by decide) (fun _ => ?_) (fun q => absurd c1 q)
    refine lv_ldc2 (v := (-9223372036854775808 : Int64)) C.1 C.2.1 C.2.2.2.1 (C.2.2.2.2.1 _ (List.mem_cons_of_mem _ tg_3_212)) dX8_odds_33 ?_
    obtain rfl := Option.some.inj hf
    exact r_lret C hG dX8_odds_36
  · refine lv_icmp_lt (tgt := 33) C.1 C.2.1 dX8_odds_2 (by decide) (fun q => absurd q c1) (fun _ => ?_)
    refine lv_iload_n C.1 C.2.1 dX8_odds_5 rfl (lv_at hl 1 rfl) ?_
    refine lv_bipush (v := nI 24) C.1 C.2.1 dX8_odds_6 (by decide) ?_
    rcases of_ite hf with ⟨c2, hf⟩ | ⟨c2, hf⟩
    · refine lv_icmp_gt (tgt := 33) C.1 C.2.1 dX8_odds_8 (by decide) (fun _ => ?_) (fun q => absurd c2 q)
      refine lv_ldc2 (v := (-9223372036854775808 : Int64)) C.1 C.2.1 C.2.2.2.1 (C.2.2.2.2.1 _ (List.mem_cons_of_mem _ tg_3_212)) dX8_odds_33 ?_
      obtain rfl := Option.some.inj hf
      exact r_lret C hG dX8_odds_36
    · refine lv_icmp_gt (tgt := 33) C.1 C.2.1 dX8_odds_8 (by decide) (fun q => absurd q c2) (fun _ => ?_)
      refine lv_iload_n C.1 C.2.1 dX8_odds_11 rfl (lv_at hl 3 rfl) ?_
      refine lv_iconst (v := nI 1) C.1 C.2.1 dX8_odds_12 (by decide) ?_
      rcases of_ite hf with ⟨c3, hf⟩ | ⟨c3, hf⟩
      · refine lv_icmp_lt (tgt := 33) C.1 C.2.1 dX8_odds_13 (by decide) (fun _ => ?_) (fun q => absurd c3 q)
        refine lv_ldc2 (v := (-9223372036854775808 : Int64)) C.1 C.2.1 C.2.2.2.1 (C.2.2.2.2.1 _ (List.mem_cons_of_mem _ tg_3_212)) dX8_odds_33 ?_
        obtain rfl := Option.some.inj hf
        exact r_lret C hG dX8_odds_36
      · refine lv_icmp_lt (tgt := 33) C.1 C.2.1 dX8_odds_13 (by decide) (fun q => absurd q c3) (fun _ => ?_)
        refine lv_iload_n C.1 C.2.1 dX8_odds_16 rfl (lv_at hl 3 rfl) ?_
        refine lv_bipush (v := nI 30) C.1 C.2.1 dX8_odds_17 (by decide) ?_
        rcases of_ite hf with ⟨c4, hf⟩ | ⟨c4, hf⟩
        · refine lv_icmp_gt (tgt := 33) C.1 C.2.1 dX8_odds_19 (by decide) (fun _ => ?_) (fun q => absurd c4 q)
          refine lv_ldc2 (v := (-9223372036854775808 : Int64)) C.1 C.2.1 C.2.2.2.1 (C.2.2.2.2.1 _ (List.mem_cons_of_mem _ tg_3_212)) dX8_odds_33 ?_
          obtain rfl := Option.some.inj hf
          exact r_lret C hG dX8_odds_36
        · refine lv_icmp_gt (tgt := 33) C.1 C.2.1 dX8_odds_19 (by decide) (fun q => absurd q c4) (fun _ => ?_)
          refine lv_iload C.1 C.2.1 dX8_odds_22 (lv_at hl 4 rfl) ?_
          rcases of_ite hf with ⟨c5, hf⟩ | ⟨c5, hf⟩
          · refine lv_if_lt (tgt := 33) C.1 C.2.1 dX8_odds_24 (by decide) (fun _ => ?_) (fun q => absurd c5 q)
            refine lv_ldc2 (v := (-9223372036854775808 : Int64)) C.1 C.2.1 C.2.2.2.1 (C.2.2.2.2.1 _ (List.mem_cons_of_mem _ tg_3_212)) dX8_odds_33 ?_
            obtain rfl := Option.some.inj hf
            exact r_lret C hG dX8_odds_36
          · refine lv_if_lt (tgt := 33) C.1 C.2.1 dX8_odds_24 (by decide) (fun q => absurd q c5) (fun _ => ?_)
            refine lv_iload C.1 C.2.1 dX8_odds_27 (lv_at hl 4 rfl) ?_
            refine lv_iconst (v := nI 1) C.1 C.2.1 dX8_odds_29 (by decide) ?_
            rcases of_ite hf with ⟨c6, hf⟩ | ⟨c6, hf⟩
            · refine lv_icmp_le (tgt := 37) C.1 C.2.1 dX8_odds_30 (by decide) (fun _ => ?_) (fun q => absurd c6 q)
              refine lv_iconst (v := nI 0) C.1 C.2.1 dX8_odds_37 (by decide) ?_
              refine lv_istore (lv' := [(5, .int (nI 0)), (0, .ref (B + 0)), (1, .int x1), (2, .int x2), (3, .int x3), (4, .int x4)]) C.1 C.2.1 dX8_odds_38 hl (by decide) rfl (fun ls hl => ?_)
              refine lv_iconst (v := nI 0) C.1 C.2.1 dX8_odds_40 (by decide) ?_
              refine lv_istore (lv' := [(6, .int (nI 0)), (5, .int (nI 0)), (0, .ref (B + 0)), (1, .int x1), (2, .int x2), (3, .int x3), (4, .int x4)]) C.1 C.2.1 dX8_odds_41 hl (by decide) rfl (fun ls hl => ?_)
              obtain ⟨ex7, hex7, hf⟩ := of_bind hf
              refine kl_X8_odds_43 C  FU (nI 0, nI 0, w) ex7 _ _ _ hG (lv_sub hl [2, 3, 4, 5, 6, 1, 0] rfl) hex7 (fun y e0 H locs ls hG hl => ?_)
              subst e0
              refine lv_iload C.1 C.2.1 dX8_odds_88 (lv_at hl 2 rfl) ?_
              refine lv_iload_n C.1 C.2.1 dX8_odds_90 rfl (lv_at hl 0 rfl) ?_
              obtain ⟨v8, hv8, hf⟩ := of_bind hf
              refine r_callS1 C hG hl.1 (As := [.int ex7.1, .int x3]) (mt_X8_commonDivisor l  hv8) (va_cwS 2 C.2.2.2.2.1 (gd_S tg_3_213 tg_3_214 tg_1_1 tg_3_215) rfl rfl rfl cd_X8_commonDivisor.2 ⟨Nat.le_of_ble_eq_true rfl, Nat.le_of_ble_eq_true rfl⟩) rfl rfl (Nat.le_of_ble_eq_true rfl) dX8_odds_91 (fun H locs hG => ?_)
              refine lv_istore (lv' := [(6, .int v8), (3, .int x3), (4, .int x4), (5, .int ex7.1)]) C.1 C.2.1 dX8_odds_94 hl (by decide) rfl (fun ls hl => ?_)
              refine lv_iload C.1 C.2.1 dX8_odds_96 (lv_at hl 2 rfl) ?_
              rcases of_ite hf with ⟨c9, hf⟩ | ⟨c9, hf⟩
              · refine lv_if_ne (tgt := 110) C.1 C.2.1 dX8_odds_98 (by decide) (fun q => absurd c9 q) (fun _ => ?_)
                refine lv_iload C.1 C.2.1 dX8_odds_101 (lv_at hl 3 rfl) ?_
                refine lv_iload C.1 C.2.1 dX8_odds_103 (lv_at hl 0 rfl) ?_
                obtain ⟨c11, hf⟩ := of_grd hf
                refine lv_idiv C.1 C.2.1 dX8_odds_105 c11 ?_
                refine lv_i2l C.1 C.2.1 dX8_odds_106 rfl ?_
                refine lv_goto (tgt := 115) C.1 C.2.1 dX8_odds_107 (by decide) ?_
                obtain rfl := Option.some.inj hf
                exact r_lret C hG dX8_odds_115
              · refine lv_if_ne (tgt := 110) C.1 C.2.1 dX8_odds_98 (by decide) (fun _ => ?_) (fun q => absurd q c9)
                refine lv_iload_n C.1 C.2.1 dX8_odds_110 rfl (lv_at hl 1 rfl) ?_
                refine lv_iload C.1 C.2.1 dX8_odds_111 (lv_at hl 0 rfl) ?_
                obtain ⟨c10, hf⟩ := of_grd hf
                refine lv_idiv C.1 C.2.1 dX8_odds_113 c10 ?_
                refine lv_i2l C.1 C.2.1 dX8_odds_114 rfl ?_
                obtain rfl := Option.some.inj hf
                exact r_lret C hG dX8_odds_115
            · refine lv_icmp_le (tgt := 37) C.1 C.2.1 dX8_odds_30 (by decide) (fun q => absurd q c6) (fun _ => ?_)
              refine lv_ldc2 (v := (-9223372036854775808 : Int64)) C.1 C.2.1 C.2.2.2.1 (C.2.2.2.2.1 _ (List.mem_cons_of_mem _ tg_3_212)) dX8_odds_33 ?_
              obtain rfl := Option.some.inj hf
              exact r_lret C hG dX8_odds_36
set_option maxRecDepth 100000 in
set_option maxHeartbeats 4000000 in
theorem mt_X8_odds (l : Launch) {G : GG} {A : Nat → Prop} {B : Nat} {X : va_W} {x1 : Int32} {x2 : Int32} {x3 : Int32} {x4 : Int32} {w : WX} {out : Int64 × WX}  (hf : sh_X8_odds x1 x2 x3 x4 w = some out) : MetW l yX8_odds wc_X8_odds rm_X8_odds G A 153 B (entX G B w) X [.ref (B + 0), .int x1, .int x2, .int x3, .int x4] (some (.long out.1)) (entX G B out.2) := by
  refine Met.ofW (cc := cX8_odds) (maxL := 7) (ret := (some .long)) (by decide) rfl ?_
  intro p e s m args below meth c s₁ B0 hml hv
  obtain ⟨rfl, hEv, hWd⟩ := hv
  have C : CX p s m _ meth c cX8_odds 7 RX8 wc_X8_odds (some .long) := ⟨B0.exec, B0.bytes, hml, findClass_of_methodNamed B0.named, atoms_spec (ws := wc_X8_odds) B0.pre, B0.returns, B0.notSynchronized⟩
  have hl := lv_entry [.ref (B + 0), .int x1, .int x2, .int x3, .int x4] (n := 7) (Nat.le_of_ble_eq_true rfl)
  rw [lg_entry_eq]
  generalize (lg_sl [.ref (B + 0), .int x1, .int x2, .int x3, .int x4] ++ List.replicate (7 - (lg_sl [.ref (B + 0), .int x1, .int x2, .int x3, .int x4]).length) Slot.unset).toArray = ls at hl ⊢
  have hl : lv_has ls 7 [(0, .ref (B + 0)), (1, .int x1), (2, .int x2), (3, .int x3), (4, .int x4)] := hl
  exact kb_X8_odds_0 C  ⟨hEv, hWd, va_S.rf⟩ hl hf
abbrev wc_X8_plan : List Cond := Cond.code yX8_plan cX8_plan 3 (some .int) :: TG
abbrev rm_X8_plan : Room := { frames := 3, cells := 0, slots := 0, locals := 122 }
theorem cd_X8_plan : yX8_plan.cls = RX8 ∧ yX8_plan.cls ≠ "java/lang/invoke/MethodHandle" ∧ yX8_plan.cls ≠ "java/lang/invoke/VarHandle" ∧ (parseMethodDescriptor yX8_plan.desc).map (fun d => d.parameters.length) = some 2 := by decide +kernel
theorem dX8_plan_0 : decode cX8_plan 0 = .ok (.iload_n 1, 1) := by decide +kernel
theorem dX8_plan_1 : decode cX8_plan 1 = .ok (.iconst (-1), 1) := by decide +kernel
theorem dX8_plan_2 : decode cX8_plan 2 = .ok (.if_icmp .lt 8, 3) := by decide +kernel
theorem dX8_plan_5 : decode cX8_plan 5 = .ok (.iload_n 1, 1) := by decide +kernel
theorem dX8_plan_6 : decode cX8_plan 6 = .ok (.iconst 2, 1) := by decide +kernel
theorem dX8_plan_7 : decode cX8_plan 7 = .ok (.if_icmp .le 5, 3) := by decide +kernel
theorem dX8_plan_10 : decode cX8_plan 10 = .ok (.iconst (-1), 1) := by decide +kernel
theorem dX8_plan_11 : decode cX8_plan 11 = .ok (.ireturn, 1) := by decide +kernel
theorem dX8_plan_12 : decode cX8_plan 12 = .ok (.iload_n 1, 1) := by decide +kernel
theorem dX8_plan_13 : decode cX8_plan 13 = .ok (.iconst (-1), 1) := by decide +kernel
theorem dX8_plan_14 : decode cX8_plan 14 = .ok (.if_icmp .ne 16, 3) := by decide +kernel
theorem dX8_plan_17 : decode cX8_plan 17 = .ok (.aload_n 0, 1) := by decide +kernel
theorem dX8_plan_18 : decode cX8_plan 18 = .ok (.getfield 12, 3) := by decide +kernel
theorem dX8_plan_21 : decode cX8_plan 21 = .ok (.getfield 251, 3) := by decide +kernel
theorem dX8_plan_24 : decode cX8_plan 24 = .ok (.iconst 0, 1) := by decide +kernel
theorem dX8_plan_25 : decode cX8_plan 25 = .ok (.putfield 255, 3) := by decide +kernel
theorem dX8_plan_28 : decode cX8_plan 28 = .ok (.iconst 0, 1) := by decide +kernel
theorem dX8_plan_29 : decode cX8_plan 29 = .ok (.ireturn, 1) := by decide +kernel
theorem dX8_plan_30 : decode cX8_plan 30 = .ok (.iload_n 1, 1) := by decide +kernel
theorem dX8_plan_31 : decode cX8_plan 31 = .ok (.iload_n 2, 1) := by decide +kernel
theorem dX8_plan_32 : decode cX8_plan 32 = .ok (.invokestatic 258, 3) := by decide +kernel
theorem dX8_plan_35 : decode cX8_plan 35 = .ok (.ifCond .ne 6, 3) := by decide +kernel
theorem dX8_plan_38 : decode cX8_plan 38 = .ok (.bipush (-2), 2) := by decide +kernel
theorem dX8_plan_40 : decode cX8_plan 40 = .ok (.ireturn, 1) := by decide +kernel
theorem dX8_plan_41 : decode cX8_plan 41 = .ok (.aload_n 0, 1) := by decide +kernel
theorem dX8_plan_42 : decode cX8_plan 42 = .ok (.getfield 12, 3) := by decide +kernel
theorem dX8_plan_45 : decode cX8_plan 45 = .ok (.getfield 251, 3) := by decide +kernel
theorem dX8_plan_48 : decode cX8_plan 48 = .ok (.getfield 255, 3) := by decide +kernel
theorem dX8_plan_51 : decode cX8_plan 51 = .ok (.bipush 8, 2) := by decide +kernel
theorem dX8_plan_53 : decode cX8_plan 53 = .ok (.if_icmp .lt 6, 3) := by decide +kernel
theorem dX8_plan_56 : decode cX8_plan 56 = .ok (.bipush (-4), 2) := by decide +kernel
theorem dX8_plan_58 : decode cX8_plan 58 = .ok (.ireturn, 1) := by decide +kernel
theorem dX8_plan_59 : decode cX8_plan 59 = .ok (.aload_n 0, 1) := by decide +kernel
theorem dX8_plan_60 : decode cX8_plan 60 = .ok (.getfield 12, 3) := by decide +kernel
theorem dX8_plan_63 : decode cX8_plan 63 = .ok (.getfield 251, 3) := by decide +kernel
theorem dX8_plan_66 : decode cX8_plan 66 = .ok (.iload_n 1, 1) := by decide +kernel
theorem dX8_plan_67 : decode cX8_plan 67 = .ok (.iload_n 2, 1) := by decide +kernel
theorem dX8_plan_68 : decode cX8_plan 68 = .ok (.invokevirtual 261, 3) := by decide +kernel
theorem dX8_plan_71 : decode cX8_plan 71 = .ok (.aload_n 0, 1) := by decide +kernel
theorem dX8_plan_72 : decode cX8_plan 72 = .ok (.getfield 12, 3) := by decide +kernel
theorem dX8_plan_75 : decode cX8_plan 75 = .ok (.getfield 251, 3) := by decide +kernel
theorem dX8_plan_78 : decode cX8_plan 78 = .ok (.getfield 255, 3) := by decide +kernel
theorem dX8_plan_81 : decode cX8_plan 81 = .ok (.ireturn, 1) := by decide +kernel
set_option maxRecDepth 100000 in
set_option maxHeartbeats 4000000 in
theorem kb_X8_plan_0 {x1 : Int32} {x2 : Int32} {w : WX} {out : Int32 × WX} {H : Heap} {locs : List Loc} {ls : Array Slot} (C : CX p s m args meth c cX8_plan 3 RX8 wc_X8_plan (some .int))  (hG : Gd s G A 153 B (entX G B w) X H locs) (hl : lv_has ls 3 [(0, .ref (B + 0)), (1, .int x1), (2, .int x2)]) (hf : sh_X8_plan x1 x2 w = some out) :
    W p l e rm_X8_plan s m args below meth c H locs 0 0 (MQ below (CPost G A 153 B (entX G B out.2) X (some (.int out.1))) args s 0 0 A) (F0 m 0 ls []) := by
  refine lv_iload_n C.1 C.2.1 dX8_plan_0 rfl (lv_at hl 1 rfl) ?_
  refine lv_iconst (v := (-1 : Int32)) C.1 C.2.1 dX8_plan_1 (by decide) ?_
  rcases of_ite hf with ⟨c1, hf⟩ | ⟨c1, hf⟩
  · refine lv_icmp_lt (tgt := 10) C.1 C.2.1 dX8_plan_2 (by decide) (fun _ => ?_) (fun q => absurd c1 q)
    refine lv_iconst (v := (-1 : Int32)) C.1 C.2.1 dX8_plan_10 (by decide) ?_
    obtain rfl := Option.some.inj hf
    exact r_iret C hG dX8_plan_11
  · refine lv_icmp_lt (tgt := 10) C.1 C.2.1 dX8_plan_2 (by decide) (fun q => absurd q c1) (fun _ => ?_)
    refine lv_iload_n C.1 C.2.1 dX8_plan_5 rfl (lv_at hl 1 rfl) ?_
    refine lv_iconst (v := nI 2) C.1 C.2.1 dX8_plan_6 (by decide) ?_
    rcases of_ite hf with ⟨c2, hf⟩ | ⟨c2, hf⟩
    · refine lv_icmp_le (tgt := 12) C.1 C.2.1 dX8_plan_7 (by decide) (fun _ => ?_) (fun q => absurd c2 q)
      refine lv_iload_n C.1 C.2.1 dX8_plan_12 rfl (lv_at hl 1 rfl) ?_
      refine lv_iconst (v := (-1 : Int32)) C.1 C.2.1 dX8_plan_13 (by decide) ?_
      rcases of_ite hf with ⟨c3, hf⟩ | ⟨c3, hf⟩
      · refine lv_icmp_ne (tgt := 30) C.1 C.2.1 dX8_plan_14 (by decide) (fun q => absurd c3 q) (fun _ => ?_)
        refine lv_aload_n C.1 C.2.1 dX8_plan_17 rfl (lv_at hl 0 rfl) ?_
        refine gf_X8_12 C hG rfl dX8_plan_18 ?_
        refine gf_X8_251 C hG rfl dX8_plan_21 ?_
        refine lv_iconst (v := nI 0) C.1 C.2.1 dX8_plan_24 (by decide) ?_
        obtain ⟨w8, ew8, hf⟩ := of_letv hf
        refine pf_X8_255 C hG (kx_4_3 rfl) dX8_plan_25 (fun H locs hG => ?_)
        rw [← ew8] at hG
        refine lv_iconst (v := nI 0) C.1 C.2.1 dX8_plan_28 (by decide) ?_
        obtain rfl := Option.some.inj hf
        exact r_iret C hG dX8_plan_29
      · refine lv_icmp_ne (tgt := 30) C.1 C.2.1 dX8_plan_14 (by decide) (fun _ => ?_) (fun q => absurd q c3)
        refine lv_iload_n C.1 C.2.1 dX8_plan_30 rfl (lv_at hl 1 rfl) ?_
        refine lv_iload_n C.1 C.2.1 dX8_plan_31 rfl (lv_at hl 2 rfl) ?_
        obtain ⟨v4, hv4, hf⟩ := of_bind hf
        refine r_callS1 C hG hl.1 (As := [.int x1, .int x2]) (mt_X3_canTell l  hv4) (va_cwS 2 C.2.2.2.2.1 (gd_S tg_3_220 tg_3_221 tg_1_3 tg_3_222) rfl rfl rfl cd_X3_canTell.2 ⟨Nat.le_of_ble_eq_true rfl, Nat.le_of_ble_eq_true rfl⟩) rfl rfl (Nat.le_of_ble_eq_true rfl) dX8_plan_32 (fun H locs hG => ?_)
        rcases of_ite hf with ⟨c5, hf⟩ | ⟨c5, hf⟩
        · refine lv_if_ne (tgt := 41) C.1 C.2.1 dX8_plan_35 (by decide) (fun q => absurd c5 q) (fun _ => ?_)
          refine lv_bipush (v := (-2 : Int32)) C.1 C.2.1 dX8_plan_38 (by decide) ?_
          obtain rfl := Option.some.inj hf
          exact r_iret C hG dX8_plan_40
        · refine lv_if_ne (tgt := 41) C.1 C.2.1 dX8_plan_35 (by decide) (fun _ => ?_) (fun q => absurd q c5)
          refine lv_aload_n C.1 C.2.1 dX8_plan_41 rfl (lv_at hl 0 rfl) ?_
          refine gf_X8_12 C hG rfl dX8_plan_42 ?_
          refine gf_X8_251 C hG rfl dX8_plan_45 ?_
          refine gf_X8_255 C hG (kx_4_3 rfl) dX8_plan_48 ?_
          refine lv_bipush (v := nI 8) C.1 C.2.1 dX8_plan_51 (by decide) ?_
          rcases of_ite hf with ⟨c6, hf⟩ | ⟨c6, hf⟩
          · refine lv_icmp_lt (tgt := 59) C.1 C.2.1 dX8_plan_53 (by decide) (fun _ => ?_) (fun q => absurd c6 q)
            refine lv_aload_n C.1 C.2.1 dX8_plan_59 rfl (lv_at hl 0 rfl) ?_
            refine gf_X8_12 C hG rfl dX8_plan_60 ?_
            refine gf_X8_251 C hG rfl dX8_plan_63 ?_
            refine lv_iload_n C.1 C.2.1 dX8_plan_66 rfl (lv_at hl 1 rfl) ?_
            refine lv_iload_n C.1 C.2.1 dX8_plan_67 rfl (lv_at hl 2 rfl) ?_
            obtain ⟨w7, hw7, hf⟩ := of_bind hf
            refine r_callV0 C hG hl.1 (c0 := (1 + 3)) (As := [.int x1, .int x2]) (kdx_lt (kx_4_3 rfl) (by decide)) (entX_O3 (kx_4_3 rfl)) rfl (mt_X3_append l (kx_4_3 rfl) hw7) (cwV 2 C.2.2.2.2.1 (gd_V tg_3_223 tg_3_224 tg_3_225 tg_1_3 tg_3_226) rfl rfl rfl cd_X3_append ⟨Nat.le_of_ble_eq_true rfl, Nat.le_of_ble_eq_true rfl⟩) rfl rfl (Nat.le_of_ble_eq_true rfl) dX8_plan_68 (fun H locs hG => ?_)
            refine lv_aload_n C.1 C.2.1 dX8_plan_71 rfl (lv_at hl 0 rfl) ?_
            refine gf_X8_12 C hG rfl dX8_plan_72 ?_
            refine gf_X8_251 C hG rfl dX8_plan_75 ?_
            refine gf_X8_255 C hG (kx_4_3 rfl) dX8_plan_78 ?_
            obtain rfl := Option.some.inj hf
            exact r_iret C hG dX8_plan_81
          · refine lv_icmp_lt (tgt := 59) C.1 C.2.1 dX8_plan_53 (by decide) (fun q => absurd q c6) (fun _ => ?_)
            refine lv_bipush (v := (-4 : Int32)) C.1 C.2.1 dX8_plan_56 (by decide) ?_
            obtain rfl := Option.some.inj hf
            exact r_iret C hG dX8_plan_58
    · refine lv_icmp_le (tgt := 12) C.1 C.2.1 dX8_plan_7 (by decide) (fun q => absurd q c2) (fun _ => ?_)
      refine lv_iconst (v := (-1 : Int32)) C.1 C.2.1 dX8_plan_10 (by decide) ?_
      obtain rfl := Option.some.inj hf
      exact r_iret C hG dX8_plan_11
set_option maxRecDepth 100000 in
set_option maxHeartbeats 4000000 in
theorem mt_X8_plan (l : Launch) {G : GG} {A : Nat → Prop} {B : Nat} {X : va_W} {x1 : Int32} {x2 : Int32} {w : WX} {out : Int32 × WX}  (hf : sh_X8_plan x1 x2 w = some out) : MetW l yX8_plan wc_X8_plan rm_X8_plan G A 153 B (entX G B w) X [.ref (B + 0), .int x1, .int x2] (some (.int out.1)) (entX G B out.2) := by
  refine Met.ofW (cc := cX8_plan) (maxL := 3) (ret := (some .int)) (by decide) rfl ?_
  intro p e s m args below meth c s₁ B0 hml hv
  obtain ⟨rfl, hEv, hWd⟩ := hv
  have C : CX p s m _ meth c cX8_plan 3 RX8 wc_X8_plan (some .int) := ⟨B0.exec, B0.bytes, hml, findClass_of_methodNamed B0.named, atoms_spec (ws := wc_X8_plan) B0.pre, B0.returns, B0.notSynchronized⟩
  have hl := lv_entry [.ref (B + 0), .int x1, .int x2] (n := 3) (Nat.le_of_ble_eq_true rfl)
  rw [lg_entry_eq]
  generalize (lg_sl [.ref (B + 0), .int x1, .int x2] ++ List.replicate (3 - (lg_sl [.ref (B + 0), .int x1, .int x2]).length) Slot.unset).toArray = ls at hl ⊢
  have hl : lv_has ls 3 [(0, .ref (B + 0)), (1, .int x1), (2, .int x2)] := hl
  exact kb_X8_plan_0 C  ⟨hEv, hWd, va_S.rf⟩ hl hf
abbrev wc_X8_thoughtTogether : List Cond := Cond.code yX8_thoughtTogether cX8_thoughtTogether 3 (some .int) :: TG
abbrev rm_X8_thoughtTogether : Room := { frames := 7, cells := 0, slots := 0, locals := 221 }
theorem cd_X8_thoughtTogether : yX8_thoughtTogether.cls = RX8 ∧ yX8_thoughtTogether.cls ≠ "java/lang/invoke/MethodHandle" ∧ yX8_thoughtTogether.cls ≠ "java/lang/invoke/VarHandle" ∧ (parseMethodDescriptor yX8_thoughtTogether.desc).map (fun d => d.parameters.length) = some 1 := by decide +kernel
theorem dX8_thoughtTogether_0 : decode cX8_thoughtTogether 0 = .ok (.aload_n 0, 1) := by decide +kernel
theorem dX8_thoughtTogether_1 : decode cX8_thoughtTogether 1 = .ok (.getfield 12, 3) := by decide +kernel
theorem dX8_thoughtTogether_4 : decode cX8_thoughtTogether 4 = .ok (.iload_n 1, 1) := by decide +kernel
theorem dX8_thoughtTogether_5 : decode cX8_thoughtTogether 5 = .ok (.invokevirtual 93, 3) := by decide +kernel
theorem dX8_thoughtTogether_8 : decode cX8_thoughtTogether 8 = .ok (.astore_n 2, 1) := by decide +kernel
theorem dX8_thoughtTogether_9 : decode cX8_thoughtTogether 9 = .ok (.aload_n 2, 1) := by decide +kernel
theorem dX8_thoughtTogether_10 : decode cX8_thoughtTogether 10 = .ok (.ifnonnull 5, 3) := by decide +kernel
theorem dX8_thoughtTogether_13 : decode cX8_thoughtTogether 13 = .ok (.iconst (-1), 1) := by decide +kernel
theorem dX8_thoughtTogether_14 : decode cX8_thoughtTogether 14 = .ok (.ireturn, 1) := by decide +kernel
theorem dX8_thoughtTogether_15 : decode cX8_thoughtTogether 15 = .ok (.aload_n 0, 1) := by decide +kernel
theorem dX8_thoughtTogether_16 : decode cX8_thoughtTogether 16 = .ok (.getfield 66, 3) := by decide +kernel
theorem dX8_thoughtTogether_19 : decode cX8_thoughtTogether 19 = .ok (.aload_n 0, 1) := by decide +kernel
theorem dX8_thoughtTogether_20 : decode cX8_thoughtTogether 20 = .ok (.getfield 42, 3) := by decide +kernel
theorem dX8_thoughtTogether_23 : decode cX8_thoughtTogether 23 = .ok (.aload_n 2, 1) := by decide +kernel
theorem dX8_thoughtTogether_24 : decode cX8_thoughtTogether 24 = .ok (.invokevirtual 208, 3) := by decide +kernel
theorem dX8_thoughtTogether_27 : decode cX8_thoughtTogether 27 = .ok (.aload_n 0, 1) := by decide +kernel
theorem dX8_thoughtTogether_28 : decode cX8_thoughtTogether 28 = .ok (.getfield 66, 3) := by decide +kernel
theorem dX8_thoughtTogether_31 : decode cX8_thoughtTogether 31 = .ok (.invokevirtual 226, 3) := by decide +kernel
theorem dX8_thoughtTogether_34 : decode cX8_thoughtTogether 34 = .ok (.ireturn, 1) := by decide +kernel
set_option maxRecDepth 100000 in
set_option maxHeartbeats 4000000 in
theorem kb_X8_thoughtTogether_0 {x1 : Int32} {w : WX} {out : Int32 × WX} {H : Heap} {locs : List Loc} {ls : Array Slot} (C : CX p s m args meth c cX8_thoughtTogether 3 RX8 wc_X8_thoughtTogether (some .int))  (hG : Gd s G A 153 B (entX G B w) X H locs) (hl : lv_has ls 3 [(0, .ref (B + 0)), (1, .int x1)]) (hf : sh_X8_thoughtTogether x1 w = some out) :
    W p l e rm_X8_thoughtTogether s m args below meth c H locs 0 0 (MQ below (CPost G A 153 B (entX G B out.2) X (some (.int out.1))) args s 0 0 A) (F0 m 0 ls []) := by
  refine lv_aload_n C.1 C.2.1 dX8_thoughtTogether_0 rfl (lv_at hl 0 rfl) ?_
  refine gf_X8_12 C hG rfl dX8_thoughtTogether_1 ?_
  refine lv_iload_n C.1 C.2.1 dX8_thoughtTogether_4 rfl (lv_at hl 1 rfl) ?_
  obtain ⟨v1, hv1, hf⟩ := of_bind hf
  refine r_callV1 C hG hl.1 (c0 := 1) (As := [.int x1]) (by decide) (entX_O4 (n := 4) rfl) rfl (mt_X4_algebraAt l rfl hv1) (cwV 1 C.2.2.2.2.1 (gd_V tg_2_119 tg_2_120 tg_2_121 tg_1_2 tg_2_122) rfl rfl rfl cd_X4_algebraAt ⟨Nat.le_of_ble_eq_true rfl, Nat.le_of_ble_eq_true rfl⟩) rfl rfl (Nat.le_of_ble_eq_true rfl) dX8_thoughtTogether_5 (fun H locs hG => ?_)
  rcases of_ite hf with ⟨c2, hf⟩ | ⟨c2, hf⟩
  · refine r_rvN c2 ?_
    refine lv_astore_nN (lv' := [(2, .null), (0, .ref (B + 0)), (1, .int x1)]) C.1 C.2.1 dX8_thoughtTogether_8 rfl hl (by decide) rfl (fun ls hl => ?_)
    refine lv_aload_nN C.1 C.2.1 dX8_thoughtTogether_9 rfl (lv_at hl 0 rfl) ?_
    refine lv_ifnonnullN C.1 C.2.1 dX8_thoughtTogether_10 ?_
    refine lv_iconst (v := (-1 : Int32)) C.1 C.2.1 dX8_thoughtTogether_13 (by decide) ?_
    obtain rfl := Option.some.inj hf
    exact r_iret C hG dX8_thoughtTogether_14
  · refine r_rvR c2 ?_
    obtain ⟨c3, hf⟩ := of_grd hf
    refine lv_astore_n (lv' := [(2, .ref (B + v1)), (0, .ref (B + 0)), (1, .int x1)]) C.1 C.2.1 dX8_thoughtTogether_8 rfl hl (by decide) rfl (fun ls hl => ?_)
    refine lv_aload_n C.1 C.2.1 dX8_thoughtTogether_9 rfl (lv_at hl 0 rfl) ?_
    refine lv_ifnonnull (tgt := 15) C.1 C.2.1 dX8_thoughtTogether_10 (by decide) ?_
    refine lv_aload_n C.1 C.2.1 dX8_thoughtTogether_15 rfl (lv_at hl 1 rfl) ?_
    refine gf_X8_66 C hG rfl dX8_thoughtTogether_16 ?_
    refine lv_aload_n C.1 C.2.1 dX8_thoughtTogether_19 rfl (lv_at hl 1 rfl) ?_
    refine gf_X8_42 C hG rfl dX8_thoughtTogether_20 ?_
    refine lv_aload_n C.1 C.2.1 dX8_thoughtTogether_23 rfl (lv_at hl 0 rfl) ?_
    obtain ⟨w4, hw4, hf⟩ := of_bind hf
    refine r_callV0 C hG hl.1 (c0 := 145) (As := [.ref (B + 119), .ref (B + v1)]) (by decide) (entX_O5 (n := 5) rfl) rfl (mt_X5_find l rfl rfl c3 hw4) (cwV 2 C.2.2.2.2.1 (gd_V tg_3_95 tg_3_96 tg_3_97 tg_1_9 tg_3_98) rfl rfl rfl cd_X5_find ⟨Nat.le_of_ble_eq_true rfl, Nat.le_of_ble_eq_true rfl⟩) rfl rfl (Nat.le_of_ble_eq_true rfl) dX8_thoughtTogether_24 (fun H locs hG => ?_)
    refine lv_aload_n C.1 C.2.1 dX8_thoughtTogether_27 rfl (lv_at hl 1 rfl) ?_
    refine gf_X8_66 C hG rfl dX8_thoughtTogether_28 ?_
    obtain ⟨v5, hv5, hf⟩ := of_bind hf
    refine r_callV1 C hG hl.1 (c0 := 145) (As := []) (by decide) (entX_O5 (n := 5) rfl) rfl (mt_X5_together l rfl hv5) (cwV 0 C.2.2.2.2.1 (gd_V tg_3_165 tg_3_166 tg_3_167 tg_1_9 tg_3_168) rfl rfl rfl cd_X5_together ⟨Nat.le_of_ble_eq_true rfl, Nat.le_of_ble_eq_true rfl⟩) rfl rfl (Nat.le_of_ble_eq_true rfl) dX8_thoughtTogether_31 (fun H locs hG => ?_)
    obtain rfl := Option.some.inj hf
    exact r_iret C hG dX8_thoughtTogether_34
set_option maxRecDepth 100000 in
set_option maxHeartbeats 4000000 in
theorem mt_X8_thoughtTogether (l : Launch) {G : GG} {A : Nat → Prop} {B : Nat} {X : va_W} {x1 : Int32} {w : WX} {out : Int32 × WX}  (hf : sh_X8_thoughtTogether x1 w = some out) : MetW l yX8_thoughtTogether wc_X8_thoughtTogether rm_X8_thoughtTogether G A 153 B (entX G B w) X [.ref (B + 0), .int x1] (some (.int out.1)) (entX G B out.2) := by
  refine Met.ofW (cc := cX8_thoughtTogether) (maxL := 3) (ret := (some .int)) (by decide) rfl ?_
  intro p e s m args below meth c s₁ B0 hml hv
  obtain ⟨rfl, hEv, hWd⟩ := hv
  have C : CX p s m _ meth c cX8_thoughtTogether 3 RX8 wc_X8_thoughtTogether (some .int) := ⟨B0.exec, B0.bytes, hml, findClass_of_methodNamed B0.named, atoms_spec (ws := wc_X8_thoughtTogether) B0.pre, B0.returns, B0.notSynchronized⟩
  have hl := lv_entry [.ref (B + 0), .int x1] (n := 3) (Nat.le_of_ble_eq_true rfl)
  rw [lg_entry_eq]
  generalize (lg_sl [.ref (B + 0), .int x1] ++ List.replicate (3 - (lg_sl [.ref (B + 0), .int x1]).length) Slot.unset).toArray = ls at hl ⊢
  have hl : lv_has ls 3 [(0, .ref (B + 0)), (1, .int x1)] := hl
  exact kb_X8_thoughtTogether_0 C  ⟨hEv, hWd, va_S.rf⟩ hl hf
abbrev wc_X8_behind : List Cond := Cond.code yX8_behind cX8_behind 4 (some .int) :: TG
abbrev rm_X8_behind : Room := { frames := 8, cells := 0, slots := 0, locals := 243 }
theorem cd_X8_behind : yX8_behind.cls = RX8 ∧ yX8_behind.cls ≠ "java/lang/invoke/MethodHandle" ∧ yX8_behind.cls ≠ "java/lang/invoke/VarHandle" ∧ (parseMethodDescriptor yX8_behind.desc).map (fun d => d.parameters.length) = some 2 := by decide +kernel
theorem dX8_behind_0 : decode cX8_behind 0 = .ok (.aload_n 0, 1) := by decide +kernel
theorem dX8_behind_1 : decode cX8_behind 1 = .ok (.getfield 12, 3) := by decide +kernel
theorem dX8_behind_4 : decode cX8_behind 4 = .ok (.iload_n 1, 1) := by decide +kernel
theorem dX8_behind_5 : decode cX8_behind 5 = .ok (.invokevirtual 149, 3) := by decide +kernel
theorem dX8_behind_8 : decode cX8_behind 8 = .ok (.astore_n 3, 1) := by decide +kernel
theorem dX8_behind_9 : decode cX8_behind 9 = .ok (.aload_n 3, 1) := by decide +kernel
theorem dX8_behind_10 : decode cX8_behind 10 = .ok (.ifnonnull 5, 3) := by decide +kernel
theorem dX8_behind_13 : decode cX8_behind 13 = .ok (.iconst (-1), 1) := by decide +kernel
theorem dX8_behind_14 : decode cX8_behind 14 = .ok (.ireturn, 1) := by decide +kernel
theorem dX8_behind_15 : decode cX8_behind 15 = .ok (.aload_n 0, 1) := by decide +kernel
theorem dX8_behind_16 : decode cX8_behind 16 = .ok (.getfield 42, 3) := by decide +kernel
theorem dX8_behind_19 : decode cX8_behind 19 = .ok (.aload_n 3, 1) := by decide +kernel
theorem dX8_behind_20 : decode cX8_behind 20 = .ok (.invokevirtual 157, 3) := by decide +kernel
theorem dX8_behind_23 : decode cX8_behind 23 = .ok (.aload_n 0, 1) := by decide +kernel
theorem dX8_behind_24 : decode cX8_behind 24 = .ok (.getfield 12, 3) := by decide +kernel
theorem dX8_behind_27 : decode cX8_behind 27 = .ok (.aload_n 0, 1) := by decide +kernel
theorem dX8_behind_28 : decode cX8_behind 28 = .ok (.getfield 42, 3) := by decide +kernel
theorem dX8_behind_31 : decode cX8_behind 31 = .ok (.invokevirtual 263, 3) := by decide +kernel
theorem dX8_behind_34 : decode cX8_behind 34 = .ok (.iload_n 2, 1) := by decide +kernel
theorem dX8_behind_35 : decode cX8_behind 35 = .ok (.tableswitch 60 0 2 #[25, 33, 41], 25) := by decide +kernel
theorem dX8_behind_60 : decode cX8_behind 60 = .ok (.aload_n 0, 1) := by decide +kernel
theorem dX8_behind_61 : decode cX8_behind 61 = .ok (.getfield 42, 3) := by decide +kernel
theorem dX8_behind_64 : decode cX8_behind 64 = .ok (.getfield 161, 3) := by decide +kernel
theorem dX8_behind_67 : decode cX8_behind 67 = .ok (.ireturn, 1) := by decide +kernel
theorem dX8_behind_68 : decode cX8_behind 68 = .ok (.aload_n 0, 1) := by decide +kernel
theorem dX8_behind_69 : decode cX8_behind 69 = .ok (.getfield 42, 3) := by decide +kernel
theorem dX8_behind_72 : decode cX8_behind 72 = .ok (.getfield 162, 3) := by decide +kernel
theorem dX8_behind_75 : decode cX8_behind 75 = .ok (.ireturn, 1) := by decide +kernel
theorem dX8_behind_76 : decode cX8_behind 76 = .ok (.aload_n 0, 1) := by decide +kernel
theorem dX8_behind_77 : decode cX8_behind 77 = .ok (.getfield 56, 3) := by decide +kernel
theorem dX8_behind_80 : decode cX8_behind 80 = .ok (.aload_n 0, 1) := by decide +kernel
theorem dX8_behind_81 : decode cX8_behind 81 = .ok (.getfield 42, 3) := by decide +kernel
theorem dX8_behind_84 : decode cX8_behind 84 = .ok (.invokevirtual 174, 3) := by decide +kernel
theorem dX8_behind_87 : decode cX8_behind 87 = .ok (.aload_n 0, 1) := by decide +kernel
theorem dX8_behind_88 : decode cX8_behind 88 = .ok (.getfield 56, 3) := by decide +kernel
theorem dX8_behind_91 : decode cX8_behind 91 = .ok (.getfield 177, 3) := by decide +kernel
theorem dX8_behind_94 : decode cX8_behind 94 = .ok (.ireturn, 1) := by decide +kernel
theorem dX8_behind_95 : decode cX8_behind 95 = .ok (.iload_n 2, 1) := by decide +kernel
theorem dX8_behind_96 : decode cX8_behind 96 = .ok (.bipush 10, 2) := by decide +kernel
theorem dX8_behind_98 : decode cX8_behind 98 = .ok (.if_icmp .ge 7, 3) := by decide +kernel
theorem dX8_behind_101 : decode cX8_behind 101 = .ok (.iconst (-1), 1) := by decide +kernel
theorem dX8_behind_102 : decode cX8_behind 102 = .ok (.goto 11, 3) := by decide +kernel
theorem dX8_behind_105 : decode cX8_behind 105 = .ok (.aload_n 0, 1) := by decide +kernel
theorem dX8_behind_106 : decode cX8_behind 106 = .ok (.iload_n 2, 1) := by decide +kernel
theorem dX8_behind_107 : decode cX8_behind 107 = .ok (.bipush 10, 2) := by decide +kernel
theorem dX8_behind_109 : decode cX8_behind 109 = .ok (.isub, 1) := by decide +kernel
theorem dX8_behind_110 : decode cX8_behind 110 = .ok (.invokevirtual 266, 3) := by decide +kernel
theorem dX8_behind_113 : decode cX8_behind 113 = .ok (.ireturn, 1) := by decide +kernel
set_option maxRecDepth 100000 in
set_option maxHeartbeats 4000000 in
theorem kb_X8_behind_0 {x1 : Int32} {x2 : Int32} {w : WX} {out : Int32 × WX} {H : Heap} {locs : List Loc} {ls : Array Slot} (C : CX p s m args meth c cX8_behind 4 RX8 wc_X8_behind (some .int))  (hG : Gd s G A 153 B (entX G B w) X H locs) (hl : lv_has ls 4 [(0, .ref (B + 0)), (1, .int x1), (2, .int x2)]) (hf : sh_X8_behind x1 x2 w = some out) :
    W p l e rm_X8_behind s m args below meth c H locs 0 0 (MQ below (CPost G A 153 B (entX G B out.2) X (some (.int out.1))) args s 0 0 A) (F0 m 0 ls []) := by
  refine lv_aload_n C.1 C.2.1 dX8_behind_0 rfl (lv_at hl 0 rfl) ?_
  refine gf_X8_12 C hG rfl dX8_behind_1 ?_
  refine lv_iload_n C.1 C.2.1 dX8_behind_4 rfl (lv_at hl 1 rfl) ?_
  obtain ⟨v1, hv1, hf⟩ := of_bind hf
  refine r_callV1 C hG hl.1 (c0 := 1) (As := [.int x1]) (by decide) (entX_O4 (n := 4) rfl) rfl (mt_X4_surfaceAt l rfl hv1) (cwV 1 C.2.2.2.2.1 (gd_V tg_2_195 tg_2_196 tg_2_197 tg_1_2 tg_2_198) rfl rfl rfl cd_X4_surfaceAt ⟨Nat.le_of_ble_eq_true rfl, Nat.le_of_ble_eq_true rfl⟩) rfl rfl (Nat.le_of_ble_eq_true rfl) dX8_behind_5 (fun H locs hG => ?_)
  rcases of_ite hf with ⟨c2, hf⟩ | ⟨c2, hf⟩
  · refine r_rvN c2 ?_
    refine lv_astore_nN (lv' := [(3, .null), (0, .ref (B + 0)), (1, .int x1), (2, .int x2)]) C.1 C.2.1 dX8_behind_8 rfl hl (by decide) rfl (fun ls hl => ?_)
    refine lv_aload_nN C.1 C.2.1 dX8_behind_9 rfl (lv_at hl 0 rfl) ?_
    refine lv_ifnonnullN C.1 C.2.1 dX8_behind_10 ?_
    refine lv_iconst (v := (-1 : Int32)) C.1 C.2.1 dX8_behind_13 (by decide) ?_
    obtain rfl := Option.some.inj hf
    exact r_iret C hG dX8_behind_14
  · refine r_rvR c2 ?_
    obtain ⟨c3, hf⟩ := of_grd hf
    refine lv_astore_n (lv' := [(3, .ref (B + v1)), (0, .ref (B + 0)), (1, .int x1), (2, .int x2)]) C.1 C.2.1 dX8_behind_8 rfl hl (by decide) rfl (fun ls hl => ?_)
    refine lv_aload_n C.1 C.2.1 dX8_behind_9 rfl (lv_at hl 0 rfl) ?_
    refine lv_ifnonnull (tgt := 15) C.1 C.2.1 dX8_behind_10 (by decide) ?_
    refine lv_aload_n C.1 C.2.1 dX8_behind_15 rfl (lv_at hl 1 rfl) ?_
    refine gf_X8_42 C hG rfl dX8_behind_16 ?_
    refine lv_aload_n C.1 C.2.1 dX8_behind_19 rfl (lv_at hl 0 rfl) ?_
    obtain ⟨w4, hw4, hf⟩ := of_bind hf
    refine r_callV0 C hG hl.1 (c0 := 119) (As := [.ref (B + v1)]) (by decide) (entX_O6 (n := 3) rfl) rfl (mt_X6_copyFrom l rfl c3 hw4) (cwV 1 C.2.2.2.2.1 (gd_V tg_2_236 tg_2_237 tg_2_238 tg_1_5 tg_2_239) rfl rfl rfl cd_X6_copyFrom ⟨Nat.le_of_ble_eq_true rfl, Nat.le_of_ble_eq_true rfl⟩) rfl rfl (Nat.le_of_ble_eq_true rfl) dX8_behind_20 (fun H locs hG => ?_)
    refine lv_aload_n C.1 C.2.1 dX8_behind_23 rfl (lv_at hl 1 rfl) ?_
    refine gf_X8_12 C hG rfl dX8_behind_24 ?_
    refine lv_aload_n C.1 C.2.1 dX8_behind_27 rfl (lv_at hl 1 rfl) ?_
    refine gf_X8_42 C hG rfl dX8_behind_28 ?_
    obtain ⟨w5, hw5, hf⟩ := of_bind hf
    refine r_callV0 C hG hl.1 (c0 := 1) (As := [.ref (B + 119)]) (by decide) (entX_O4 (n := 4) rfl) rfl (mt_X4_doPlan l rfl rfl hw5) (cwV 1 C.2.2.2.2.1 (gd_V tg_3_231 tg_3_232 tg_3_233 tg_1_2 tg_3_234) rfl rfl rfl cd_X4_doPlan ⟨Nat.le_of_ble_eq_true rfl, Nat.le_of_ble_eq_true rfl⟩) rfl rfl (Nat.le_of_ble_eq_true rfl) dX8_behind_31 (fun H locs hG => ?_)
    refine lv_iload_n C.1 C.2.1 dX8_behind_34 rfl (lv_at hl 3 rfl) ?_
    rcases of_ite hf with ⟨c6, hf⟩ | ⟨c6, hf⟩
    · refine lv_tableIn (tgt := 60) (off := 25) C.1 C.2.1 dX8_behind_35 (by rw [c6]; decide) (by rw [c6]; decide) (by rw [c6]; rfl) (by decide) ?_
      refine lv_aload_n C.1 C.2.1 dX8_behind_60 rfl (lv_at hl 1 rfl) ?_
      refine gf_X8_42 C hG rfl dX8_behind_61 ?_
      refine gf_X8_161 C hG rfl dX8_behind_64 ?_
      obtain rfl := Option.some.inj hf
      exact r_iret C hG dX8_behind_67
    · skip
      rcases of_ite hf with ⟨c7, hf⟩ | ⟨c7, hf⟩
      · refine lv_tableIn (tgt := 68) (off := 33) C.1 C.2.1 dX8_behind_35 (by rw [c7]; decide) (by rw [c7]; decide) (by rw [c7]; rfl) (by decide) ?_
        refine lv_aload_n C.1 C.2.1 dX8_behind_68 rfl (lv_at hl 1 rfl) ?_
        refine gf_X8_42 C hG rfl dX8_behind_69 ?_
        refine gf_X8_162 C hG rfl dX8_behind_72 ?_
        obtain rfl := Option.some.inj hf
        exact r_iret C hG dX8_behind_75
      · skip
        rcases of_ite hf with ⟨c8, hf⟩ | ⟨c8, hf⟩
        · refine lv_tableIn (tgt := 76) (off := 41) C.1 C.2.1 dX8_behind_35 (by rw [c8]; decide) (by rw [c8]; decide) (by rw [c8]; rfl) (by decide) ?_
          refine lv_aload_n C.1 C.2.1 dX8_behind_76 rfl (lv_at hl 1 rfl) ?_
          refine gf_X8_56 C hG rfl dX8_behind_77 ?_
          refine lv_aload_n C.1 C.2.1 dX8_behind_80 rfl (lv_at hl 1 rfl) ?_
          refine gf_X8_42 C hG rfl dX8_behind_81 ?_
          obtain ⟨w9, hw9, hf⟩ := of_bind hf
          refine r_callV0 C hG hl.1 (c0 := 131) (As := [.ref (B + 119)]) (by decide) (entX_O2 (n := 8) rfl) rfl (mt_X2_find l rfl rfl hw9) (cwV 1 C.2.2.2.2.1 (gd_V tg_3_17 tg_3_18 tg_3_19 tg_1_8 tg_3_20) rfl rfl rfl cd_X2_find ⟨Nat.le_of_ble_eq_true rfl, Nat.le_of_ble_eq_true rfl⟩) rfl rfl (Nat.le_of_ble_eq_true rfl) dX8_behind_84 (fun H locs hG => ?_)
          refine lv_aload_n C.1 C.2.1 dX8_behind_87 rfl (lv_at hl 1 rfl) ?_
          refine gf_X8_56 C hG rfl dX8_behind_88 ?_
          refine gf_X8_177 C hG rfl dX8_behind_91 ?_
          obtain rfl := Option.some.inj hf
          exact r_iret C hG dX8_behind_94
        · skip
          refine lv_tableOut (tgt := 95) C.1 C.2.1 dX8_behind_35 (sw_out (n := 3) (by decide) (lt_s (lt_s (lt_s lt_0 c6) c7) c8)) (by decide) ?_
          refine lv_iload_n C.1 C.2.1 dX8_behind_95 rfl (lv_at hl 3 rfl) ?_
          refine lv_bipush (v := nI 10) C.1 C.2.1 dX8_behind_96 (by decide) ?_
          rcases of_ite hf with ⟨c10, hf⟩ | ⟨c10, hf⟩
          · refine lv_icmp_ge (tgt := 105) C.1 C.2.1 dX8_behind_98 (by decide) (fun _ => ?_) (fun q => absurd c10 q)
            refine lv_aload_n C.1 C.2.1 dX8_behind_105 rfl (lv_at hl 1 rfl) ?_
            refine lv_iload_n C.1 C.2.1 dX8_behind_106 rfl (lv_at hl 3 rfl) ?_
            refine lv_bipush (v := nI 10) C.1 C.2.1 dX8_behind_107 (by decide) ?_
            refine lv_isub C.1 C.2.1 dX8_behind_109 ?_
            obtain ⟨v11, hv11, hf⟩ := of_bind hf
            refine r_callV1 C hG hl.1 (c0 := 0) (As := [.int (x2 - (nI 10))]) (by decide) (entX_O8 (n := 13) rfl) rfl (mt_X8_thoughtTogether l  hv11) (cwV 1 C.2.2.2.2.1 (gd_V tg_4_4 tg_4_6 tgp_26 tg_1_1 tg_4_7) rfl rfl rfl cd_X8_thoughtTogether ⟨Nat.le_of_ble_eq_true rfl, Nat.le_of_ble_eq_true rfl⟩) rfl rfl (Nat.le_of_ble_eq_true rfl) dX8_behind_110 (fun H locs hG => ?_)
            obtain rfl := Option.some.inj hf
            exact r_iret C hG dX8_behind_113
          · refine lv_icmp_ge (tgt := 105) C.1 C.2.1 dX8_behind_98 (by decide) (fun q => absurd q c10) (fun _ => ?_)
            refine lv_iconst (v := (-1 : Int32)) C.1 C.2.1 dX8_behind_101 (by decide) ?_
            refine lv_goto (tgt := 113) C.1 C.2.1 dX8_behind_102 (by decide) ?_
            obtain rfl := Option.some.inj hf
            exact r_iret C hG dX8_behind_113
set_option maxRecDepth 100000 in
set_option maxHeartbeats 4000000 in
theorem mt_X8_behind (l : Launch) {G : GG} {A : Nat → Prop} {B : Nat} {X : va_W} {x1 : Int32} {x2 : Int32} {w : WX} {out : Int32 × WX}  (hf : sh_X8_behind x1 x2 w = some out) : MetW l yX8_behind wc_X8_behind rm_X8_behind G A 153 B (entX G B w) X [.ref (B + 0), .int x1, .int x2] (some (.int out.1)) (entX G B out.2) := by
  refine Met.ofW (cc := cX8_behind) (maxL := 4) (ret := (some .int)) (by decide) rfl ?_
  intro p e s m args below meth c s₁ B0 hml hv
  obtain ⟨rfl, hEv, hWd⟩ := hv
  have C : CX p s m _ meth c cX8_behind 4 RX8 wc_X8_behind (some .int) := ⟨B0.exec, B0.bytes, hml, findClass_of_methodNamed B0.named, atoms_spec (ws := wc_X8_behind) B0.pre, B0.returns, B0.notSynchronized⟩
  have hl := lv_entry [.ref (B + 0), .int x1, .int x2] (n := 4) (Nat.le_of_ble_eq_true rfl)
  rw [lg_entry_eq]
  generalize (lg_sl [.ref (B + 0), .int x1, .int x2] ++ List.replicate (4 - (lg_sl [.ref (B + 0), .int x1, .int x2]).length) Slot.unset).toArray = ls at hl ⊢
  have hl : lv_has ls 4 [(0, .ref (B + 0)), (1, .int x1), (2, .int x2)] := hl
  exact kb_X8_behind_0 C  ⟨hEv, hWd, va_S.rf⟩ hl hf
abbrev wc_X8_write : List Cond := Cond.code yX8_write cX8_write 4 (some .int) :: TG
abbrev rm_X8_write : Room := { frames := 3, cells := 0, slots := 0, locals := 121 }
theorem cd_X8_write : yX8_write.cls = RX8 ∧ yX8_write.cls ≠ "java/lang/invoke/MethodHandle" ∧ yX8_write.cls ≠ "java/lang/invoke/VarHandle" ∧ (parseMethodDescriptor yX8_write.desc).map (fun d => d.parameters.length) = some 1 := by decide +kernel
theorem dX8_write_0 : decode cX8_write 0 = .ok (.aload_n 0, 1) := by decide +kernel
theorem dX8_write_1 : decode cX8_write 1 = .ok (.getfield 12, 3) := by decide +kernel
theorem dX8_write_4 : decode cX8_write 4 = .ok (.iload_n 1, 1) := by decide +kernel
theorem dX8_write_5 : decode cX8_write 5 = .ok (.invokevirtual 149, 3) := by decide +kernel
theorem dX8_write_8 : decode cX8_write 8 = .ok (.astore_n 2, 1) := by decide +kernel
theorem dX8_write_9 : decode cX8_write 9 = .ok (.aload_n 2, 1) := by decide +kernel
theorem dX8_write_10 : decode cX8_write 10 = .ok (.ifnonnull 5, 3) := by decide +kernel
theorem dX8_write_13 : decode cX8_write 13 = .ok (.iconst (-1), 1) := by decide +kernel
theorem dX8_write_14 : decode cX8_write 14 = .ok (.ireturn, 1) := by decide +kernel
theorem dX8_write_15 : decode cX8_write 15 = .ok (.iconst 0, 1) := by decide +kernel
theorem dX8_write_16 : decode cX8_write 16 = .ok (.istore_n 3, 1) := by decide +kernel
theorem dX8_write_17 : decode cX8_write 17 = .ok (.iload_n 3, 1) := by decide +kernel
theorem dX8_write_18 : decode cX8_write 18 = .ok (.aload_n 2, 1) := by decide +kernel
theorem dX8_write_19 : decode cX8_write 19 = .ok (.getfield 161, 3) := by decide +kernel
theorem dX8_write_22 : decode cX8_write 22 = .ok (.if_icmp .ge 25, 3) := by decide +kernel
theorem dX8_write_25 : decode cX8_write 25 = .ok (.aload_n 0, 1) := by decide +kernel
theorem dX8_write_26 : decode cX8_write 26 = .ok (.getfield 35, 3) := by decide +kernel
theorem dX8_write_29 : decode cX8_write 29 = .ok (.iload_n 3, 1) := by decide +kernel
theorem dX8_write_30 : decode cX8_write 30 = .ok (.getstatic 269, 3) := by decide +kernel
theorem dX8_write_33 : decode cX8_write 33 = .ok (.aload_n 2, 1) := by decide +kernel
theorem dX8_write_34 : decode cX8_write 34 = .ok (.getfield 171, 3) := by decide +kernel
theorem dX8_write_37 : decode cX8_write 37 = .ok (.iload_n 3, 1) := by decide +kernel
theorem dX8_write_38 : decode cX8_write 38 = .ok (.iaload, 1) := by decide +kernel
theorem dX8_write_39 : decode cX8_write 39 = .ok (.caload, 1) := by decide +kernel
theorem dX8_write_40 : decode cX8_write 40 = .ok (.iastore, 1) := by decide +kernel
theorem dX8_write_41 : decode cX8_write 41 = .ok (.iinc 3 1, 3) := by decide +kernel
theorem dX8_write_44 : decode cX8_write 44 = .ok (.goto (-27), 3) := by decide +kernel
theorem dX8_write_47 : decode cX8_write 47 = .ok (.aload_n 0, 1) := by decide +kernel
theorem dX8_write_48 : decode cX8_write 48 = .ok (.aload_n 2, 1) := by decide +kernel
theorem dX8_write_49 : decode cX8_write 49 = .ok (.getfield 161, 3) := by decide +kernel
theorem dX8_write_52 : decode cX8_write 52 = .ok (.putfield 273, 3) := by decide +kernel
theorem dX8_write_55 : decode cX8_write 55 = .ok (.aload_n 0, 1) := by decide +kernel
theorem dX8_write_56 : decode cX8_write 56 = .ok (.getfield 273, 3) := by decide +kernel
theorem dX8_write_59 : decode cX8_write 59 = .ok (.ireturn, 1) := by decide +kernel
set_option maxRecDepth 100000 in
set_option maxHeartbeats 4000000 in
theorem kb_X8_write_17 {x2 : Nat} {st : Int32 × WX} {r : (Int32 × WX) ⊕ ((WX))} {H : Heap} {locs : List Loc} {ls : Array Slot} (C : CX p s m args meth c cX8_write 4 RX8 wc_X8_write (some .int)) (h2 : KDx x2 = (6, 3)) (hG : Gd s G A 153 B (entX G B st.2) X H locs) (hl : lv_has ls 4 [(0, .ref (B + 0)), (2, .ref (B + x2)), (3, .int st.1)]) (hf : sh_X8_write_s17 x2 st = some r)
    (kL : ∀ st' : Int32 × WX, r = Sum.inl st' → ∀ (H : Heap) (locs : List Loc) (ls : Array Slot), Gd s G A 153 B (entX G B st'.2) X H locs → lv_has ls 4 [(0, .ref (B + 0)), (2, .ref (B + x2)), (3, .int st'.1)] → W p l e rm_X8_write s m args below meth c H locs 0 0 Q (F0 m 17 ls []))
    (kX0 : ∀ y' : WX, r = Sum.inr y' → ∀ (H : Heap) (locs : List Loc) (ls : Array Slot), Gd s G A 153 B (entX G B y') X H locs → lv_has ls 4 [(0, .ref (B + 0)), (2, .ref (B + x2))] → W p l e rm_X8_write s m args below meth c H locs 0 0 Q (F0 m 47 ls [])) :
    W p l e rm_X8_write s m args below meth c H locs 0 0 Q (F0 m 17 ls []) := by
  refine lv_iload_n C.1 C.2.1 dX8_write_17 rfl (lv_at hl 2 rfl) ?_
  refine lv_aload_n C.1 C.2.1 dX8_write_18 rfl (lv_at hl 1 rfl) ?_
  refine gf_X8_161 C hG h2 dX8_write_19 ?_
  rcases of_ite hf with ⟨c1, hf⟩ | ⟨c1, hf⟩
  · refine lv_icmp_ge (tgt := 47) C.1 C.2.1 dX8_write_22 (by decide) (fun _ => ?_) (fun q => absurd c1 q)
    obtain rfl := Option.some.inj hf
    exact kX0 _ rfl _ _ _ hG (lv_sub hl [0, 1] rfl)
  · refine lv_icmp_ge (tgt := 47) C.1 C.2.1 dX8_write_22 (by decide) (fun q => absurd q c1) (fun _ => ?_)
    refine lv_aload_n C.1 C.2.1 dX8_write_25 rfl (lv_at hl 0 rfl) ?_
    refine gf_X8_35 C hG rfl dX8_write_26 ?_
    refine lv_iload_n C.1 C.2.1 dX8_write_29 rfl (lv_at hl 2 rfl) ?_
    refine r_gets C hG hG.1.2.2.1 (List.mem_cons_of_mem _ tg_4_12) dX8_write_30 ?_
    refine lv_aload_n C.1 C.2.1 dX8_write_33 rfl (lv_at hl 1 rfl) ?_
    refine gf_X8_171 C hG h2 dX8_write_34 ?_
    refine lv_iload_n C.1 C.2.1 dX8_write_37 rfl (lv_at hl 2 rfl) ?_
    obtain ⟨v2, hv2, hf⟩ := of_bind hf
    obtain ⟨bv2, ev2⟩ := of_ldS hv2
    refine r_iald C hG (c0 := (x2 + 1)) (kdx_lt (kx_6_0 h2) (by decide)) (entX_I (kx_6_0 h2)) bv2 dX8_write_38 ?_
    refine r_top ev2 ?_
    obtain ⟨v3, hv3, hf⟩ := of_bind hf
    obtain ⟨bv3, ev3⟩ := of_tbl7 hv3
    refine r_tc C hG hG.1.2.2.1 bv3 dX8_write_39 ?_
    refine r_top ev3 ?_
    obtain ⟨w4, hw4, hf⟩ := of_bind hf
    obtain ⟨bw4, ew4⟩ := of_stX hw4
    refine r_iast C hG (c0 := 118) (by decide) (entX_I (n := 24) rfl) bw4 (E' := (entX G B w4)) (by rw [ew4]; exact upX_I (n := 24) rfl) dX8_write_40 (fun H locs hG => ?_)
    obtain ⟨v5, ev5, hf⟩ := of_letv hf
    refine lv_iinc (v := v5) (lv' := [(3, .int v5), (0, .ref (B + 0)), (2, .ref (B + x2))]) C.1 C.2.1 dX8_write_41 hl (k := 2) rfl (by rw [ev5, show Int32.ofInt (1) = nI 1 from by decide]) (by decide) rfl (fun ls hl => ?_)
    refine lv_goto (tgt := 17) C.1 C.2.1 dX8_write_44 (by decide) ?_
    obtain rfl := Option.some.inj hf
    exact kL _ rfl _ _ _ hG (lv_sub hl [1, 2, 0] rfl)
set_option maxRecDepth 100000 in
set_option maxHeartbeats 4000000 in
theorem kl_X8_write_17 {x2 : Nat} (C : CX p s m args meth c cX8_write 4 RX8 wc_X8_write (some .int)) (h2 : KDx x2 = (6, 3)) : ∀ (n : Nat) (st : Int32 × WX) (x : (WX)) (H : Heap) (locs : List Loc) (ls : Array Slot), Gd s G A 153 B (entX G B st.2) X H locs → lv_has ls 4 [(0, .ref (B + 0)), (2, .ref (B + x2)), (3, .int st.1)] → lpw (sh_X8_write_s17 x2) n st = some x →
    (∀ y' : WX, x = y' → ∀ (H : Heap) (locs : List Loc) (ls : Array Slot), Gd s G A 153 B (entX G B y') X H locs → lv_has ls 4 [(0, .ref (B + 0)), (2, .ref (B + x2))] → W p l e rm_X8_write s m args below meth c H locs 0 0 Q (F0 m 47 ls [])) → W p l e rm_X8_write s m args below meth c H locs 0 0 Q (F0 m 17 ls []) := by
  intro n
  induction n with
  | zero =>
    intro st x H locs ls hG hl hf
    cases hf
  | succ n ih =>
    intro st x H locs ls hG hl hf kX0
    obtain ⟨r, hr, hh⟩ := of_lpw hf
    refine kb_X8_write_17 C h2 hG hl hr (fun st2 e1 H locs ls hG hl => ?_) (fun y2 e1 H locs ls hG hl => ?_)
    · rcases hh with ⟨s3, e2, hh⟩ | e2
      · rw [e2] at e1
        cases e1
        exact ih _ _ _ _ _ hG hl hh kX0
      · rw [e2] at e1
        cases e1
    · rcases hh with ⟨s3, e2, hh⟩ | e2
      · rw [e2] at e1
        cases e1
      · rw [e2] at e1
        cases e1
        exact kX0 _ rfl _ _ _ hG hl
set_option maxRecDepth 100000 in
set_option maxHeartbeats 4000000 in
theorem kb_X8_write_0 {x1 : Int32} {w : WX} {out : Int32 × WX} {H : Heap} {locs : List Loc} {ls : Array Slot} (C : CX p s m args meth c cX8_write 4 RX8 wc_X8_write (some .int))  (hG : Gd s G A 153 B (entX G B w) X H locs) (hl : lv_has ls 4 [(0, .ref (B + 0)), (1, .int x1)]) (hf : sh_X8_write x1 w = some out) :
    W p l e rm_X8_write s m args below meth c H locs 0 0 (MQ below (CPost G A 153 B (entX G B out.2) X (some (.int out.1))) args s 0 0 A) (F0 m 0 ls []) := by
  refine lv_aload_n C.1 C.2.1 dX8_write_0 rfl (lv_at hl 0 rfl) ?_
  refine gf_X8_12 C hG rfl dX8_write_1 ?_
  refine lv_iload_n C.1 C.2.1 dX8_write_4 rfl (lv_at hl 1 rfl) ?_
  obtain ⟨v1, hv1, hf⟩ := of_bind hf
  refine r_callV1 C hG hl.1 (c0 := 1) (As := [.int x1]) (by decide) (entX_O4 (n := 4) rfl) rfl (mt_X4_surfaceAt l rfl hv1) (cwV 1 C.2.2.2.2.1 (gd_V tg_2_195 tg_2_196 tg_2_197 tg_1_2 tg_2_198) rfl rfl rfl cd_X4_surfaceAt ⟨Nat.le_of_ble_eq_true rfl, Nat.le_of_ble_eq_true rfl⟩) rfl rfl (Nat.le_of_ble_eq_true rfl) dX8_write_5 (fun H locs hG => ?_)
  rcases of_ite hf with ⟨c2, hf⟩ | ⟨c2, hf⟩
  · refine r_rvN c2 ?_
    refine lv_astore_nN (lv' := [(2, .null), (0, .ref (B + 0)), (1, .int x1)]) C.1 C.2.1 dX8_write_8 rfl hl (by decide) rfl (fun ls hl => ?_)
    refine lv_aload_nN C.1 C.2.1 dX8_write_9 rfl (lv_at hl 0 rfl) ?_
    refine lv_ifnonnullN C.1 C.2.1 dX8_write_10 ?_
    refine lv_iconst (v := (-1 : Int32)) C.1 C.2.1 dX8_write_13 (by decide) ?_
    obtain rfl := Option.some.inj hf
    exact r_iret C hG dX8_write_14
  · refine r_rvR c2 ?_
    obtain ⟨c3, hf⟩ := of_grd hf
    refine lv_astore_n (lv' := [(2, .ref (B + v1)), (0, .ref (B + 0)), (1, .int x1)]) C.1 C.2.1 dX8_write_8 rfl hl (by decide) rfl (fun ls hl => ?_)
    refine lv_aload_n C.1 C.2.1 dX8_write_9 rfl (lv_at hl 0 rfl) ?_
    refine lv_ifnonnull (tgt := 15) C.1 C.2.1 dX8_write_10 (by decide) ?_
    refine lv_iconst (v := nI 0) C.1 C.2.1 dX8_write_15 (by decide) ?_
    refine lv_istore_n (lv' := [(3, .int (nI 0)), (2, .ref (B + v1)), (0, .ref (B + 0)), (1, .int x1)]) C.1 C.2.1 dX8_write_16 rfl hl (by decide) rfl (fun ls hl => ?_)
    obtain ⟨ex4, hex4, hf⟩ := of_bind hf
    refine kl_X8_write_17 C c3 FU (nI 0, w) ex4 _ _ _ hG (lv_sub hl [2, 1, 0] rfl) hex4 (fun y e0 H locs ls hG hl => ?_)
    subst e0
    refine lv_aload_n C.1 C.2.1 dX8_write_47 rfl (lv_at hl 0 rfl) ?_
    refine lv_aload_n C.1 C.2.1 dX8_write_48 rfl (lv_at hl 1 rfl) ?_
    refine gf_X8_161 C hG c3 dX8_write_49 ?_
    obtain ⟨w5, ew5, hf⟩ := of_letv hf
    refine pf_X8_273 C hG rfl dX8_write_52 (fun H locs hG => ?_)
    rw [← ew5] at hG
    refine lv_aload_n C.1 C.2.1 dX8_write_55 rfl (lv_at hl 0 rfl) ?_
    refine gf_X8_273 C hG rfl dX8_write_56 ?_
    obtain rfl := Option.some.inj hf
    exact r_iret C hG dX8_write_59
set_option maxRecDepth 100000 in
set_option maxHeartbeats 4000000 in
theorem mt_X8_write (l : Launch) {G : GG} {A : Nat → Prop} {B : Nat} {X : va_W} {x1 : Int32} {w : WX} {out : Int32 × WX}  (hf : sh_X8_write x1 w = some out) : MetW l yX8_write wc_X8_write rm_X8_write G A 153 B (entX G B w) X [.ref (B + 0), .int x1] (some (.int out.1)) (entX G B out.2) := by
  refine Met.ofW (cc := cX8_write) (maxL := 4) (ret := (some .int)) (by decide) rfl ?_
  intro p e s m args below meth c s₁ B0 hml hv
  obtain ⟨rfl, hEv, hWd⟩ := hv
  have C : CX p s m _ meth c cX8_write 4 RX8 wc_X8_write (some .int) := ⟨B0.exec, B0.bytes, hml, findClass_of_methodNamed B0.named, atoms_spec (ws := wc_X8_write) B0.pre, B0.returns, B0.notSynchronized⟩
  have hl := lv_entry [.ref (B + 0), .int x1] (n := 4) (Nat.le_of_ble_eq_true rfl)
  rw [lg_entry_eq]
  generalize (lg_sl [.ref (B + 0), .int x1] ++ List.replicate (4 - (lg_sl [.ref (B + 0), .int x1]).length) Slot.unset).toArray = ls at hl ⊢
  have hl : lv_has ls 4 [(0, .ref (B + 0)), (1, .int x1)] := hl
  exact kb_X8_write_0 C  ⟨hEv, hWd, va_S.rf⟩ hl hf
abbrev wc_X8_paper : List Cond := Cond.code yX8_paper cX8_paper 2 (some .int) :: TG
abbrev rm_X8_paper : Room := { frames := 2, cells := 0, slots := 0, locals := 100 }
theorem cd_X8_paper : yX8_paper.cls = RX8 ∧ yX8_paper.cls ≠ "java/lang/invoke/MethodHandle" ∧ yX8_paper.cls ≠ "java/lang/invoke/VarHandle" ∧ (parseMethodDescriptor yX8_paper.desc).map (fun d => d.parameters.length) = some 1 := by decide +kernel
theorem dX8_paper_0 : decode cX8_paper 0 = .ok (.iload_n 1, 1) := by decide +kernel
theorem dX8_paper_1 : decode cX8_paper 1 = .ok (.ifCond .lt 11, 3) := by decide +kernel
theorem dX8_paper_4 : decode cX8_paper 4 = .ok (.iload_n 1, 1) := by decide +kernel
theorem dX8_paper_5 : decode cX8_paper 5 = .ok (.aload_n 0, 1) := by decide +kernel
theorem dX8_paper_6 : decode cX8_paper 6 = .ok (.getfield 273, 3) := by decide +kernel
theorem dX8_paper_9 : decode cX8_paper 9 = .ok (.if_icmp .lt 7, 3) := by decide +kernel
theorem dX8_paper_12 : decode cX8_paper 12 = .ok (.iconst (-1), 1) := by decide +kernel
theorem dX8_paper_13 : decode cX8_paper 13 = .ok (.goto 9, 3) := by decide +kernel
theorem dX8_paper_16 : decode cX8_paper 16 = .ok (.aload_n 0, 1) := by decide +kernel
theorem dX8_paper_17 : decode cX8_paper 17 = .ok (.getfield 35, 3) := by decide +kernel
theorem dX8_paper_20 : decode cX8_paper 20 = .ok (.iload_n 1, 1) := by decide +kernel
theorem dX8_paper_21 : decode cX8_paper 21 = .ok (.iaload, 1) := by decide +kernel
theorem dX8_paper_22 : decode cX8_paper 22 = .ok (.ireturn, 1) := by decide +kernel
set_option maxRecDepth 100000 in
set_option maxHeartbeats 4000000 in
theorem kb_X8_paper_0 {x1 : Int32} {w : WX} {out : Int32} {H : Heap} {locs : List Loc} {ls : Array Slot} (C : CX p s m args meth c cX8_paper 2 RX8 wc_X8_paper (some .int))  (hG : Gd s G A 153 B (entX G B w) X H locs) (hl : lv_has ls 2 [(0, .ref (B + 0)), (1, .int x1)]) (hf : sh_X8_paper x1 w = some out) :
    W p l e rm_X8_paper s m args below meth c H locs 0 0 (MQ below (CPost G A 153 B (entX G B w) X (some (.int out))) args s 0 0 A) (F0 m 0 ls []) := by
  refine lv_iload_n C.1 C.2.1 dX8_paper_0 rfl (lv_at hl 1 rfl) ?_
  rcases of_ite hf with ⟨c1, hf⟩ | ⟨c1, hf⟩
  · refine lv_if_lt (tgt := 12) C.1 C.2.1 dX8_paper_1 (by decide) (fun _ => ?_) (fun q => absurd c1 q)
    refine lv_iconst (v := (-1 : Int32)) C.1 C.2.1 dX8_paper_12 (by decide) ?_
    refine lv_goto (tgt := 22) C.1 C.2.1 dX8_paper_13 (by decide) ?_
    obtain rfl := Option.some.inj hf
    exact r_iret C hG dX8_paper_22
  · refine lv_if_lt (tgt := 12) C.1 C.2.1 dX8_paper_1 (by decide) (fun q => absurd q c1) (fun _ => ?_)
    refine lv_iload_n C.1 C.2.1 dX8_paper_4 rfl (lv_at hl 1 rfl) ?_
    refine lv_aload_n C.1 C.2.1 dX8_paper_5 rfl (lv_at hl 0 rfl) ?_
    refine gf_X8_273 C hG rfl dX8_paper_6 ?_
    rcases of_ite hf with ⟨c2, hf⟩ | ⟨c2, hf⟩
    · refine lv_icmp_lt (tgt := 16) C.1 C.2.1 dX8_paper_9 (by decide) (fun _ => ?_) (fun q => absurd c2 q)
      refine lv_aload_n C.1 C.2.1 dX8_paper_16 rfl (lv_at hl 0 rfl) ?_
      refine gf_X8_35 C hG rfl dX8_paper_17 ?_
      refine lv_iload_n C.1 C.2.1 dX8_paper_20 rfl (lv_at hl 1 rfl) ?_
      obtain ⟨v3, hv3, hf⟩ := of_bind hf
      obtain ⟨bv3, ev3⟩ := of_ldS hv3
      refine r_iald C hG (c0 := 118) (by decide) (entX_I (n := 24) rfl) bv3 dX8_paper_21 ?_
      refine r_top ev3 ?_
      obtain rfl := Option.some.inj hf
      exact r_iret C hG dX8_paper_22
    · refine lv_icmp_lt (tgt := 16) C.1 C.2.1 dX8_paper_9 (by decide) (fun q => absurd q c2) (fun _ => ?_)
      refine lv_iconst (v := (-1 : Int32)) C.1 C.2.1 dX8_paper_12 (by decide) ?_
      refine lv_goto (tgt := 22) C.1 C.2.1 dX8_paper_13 (by decide) ?_
      obtain rfl := Option.some.inj hf
      exact r_iret C hG dX8_paper_22
set_option maxRecDepth 100000 in
set_option maxHeartbeats 4000000 in
theorem mt_X8_paper (l : Launch) {G : GG} {A : Nat → Prop} {B : Nat} {X : va_W} {x1 : Int32} {w : WX} {out : Int32}  (hf : sh_X8_paper x1 w = some out) : MetW l yX8_paper wc_X8_paper rm_X8_paper G A 153 B (entX G B w) X [.ref (B + 0), .int x1] (some (.int out)) (entX G B w) := by
  refine Met.ofW (cc := cX8_paper) (maxL := 2) (ret := (some .int)) (by decide) rfl ?_
  intro p e s m args below meth c s₁ B0 hml hv
  obtain ⟨rfl, hEv, hWd⟩ := hv
  have C : CX p s m _ meth c cX8_paper 2 RX8 wc_X8_paper (some .int) := ⟨B0.exec, B0.bytes, hml, findClass_of_methodNamed B0.named, atoms_spec (ws := wc_X8_paper) B0.pre, B0.returns, B0.notSynchronized⟩
  have hl := lv_entry [.ref (B + 0), .int x1] (n := 2) (Nat.le_of_ble_eq_true rfl)
  rw [lg_entry_eq]
  generalize (lg_sl [.ref (B + 0), .int x1] ++ List.replicate (2 - (lg_sl [.ref (B + 0), .int x1]).length) Slot.unset).toArray = ls at hl ⊢
  have hl : lv_has ls 2 [(0, .ref (B + 0)), (1, .int x1)] := hl
  exact kb_X8_paper_0 C  ⟨hEv, hWd, va_S.rf⟩ hl hf
abbrev wc_X8_judge : List Cond := Cond.code yX8_judge cX8_judge 8 (some .int) :: TG
abbrev rm_X8_judge : Room := { frames := 7, cells := 0, slots := 0, locals := 221 }
theorem cd_X8_judge : yX8_judge.cls = RX8 ∧ yX8_judge.cls ≠ "java/lang/invoke/MethodHandle" ∧ yX8_judge.cls ≠ "java/lang/invoke/VarHandle" ∧ (parseMethodDescriptor yX8_judge.desc).map (fun d => d.parameters.length) = some 3 := by decide +kernel
theorem dX8_judge_0 : decode cX8_judge 0 = .ok (.aload_n 0, 1) := by decide +kernel
theorem dX8_judge_1 : decode cX8_judge 1 = .ok (.getfield 12, 3) := by decide +kernel
theorem dX8_judge_4 : decode cX8_judge 4 = .ok (.iload_n 2, 1) := by decide +kernel
theorem dX8_judge_5 : decode cX8_judge 5 = .ok (.invokevirtual 149, 3) := by decide +kernel
theorem dX8_judge_8 : decode cX8_judge 8 = .ok (.astore 4, 2) := by decide +kernel
theorem dX8_judge_10 : decode cX8_judge 10 = .ok (.aload_n 0, 1) := by decide +kernel
theorem dX8_judge_11 : decode cX8_judge 11 = .ok (.getfield 12, 3) := by decide +kernel
theorem dX8_judge_14 : decode cX8_judge 14 = .ok (.iload_n 3, 1) := by decide +kernel
theorem dX8_judge_15 : decode cX8_judge 15 = .ok (.invokevirtual 93, 3) := by decide +kernel
theorem dX8_judge_18 : decode cX8_judge 18 = .ok (.astore 5, 2) := by decide +kernel
theorem dX8_judge_20 : decode cX8_judge 20 = .ok (.aload_n 0, 1) := by decide +kernel
theorem dX8_judge_21 : decode cX8_judge 21 = .ok (.getfield 31, 3) := by decide +kernel
theorem dX8_judge_24 : decode cX8_judge 24 = .ok (.iload_n 1, 1) := by decide +kernel
theorem dX8_judge_25 : decode cX8_judge 25 = .ok (.invokevirtual 276, 3) := by decide +kernel
theorem dX8_judge_28 : decode cX8_judge 28 = .ok (.ifCond .eq 13, 3) := by decide +kernel
theorem dX8_judge_31 : decode cX8_judge 31 = .ok (.aload 4, 2) := by decide +kernel
theorem dX8_judge_33 : decode cX8_judge 33 = .ok (.ifnull 8, 3) := by decide +kernel
theorem dX8_judge_36 : decode cX8_judge 36 = .ok (.aload 5, 2) := by decide +kernel
theorem dX8_judge_38 : decode cX8_judge 38 = .ok (.ifnonnull 5, 3) := by decide +kernel
theorem dX8_judge_41 : decode cX8_judge 41 = .ok (.iconst (-1), 1) := by decide +kernel
theorem dX8_judge_42 : decode cX8_judge 42 = .ok (.ireturn, 1) := by decide +kernel
theorem dX8_judge_43 : decode cX8_judge 43 = .ok (.aload_n 0, 1) := by decide +kernel
theorem dX8_judge_44 : decode cX8_judge 44 = .ok (.getfield 31, 3) := by decide +kernel
theorem dX8_judge_47 : decode cX8_judge 47 = .ok (.iload_n 1, 1) := by decide +kernel
theorem dX8_judge_48 : decode cX8_judge 48 = .ok (.invokevirtual 279, 3) := by decide +kernel
theorem dX8_judge_51 : decode cX8_judge 51 = .ok (.ifCond .ne 6, 3) := by decide +kernel
theorem dX8_judge_54 : decode cX8_judge 54 = .ok (.bipush (-11), 2) := by decide +kernel
theorem dX8_judge_56 : decode cX8_judge 56 = .ok (.ireturn, 1) := by decide +kernel
theorem dX8_judge_57 : decode cX8_judge 57 = .ok (.aload_n 0, 1) := by decide +kernel
theorem dX8_judge_58 : decode cX8_judge 58 = .ok (.getfield 66, 3) := by decide +kernel
theorem dX8_judge_61 : decode cX8_judge 61 = .ok (.aload 4, 2) := by decide +kernel
theorem dX8_judge_63 : decode cX8_judge 63 = .ok (.aload 5, 2) := by decide +kernel
theorem dX8_judge_65 : decode cX8_judge 65 = .ok (.invokevirtual 208, 3) := by decide +kernel
theorem dX8_judge_68 : decode cX8_judge 68 = .ok (.iconst 0, 1) := by decide +kernel
theorem dX8_judge_69 : decode cX8_judge 69 = .ok (.istore 6, 2) := by decide +kernel
theorem dX8_judge_71 : decode cX8_judge 71 = .ok (.iload 6, 2) := by decide +kernel
theorem dX8_judge_73 : decode cX8_judge 73 = .ok (.aload_n 0, 1) := by decide +kernel
theorem dX8_judge_74 : decode cX8_judge 74 = .ok (.getfield 31, 3) := by decide +kernel
theorem dX8_judge_77 : decode cX8_judge 77 = .ok (.getfield 282, 3) := by decide +kernel
theorem dX8_judge_80 : decode cX8_judge 80 = .ok (.iload_n 1, 1) := by decide +kernel
theorem dX8_judge_81 : decode cX8_judge 81 = .ok (.iaload, 1) := by decide +kernel
theorem dX8_judge_82 : decode cX8_judge 82 = .ok (.if_icmp .ge 57, 3) := by decide +kernel
theorem dX8_judge_85 : decode cX8_judge 85 = .ok (.aload_n 0, 1) := by decide +kernel
theorem dX8_judge_86 : decode cX8_judge 86 = .ok (.getfield 66, 3) := by decide +kernel
theorem dX8_judge_89 : decode cX8_judge 89 = .ok (.iload 6, 2) := by decide +kernel
theorem dX8_judge_91 : decode cX8_judge 91 = .ok (.invokevirtual 211, 3) := by decide +kernel
theorem dX8_judge_94 : decode cX8_judge 94 = .ok (.ifCond .eq 16, 3) := by decide +kernel
theorem dX8_judge_97 : decode cX8_judge 97 = .ok (.aload_n 0, 1) := by decide +kernel
theorem dX8_judge_98 : decode cX8_judge 98 = .ok (.getfield 66, 3) := by decide +kernel
theorem dX8_judge_101 : decode cX8_judge 101 = .ok (.getfield 214, 3) := by decide +kernel
theorem dX8_judge_104 : decode cX8_judge 104 = .ok (.iload 6, 2) := by decide +kernel
theorem dX8_judge_106 : decode cX8_judge 106 = .ok (.iaload, 1) := by decide +kernel
theorem dX8_judge_107 : decode cX8_judge 107 = .ok (.goto 4, 3) := by decide +kernel
theorem dX8_judge_110 : decode cX8_judge 110 = .ok (.iconst 0, 1) := by decide +kernel
theorem dX8_judge_111 : decode cX8_judge 111 = .ok (.istore 7, 2) := by decide +kernel
theorem dX8_judge_113 : decode cX8_judge 113 = .ok (.aload_n 0, 1) := by decide +kernel
theorem dX8_judge_114 : decode cX8_judge 114 = .ok (.getfield 31, 3) := by decide +kernel
theorem dX8_judge_117 : decode cX8_judge 117 = .ok (.getfield 285, 3) := by decide +kernel
theorem dX8_judge_120 : decode cX8_judge 120 = .ok (.iload_n 1, 1) := by decide +kernel
theorem dX8_judge_121 : decode cX8_judge 121 = .ok (.aaload, 1) := by decide +kernel
theorem dX8_judge_122 : decode cX8_judge 122 = .ok (.iload 6, 2) := by decide +kernel
theorem dX8_judge_124 : decode cX8_judge 124 = .ok (.iaload, 1) := by decide +kernel
theorem dX8_judge_125 : decode cX8_judge 125 = .ok (.iload 7, 2) := by decide +kernel
theorem dX8_judge_127 : decode cX8_judge 127 = .ok (.if_icmp .eq 6, 3) := by decide +kernel
theorem dX8_judge_130 : decode cX8_judge 130 = .ok (.iload 6, 2) := by decide +kernel
theorem dX8_judge_132 : decode cX8_judge 132 = .ok (.ireturn, 1) := by decide +kernel
theorem dX8_judge_133 : decode cX8_judge 133 = .ok (.iinc 6 1, 3) := by decide +kernel
theorem dX8_judge_136 : decode cX8_judge 136 = .ok (.goto (-65), 3) := by decide +kernel
theorem dX8_judge_139 : decode cX8_judge 139 = .ok (.bipush (-5), 2) := by decide +kernel
theorem dX8_judge_141 : decode cX8_judge 141 = .ok (.ireturn, 1) := by decide +kernel
set_option maxRecDepth 100000 in
set_option maxHeartbeats 4000000 in
theorem kb_X8_judge_111 {x1 : Int32} {x6 : Int32} {s0 : Int32} {w : WX} {r : (Int32) ⊕ ((Int32) ⊕ (Unit))} {H : Heap} {locs : List Loc} {ls : Array Slot} (C : CX p s m args meth c cX8_judge 8 RX8 wc_X8_judge (some .int))  (hG : Gd s G A 153 B (entX G B w) X H locs) (hl : lv_has ls 8 [(0, .ref (B + 0)), (1, .int x1), (6, .int x6)]) (hf : sh_X8_judge_j111 x1 x6 s0 w = some r)
    (kL : ∀ st' : Int32, r = Sum.inl st' → ∀ (H : Heap) (locs : List Loc) (ls : Array Slot), Gd s G A 153 B (entX G B w) X H locs → lv_has ls 8 [(0, .ref (B + 0)), (1, .int x1), (6, .int st')] → W p l e rm_X8_judge s m args below meth c H locs 0 0 Q (F0 m 71 ls []))
    (kX0 : ∀ y' : Int32, r = Sum.inr (Sum.inl y') → ∀ (H : Heap) (locs : List Loc) (ls : Array Slot), Gd s G A 153 B (entX G B w) X H locs → lv_has ls 8 [(6, .int y')] → W p l e rm_X8_judge s m args below meth c H locs 0 0 Q (F0 m 130 ls []))
    (kX1 : ∀ y' : Unit, r = Sum.inr (Sum.inr y') → ∀ (H : Heap) (locs : List Loc) (ls : Array Slot), Gd s G A 153 B (entX G B w) X H locs → lv_has ls 8 [] → W p l e rm_X8_judge s m args below meth c H locs 0 0 Q (F0 m 139 ls [])) :
    W p l e rm_X8_judge s m args below meth c H locs 0 0 Q (F0 m 111 ls [.int s0]) := by
  refine lv_istore (lv' := [(7, .int s0), (0, .ref (B + 0)), (1, .int x1), (6, .int x6)]) C.1 C.2.1 dX8_judge_111 hl (by decide) rfl (fun ls hl => ?_)
  refine lv_aload_n C.1 C.2.1 dX8_judge_113 rfl (lv_at hl 1 rfl) ?_
  refine gf_X8_31 C hG rfl dX8_judge_114 ?_
  refine gf_X8_285 C hG rfl dX8_judge_117 ?_
  refine lv_iload_n C.1 C.2.1 dX8_judge_120 rfl (lv_at hl 2 rfl) ?_
  obtain ⟨c1, hf⟩ := of_grd hf
  obtain ⟨c2, hf⟩ := of_grd hf
  refine r_rald C hG (c0 := 112) (by decide) (entX_R (n := 4) rfl) c1 (rfX_at c1) dX8_judge_121 ?_
  refine lv_iload C.1 C.2.1 dX8_judge_122 (lv_at hl 3 rfl) ?_
  obtain ⟨v3, hv3, hf⟩ := of_bind hf
  obtain ⟨bv3, ev3⟩ := of_ldS hv3
  refine r_iald C hG (c0 := 112 + 1 + 1 * x1.toNatClampNeg) (kdx_lt c2 (by decide)) (entX_I c2) bv3 dX8_judge_124 ?_
  refine r_top ev3 ?_
  refine lv_iload C.1 C.2.1 dX8_judge_125 (lv_at hl 0 rfl) ?_
  rcases of_ite hf with ⟨c4, hf⟩ | ⟨c4, hf⟩
  · refine lv_icmp_eq (tgt := 133) C.1 C.2.1 dX8_judge_127 (by decide) (fun _ => ?_) (fun q => absurd c4 q)
    obtain ⟨v5, ev5, hf⟩ := of_letv hf
    refine lv_iinc (v := v5) (lv' := [(6, .int v5), (7, .int s0), (0, .ref (B + 0)), (1, .int x1)]) C.1 C.2.1 dX8_judge_133 hl (k := 3) rfl (by rw [ev5, show Int32.ofInt (1) = nI 1 from by decide]) (by decide) rfl (fun ls hl => ?_)
    refine lv_goto (tgt := 71) C.1 C.2.1 dX8_judge_136 (by decide) ?_
    obtain rfl := Option.some.inj hf
    exact kL _ rfl _ _ _ hG (lv_sub hl [2, 3, 0] rfl)
  · refine lv_icmp_eq (tgt := 133) C.1 C.2.1 dX8_judge_127 (by decide) (fun q => absurd q c4) (fun _ => ?_)
    obtain rfl := Option.some.inj hf
    exact kX0 _ rfl _ _ _ hG (lv_sub hl [3] rfl)
set_option maxRecDepth 100000 in
set_option maxHeartbeats 4000000 in
theorem kb_X8_judge_71 {x1 : Int32} {w : WX} {st : Int32} {r : (Int32) ⊕ ((Int32) ⊕ (Unit))} {H : Heap} {locs : List Loc} {ls : Array Slot} (C : CX p s m args meth c cX8_judge 8 RX8 wc_X8_judge (some .int))  (hG : Gd s G A 153 B (entX G B w) X H locs) (hl : lv_has ls 8 [(0, .ref (B + 0)), (1, .int x1), (6, .int st)]) (hf : sh_X8_judge_s71 x1 w st = some r)
    (kL : ∀ st' : Int32, r = Sum.inl st' → ∀ (H : Heap) (locs : List Loc) (ls : Array Slot), Gd s G A 153 B (entX G B w) X H locs → lv_has ls 8 [(0, .ref (B + 0)), (1, .int x1), (6, .int st')] → W p l e rm_X8_judge s m args below meth c H locs 0 0 Q (F0 m 71 ls []))
    (kX0 : ∀ y' : Int32, r = Sum.inr (Sum.inl y') → ∀ (H : Heap) (locs : List Loc) (ls : Array Slot), Gd s G A 153 B (entX G B w) X H locs → lv_has ls 8 [(6, .int y')] → W p l e rm_X8_judge s m args below meth c H locs 0 0 Q (F0 m 130 ls []))
    (kX1 : ∀ y' : Unit, r = Sum.inr (Sum.inr y') → ∀ (H : Heap) (locs : List Loc) (ls : Array Slot), Gd s G A 153 B (entX G B w) X H locs → lv_has ls 8 [] → W p l e rm_X8_judge s m args below meth c H locs 0 0 Q (F0 m 139 ls [])) :
    W p l e rm_X8_judge s m args below meth c H locs 0 0 Q (F0 m 71 ls []) := by
  refine lv_iload C.1 C.2.1 dX8_judge_71 (lv_at hl 2 rfl) ?_
  refine lv_aload_n C.1 C.2.1 dX8_judge_73 rfl (lv_at hl 0 rfl) ?_
  refine gf_X8_31 C hG rfl dX8_judge_74 ?_
  refine gf_X8_282 C hG rfl dX8_judge_77 ?_
  refine lv_iload_n C.1 C.2.1 dX8_judge_80 rfl (lv_at hl 1 rfl) ?_
  obtain ⟨v1, hv1, hf⟩ := of_bind hf
  obtain ⟨bv1, ev1⟩ := of_ldS hv1
  refine r_iald C hG (c0 := 117) (by decide) (entX_I (n := 4) rfl) bv1 dX8_judge_81 ?_
  refine r_top ev1 ?_
  rcases of_ite hf with ⟨c2, hf⟩ | ⟨c2, hf⟩
  · refine lv_icmp_ge (tgt := 139) C.1 C.2.1 dX8_judge_82 (by decide) (fun _ => ?_) (fun q => absurd c2 q)
    obtain rfl := Option.some.inj hf
    exact kX1 _ rfl _ _ _ hG (lv_sub hl [] rfl)
  · refine lv_icmp_ge (tgt := 139) C.1 C.2.1 dX8_judge_82 (by decide) (fun q => absurd q c2) (fun _ => ?_)
    refine lv_aload_n C.1 C.2.1 dX8_judge_85 rfl (lv_at hl 0 rfl) ?_
    refine gf_X8_66 C hG rfl dX8_judge_86 ?_
    refine lv_iload C.1 C.2.1 dX8_judge_89 (lv_at hl 2 rfl) ?_
    obtain ⟨v3, hv3, hf⟩ := of_bind hf
    refine r_callV1 C hG hl.1 (c0 := 145) (As := [.int st]) (by decide) (entX_O5 (n := 5) rfl) rfl (mt_X5_hasPlace l rfl hv3) (cwV 1 C.2.2.2.2.1 (gd_V tg_3_144 tg_3_145 tg_3_146 tg_1_9 tg_3_147) rfl rfl rfl cd_X5_hasPlace ⟨Nat.le_of_ble_eq_true rfl, Nat.le_of_ble_eq_true rfl⟩) rfl rfl (Nat.le_of_ble_eq_true rfl) dX8_judge_91 (fun H locs hG => ?_)
    rcases of_ite hf with ⟨c4, hf⟩ | ⟨c4, hf⟩
    · refine lv_if_eq (tgt := 110) C.1 C.2.1 dX8_judge_94 (by decide) (fun _ => ?_) (fun q => absurd c4 q)
      refine lv_iconst (v := nI 0) C.1 C.2.1 dX8_judge_110 (by decide) ?_
      exact kb_X8_judge_111 C  hG hl hf kL kX0 kX1
    · refine lv_if_eq (tgt := 110) C.1 C.2.1 dX8_judge_94 (by decide) (fun q => absurd q c4) (fun _ => ?_)
      refine lv_aload_n C.1 C.2.1 dX8_judge_97 rfl (lv_at hl 0 rfl) ?_
      refine gf_X8_66 C hG rfl dX8_judge_98 ?_
      refine gf_X8_214 C hG rfl dX8_judge_101 ?_
      refine lv_iload C.1 C.2.1 dX8_judge_104 (lv_at hl 2 rfl) ?_
      obtain ⟨v5, hv5, hf⟩ := of_bind hf
      obtain ⟨kv5, bv5, ev5⟩ := of_ldD hv5
      refine r_iald C hG (c0 := w.2 145 0) (kdx_lt (kd_eta kv5) (by decide)) (entX_I (kd_eta kv5)) bv5 dX8_judge_106 ?_
      refine r_top ev5 ?_
      refine lv_goto (tgt := 111) C.1 C.2.1 dX8_judge_107 (by decide) ?_
      exact kb_X8_judge_111 C  hG hl hf kL kX0 kX1
set_option maxRecDepth 100000 in
set_option maxHeartbeats 4000000 in
theorem kl_X8_judge_71 {x1 : Int32} {w : WX} (C : CX p s m args meth c cX8_judge 8 RX8 wc_X8_judge (some .int))  : ∀ (n : Nat) (st : Int32) (x : (Int32) ⊕ (Unit)) (H : Heap) (locs : List Loc) (ls : Array Slot), Gd s G A 153 B (entX G B w) X H locs → lv_has ls 8 [(0, .ref (B + 0)), (1, .int x1), (6, .int st)] → lpw (sh_X8_judge_s71 x1 w) n st = some x →
    (∀ y' : Int32, x = (Sum.inl y') → ∀ (H : Heap) (locs : List Loc) (ls : Array Slot), Gd s G A 153 B (entX G B w) X H locs → lv_has ls 8 [(6, .int y')] → W p l e rm_X8_judge s m args below meth c H locs 0 0 Q (F0 m 130 ls [])) →
    (∀ y' : Unit, x = (Sum.inr y') → ∀ (H : Heap) (locs : List Loc) (ls : Array Slot), Gd s G A 153 B (entX G B w) X H locs → lv_has ls 8 [] → W p l e rm_X8_judge s m args below meth c H locs 0 0 Q (F0 m 139 ls [])) → W p l e rm_X8_judge s m args below meth c H locs 0 0 Q (F0 m 71 ls []) := by
  intro n
  induction n with
  | zero =>
    intro st x H locs ls hG hl hf
    cases hf
  | succ n ih =>
    intro st x H locs ls hG hl hf kX0 kX1
    obtain ⟨r, hr, hh⟩ := of_lpw hf
    refine kb_X8_judge_71 C  hG hl hr (fun st2 e1 H locs ls hG hl => ?_) (fun y2 e1 H locs ls hG hl => ?_) (fun y2 e1 H locs ls hG hl => ?_)
    · rcases hh with ⟨s3, e2, hh⟩ | e2
      · rw [e2] at e1
        cases e1
        exact ih _ _ _ _ _ hG hl hh kX0 kX1
      · rw [e2] at e1
        cases e1
    · rcases hh with ⟨s3, e2, hh⟩ | e2
      · rw [e2] at e1
        cases e1
      · rw [e2] at e1
        cases e1
        exact kX0 _ rfl _ _ _ hG hl
    · rcases hh with ⟨s3, e2, hh⟩ | e2
      · rw [e2] at e1
        cases e1
      · rw [e2] at e1
        cases e1
        exact kX1 _ rfl _ _ _ hG hl
set_option maxRecDepth 100000 in
set_option maxHeartbeats 4000000 in
theorem kb_X8_judge_0 {x1 : Int32} {x2 : Int32} {x3 : Int32} {w : WX} {out : Int32 × WX} {H : Heap} {locs : List Loc} {ls : Array Slot} (C : CX p s m args meth c cX8_judge 8 RX8 wc_X8_judge (some .int))  (hG : Gd s G A 153 B (entX G B w) X H locs) (hl : lv_has ls 8 [(0, .ref (B + 0)), (1, .int x1), (2, .int x2), (3, .int x3)]) (hf : sh_X8_judge x1 x2 x3 w = some out) :
    W p l e rm_X8_judge s m args below meth c H locs 0 0 (MQ below (CPost G A 153 B (entX G B out.2) X (some (.int out.1))) args s 0 0 A) (F0 m 0 ls []) := by
  refine lv_aload_n C.1 C.2.1 dX8_judge_0 rfl (lv_at hl 0 rfl) ?_
  refine gf_X8_12 C hG rfl dX8_judge_1 ?_
  refine lv_iload_n C.1 C.2.1 dX8_judge_4 rfl (lv_at hl 2 rfl) ?_
  obtain ⟨v1, hv1, hf⟩ := of_bind hf
  refine r_callV1 C hG hl.1 (c0 := 1) (As := [.int x2]) (by decide) (entX_O4 (n := 4) rfl) rfl (mt_X4_surfaceAt l rfl hv1) (cwV 1 C.2.2.2.2.1 (gd_V tg_2_195 tg_2_196 tg_2_197 tg_1_2 tg_2_198) rfl rfl rfl cd_X4_surfaceAt ⟨Nat.le_of_ble_eq_true rfl, Nat.le_of_ble_eq_true rfl⟩) rfl rfl (Nat.le_of_ble_eq_true rfl) dX8_judge_5 (fun H locs hG => ?_)
  rcases of_ite hf with ⟨c2, hf⟩ | ⟨c2, hf⟩
  · refine r_rvN c2 ?_
    refine lv_astoreN (lv' := [(4, .null), (0, .ref (B + 0)), (1, .int x1), (2, .int x2), (3, .int x3)]) C.1 C.2.1 dX8_judge_8 hl (by decide) rfl (fun ls hl => ?_)
    refine lv_aload_n C.1 C.2.1 dX8_judge_10 rfl (lv_at hl 1 rfl) ?_
    refine gf_X8_12 C hG rfl dX8_judge_11 ?_
    refine lv_iload_n C.1 C.2.1 dX8_judge_14 rfl (lv_at hl 4 rfl) ?_
    obtain ⟨v4, hv4, hf⟩ := of_bind hf
    refine r_callV1 C hG hl.1 (c0 := 1) (As := [.int x3]) (by decide) (entX_O4 (n := 4) rfl) rfl (mt_X4_algebraAt l rfl hv4) (cwV 1 C.2.2.2.2.1 (gd_V tg_2_119 tg_2_120 tg_2_121 tg_1_2 tg_2_122) rfl rfl rfl cd_X4_algebraAt ⟨Nat.le_of_ble_eq_true rfl, Nat.le_of_ble_eq_true rfl⟩) rfl rfl (Nat.le_of_ble_eq_true rfl) dX8_judge_15 (fun H locs hG => ?_)
    rcases of_ite hf with ⟨c5, hf⟩ | ⟨c5, hf⟩
    · refine r_rvN c5 ?_
      refine lv_astoreN (lv' := [(5, .null), (4, .null), (0, .ref (B + 0)), (1, .int x1), (2, .int x2), (3, .int x3)]) C.1 C.2.1 dX8_judge_18 hl (by decide) rfl (fun ls hl => ?_)
      refine lv_aload_n C.1 C.2.1 dX8_judge_20 rfl (lv_at hl 2 rfl) ?_
      refine gf_X8_31 C hG rfl dX8_judge_21 ?_
      refine lv_iload_n C.1 C.2.1 dX8_judge_24 rfl (lv_at hl 3 rfl) ?_
      obtain ⟨v7, hv7, hf⟩ := of_bind hf
      refine r_callV1 C hG hl.1 (c0 := 111) (As := [.int x1]) (by decide) (entX_O1 (n := 2) rfl) rfl (mt_X1_hasNumber l  hv7) (cwV 1 C.2.2.2.2.1 (gd_V tg_4_21 tg_4_22 tg_4_23 tg_1_7 tg_4_24) rfl rfl rfl cd_X1_hasNumber ⟨Nat.le_of_ble_eq_true rfl, Nat.le_of_ble_eq_true rfl⟩) rfl rfl (Nat.le_of_ble_eq_true rfl) dX8_judge_25 (fun H locs hG => ?_)
      rcases of_ite hf with ⟨c8, hf⟩ | ⟨c8, hf⟩
      · refine lv_if_eq (tgt := 41) C.1 C.2.1 dX8_judge_28 (by decide) (fun _ => ?_) (fun q => absurd c8 q)
        refine lv_iconst (v := (-1 : Int32)) C.1 C.2.1 dX8_judge_41 (by decide) ?_
        obtain rfl := Option.some.inj hf
        exact r_iret C hG dX8_judge_42
      · refine lv_if_eq (tgt := 41) C.1 C.2.1 dX8_judge_28 (by decide) (fun q => absurd q c8) (fun _ => ?_)
        refine lv_aloadN C.1 C.2.1 dX8_judge_31 (lv_at hl 1 rfl) ?_
        refine lv_ifnullN (tgt := 41) C.1 C.2.1 dX8_judge_33 (by decide) ?_
        refine lv_iconst (v := (-1 : Int32)) C.1 C.2.1 dX8_judge_41 (by decide) ?_
        obtain rfl := Option.some.inj hf
        exact r_iret C hG dX8_judge_42
    · refine r_rvR c5 ?_
      obtain ⟨c6, hf⟩ := of_grd hf
      refine lv_astore (lv' := [(5, .ref (B + v4)), (4, .null), (0, .ref (B + 0)), (1, .int x1), (2, .int x2), (3, .int x3)]) C.1 C.2.1 dX8_judge_18 hl (by decide) rfl (fun ls hl => ?_)
      refine lv_aload_n C.1 C.2.1 dX8_judge_20 rfl (lv_at hl 2 rfl) ?_
      refine gf_X8_31 C hG rfl dX8_judge_21 ?_
      refine lv_iload_n C.1 C.2.1 dX8_judge_24 rfl (lv_at hl 3 rfl) ?_
      obtain ⟨v9, hv9, hf⟩ := of_bind hf
      refine r_callV1 C hG hl.1 (c0 := 111) (As := [.int x1]) (by decide) (entX_O1 (n := 2) rfl) rfl (mt_X1_hasNumber l  hv9) (cwV 1 C.2.2.2.2.1 (gd_V tg_4_21 tg_4_22 tg_4_23 tg_1_7 tg_4_24) rfl rfl rfl cd_X1_hasNumber ⟨Nat.le_of_ble_eq_true rfl, Nat.le_of_ble_eq_true rfl⟩) rfl rfl (Nat.le_of_ble_eq_true rfl) dX8_judge_25 (fun H locs hG => ?_)
      rcases of_ite hf with ⟨c10, hf⟩ | ⟨c10, hf⟩
      · refine lv_if_eq (tgt := 41) C.1 C.2.1 dX8_judge_28 (by decide) (fun _ => ?_) (fun q => absurd c10 q)
        refine lv_iconst (v := (-1 : Int32)) C.1 C.2.1 dX8_judge_41 (by decide) ?_
        obtain rfl := Option.some.inj hf
        exact r_iret C hG dX8_judge_42
      · refine lv_if_eq (tgt := 41) C.1 C.2.1 dX8_judge_28 (by decide) (fun q => absurd q c10) (fun _ => ?_)
        refine lv_aloadN C.1 C.2.1 dX8_judge_31 (lv_at hl 1 rfl) ?_
        refine lv_ifnullN (tgt := 41) C.1 C.2.1 dX8_judge_33 (by decide) ?_
        refine lv_iconst (v := (-1 : Int32)) C.1 C.2.1 dX8_judge_41 (by decide) ?_
        obtain rfl := Option.some.inj hf
        exact r_iret C hG dX8_judge_42
  · refine r_rvR c2 ?_
    obtain ⟨c3, hf⟩ := of_grd hf
    refine lv_astore (lv' := [(4, .ref (B + v1)), (0, .ref (B + 0)), (1, .int x1), (2, .int x2), (3, .int x3)]) C.1 C.2.1 dX8_judge_8 hl (by decide) rfl (fun ls hl => ?_)
    refine lv_aload_n C.1 C.2.1 dX8_judge_10 rfl (lv_at hl 1 rfl) ?_
    refine gf_X8_12 C hG rfl dX8_judge_11 ?_
    refine lv_iload_n C.1 C.2.1 dX8_judge_14 rfl (lv_at hl 4 rfl) ?_
    obtain ⟨v11, hv11, hf⟩ := of_bind hf
    refine r_callV1 C hG hl.1 (c0 := 1) (As := [.int x3]) (by decide) (entX_O4 (n := 4) rfl) rfl (mt_X4_algebraAt l rfl hv11) (cwV 1 C.2.2.2.2.1 (gd_V tg_2_119 tg_2_120 tg_2_121 tg_1_2 tg_2_122) rfl rfl rfl cd_X4_algebraAt ⟨Nat.le_of_ble_eq_true rfl, Nat.le_of_ble_eq_true rfl⟩) rfl rfl (Nat.le_of_ble_eq_true rfl) dX8_judge_15 (fun H locs hG => ?_)
    rcases of_ite hf with ⟨c12, hf⟩ | ⟨c12, hf⟩
    · refine r_rvN c12 ?_
      refine lv_astoreN (lv' := [(5, .null), (4, .ref (B + v1)), (0, .ref (B + 0)), (1, .int x1), (2, .int x2), (3, .int x3)]) C.1 C.2.1 dX8_judge_18 hl (by decide) rfl (fun ls hl => ?_)
      refine lv_aload_n C.1 C.2.1 dX8_judge_20 rfl (lv_at hl 2 rfl) ?_
      refine gf_X8_31 C hG rfl dX8_judge_21 ?_
      refine lv_iload_n C.1 C.2.1 dX8_judge_24 rfl (lv_at hl 3 rfl) ?_
      obtain ⟨v14, hv14, hf⟩ := of_bind hf
      refine r_callV1 C hG hl.1 (c0 := 111) (As := [.int x1]) (by decide) (entX_O1 (n := 2) rfl) rfl (mt_X1_hasNumber l  hv14) (cwV 1 C.2.2.2.2.1 (gd_V tg_4_21 tg_4_22 tg_4_23 tg_1_7 tg_4_24) rfl rfl rfl cd_X1_hasNumber ⟨Nat.le_of_ble_eq_true rfl, Nat.le_of_ble_eq_true rfl⟩) rfl rfl (Nat.le_of_ble_eq_true rfl) dX8_judge_25 (fun H locs hG => ?_)
      rcases of_ite hf with ⟨c15, hf⟩ | ⟨c15, hf⟩
      · refine lv_if_eq (tgt := 41) C.1 C.2.1 dX8_judge_28 (by decide) (fun _ => ?_) (fun q => absurd c15 q)
        refine lv_iconst (v := (-1 : Int32)) C.1 C.2.1 dX8_judge_41 (by decide) ?_
        obtain rfl := Option.some.inj hf
        exact r_iret C hG dX8_judge_42
      · refine lv_if_eq (tgt := 41) C.1 C.2.1 dX8_judge_28 (by decide) (fun q => absurd q c15) (fun _ => ?_)
        refine lv_aload C.1 C.2.1 dX8_judge_31 (lv_at hl 1 rfl) ?_
        refine lv_ifnull C.1 C.2.1 dX8_judge_33 ?_
        refine lv_aloadN C.1 C.2.1 dX8_judge_36 (lv_at hl 0 rfl) ?_
        refine lv_ifnonnullN C.1 C.2.1 dX8_judge_38 ?_
        refine lv_iconst (v := (-1 : Int32)) C.1 C.2.1 dX8_judge_41 (by decide) ?_
        obtain rfl := Option.some.inj hf
        exact r_iret C hG dX8_judge_42
    · refine r_rvR c12 ?_
      obtain ⟨c13, hf⟩ := of_grd hf
      refine lv_astore (lv' := [(5, .ref (B + v11)), (4, .ref (B + v1)), (0, .ref (B + 0)), (1, .int x1), (2, .int x2), (3, .int x3)]) C.1 C.2.1 dX8_judge_18 hl (by decide) rfl (fun ls hl => ?_)
      refine lv_aload_n C.1 C.2.1 dX8_judge_20 rfl (lv_at hl 2 rfl) ?_
      refine gf_X8_31 C hG rfl dX8_judge_21 ?_
      refine lv_iload_n C.1 C.2.1 dX8_judge_24 rfl (lv_at hl 3 rfl) ?_
      obtain ⟨v16, hv16, hf⟩ := of_bind hf
      refine r_callV1 C hG hl.1 (c0 := 111) (As := [.int x1]) (by decide) (entX_O1 (n := 2) rfl) rfl (mt_X1_hasNumber l  hv16) (cwV 1 C.2.2.2.2.1 (gd_V tg_4_21 tg_4_22 tg_4_23 tg_1_7 tg_4_24) rfl rfl rfl cd_X1_hasNumber ⟨Nat.le_of_ble_eq_true rfl, Nat.le_of_ble_eq_true rfl⟩) rfl rfl (Nat.le_of_ble_eq_true rfl) dX8_judge_25 (fun H locs hG => ?_)
      rcases of_ite hf with ⟨c17, hf⟩ | ⟨c17, hf⟩
      · refine lv_if_eq (tgt := 41) C.1 C.2.1 dX8_judge_28 (by decide) (fun _ => ?_) (fun q => absurd c17 q)
        refine lv_iconst (v := (-1 : Int32)) C.1 C.2.1 dX8_judge_41 (by decide) ?_
        obtain rfl := Option.some.inj hf
        exact r_iret C hG dX8_judge_42
      · refine lv_if_eq (tgt := 41) C.1 C.2.1 dX8_judge_28 (by decide) (fun q => absurd q c17) (fun _ => ?_)
        refine lv_aload C.1 C.2.1 dX8_judge_31 (lv_at hl 1 rfl) ?_
        refine lv_ifnull C.1 C.2.1 dX8_judge_33 ?_
        refine lv_aload C.1 C.2.1 dX8_judge_36 (lv_at hl 0 rfl) ?_
        refine lv_ifnonnull (tgt := 43) C.1 C.2.1 dX8_judge_38 (by decide) ?_
        refine lv_aload_n C.1 C.2.1 dX8_judge_43 rfl (lv_at hl 2 rfl) ?_
        refine gf_X8_31 C hG rfl dX8_judge_44 ?_
        refine lv_iload_n C.1 C.2.1 dX8_judge_47 rfl (lv_at hl 3 rfl) ?_
        obtain ⟨v18, hv18, hf⟩ := of_bind hf
        refine r_callV1 C hG hl.1 (c0 := 111) (As := [.int x1]) (by decide) (entX_O1 (n := 2) rfl) rfl (mt_X1_isHeld l  hv18) (cwV 1 C.2.2.2.2.1 (gd_V tg_4_25 tg_4_26 tg_4_27 tg_1_7 tg_4_28) rfl rfl rfl cd_X1_isHeld ⟨Nat.le_of_ble_eq_true rfl, Nat.le_of_ble_eq_true rfl⟩) rfl rfl (Nat.le_of_ble_eq_true rfl) dX8_judge_48 (fun H locs hG => ?_)
        rcases of_ite hf with ⟨c19, hf⟩ | ⟨c19, hf⟩
        · refine lv_if_ne (tgt := 57) C.1 C.2.1 dX8_judge_51 (by decide) (fun q => absurd c19 q) (fun _ => ?_)
          refine lv_bipush (v := (-11 : Int32)) C.1 C.2.1 dX8_judge_54 (by decide) ?_
          obtain rfl := Option.some.inj hf
          exact r_iret C hG dX8_judge_56
        · refine lv_if_ne (tgt := 57) C.1 C.2.1 dX8_judge_51 (by decide) (fun _ => ?_) (fun q => absurd q c19)
          refine lv_aload_n C.1 C.2.1 dX8_judge_57 rfl (lv_at hl 2 rfl) ?_
          refine gf_X8_66 C hG rfl dX8_judge_58 ?_
          refine lv_aload C.1 C.2.1 dX8_judge_61 (lv_at hl 1 rfl) ?_
          refine lv_aload C.1 C.2.1 dX8_judge_63 (lv_at hl 0 rfl) ?_
          obtain ⟨w20, hw20, hf⟩ := of_bind hf
          refine r_callV0 C hG hl.1 (c0 := 145) (As := [.ref (B + v1), .ref (B + v11)]) (by decide) (entX_O5 (n := 5) rfl) rfl (mt_X5_find l rfl c3 c13 hw20) (cwV 2 C.2.2.2.2.1 (gd_V tg_3_95 tg_3_96 tg_3_97 tg_1_9 tg_3_98) rfl rfl rfl cd_X5_find ⟨Nat.le_of_ble_eq_true rfl, Nat.le_of_ble_eq_true rfl⟩) rfl rfl (Nat.le_of_ble_eq_true rfl) dX8_judge_65 (fun H locs hG => ?_)
          refine lv_iconst (v := nI 0) C.1 C.2.1 dX8_judge_68 (by decide) ?_
          refine lv_istore (lv' := [(6, .int (nI 0)), (5, .ref (B + v11)), (4, .ref (B + v1)), (0, .ref (B + 0)), (1, .int x1), (2, .int x2), (3, .int x3)]) C.1 C.2.1 dX8_judge_69 hl (by decide) rfl (fun ls hl => ?_)
          obtain ⟨ex21, hex21, hf⟩ := of_bind hf
          refine kl_X8_judge_71 C  FU (nI 0) ex21 _ _ _ hG (lv_sub hl [3, 4, 0] rfl) hex21 (fun y22 e0 H locs ls hG hl => ?_) (fun y23 e0 H locs ls hG hl => ?_)
          · subst e0
            simp only [Sum.elim_inl, Sum.elim_inr] at hf
            refine lv_iload C.1 C.2.1 dX8_judge_130 (lv_at hl 0 rfl) ?_
            obtain rfl := Option.some.inj hf
            exact r_iret C hG dX8_judge_132
          · subst e0
            simp only [Sum.elim_inl, Sum.elim_inr] at hf
            refine lv_bipush (v := (-5 : Int32)) C.1 C.2.1 dX8_judge_139 (by decide) ?_
            obtain rfl := Option.some.inj hf
            exact r_iret C hG dX8_judge_141
set_option maxRecDepth 100000 in
set_option maxHeartbeats 4000000 in
theorem mt_X8_judge (l : Launch) {G : GG} {A : Nat → Prop} {B : Nat} {X : va_W} {x1 : Int32} {x2 : Int32} {x3 : Int32} {w : WX} {out : Int32 × WX}  (hf : sh_X8_judge x1 x2 x3 w = some out) : MetW l yX8_judge wc_X8_judge rm_X8_judge G A 153 B (entX G B w) X [.ref (B + 0), .int x1, .int x2, .int x3] (some (.int out.1)) (entX G B out.2) := by
  refine Met.ofW (cc := cX8_judge) (maxL := 8) (ret := (some .int)) (by decide) rfl ?_
  intro p e s m args below meth c s₁ B0 hml hv
  obtain ⟨rfl, hEv, hWd⟩ := hv
  have C : CX p s m _ meth c cX8_judge 8 RX8 wc_X8_judge (some .int) := ⟨B0.exec, B0.bytes, hml, findClass_of_methodNamed B0.named, atoms_spec (ws := wc_X8_judge) B0.pre, B0.returns, B0.notSynchronized⟩
  have hl := lv_entry [.ref (B + 0), .int x1, .int x2, .int x3] (n := 8) (Nat.le_of_ble_eq_true rfl)
  rw [lg_entry_eq]
  generalize (lg_sl [.ref (B + 0), .int x1, .int x2, .int x3] ++ List.replicate (8 - (lg_sl [.ref (B + 0), .int x1, .int x2, .int x3]).length) Slot.unset).toArray = ls at hl ⊢
  have hl : lv_has ls 8 [(0, .ref (B + 0)), (1, .int x1), (2, .int x2), (3, .int x3)] := hl
  exact kb_X8_judge_0 C  ⟨hEv, hWd, va_S.rf⟩ hl hf
abbrev wc_X8_list : List Cond := Cond.code yX8_list cX8_list 3 (some .int) :: TG
abbrev rm_X8_list : Room := { frames := 4, cells := 0, slots := 0, locals := 144 }
theorem cd_X8_list : yX8_list.cls = RX8 ∧ yX8_list.cls ≠ "java/lang/invoke/MethodHandle" ∧ yX8_list.cls ≠ "java/lang/invoke/VarHandle" ∧ (parseMethodDescriptor yX8_list.desc).map (fun d => d.parameters.length) = some 2 := by decide +kernel
theorem dX8_list_0 : decode cX8_list 0 = .ok (.aload_n 0, 1) := by decide +kernel
theorem dX8_list_1 : decode cX8_list 1 = .ok (.getfield 31, 3) := by decide +kernel
theorem dX8_list_4 : decode cX8_list 4 = .ok (.iload_n 1, 1) := by decide +kernel
theorem dX8_list_5 : decode cX8_list 5 = .ok (.invokevirtual 276, 3) := by decide +kernel
theorem dX8_list_8 : decode cX8_list 8 = .ok (.ifCond .ne 5, 3) := by decide +kernel
theorem dX8_list_11 : decode cX8_list 11 = .ok (.iconst (-1), 1) := by decide +kernel
theorem dX8_list_12 : decode cX8_list 12 = .ok (.ireturn, 1) := by decide +kernel
theorem dX8_list_13 : decode cX8_list 13 = .ok (.iload_n 2, 1) := by decide +kernel
theorem dX8_list_14 : decode cX8_list 14 = .ok (.bipush 12, 2) := by decide +kernel
theorem dX8_list_16 : decode cX8_list 16 = .ok (.if_icmp .le 6, 3) := by decide +kernel
theorem dX8_list_19 : decode cX8_list 19 = .ok (.bipush (-2), 2) := by decide +kernel
theorem dX8_list_21 : decode cX8_list 21 = .ok (.ireturn, 1) := by decide +kernel
theorem dX8_list_22 : decode cX8_list 22 = .ok (.iload_n 2, 1) := by decide +kernel
theorem dX8_list_23 : decode cX8_list 23 = .ok (.ifCond .ge 6, 3) := by decide +kernel
theorem dX8_list_26 : decode cX8_list 26 = .ok (.bipush (-14), 2) := by decide +kernel
theorem dX8_list_28 : decode cX8_list 28 = .ok (.ireturn, 1) := by decide +kernel
theorem dX8_list_29 : decode cX8_list 29 = .ok (.aload_n 0, 1) := by decide +kernel
theorem dX8_list_30 : decode cX8_list 30 = .ok (.getfield 31, 3) := by decide +kernel
theorem dX8_list_33 : decode cX8_list 33 = .ok (.iload_n 1, 1) := by decide +kernel
theorem dX8_list_34 : decode cX8_list 34 = .ok (.iload_n 2, 1) := by decide +kernel
theorem dX8_list_35 : decode cX8_list 35 = .ok (.invokevirtual 289, 3) := by decide +kernel
theorem dX8_list_38 : decode cX8_list 38 = .ok (.iconst 1, 1) := by decide +kernel
theorem dX8_list_39 : decode cX8_list 39 = .ok (.ireturn, 1) := by decide +kernel
set_option maxRecDepth 100000 in
set_option maxHeartbeats 4000000 in
theorem kb_X8_list_0 {x1 : Int32} {x2 : Int32} {w : WX} {out : Int32 × WX} {H : Heap} {locs : List Loc} {ls : Array Slot} (C : CX p s m args meth c cX8_list 3 RX8 wc_X8_list (some .int))  (hG : Gd s G A 153 B (entX G B w) X H locs) (hl : lv_has ls 3 [(0, .ref (B + 0)), (1, .int x1), (2, .int x2)]) (hf : sh_X8_list x1 x2 w = some out) :
    W p l e rm_X8_list s m args below meth c H locs 0 0 (MQ below (CPost G A 153 B (entX G B out.2) X (some (.int out.1))) args s 0 0 A) (F0 m 0 ls []) := by
  refine lv_aload_n C.1 C.2.1 dX8_list_0 rfl (lv_at hl 0 rfl) ?_
  refine gf_X8_31 C hG rfl dX8_list_1 ?_
  refine lv_iload_n C.1 C.2.1 dX8_list_4 rfl (lv_at hl 1 rfl) ?_
  obtain ⟨v1, hv1, hf⟩ := of_bind hf
  refine r_callV1 C hG hl.1 (c0 := 111) (As := [.int x1]) (by decide) (entX_O1 (n := 2) rfl) rfl (mt_X1_hasNumber l  hv1) (cwV 1 C.2.2.2.2.1 (gd_V tg_4_21 tg_4_22 tg_4_23 tg_1_7 tg_4_24) rfl rfl rfl cd_X1_hasNumber ⟨Nat.le_of_ble_eq_true rfl, Nat.le_of_ble_eq_true rfl⟩) rfl rfl (Nat.le_of_ble_eq_true rfl) dX8_list_5 (fun H locs hG => ?_)
  rcases of_ite hf with ⟨c2, hf⟩ | ⟨c2, hf⟩
  · refine lv_if_ne (tgt := 13) C.1 C.2.1 dX8_list_8 (by decide) (fun q => absurd c2 q) (fun _ => ?_)
    refine lv_iconst (v := (-1 : Int32)) C.1 C.2.1 dX8_list_11 (by decide) ?_
    obtain rfl := Option.some.inj hf
    exact r_iret C hG dX8_list_12
  · refine lv_if_ne (tgt := 13) C.1 C.2.1 dX8_list_8 (by decide) (fun _ => ?_) (fun q => absurd q c2)
    refine lv_iload_n C.1 C.2.1 dX8_list_13 rfl (lv_at hl 2 rfl) ?_
    refine lv_bipush (v := nI 12) C.1 C.2.1 dX8_list_14 (by decide) ?_
    rcases of_ite hf with ⟨c3, hf⟩ | ⟨c3, hf⟩
    · refine lv_icmp_le (tgt := 22) C.1 C.2.1 dX8_list_16 (by decide) (fun _ => ?_) (fun q => absurd c3 q)
      refine lv_iload_n C.1 C.2.1 dX8_list_22 rfl (lv_at hl 2 rfl) ?_
      rcases of_ite hf with ⟨c4, hf⟩ | ⟨c4, hf⟩
      · refine lv_if_ge (tgt := 29) C.1 C.2.1 dX8_list_23 (by decide) (fun _ => ?_) (fun q => absurd c4 q)
        refine lv_aload_n C.1 C.2.1 dX8_list_29 rfl (lv_at hl 0 rfl) ?_
        refine gf_X8_31 C hG rfl dX8_list_30 ?_
        refine lv_iload_n C.1 C.2.1 dX8_list_33 rfl (lv_at hl 1 rfl) ?_
        refine lv_iload_n C.1 C.2.1 dX8_list_34 rfl (lv_at hl 2 rfl) ?_
        obtain ⟨w5, hw5, hf⟩ := of_bind hf
        refine r_callV0 C hG hl.1 (c0 := 111) (As := [.int x1, .int x2]) (by decide) (entX_O1 (n := 2) rfl) rfl (mt_X1_hold l  hw5) (cwV 2 C.2.2.2.2.1 (gd_V tg_4_34 tg_4_35 tg_4_36 tg_1_7 tg_4_37) rfl rfl rfl cd_X1_hold ⟨Nat.le_of_ble_eq_true rfl, Nat.le_of_ble_eq_true rfl⟩) rfl rfl (Nat.le_of_ble_eq_true rfl) dX8_list_35 (fun H locs hG => ?_)
        refine lv_iconst (v := nI 1) C.1 C.2.1 dX8_list_38 (by decide) ?_
        obtain rfl := Option.some.inj hf
        exact r_iret C hG dX8_list_39
      · refine lv_if_ge (tgt := 29) C.1 C.2.1 dX8_list_23 (by decide) (fun q => absurd q c4) (fun _ => ?_)
        refine lv_bipush (v := (-14 : Int32)) C.1 C.2.1 dX8_list_26 (by decide) ?_
        obtain rfl := Option.some.inj hf
        exact r_iret C hG dX8_list_28
    · refine lv_icmp_le (tgt := 22) C.1 C.2.1 dX8_list_16 (by decide) (fun q => absurd q c3) (fun _ => ?_)
      refine lv_bipush (v := (-2 : Int32)) C.1 C.2.1 dX8_list_19 (by decide) ?_
      obtain rfl := Option.some.inj hf
      exact r_iret C hG dX8_list_21
set_option maxRecDepth 100000 in
set_option maxHeartbeats 4000000 in
theorem mt_X8_list (l : Launch) {G : GG} {A : Nat → Prop} {B : Nat} {X : va_W} {x1 : Int32} {x2 : Int32} {w : WX} {out : Int32 × WX}  (hf : sh_X8_list x1 x2 w = some out) : MetW l yX8_list wc_X8_list rm_X8_list G A 153 B (entX G B w) X [.ref (B + 0), .int x1, .int x2] (some (.int out.1)) (entX G B out.2) := by
  refine Met.ofW (cc := cX8_list) (maxL := 3) (ret := (some .int)) (by decide) rfl ?_
  intro p e s m args below meth c s₁ B0 hml hv
  obtain ⟨rfl, hEv, hWd⟩ := hv
  have C : CX p s m _ meth c cX8_list 3 RX8 wc_X8_list (some .int) := ⟨B0.exec, B0.bytes, hml, findClass_of_methodNamed B0.named, atoms_spec (ws := wc_X8_list) B0.pre, B0.returns, B0.notSynchronized⟩
  have hl := lv_entry [.ref (B + 0), .int x1, .int x2] (n := 3) (Nat.le_of_ble_eq_true rfl)
  rw [lg_entry_eq]
  generalize (lg_sl [.ref (B + 0), .int x1, .int x2] ++ List.replicate (3 - (lg_sl [.ref (B + 0), .int x1, .int x2]).length) Slot.unset).toArray = ls at hl ⊢
  have hl : lv_has ls 3 [(0, .ref (B + 0)), (1, .int x1), (2, .int x2)] := hl
  exact kb_X8_list_0 C  ⟨hEv, hWd, va_S.rf⟩ hl hf
abbrev wc_X8_put : List Cond := Cond.code yX8_put cX8_put 4 (some .int) :: TG
abbrev rm_X8_put : Room := { frames := 5, cells := 0, slots := 0, locals := 164 }
theorem cd_X8_put : yX8_put.cls = RX8 ∧ yX8_put.cls ≠ "java/lang/invoke/MethodHandle" ∧ yX8_put.cls ≠ "java/lang/invoke/VarHandle" ∧ (parseMethodDescriptor yX8_put.desc).map (fun d => d.parameters.length) = some 3 := by decide +kernel
theorem dX8_put_0 : decode cX8_put 0 = .ok (.aload_n 0, 1) := by decide +kernel
theorem dX8_put_1 : decode cX8_put 1 = .ok (.getfield 31, 3) := by decide +kernel
theorem dX8_put_4 : decode cX8_put 4 = .ok (.iload_n 1, 1) := by decide +kernel
theorem dX8_put_5 : decode cX8_put 5 = .ok (.invokevirtual 276, 3) := by decide +kernel
theorem dX8_put_8 : decode cX8_put 8 = .ok (.ifCond .ne 5, 3) := by decide +kernel
theorem dX8_put_11 : decode cX8_put 11 = .ok (.iconst (-1), 1) := by decide +kernel
theorem dX8_put_12 : decode cX8_put 12 = .ok (.ireturn, 1) := by decide +kernel
theorem dX8_put_13 : decode cX8_put 13 = .ok (.aload_n 0, 1) := by decide +kernel
theorem dX8_put_14 : decode cX8_put 14 = .ok (.getfield 31, 3) := by decide +kernel
theorem dX8_put_17 : decode cX8_put 17 = .ok (.iload_n 1, 1) := by decide +kernel
theorem dX8_put_18 : decode cX8_put 18 = .ok (.invokevirtual 279, 3) := by decide +kernel
theorem dX8_put_21 : decode cX8_put 21 = .ok (.ifCond .ne 6, 3) := by decide +kernel
theorem dX8_put_24 : decode cX8_put 24 = .ok (.bipush (-11), 2) := by decide +kernel
theorem dX8_put_26 : decode cX8_put 26 = .ok (.ireturn, 1) := by decide +kernel
theorem dX8_put_27 : decode cX8_put 27 = .ok (.aload_n 0, 1) := by decide +kernel
theorem dX8_put_28 : decode cX8_put 28 = .ok (.getfield 31, 3) := by decide +kernel
theorem dX8_put_31 : decode cX8_put 31 = .ok (.iload_n 1, 1) := by decide +kernel
theorem dX8_put_32 : decode cX8_put 32 = .ok (.iload_n 2, 1) := by decide +kernel
theorem dX8_put_33 : decode cX8_put 33 = .ok (.invokevirtual 292, 3) := by decide +kernel
theorem dX8_put_36 : decode cX8_put 36 = .ok (.ifCond .ne 6, 3) := by decide +kernel
theorem dX8_put_39 : decode cX8_put 39 = .ok (.bipush (-13), 2) := by decide +kernel
theorem dX8_put_41 : decode cX8_put 41 = .ok (.ireturn, 1) := by decide +kernel
theorem dX8_put_42 : decode cX8_put 42 = .ok (.aload_n 0, 1) := by decide +kernel
theorem dX8_put_43 : decode cX8_put 43 = .ok (.getfield 31, 3) := by decide +kernel
theorem dX8_put_46 : decode cX8_put 46 = .ok (.getfield 285, 3) := by decide +kernel
theorem dX8_put_49 : decode cX8_put 49 = .ok (.iload_n 1, 1) := by decide +kernel
theorem dX8_put_50 : decode cX8_put 50 = .ok (.aaload, 1) := by decide +kernel
theorem dX8_put_51 : decode cX8_put 51 = .ok (.iload_n 2, 1) := by decide +kernel
theorem dX8_put_52 : decode cX8_put 52 = .ok (.iload_n 3, 1) := by decide +kernel
theorem dX8_put_53 : decode cX8_put 53 = .ok (.iastore, 1) := by decide +kernel
theorem dX8_put_54 : decode cX8_put 54 = .ok (.iconst 1, 1) := by decide +kernel
theorem dX8_put_55 : decode cX8_put 55 = .ok (.ireturn, 1) := by decide +kernel
set_option maxRecDepth 100000 in
set_option maxHeartbeats 4000000 in
theorem kb_X8_put_0 {x1 : Int32} {x2 : Int32} {x3 : Int32} {w : WX} {out : Int32 × WX} {H : Heap} {locs : List Loc} {ls : Array Slot} (C : CX p s m args meth c cX8_put 4 RX8 wc_X8_put (some .int))  (hG : Gd s G A 153 B (entX G B w) X H locs) (hl : lv_has ls 4 [(0, .ref (B + 0)), (1, .int x1), (2, .int x2), (3, .int x3)]) (hf : sh_X8_put x1 x2 x3 w = some out) :
    W p l e rm_X8_put s m args below meth c H locs 0 0 (MQ below (CPost G A 153 B (entX G B out.2) X (some (.int out.1))) args s 0 0 A) (F0 m 0 ls []) := by
  refine lv_aload_n C.1 C.2.1 dX8_put_0 rfl (lv_at hl 0 rfl) ?_
  refine gf_X8_31 C hG rfl dX8_put_1 ?_
  refine lv_iload_n C.1 C.2.1 dX8_put_4 rfl (lv_at hl 1 rfl) ?_
  obtain ⟨v1, hv1, hf⟩ := of_bind hf
  refine r_callV1 C hG hl.1 (c0 := 111) (As := [.int x1]) (by decide) (entX_O1 (n := 2) rfl) rfl (mt_X1_hasNumber l  hv1) (cwV 1 C.2.2.2.2.1 (gd_V tg_4_21 tg_4_22 tg_4_23 tg_1_7 tg_4_24) rfl rfl rfl cd_X1_hasNumber ⟨Nat.le_of_ble_eq_true rfl, Nat.le_of_ble_eq_true rfl⟩) rfl rfl (Nat.le_of_ble_eq_true rfl) dX8_put_5 (fun H locs hG => ?_)
  rcases of_ite hf with ⟨c2, hf⟩ | ⟨c2, hf⟩
  · refine lv_if_ne (tgt := 13) C.1 C.2.1 dX8_put_8 (by decide) (fun q => absurd c2 q) (fun _ => ?_)
    refine lv_iconst (v := (-1 : Int32)) C.1 C.2.1 dX8_put_11 (by decide) ?_
    obtain rfl := Option.some.inj hf
    exact r_iret C hG dX8_put_12
  · refine lv_if_ne (tgt := 13) C.1 C.2.1 dX8_put_8 (by decide) (fun _ => ?_) (fun q => absurd q c2)
    refine lv_aload_n C.1 C.2.1 dX8_put_13 rfl (lv_at hl 0 rfl) ?_
    refine gf_X8_31 C hG rfl dX8_put_14 ?_
    refine lv_iload_n C.1 C.2.1 dX8_put_17 rfl (lv_at hl 1 rfl) ?_
    obtain ⟨v3, hv3, hf⟩ := of_bind hf
    refine r_callV1 C hG hl.1 (c0 := 111) (As := [.int x1]) (by decide) (entX_O1 (n := 2) rfl) rfl (mt_X1_isHeld l  hv3) (cwV 1 C.2.2.2.2.1 (gd_V tg_4_25 tg_4_26 tg_4_27 tg_1_7 tg_4_28) rfl rfl rfl cd_X1_isHeld ⟨Nat.le_of_ble_eq_true rfl, Nat.le_of_ble_eq_true rfl⟩) rfl rfl (Nat.le_of_ble_eq_true rfl) dX8_put_18 (fun H locs hG => ?_)
    rcases of_ite hf with ⟨c4, hf⟩ | ⟨c4, hf⟩
    · refine lv_if_ne (tgt := 27) C.1 C.2.1 dX8_put_21 (by decide) (fun q => absurd c4 q) (fun _ => ?_)
      refine lv_bipush (v := (-11 : Int32)) C.1 C.2.1 dX8_put_24 (by decide) ?_
      obtain rfl := Option.some.inj hf
      exact r_iret C hG dX8_put_26
    · refine lv_if_ne (tgt := 27) C.1 C.2.1 dX8_put_21 (by decide) (fun _ => ?_) (fun q => absurd q c4)
      refine lv_aload_n C.1 C.2.1 dX8_put_27 rfl (lv_at hl 0 rfl) ?_
      refine gf_X8_31 C hG rfl dX8_put_28 ?_
      refine lv_iload_n C.1 C.2.1 dX8_put_31 rfl (lv_at hl 1 rfl) ?_
      refine lv_iload_n C.1 C.2.1 dX8_put_32 rfl (lv_at hl 2 rfl) ?_
      obtain ⟨v5, hv5, hf⟩ := of_bind hf
      refine r_callV1 C hG hl.1 (c0 := 111) (As := [.int x1, .int x2]) (by decide) (entX_O1 (n := 2) rfl) rfl (mt_X1_hasPlace l  hv5) (cwV 2 C.2.2.2.2.1 (gd_V tg_4_42 tg_4_43 tg_4_44 tg_1_7 tg_4_45) rfl rfl rfl cd_X1_hasPlace ⟨Nat.le_of_ble_eq_true rfl, Nat.le_of_ble_eq_true rfl⟩) rfl rfl (Nat.le_of_ble_eq_true rfl) dX8_put_33 (fun H locs hG => ?_)
      rcases of_ite hf with ⟨c6, hf⟩ | ⟨c6, hf⟩
      · refine lv_if_ne (tgt := 42) C.1 C.2.1 dX8_put_36 (by decide) (fun q => absurd c6 q) (fun _ => ?_)
        refine lv_bipush (v := (-13 : Int32)) C.1 C.2.1 dX8_put_39 (by decide) ?_
        obtain rfl := Option.some.inj hf
        exact r_iret C hG dX8_put_41
      · refine lv_if_ne (tgt := 42) C.1 C.2.1 dX8_put_36 (by decide) (fun _ => ?_) (fun q => absurd q c6)
        refine lv_aload_n C.1 C.2.1 dX8_put_42 rfl (lv_at hl 0 rfl) ?_
        refine gf_X8_31 C hG rfl dX8_put_43 ?_
        refine gf_X8_285 C hG rfl dX8_put_46 ?_
        refine lv_iload_n C.1 C.2.1 dX8_put_49 rfl (lv_at hl 1 rfl) ?_
        obtain ⟨c7, hf⟩ := of_grd hf
        obtain ⟨c8, hf⟩ := of_grd hf
        refine r_rald C hG (c0 := 112) (by decide) (entX_R (n := 4) rfl) c7 (rfX_at c7) dX8_put_50 ?_
        refine lv_iload_n C.1 C.2.1 dX8_put_51 rfl (lv_at hl 2 rfl) ?_
        refine lv_iload_n C.1 C.2.1 dX8_put_52 rfl (lv_at hl 3 rfl) ?_
        obtain ⟨w9, hw9, hf⟩ := of_bind hf
        obtain ⟨bw9, ew9⟩ := of_stX hw9
        refine r_iast C hG (c0 := 112 + 1 + 1 * x1.toNatClampNeg) (kdx_lt c8 (by decide)) (entX_I c8) bw9 (E' := (entX G B w9)) (by rw [ew9]; exact upX_I c8) dX8_put_53 (fun H locs hG => ?_)
        refine lv_iconst (v := nI 1) C.1 C.2.1 dX8_put_54 (by decide) ?_
        obtain rfl := Option.some.inj hf
        exact r_iret C hG dX8_put_55
set_option maxRecDepth 100000 in
set_option maxHeartbeats 4000000 in
theorem mt_X8_put (l : Launch) {G : GG} {A : Nat → Prop} {B : Nat} {X : va_W} {x1 : Int32} {x2 : Int32} {x3 : Int32} {w : WX} {out : Int32 × WX}  (hf : sh_X8_put x1 x2 x3 w = some out) : MetW l yX8_put wc_X8_put rm_X8_put G A 153 B (entX G B w) X [.ref (B + 0), .int x1, .int x2, .int x3] (some (.int out.1)) (entX G B out.2) := by
  refine Met.ofW (cc := cX8_put) (maxL := 4) (ret := (some .int)) (by decide) rfl ?_
  intro p e s m args below meth c s₁ B0 hml hv
  obtain ⟨rfl, hEv, hWd⟩ := hv
  have C : CX p s m _ meth c cX8_put 4 RX8 wc_X8_put (some .int) := ⟨B0.exec, B0.bytes, hml, findClass_of_methodNamed B0.named, atoms_spec (ws := wc_X8_put) B0.pre, B0.returns, B0.notSynchronized⟩
  have hl := lv_entry [.ref (B + 0), .int x1, .int x2, .int x3] (n := 4) (Nat.le_of_ble_eq_true rfl)
  rw [lg_entry_eq]
  generalize (lg_sl [.ref (B + 0), .int x1, .int x2, .int x3] ++ List.replicate (4 - (lg_sl [.ref (B + 0), .int x1, .int x2, .int x3]).length) Slot.unset).toArray = ls at hl ⊢
  have hl : lv_has ls 4 [(0, .ref (B + 0)), (1, .int x1), (2, .int x2), (3, .int x3)] := hl
  exact kb_X8_put_0 C  ⟨hEv, hWd, va_S.rf⟩ hl hf
abbrev wc_X8_get : List Cond := Cond.code yX8_get cX8_get 3 (some .long) :: TG
abbrev rm_X8_get : Room := { frames := 5, cells := 0, slots := 0, locals := 164 }
theorem cd_X8_get : yX8_get.cls = RX8 ∧ yX8_get.cls ≠ "java/lang/invoke/MethodHandle" ∧ yX8_get.cls ≠ "java/lang/invoke/VarHandle" ∧ (parseMethodDescriptor yX8_get.desc).map (fun d => d.parameters.length) = some 2 := by decide +kernel
theorem dX8_get_0 : decode cX8_get 0 = .ok (.aload_n 0, 1) := by decide +kernel
theorem dX8_get_1 : decode cX8_get 1 = .ok (.getfield 31, 3) := by decide +kernel
theorem dX8_get_4 : decode cX8_get 4 = .ok (.iload_n 1, 1) := by decide +kernel
theorem dX8_get_5 : decode cX8_get 5 = .ok (.iload_n 2, 1) := by decide +kernel
theorem dX8_get_6 : decode cX8_get 6 = .ok (.invokevirtual 292, 3) := by decide +kernel
theorem dX8_get_9 : decode cX8_get 9 = .ok (.ifCond .eq 18, 3) := by decide +kernel
theorem dX8_get_12 : decode cX8_get 12 = .ok (.aload_n 0, 1) := by decide +kernel
theorem dX8_get_13 : decode cX8_get 13 = .ok (.getfield 31, 3) := by decide +kernel
theorem dX8_get_16 : decode cX8_get 16 = .ok (.getfield 285, 3) := by decide +kernel
theorem dX8_get_19 : decode cX8_get 19 = .ok (.iload_n 1, 1) := by decide +kernel
theorem dX8_get_20 : decode cX8_get 20 = .ok (.aaload, 1) := by decide +kernel
theorem dX8_get_21 : decode cX8_get 21 = .ok (.iload_n 2, 1) := by decide +kernel
theorem dX8_get_22 : decode cX8_get 22 = .ok (.iaload, 1) := by decide +kernel
theorem dX8_get_23 : decode cX8_get 23 = .ok (.i2l, 1) := by decide +kernel
theorem dX8_get_24 : decode cX8_get 24 = .ok (.goto 6, 3) := by decide +kernel
theorem dX8_get_27 : decode cX8_get 27 = .ok (.ldc2_w 246, 3) := by decide +kernel
theorem dX8_get_30 : decode cX8_get 30 = .ok (.lreturn, 1) := by decide +kernel
set_option maxRecDepth 100000 in
set_option maxHeartbeats 4000000 in
theorem kb_X8_get_0 {x1 : Int32} {x2 : Int32} {w : WX} {out : Int64} {H : Heap} {locs : List Loc} {ls : Array Slot} (C : CX p s m args meth c cX8_get 3 RX8 wc_X8_get (some .long))  (hG : Gd s G A 153 B (entX G B w) X H locs) (hl : lv_has ls 3 [(0, .ref (B + 0)), (1, .int x1), (2, .int x2)]) (hf : sh_X8_get x1 x2 w = some out) :
    W p l e rm_X8_get s m args below meth c H locs 0 0 (MQ below (CPost G A 153 B (entX G B w) X (some (.long out))) args s 0 0 A) (F0 m 0 ls []) := by
  refine lv_aload_n C.1 C.2.1 dX8_get_0 rfl (lv_at hl 0 rfl) ?_
  refine gf_X8_31 C hG rfl dX8_get_1 ?_
  refine lv_iload_n C.1 C.2.1 dX8_get_4 rfl (lv_at hl 1 rfl) ?_
  refine lv_iload_n C.1 C.2.1 dX8_get_5 rfl (lv_at hl 2 rfl) ?_
  obtain ⟨v1, hv1, hf⟩ := of_bind hf
  refine r_callV1 C hG hl.1 (c0 := 111) (As := [.int x1, .int x2]) (by decide) (entX_O1 (n := 2) rfl) rfl (mt_X1_hasPlace l  hv1) (cwV 2 C.2.2.2.2.1 (gd_V tg_4_42 tg_4_43 tg_4_44 tg_1_7 tg_4_45) rfl rfl rfl cd_X1_hasPlace ⟨Nat.le_of_ble_eq_true rfl, Nat.le_of_ble_eq_true rfl⟩) rfl rfl (Nat.le_of_ble_eq_true rfl) dX8_get_6 (fun H locs hG => ?_)
  rcases of_ite hf with ⟨c2, hf⟩ | ⟨c2, hf⟩
  · refine lv_if_eq (tgt := 27) C.1 C.2.1 dX8_get_9 (by decide) (fun _ => ?_) (fun q => absurd c2 q)
    refine lv_ldc2 (v := (-9223372036854775808 : Int64)) C.1 C.2.1 C.2.2.2.1 (C.2.2.2.2.1 _ (List.mem_cons_of_mem _ tg_3_212)) dX8_get_27 ?_
    obtain rfl := Option.some.inj hf
    exact r_lret C hG dX8_get_30
  · refine lv_if_eq (tgt := 27) C.1 C.2.1 dX8_get_9 (by decide) (fun q => absurd q c2) (fun _ => ?_)
    refine lv_aload_n C.1 C.2.1 dX8_get_12 rfl (lv_at hl 0 rfl) ?_
    refine gf_X8_31 C hG rfl dX8_get_13 ?_
    refine gf_X8_285 C hG rfl dX8_get_16 ?_
    refine lv_iload_n C.1 C.2.1 dX8_get_19 rfl (lv_at hl 1 rfl) ?_
    obtain ⟨c3, hf⟩ := of_grd hf
    obtain ⟨c4, hf⟩ := of_grd hf
    refine r_rald C hG (c0 := 112) (by decide) (entX_R (n := 4) rfl) c3 (rfX_at c3) dX8_get_20 ?_
    refine lv_iload_n C.1 C.2.1 dX8_get_21 rfl (lv_at hl 2 rfl) ?_
    obtain ⟨v5, hv5, hf⟩ := of_bind hf
    obtain ⟨bv5, ev5⟩ := of_ldS hv5
    refine r_iald C hG (c0 := 112 + 1 + 1 * x1.toNatClampNeg) (kdx_lt c4 (by decide)) (entX_I c4) bv5 dX8_get_22 ?_
    refine r_top ev5 ?_
    refine lv_i2l C.1 C.2.1 dX8_get_23 rfl ?_
    refine lv_goto (tgt := 30) C.1 C.2.1 dX8_get_24 (by decide) ?_
    obtain rfl := Option.some.inj hf
    exact r_lret C hG dX8_get_30
set_option maxRecDepth 100000 in
set_option maxHeartbeats 4000000 in
theorem mt_X8_get (l : Launch) {G : GG} {A : Nat → Prop} {B : Nat} {X : va_W} {x1 : Int32} {x2 : Int32} {w : WX} {out : Int64}  (hf : sh_X8_get x1 x2 w = some out) : MetW l yX8_get wc_X8_get rm_X8_get G A 153 B (entX G B w) X [.ref (B + 0), .int x1, .int x2] (some (.long out)) (entX G B w) := by
  refine Met.ofW (cc := cX8_get) (maxL := 3) (ret := (some .long)) (by decide) rfl ?_
  intro p e s m args below meth c s₁ B0 hml hv
  obtain ⟨rfl, hEv, hWd⟩ := hv
  have C : CX p s m _ meth c cX8_get 3 RX8 wc_X8_get (some .long) := ⟨B0.exec, B0.bytes, hml, findClass_of_methodNamed B0.named, atoms_spec (ws := wc_X8_get) B0.pre, B0.returns, B0.notSynchronized⟩
  have hl := lv_entry [.ref (B + 0), .int x1, .int x2] (n := 3) (Nat.le_of_ble_eq_true rfl)
  rw [lg_entry_eq]
  generalize (lg_sl [.ref (B + 0), .int x1, .int x2] ++ List.replicate (3 - (lg_sl [.ref (B + 0), .int x1, .int x2]).length) Slot.unset).toArray = ls at hl ⊢
  have hl : lv_has ls 3 [(0, .ref (B + 0)), (1, .int x1), (2, .int x2)] := hl
  exact kb_X8_get_0 C  ⟨hEv, hWd, va_S.rf⟩ hl hf
abbrev wc_X8_image : List Cond := Cond.code yX8_image cX8_image 1 (some .int) :: TG
abbrev rm_X8_image : Room := { frames := 7, cells := 0, slots := 0, locals := 216 }
theorem cd_X8_image : yX8_image.cls = RX8 ∧ yX8_image.cls ≠ "java/lang/invoke/MethodHandle" ∧ yX8_image.cls ≠ "java/lang/invoke/VarHandle" ∧ (parseMethodDescriptor yX8_image.desc).map (fun d => d.parameters.length) = some 0 := by decide +kernel
theorem dX8_image_0 : decode cX8_image 0 = .ok (.aload_n 0, 1) := by decide +kernel
theorem dX8_image_1 : decode cX8_image 1 = .ok (.getfield 18, 3) := by decide +kernel
theorem dX8_image_4 : decode cX8_image 4 = .ok (.aload_n 0, 1) := by decide +kernel
theorem dX8_image_5 : decode cX8_image 5 = .ok (.getfield 12, 3) := by decide +kernel
theorem dX8_image_8 : decode cX8_image 8 = .ok (.invokevirtual 294, 3) := by decide +kernel
theorem dX8_image_11 : decode cX8_image 11 = .ok (.aload_n 0, 1) := by decide +kernel
theorem dX8_image_12 : decode cX8_image 12 = .ok (.iconst 1, 1) := by decide +kernel
theorem dX8_image_13 : decode cX8_image 13 = .ok (.putfield 297, 3) := by decide +kernel
theorem dX8_image_16 : decode cX8_image 16 = .ok (.aload_n 0, 1) := by decide +kernel
theorem dX8_image_17 : decode cX8_image 17 = .ok (.getfield 12, 3) := by decide +kernel
theorem dX8_image_20 : decode cX8_image 20 = .ok (.getfield 81, 3) := by decide +kernel
theorem dX8_image_23 : decode cX8_image 23 = .ok (.ireturn, 1) := by decide +kernel
set_option maxRecDepth 100000 in
set_option maxHeartbeats 4000000 in
theorem kb_X8_image_0 {w : WX} {out : Int32 × WX} {H : Heap} {locs : List Loc} {ls : Array Slot} (C : CX p s m args meth c cX8_image 1 RX8 wc_X8_image (some .int))  (hG : Gd s G A 153 B (entX G B w) X H locs) (hl : lv_has ls 1 [(0, .ref (B + 0))]) (hf : sh_X8_image w = some out) :
    W p l e rm_X8_image s m args below meth c H locs 0 0 (MQ below (CPost G A 153 B (entX G B out.2) X (some (.int out.1))) args s 0 0 A) (F0 m 0 ls []) := by
  refine lv_aload_n C.1 C.2.1 dX8_image_0 rfl (lv_at hl 0 rfl) ?_
  refine gf_X8_18 C hG rfl dX8_image_1 ?_
  refine lv_aload_n C.1 C.2.1 dX8_image_4 rfl (lv_at hl 0 rfl) ?_
  refine gf_X8_12 C hG rfl dX8_image_5 ?_
  obtain ⟨w1, hw1, hf⟩ := of_bind hf
  refine r_callV0 C hG hl.1 (c0 := 55) (As := [.ref (B + 1)]) (by decide) (entX_O4 (n := 4) rfl) rfl (mt_X4_copyFrom l rfl rfl hw1) (cwV 1 C.2.2.2.2.1 (gd_V tg_4_55 tg_4_56 tg_4_57 tg_1_2 tg_4_58) rfl rfl rfl cd_X4_copyFrom ⟨Nat.le_of_ble_eq_true rfl, Nat.le_of_ble_eq_true rfl⟩) rfl rfl (Nat.le_of_ble_eq_true rfl) dX8_image_8 (fun H locs hG => ?_)
  refine lv_aload_n C.1 C.2.1 dX8_image_11 rfl (lv_at hl 0 rfl) ?_
  refine lv_iconst (v := nI 1) C.1 C.2.1 dX8_image_12 (by decide) ?_
  obtain ⟨w2, ew2, hf⟩ := of_letv hf
  refine pf_X8_297 C hG (Or.inr rfl) rfl dX8_image_13 (fun H locs hG => ?_)
  rw [← ew2] at hG
  refine lv_aload_n C.1 C.2.1 dX8_image_16 rfl (lv_at hl 0 rfl) ?_
  refine gf_X8_12 C hG rfl dX8_image_17 ?_
  refine gf_X8_81 C hG rfl dX8_image_20 ?_
  obtain rfl := Option.some.inj hf
  exact r_iret C hG dX8_image_23
set_option maxRecDepth 100000 in
set_option maxHeartbeats 4000000 in
theorem mt_X8_image (l : Launch) {G : GG} {A : Nat → Prop} {B : Nat} {X : va_W} {w : WX} {out : Int32 × WX}  (hf : sh_X8_image w = some out) : MetW l yX8_image wc_X8_image rm_X8_image G A 153 B (entX G B w) X [.ref (B + 0)] (some (.int out.1)) (entX G B out.2) := by
  refine Met.ofW (cc := cX8_image) (maxL := 1) (ret := (some .int)) (by decide) rfl ?_
  intro p e s m args below meth c s₁ B0 hml hv
  obtain ⟨rfl, hEv, hWd⟩ := hv
  have C : CX p s m _ meth c cX8_image 1 RX8 wc_X8_image (some .int) := ⟨B0.exec, B0.bytes, hml, findClass_of_methodNamed B0.named, atoms_spec (ws := wc_X8_image) B0.pre, B0.returns, B0.notSynchronized⟩
  have hl := lv_entry [.ref (B + 0)] (n := 1) (Nat.le_of_ble_eq_true rfl)
  rw [lg_entry_eq]
  generalize (lg_sl [.ref (B + 0)] ++ List.replicate (1 - (lg_sl [.ref (B + 0)]).length) Slot.unset).toArray = ls at hl ⊢
  have hl : lv_has ls 1 [(0, .ref (B + 0))] := hl
  exact kb_X8_image_0 C  ⟨hEv, hWd, va_S.rf⟩ hl hf
abbrev wc_X8_undo : List Cond := Cond.code yX8_undo cX8_undo 1 (some .int) :: TG
abbrev rm_X8_undo : Room := { frames := 7, cells := 0, slots := 0, locals := 216 }
theorem cd_X8_undo : yX8_undo.cls = RX8 ∧ yX8_undo.cls ≠ "java/lang/invoke/MethodHandle" ∧ yX8_undo.cls ≠ "java/lang/invoke/VarHandle" ∧ (parseMethodDescriptor yX8_undo.desc).map (fun d => d.parameters.length) = some 0 := by decide +kernel
theorem dX8_undo_0 : decode cX8_undo 0 = .ok (.aload_n 0, 1) := by decide +kernel
theorem dX8_undo_1 : decode cX8_undo 1 = .ok (.getfield 297, 3) := by decide +kernel
theorem dX8_undo_4 : decode cX8_undo 4 = .ok (.ifCond .ne 6, 3) := by decide +kernel
theorem dX8_undo_7 : decode cX8_undo 7 = .ok (.bipush (-3), 2) := by decide +kernel
theorem dX8_undo_9 : decode cX8_undo 9 = .ok (.ireturn, 1) := by decide +kernel
theorem dX8_undo_10 : decode cX8_undo 10 = .ok (.aload_n 0, 1) := by decide +kernel
theorem dX8_undo_11 : decode cX8_undo 11 = .ok (.getfield 12, 3) := by decide +kernel
theorem dX8_undo_14 : decode cX8_undo 14 = .ok (.aload_n 0, 1) := by decide +kernel
theorem dX8_undo_15 : decode cX8_undo 15 = .ok (.getfield 18, 3) := by decide +kernel
theorem dX8_undo_18 : decode cX8_undo 18 = .ok (.invokevirtual 294, 3) := by decide +kernel
theorem dX8_undo_21 : decode cX8_undo 21 = .ok (.aload_n 0, 1) := by decide +kernel
theorem dX8_undo_22 : decode cX8_undo 22 = .ok (.getfield 12, 3) := by decide +kernel
theorem dX8_undo_25 : decode cX8_undo 25 = .ok (.getfield 81, 3) := by decide +kernel
theorem dX8_undo_28 : decode cX8_undo 28 = .ok (.ireturn, 1) := by decide +kernel
set_option maxRecDepth 100000 in
set_option maxHeartbeats 4000000 in
theorem kb_X8_undo_0 {w : WX} {out : Int32 × WX} {H : Heap} {locs : List Loc} {ls : Array Slot} (C : CX p s m args meth c cX8_undo 1 RX8 wc_X8_undo (some .int))  (hG : Gd s G A 153 B (entX G B w) X H locs) (hl : lv_has ls 1 [(0, .ref (B + 0))]) (hf : sh_X8_undo w = some out) :
    W p l e rm_X8_undo s m args below meth c H locs 0 0 (MQ below (CPost G A 153 B (entX G B out.2) X (some (.int out.1))) args s 0 0 A) (F0 m 0 ls []) := by
  refine lv_aload_n C.1 C.2.1 dX8_undo_0 rfl (lv_at hl 0 rfl) ?_
  refine gf_X8_297 C hG rfl dX8_undo_1 ?_
  rcases of_ite hf with ⟨c1, hf⟩ | ⟨c1, hf⟩
  · refine lv_if_ne (tgt := 10) C.1 C.2.1 dX8_undo_4 (by decide) (fun q => absurd c1 q) (fun _ => ?_)
    refine lv_bipush (v := (-3 : Int32)) C.1 C.2.1 dX8_undo_7 (by decide) ?_
    obtain rfl := Option.some.inj hf
    exact r_iret C hG dX8_undo_9
  · refine lv_if_ne (tgt := 10) C.1 C.2.1 dX8_undo_4 (by decide) (fun _ => ?_) (fun q => absurd q c1)
    refine lv_aload_n C.1 C.2.1 dX8_undo_10 rfl (lv_at hl 0 rfl) ?_
    refine gf_X8_12 C hG rfl dX8_undo_11 ?_
    refine lv_aload_n C.1 C.2.1 dX8_undo_14 rfl (lv_at hl 0 rfl) ?_
    refine gf_X8_18 C hG rfl dX8_undo_15 ?_
    obtain ⟨w2, hw2, hf⟩ := of_bind hf
    refine r_callV0 C hG hl.1 (c0 := 1) (As := [.ref (B + 55)]) (by decide) (entX_O4 (n := 4) rfl) rfl (mt_X4_copyFrom l rfl rfl hw2) (cwV 1 C.2.2.2.2.1 (gd_V tg_4_55 tg_4_56 tg_4_57 tg_1_2 tg_4_58) rfl rfl rfl cd_X4_copyFrom ⟨Nat.le_of_ble_eq_true rfl, Nat.le_of_ble_eq_true rfl⟩) rfl rfl (Nat.le_of_ble_eq_true rfl) dX8_undo_18 (fun H locs hG => ?_)
    refine lv_aload_n C.1 C.2.1 dX8_undo_21 rfl (lv_at hl 0 rfl) ?_
    refine gf_X8_12 C hG rfl dX8_undo_22 ?_
    refine gf_X8_81 C hG rfl dX8_undo_25 ?_
    obtain rfl := Option.some.inj hf
    exact r_iret C hG dX8_undo_28
set_option maxRecDepth 100000 in
set_option maxHeartbeats 4000000 in
theorem mt_X8_undo (l : Launch) {G : GG} {A : Nat → Prop} {B : Nat} {X : va_W} {w : WX} {out : Int32 × WX}  (hf : sh_X8_undo w = some out) : MetW l yX8_undo wc_X8_undo rm_X8_undo G A 153 B (entX G B w) X [.ref (B + 0)] (some (.int out.1)) (entX G B out.2) := by
  refine Met.ofW (cc := cX8_undo) (maxL := 1) (ret := (some .int)) (by decide) rfl ?_
  intro p e s m args below meth c s₁ B0 hml hv
  obtain ⟨rfl, hEv, hWd⟩ := hv
  have C : CX p s m _ meth c cX8_undo 1 RX8 wc_X8_undo (some .int) := ⟨B0.exec, B0.bytes, hml, findClass_of_methodNamed B0.named, atoms_spec (ws := wc_X8_undo) B0.pre, B0.returns, B0.notSynchronized⟩
  have hl := lv_entry [.ref (B + 0)] (n := 1) (Nat.le_of_ble_eq_true rfl)
  rw [lg_entry_eq]
  generalize (lg_sl [.ref (B + 0)] ++ List.replicate (1 - (lg_sl [.ref (B + 0)]).length) Slot.unset).toArray = ls at hl ⊢
  have hl : lv_has ls 1 [(0, .ref (B + 0))] := hl
  exact kb_X8_undo_0 C  ⟨hEv, hWd, va_S.rf⟩ hl hf
abbrev wc_X8_count : List Cond := Cond.code yX8_count cX8_count 2 (some .int) :: TG
abbrev rm_X8_count : Room := { frames := 3, cells := 0, slots := 0, locals := 122 }
theorem cd_X8_count : yX8_count.cls = RX8 ∧ yX8_count.cls ≠ "java/lang/invoke/MethodHandle" ∧ yX8_count.cls ≠ "java/lang/invoke/VarHandle" ∧ (parseMethodDescriptor yX8_count.desc).map (fun d => d.parameters.length) = some 1 := by decide +kernel
theorem dX8_count_0 : decode cX8_count 0 = .ok (.iload_n 1, 1) := by decide +kernel
theorem dX8_count_1 : decode cX8_count 1 = .ok (.tableswitch 75 0 4 #[35, 43, 51, 59, 64], 35) := by decide +kernel
theorem dX8_count_36 : decode cX8_count 36 = .ok (.aload_n 0, 1) := by decide +kernel
theorem dX8_count_37 : decode cX8_count 37 = .ok (.getfield 12, 3) := by decide +kernel
theorem dX8_count_40 : decode cX8_count 40 = .ok (.getfield 81, 3) := by decide +kernel
theorem dX8_count_43 : decode cX8_count 43 = .ok (.ireturn, 1) := by decide +kernel
theorem dX8_count_44 : decode cX8_count 44 = .ok (.aload_n 0, 1) := by decide +kernel
theorem dX8_count_45 : decode cX8_count 45 = .ok (.getfield 12, 3) := by decide +kernel
theorem dX8_count_48 : decode cX8_count 48 = .ok (.invokevirtual 301, 3) := by decide +kernel
theorem dX8_count_51 : decode cX8_count 51 = .ok (.ireturn, 1) := by decide +kernel
theorem dX8_count_52 : decode cX8_count 52 = .ok (.aload_n 0, 1) := by decide +kernel
theorem dX8_count_53 : decode cX8_count 53 = .ok (.getfield 24, 3) := by decide +kernel
theorem dX8_count_56 : decode cX8_count 56 = .ok (.getfield 144, 3) := by decide +kernel
theorem dX8_count_59 : decode cX8_count 59 = .ok (.ireturn, 1) := by decide +kernel
theorem dX8_count_60 : decode cX8_count 60 = .ok (.aload_n 0, 1) := by decide +kernel
theorem dX8_count_61 : decode cX8_count 61 = .ok (.getfield 273, 3) := by decide +kernel
theorem dX8_count_64 : decode cX8_count 64 = .ok (.ireturn, 1) := by decide +kernel
theorem dX8_count_65 : decode cX8_count 65 = .ok (.aload_n 0, 1) := by decide +kernel
theorem dX8_count_66 : decode cX8_count 66 = .ok (.getfield 12, 3) := by decide +kernel
theorem dX8_count_69 : decode cX8_count 69 = .ok (.getfield 251, 3) := by decide +kernel
theorem dX8_count_72 : decode cX8_count 72 = .ok (.getfield 255, 3) := by decide +kernel
theorem dX8_count_75 : decode cX8_count 75 = .ok (.ireturn, 1) := by decide +kernel
theorem dX8_count_76 : decode cX8_count 76 = .ok (.bipush (-2), 2) := by decide +kernel
theorem dX8_count_78 : decode cX8_count 78 = .ok (.ireturn, 1) := by decide +kernel
set_option maxRecDepth 100000 in
set_option maxHeartbeats 4000000 in
theorem kb_X8_count_0 {x1 : Int32} {w : WX} {out : Int32} {H : Heap} {locs : List Loc} {ls : Array Slot} (C : CX p s m args meth c cX8_count 2 RX8 wc_X8_count (some .int))  (hG : Gd s G A 153 B (entX G B w) X H locs) (hl : lv_has ls 2 [(0, .ref (B + 0)), (1, .int x1)]) (hf : sh_X8_count x1 w = some out) :
    W p l e rm_X8_count s m args below meth c H locs 0 0 (MQ below (CPost G A 153 B (entX G B w) X (some (.int out))) args s 0 0 A) (F0 m 0 ls []) := by
  refine lv_iload_n C.1 C.2.1 dX8_count_0 rfl (lv_at hl 1 rfl) ?_
  rcases of_ite hf with ⟨c1, hf⟩ | ⟨c1, hf⟩
  · refine lv_tableIn (tgt := 36) (off := 35) C.1 C.2.1 dX8_count_1 (by rw [c1]; decide) (by rw [c1]; decide) (by rw [c1]; rfl) (by decide) ?_
    refine lv_aload_n C.1 C.2.1 dX8_count_36 rfl (lv_at hl 0 rfl) ?_
    refine gf_X8_12 C hG rfl dX8_count_37 ?_
    refine gf_X8_81 C hG rfl dX8_count_40 ?_
    obtain rfl := Option.some.inj hf
    exact r_iret C hG dX8_count_43
  · skip
    rcases of_ite hf with ⟨c2, hf⟩ | ⟨c2, hf⟩
    · refine lv_tableIn (tgt := 44) (off := 43) C.1 C.2.1 dX8_count_1 (by rw [c2]; decide) (by rw [c2]; decide) (by rw [c2]; rfl) (by decide) ?_
      refine lv_aload_n C.1 C.2.1 dX8_count_44 rfl (lv_at hl 0 rfl) ?_
      refine gf_X8_12 C hG rfl dX8_count_45 ?_
      obtain ⟨v3, hv3, hf⟩ := of_bind hf
      refine r_callV1 C hG hl.1 (c0 := 1) (As := []) (by decide) (entX_O4 (n := 4) rfl) rfl (mt_X4_piecesOfAll l rfl hv3) (cwV 0 C.2.2.2.2.1 (gd_V tg_4_74 tg_4_75 tg_4_76 tg_1_2 tg_4_77) rfl rfl rfl cd_X4_piecesOfAll ⟨Nat.le_of_ble_eq_true rfl, Nat.le_of_ble_eq_true rfl⟩) rfl rfl (Nat.le_of_ble_eq_true rfl) dX8_count_48 (fun H locs hG => ?_)
      obtain rfl := Option.some.inj hf
      exact r_iret C hG dX8_count_51
    · skip
      rcases of_ite hf with ⟨c4, hf⟩ | ⟨c4, hf⟩
      · refine lv_tableIn (tgt := 52) (off := 51) C.1 C.2.1 dX8_count_1 (by rw [c4]; decide) (by rw [c4]; decide) (by rw [c4]; rfl) (by decide) ?_
        refine lv_aload_n C.1 C.2.1 dX8_count_52 rfl (lv_at hl 0 rfl) ?_
        refine gf_X8_24 C hG rfl dX8_count_53 ?_
        refine gf_X8_144 C hG rfl dX8_count_56 ?_
        obtain rfl := Option.some.inj hf
        exact r_iret C hG dX8_count_59
      · skip
        rcases of_ite hf with ⟨c5, hf⟩ | ⟨c5, hf⟩
        · refine lv_tableIn (tgt := 60) (off := 59) C.1 C.2.1 dX8_count_1 (by rw [c5]; decide) (by rw [c5]; decide) (by rw [c5]; rfl) (by decide) ?_
          refine lv_aload_n C.1 C.2.1 dX8_count_60 rfl (lv_at hl 0 rfl) ?_
          refine gf_X8_273 C hG rfl dX8_count_61 ?_
          obtain rfl := Option.some.inj hf
          exact r_iret C hG dX8_count_64
        · skip
          rcases of_ite hf with ⟨c6, hf⟩ | ⟨c6, hf⟩
          · refine lv_tableIn (tgt := 65) (off := 64) C.1 C.2.1 dX8_count_1 (by rw [c6]; decide) (by rw [c6]; decide) (by rw [c6]; rfl) (by decide) ?_
            refine lv_aload_n C.1 C.2.1 dX8_count_65 rfl (lv_at hl 0 rfl) ?_
            refine gf_X8_12 C hG rfl dX8_count_66 ?_
            refine gf_X8_251 C hG rfl dX8_count_69 ?_
            refine gf_X8_255 C hG (kx_4_3 rfl) dX8_count_72 ?_
            obtain rfl := Option.some.inj hf
            exact r_iret C hG dX8_count_75
          · skip
            refine lv_tableOut (tgt := 76) C.1 C.2.1 dX8_count_1 (sw_out (n := 5) (by decide) (lt_s (lt_s (lt_s (lt_s (lt_s lt_0 c1) c2) c4) c5) c6)) (by decide) ?_
            refine lv_bipush (v := (-2 : Int32)) C.1 C.2.1 dX8_count_76 (by decide) ?_
            obtain rfl := Option.some.inj hf
            exact r_iret C hG dX8_count_78
set_option maxRecDepth 100000 in
set_option maxHeartbeats 4000000 in
theorem mt_X8_count (l : Launch) {G : GG} {A : Nat → Prop} {B : Nat} {X : va_W} {x1 : Int32} {w : WX} {out : Int32}  (hf : sh_X8_count x1 w = some out) : MetW l yX8_count wc_X8_count rm_X8_count G A 153 B (entX G B w) X [.ref (B + 0), .int x1] (some (.int out)) (entX G B w) := by
  refine Met.ofW (cc := cX8_count) (maxL := 2) (ret := (some .int)) (by decide) rfl ?_
  intro p e s m args below meth c s₁ B0 hml hv
  obtain ⟨rfl, hEv, hWd⟩ := hv
  have C : CX p s m _ meth c cX8_count 2 RX8 wc_X8_count (some .int) := ⟨B0.exec, B0.bytes, hml, findClass_of_methodNamed B0.named, atoms_spec (ws := wc_X8_count) B0.pre, B0.returns, B0.notSynchronized⟩
  have hl := lv_entry [.ref (B + 0), .int x1] (n := 2) (Nat.le_of_ble_eq_true rfl)
  rw [lg_entry_eq]
  generalize (lg_sl [.ref (B + 0), .int x1] ++ List.replicate (2 - (lg_sl [.ref (B + 0), .int x1]).length) Slot.unset).toArray = ls at hl ⊢
  have hl : lv_has ls 2 [(0, .ref (B + 0)), (1, .int x1)] := hl
  exact kb_X8_count_0 C  ⟨hEv, hWd, va_S.rf⟩ hl hf
end
