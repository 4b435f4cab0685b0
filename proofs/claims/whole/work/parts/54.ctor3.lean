/-! lists, states -/
abbrev wcI_X1 : List Cond := Cond.code yX1_init cX1_init 2 none :: TG
abbrev rmI_X1 : Room := { frames := 1, cells := 6, slots := 56, locals := 20 }
theorem dX1_init_0 : decode cX1_init 0 = .ok (.aload_n 0, 1) := by decide +kernel
theorem dX1_init_1 : decode cX1_init 1 = .ok (.invokespecial 3, 3) := by decide +kernel
theorem dX1_init_4 : decode cX1_init 4 = .ok (.aload_n 0, 1) := by decide +kernel
theorem dX1_init_5 : decode cX1_init 5 = .ok (.iconst 4, 1) := by decide +kernel
theorem dX1_init_6 : decode cX1_init 6 = .ok (.bipush 12, 2) := by decide +kernel
theorem dX1_init_8 : decode cX1_init 8 = .ok (.multianewarray 9 2, 4) := by decide +kernel
theorem dX1_init_12 : decode cX1_init 12 = .ok (.putfield 11, 3) := by decide +kernel
theorem dX1_init_15 : decode cX1_init 15 = .ok (.aload_n 0, 1) := by decide +kernel
theorem dX1_init_16 : decode cX1_init 16 = .ok (.iconst 4, 1) := by decide +kernel
theorem dX1_init_17 : decode cX1_init 17 = .ok (.newarray .int, 2) := by decide +kernel
theorem dX1_init_19 : decode cX1_init 19 = .ok (.putfield 16, 3) := by decide +kernel
theorem dX1_init_22 : decode cX1_init 22 = .ok (.iconst 0, 1) := by decide +kernel
theorem dX1_init_23 : decode cX1_init 23 = .ok (.istore_n 1, 1) := by decide +kernel
theorem dX1_init_24 : decode cX1_init 24 = .ok (.iload_n 1, 1) := by decide +kernel
theorem dX1_init_25 : decode cX1_init 25 = .ok (.iconst 4, 1) := by decide +kernel
theorem dX1_init_26 : decode cX1_init 26 = .ok (.if_icmp .ge 16, 3) := by decide +kernel
theorem dX1_init_29 : decode cX1_init 29 = .ok (.aload_n 0, 1) := by decide +kernel
theorem dX1_init_30 : decode cX1_init 30 = .ok (.getfield 16, 3) := by decide +kernel
theorem dX1_init_33 : decode cX1_init 33 = .ok (.iload_n 1, 1) := by decide +kernel
theorem dX1_init_34 : decode cX1_init 34 = .ok (.iconst (-1), 1) := by decide +kernel
theorem dX1_init_35 : decode cX1_init 35 = .ok (.iastore, 1) := by decide +kernel
theorem dX1_init_36 : decode cX1_init 36 = .ok (.iinc 1 1, 3) := by decide +kernel
theorem dX1_init_39 : decode cX1_init 39 = .ok (.goto (-15), 3) := by decide +kernel
theorem dX1_init_42 : decode cX1_init 42 = .ok (.return_, 1) := by decide +kernel
set_option maxRecDepth 100000 in
set_option maxHeartbeats 4000000 in
theorem ci_X1 (l : Launch) {G : GG} {A : Nat → Prop} {B : Nat} {E : Nat → va_E} {X : va_W} (hE : E 111 = .inr (1, [.null, .null])) : MetI l yX1_init wcI_X1 rmI_X1 G A B X [.ref (B + 111)] (111 + 1) E 118 (mixE E (entX G B w0) 111) 6 56 := by
  refine Met.ofW (cc := cX1_init) (maxL := 2) (ret := none) (by decide) rfl ?_
  intro p e s m args below meth c s₁ B0 hml hv
  obtain ⟨rfl, ⟨hEv, hWd⟩, hO, hN, hA⟩ := hv
  have C : CX p s m _ meth c cX1_init 2 RX1 wcI_X1 none := ⟨B0.exec, B0.bytes, hml, findClass_of_methodNamed B0.named, atoms_spec (ws := wcI_X1) B0.pre, B0.returns, B0.notSynchronized⟩
  have hin2 : meth.name = "<init>" := (name_of_methodNamed B0.named B0.method).1
  have hl := lv_entry [.ref (B + 111)] (n := 2) (Nat.le_of_ble_eq_true rfl)
  rw [lg_entry_eq]
  generalize (lg_sl [.ref (B + 111)] ++ List.replicate (2 - (lg_sl [.ref (B + 111)]).length) Slot.unset).toArray = ls at hl ⊢
  have hl : lv_has ls 2 [(0, .ref (B + 111))] := hl
  have hG : Gc s G A (111 + 1) B (va_up (va_up (mixE E (entX G B w0) 111) 117 (.inl (gI G, 4, .inl (lz 0)))) 111 (.inr (1, [.null, .null]))) X s.heap [] := Gc.congr ⟨⟨⟨hEv, hWd, va_S.rf⟩, hO⟩, hN, hA⟩ (fun c hc => by
    by_cases z : c = 111
    · rw [z, va_up_self, hE]
    · rw [va_up_ne _ _ z, va_up_ne _ _ (by omega), mixE_lt (by omega)])
  refine lv_aload_n C.1 C.2.1 dX1_init_0 rfl (lv_at hl 0 rfl) ?_
  refine rc_obj C hl.1 (List.mem_cons_of_mem _ tg_1_174) (List.mem_cons_of_mem _ tg_1_20) (List.mem_cons_of_mem _ tg_1_21) (Nat.le_of_ble_eq_true rfl) (Nat.le_of_ble_eq_true rfl) dX1_init_1 ?_
  refine lv_aload_n C.1 C.2.1 dX1_init_4 rfl (lv_at hl 0 rfl) ?_
  refine lv_iconst (v := nI 4) C.1 C.2.1 dX1_init_5 (by decide) ?_
  refine lv_bipush (v := nI 12) C.1 C.2.1 dX1_init_6 (by decide) ?_
  refine rc_mul C hG ((va_up_ne _ _ (by omega)).trans ((va_up_ne _ _ (by omega)).trans ((mixE_ge (by omega)).trans (entX_R (n := 4) (by decide +kernel))))) (fun j hj => (va_up_ne _ _ (by omega)).trans ((va_up_ne _ _ (by omega)).trans ((mixE_ge (by omega)).trans (ent0_I (show KDx (112 + 1 + j) = (10, 12) from (show ∀ j, j < 4 → KDx (112 + 1 + j) = (10, 12) from by decide +kernel) j hj) (by omega))))) (List.mem_cons_of_mem _ tg_1_175) (k' := 5) (n' := 52) rfl rfl (Nat.le_of_ble_eq_true rfl) (Nat.le_of_ble_eq_true rfl) dX1_init_8 (fun H locs hG => ?_)
  have hG : Gc s G A 117 B (va_up (va_up (mixE E (entX G B w0) 111) 117 (.inl (gI G, 4, .inl (lz 0)))) 111 (.inr (1, [.null, .null]))) X H _ := hG
  refine rc_putF C hin2 hG (c0 := 111) (by omega) (va_up_self _ _ _) (Cn := RX1) (T := TX1) (Nk := 2) rfl (fun x hx => List.mem_cons_of_mem _ (uw_X1 x hx)) (ty0 := tyX1) tyX1_ok nmX1 (i := 0) (Nat.le_of_ble_eq_true rfl) (List.mem_cons_of_mem _ tg_1_177) rfl rfl (v := .ref (B + 112)) rfl rfl (Nat.le_of_ble_eq_true rfl) (E' := (va_up (va_up (mixE E (entX G B w0) 111) 117 (.inl (gI G, 4, .inl (lz 0)))) 111 (.inr (1, [.ref (B + 112), .null])))) (up_up) dX1_init_12 (fun H locs hG => ?_)
  refine lv_aload_n C.1 C.2.1 dX1_init_15 rfl (lv_at hl 0 rfl) ?_
  refine lv_iconst (v := nI 4) C.1 C.2.1 dX1_init_16 (by decide) ?_
  refine rc_newI C hG (n := 4) rfl (by omega) (((va_up_ne _ _ (by omega)).trans (va_up_self _ _ _)).trans (by rw [lz_0])) (k' := 6) (n' := 56) rfl rfl (Nat.le_of_ble_eq_true rfl) (Nat.le_of_ble_eq_true rfl) dX1_init_17 (fun H hG => ?_)
  have hG : Gc s G A 118 B (va_up (va_up (mixE E (entX G B w0) 111) 117 (.inl (gI G, 4, .inl (lz 0)))) 111 (.inr (1, [.ref (B + 112), .null]))) X H _ := hG
  refine rc_putF C hin2 hG (c0 := 111) (by omega) (va_up_self _ _ _) (Cn := RX1) (T := TX1) (Nk := 2) rfl (fun x hx => List.mem_cons_of_mem _ (uw_X1 x hx)) (ty0 := tyX1) tyX1_ok nmX1 (i := 1) (Nat.le_of_ble_eq_true rfl) (List.mem_cons_of_mem _ tg_1_179) rfl rfl (v := .ref (B + 117)) rfl rfl (Nat.le_of_ble_eq_true rfl) (E' := (va_up (va_up (mixE E (entX G B w0) 111) 117 (.inl (gI G, 4, .inl (lz 0)))) 111 (.inr (1, [.ref (B + 112), .ref (B + 117)])))) (up_up) dX1_init_19 (fun H locs hG => ?_)
  refine lv_iconst (v := nI 0) C.1 C.2.1 dX1_init_22 (by decide) ?_
  refine lv_istore_n (lv' := [(1, .int (nI 0)), (0, .ref (B + 111))]) C.1 C.2.1 dX1_init_23 rfl hl (by decide) rfl (fun ls hl => ?_)
  refine lv_iload_n C.1 C.2.1 dX1_init_24 rfl (lv_at hl 0 rfl) ?_
  refine lv_iconst (v := nI 4) C.1 C.2.1 dX1_init_25 (by decide) ?_
  refine lv_icmp_ge (tgt := 42) C.1 C.2.1 dX1_init_26 (by decide) (fun q => absurd q (by decide)) (fun _ => ?_)
  refine lv_aload_n C.1 C.2.1 dX1_init_29 rfl (lv_at hl 1 rfl) ?_
  refine rc_getf C hG (c0 := 111) (by omega) (va_up_self _ _ _) (Cn := RX1) (T := TX1) (Nk := 2) rfl (fun x hx => List.mem_cons_of_mem _ (uw_X1 x hx)) (i := 1) (Nat.le_of_ble_eq_true rfl) (List.mem_cons_of_mem _ tg_1_179) (v := .ref (B + 117)) rfl dX1_init_30 ?_
  refine lv_iload_n C.1 C.2.1 dX1_init_33 rfl (lv_at hl 0 rfl) ?_
  refine lv_iconst (v := (-1 : Int32)) C.1 C.2.1 dX1_init_34 (by decide) ?_
  refine rc_iast C hG (c0 := 117) (n := 4) (i := 0) (by omega) ((va_up_ne _ _ (by omega)).trans (va_up_self _ _ _)) (by omega) (by omega) (E' := (va_up (va_up (mixE E (entX G B w0) 111) 117 (.inl (gI G, 4, .inl (lz 1)))) 111 (.inr (1, [.ref (B + 112), .ref (B + 117)])))) ((congrArg (fun f => va_up _ _ (.inl (gI G, 4, .inl f))) lz_s).trans (up_in1 (by omega))) dX1_init_35 (fun H locs hG => ?_)
  refine lv_iinc (v := nI 1) (lv' := [(1, .int (nI 1)), (0, .ref (B + 111))]) C.1 C.2.1 dX1_init_36 hl (k := 0) rfl (by decide) (by decide) rfl (fun ls hl => ?_)
  refine lv_goto (tgt := 24) C.1 C.2.1 dX1_init_39 (by decide) ?_
  refine lv_iload_n C.1 C.2.1 dX1_init_24 rfl (lv_at hl 0 rfl) ?_
  refine lv_iconst (v := nI 4) C.1 C.2.1 dX1_init_25 (by decide) ?_
  refine lv_icmp_ge (tgt := 42) C.1 C.2.1 dX1_init_26 (by decide) (fun q => absurd q (by decide)) (fun _ => ?_)
  refine lv_aload_n C.1 C.2.1 dX1_init_29 rfl (lv_at hl 1 rfl) ?_
  refine rc_getf C hG (c0 := 111) (by omega) (va_up_self _ _ _) (Cn := RX1) (T := TX1) (Nk := 2) rfl (fun x hx => List.mem_cons_of_mem _ (uw_X1 x hx)) (i := 1) (Nat.le_of_ble_eq_true rfl) (List.mem_cons_of_mem _ tg_1_179) (v := .ref (B + 117)) rfl dX1_init_30 ?_
  refine lv_iload_n C.1 C.2.1 dX1_init_33 rfl (lv_at hl 0 rfl) ?_
  refine lv_iconst (v := (-1 : Int32)) C.1 C.2.1 dX1_init_34 (by decide) ?_
  refine rc_iast C hG (c0 := 117) (n := 4) (i := 1) (by omega) ((va_up_ne _ _ (by omega)).trans (va_up_self _ _ _)) (by omega) (by omega) (E' := (va_up (va_up (mixE E (entX G B w0) 111) 117 (.inl (gI G, 4, .inl (lz 2)))) 111 (.inr (1, [.ref (B + 112), .ref (B + 117)])))) ((congrArg (fun f => va_up _ _ (.inl (gI G, 4, .inl f))) lz_s).trans (up_in1 (by omega))) dX1_init_35 (fun H locs hG => ?_)
  refine lv_iinc (v := nI 2) (lv' := [(1, .int (nI 2)), (0, .ref (B + 111))]) C.1 C.2.1 dX1_init_36 hl (k := 0) rfl (by decide) (by decide) rfl (fun ls hl => ?_)
  refine lv_goto (tgt := 24) C.1 C.2.1 dX1_init_39 (by decide) ?_
  refine lv_iload_n C.1 C.2.1 dX1_init_24 rfl (lv_at hl 0 rfl) ?_
  refine lv_iconst (v := nI 4) C.1 C.2.1 dX1_init_25 (by decide) ?_
  refine lv_icmp_ge (tgt := 42) C.1 C.2.1 dX1_init_26 (by decide) (fun q => absurd q (by decide)) (fun _ => ?_)
  refine lv_aload_n C.1 C.2.1 dX1_init_29 rfl (lv_at hl 1 rfl) ?_
  refine rc_getf C hG (c0 := 111) (by omega) (va_up_self _ _ _) (Cn := RX1) (T := TX1) (Nk := 2) rfl (fun x hx => List.mem_cons_of_mem _ (uw_X1 x hx)) (i := 1) (Nat.le_of_ble_eq_true rfl) (List.mem_cons_of_mem _ tg_1_179) (v := .ref (B + 117)) rfl dX1_init_30 ?_
  refine lv_iload_n C.1 C.2.1 dX1_init_33 rfl (lv_at hl 0 rfl) ?_
  refine lv_iconst (v := (-1 : Int32)) C.1 C.2.1 dX1_init_34 (by decide) ?_
  refine rc_iast C hG (c0 := 117) (n := 4) (i := 2) (by omega) ((va_up_ne _ _ (by omega)).trans (va_up_self _ _ _)) (by omega) (by omega) (E' := (va_up (va_up (mixE E (entX G B w0) 111) 117 (.inl (gI G, 4, .inl (lz 3)))) 111 (.inr (1, [.ref (B + 112), .ref (B + 117)])))) ((congrArg (fun f => va_up _ _ (.inl (gI G, 4, .inl f))) lz_s).trans (up_in1 (by omega))) dX1_init_35 (fun H locs hG => ?_)
  refine lv_iinc (v := nI 3) (lv' := [(1, .int (nI 3)), (0, .ref (B + 111))]) C.1 C.2.1 dX1_init_36 hl (k := 0) rfl (by decide) (by decide) rfl (fun ls hl => ?_)
  refine lv_goto (tgt := 24) C.1 C.2.1 dX1_init_39 (by decide) ?_
  refine lv_iload_n C.1 C.2.1 dX1_init_24 rfl (lv_at hl 0 rfl) ?_
  refine lv_iconst (v := nI 4) C.1 C.2.1 dX1_init_25 (by decide) ?_
  refine lv_icmp_ge (tgt := 42) C.1 C.2.1 dX1_init_26 (by decide) (fun q => absurd q (by decide)) (fun _ => ?_)
  refine lv_aload_n C.1 C.2.1 dX1_init_29 rfl (lv_at hl 1 rfl) ?_
  refine rc_getf C hG (c0 := 111) (by omega) (va_up_self _ _ _) (Cn := RX1) (T := TX1) (Nk := 2) rfl (fun x hx => List.mem_cons_of_mem _ (uw_X1 x hx)) (i := 1) (Nat.le_of_ble_eq_true rfl) (List.mem_cons_of_mem _ tg_1_179) (v := .ref (B + 117)) rfl dX1_init_30 ?_
  refine lv_iload_n C.1 C.2.1 dX1_init_33 rfl (lv_at hl 0 rfl) ?_
  refine lv_iconst (v := (-1 : Int32)) C.1 C.2.1 dX1_init_34 (by decide) ?_
  refine rc_iast C hG (c0 := 117) (n := 4) (i := 3) (by omega) ((va_up_ne _ _ (by omega)).trans (va_up_self _ _ _)) (by omega) (by omega) (E' := (va_up (va_up (mixE E (entX G B w0) 111) 117 (.inl (gI G, 4, .inl (lz 4)))) 111 (.inr (1, [.ref (B + 112), .ref (B + 117)])))) ((congrArg (fun f => va_up _ _ (.inl (gI G, 4, .inl f))) lz_s).trans (up_in1 (by omega))) dX1_init_35 (fun H locs hG => ?_)
  refine lv_iinc (v := nI 4) (lv' := [(1, .int (nI 4)), (0, .ref (B + 111))]) C.1 C.2.1 dX1_init_36 hl (k := 0) rfl (by decide) (by decide) rfl (fun ls hl => ?_)
  refine lv_goto (tgt := 24) C.1 C.2.1 dX1_init_39 (by decide) ?_
  refine lv_iload_n C.1 C.2.1 dX1_init_24 rfl (lv_at hl 0 rfl) ?_
  refine lv_iconst (v := nI 4) C.1 C.2.1 dX1_init_25 (by decide) ?_
  refine lv_icmp_ge (tgt := 42) C.1 C.2.1 dX1_init_26 (by decide) (fun _ => ?_) (fun q => absurd (by decide) q)
  exact rc_ret C hG (fun c _ => congrFun ((up_id (x := _) ((va_up_ne _ _ (by omega)).trans ((mixE_ge (Nat.le_refl _)).trans ((entX_O1 (n := 2) (by decide +kernel)).trans rfl)))).trans (up_id ((mixE_ge (by omega)).trans ((entX_I (n := 4) (by decide +kernel)).trans (by rw [w0_117]))))) c) dX1_init_42
abbrev wcI_X4 : List Cond := Cond.code yX4_init cX4_init 2 none :: TG
abbrev rmI_X4 : Room := { frames := 2, cells := 53, slots := 763, locals := 60 }
theorem dX4_init_0 : decode cX4_init 0 = .ok (.aload_n 0, 1) := by decide +kernel
theorem dX4_init_1 : decode cX4_init 1 = .ok (.invokespecial 3, 3) := by decide +kernel
theorem dX4_init_4 : decode cX4_init 4 = .ok (.aload_n 0, 1) := by decide +kernel
theorem dX4_init_5 : decode cX4_init 5 = .ok (.iconst 4, 1) := by decide +kernel
theorem dX4_init_6 : decode cX4_init 6 = .ok (.anewarray 9, 3) := by decide +kernel
theorem dX4_init_9 : decode cX4_init 9 = .ok (.putfield 11, 3) := by decide +kernel
theorem dX4_init_12 : decode cX4_init 12 = .ok (.aload_n 0, 1) := by decide +kernel
theorem dX4_init_13 : decode cX4_init 13 = .ok (.iconst 4, 1) := by decide +kernel
theorem dX4_init_14 : decode cX4_init 14 = .ok (.anewarray 17, 3) := by decide +kernel
theorem dX4_init_17 : decode cX4_init 17 = .ok (.putfield 19, 3) := by decide +kernel
theorem dX4_init_20 : decode cX4_init 20 = .ok (.aload_n 0, 1) := by decide +kernel
theorem dX4_init_21 : decode cX4_init 21 = .ok (.new 23, 3) := by decide +kernel
theorem dX4_init_24 : decode cX4_init 24 = .ok (.dup, 1) := by decide +kernel
theorem dX4_init_25 : decode cX4_init 25 = .ok (.invokespecial 25, 3) := by decide +kernel
theorem dX4_init_28 : decode cX4_init 28 = .ok (.putfield 26, 3) := by decide +kernel
theorem dX4_init_31 : decode cX4_init 31 = .ok (.iconst 0, 1) := by decide +kernel
theorem dX4_init_32 : decode cX4_init 32 = .ok (.istore_n 1, 1) := by decide +kernel
theorem dX4_init_33 : decode cX4_init 33 = .ok (.iload_n 1, 1) := by decide +kernel
theorem dX4_init_34 : decode cX4_init 34 = .ok (.iconst 4, 1) := by decide +kernel
theorem dX4_init_35 : decode cX4_init 35 = .ok (.if_icmp .ge 22, 3) := by decide +kernel
theorem dX4_init_38 : decode cX4_init 38 = .ok (.aload_n 0, 1) := by decide +kernel
theorem dX4_init_39 : decode cX4_init 39 = .ok (.getfield 11, 3) := by decide +kernel
theorem dX4_init_42 : decode cX4_init 42 = .ok (.iload_n 1, 1) := by decide +kernel
theorem dX4_init_43 : decode cX4_init 43 = .ok (.new 9, 3) := by decide +kernel
theorem dX4_init_46 : decode cX4_init 46 = .ok (.dup, 1) := by decide +kernel
theorem dX4_init_47 : decode cX4_init 47 = .ok (.invokespecial 30, 3) := by decide +kernel
theorem dX4_init_50 : decode cX4_init 50 = .ok (.aastore, 1) := by decide +kernel
theorem dX4_init_51 : decode cX4_init 51 = .ok (.iinc 1 1, 3) := by decide +kernel
theorem dX4_init_54 : decode cX4_init 54 = .ok (.goto (-21), 3) := by decide +kernel
theorem dX4_init_57 : decode cX4_init 57 = .ok (.iconst 0, 1) := by decide +kernel
theorem dX4_init_58 : decode cX4_init 58 = .ok (.istore_n 1, 1) := by decide +kernel
theorem dX4_init_59 : decode cX4_init 59 = .ok (.iload_n 1, 1) := by decide +kernel
theorem dX4_init_60 : decode cX4_init 60 = .ok (.iconst 4, 1) := by decide +kernel
theorem dX4_init_61 : decode cX4_init 61 = .ok (.if_icmp .ge 22, 3) := by decide +kernel
theorem dX4_init_64 : decode cX4_init 64 = .ok (.aload_n 0, 1) := by decide +kernel
theorem dX4_init_65 : decode cX4_init 65 = .ok (.getfield 19, 3) := by decide +kernel
theorem dX4_init_68 : decode cX4_init 68 = .ok (.iload_n 1, 1) := by decide +kernel
theorem dX4_init_69 : decode cX4_init 69 = .ok (.new 17, 3) := by decide +kernel
theorem dX4_init_72 : decode cX4_init 72 = .ok (.dup, 1) := by decide +kernel
theorem dX4_init_73 : decode cX4_init 73 = .ok (.invokespecial 31, 3) := by decide +kernel
theorem dX4_init_76 : decode cX4_init 76 = .ok (.aastore, 1) := by decide +kernel
theorem dX4_init_77 : decode cX4_init 77 = .ok (.iinc 1 1, 3) := by decide +kernel
theorem dX4_init_80 : decode cX4_init 80 = .ok (.goto (-21), 3) := by decide +kernel
theorem dX4_init_83 : decode cX4_init 83 = .ok (.return_, 1) := by decide +kernel
theorem fs0_X4h {B o : Nat} (ho : o = 1 ∨ o = 55) : fsX B w0 4 o = [.ref (B + (o + 1)), .int 0, .ref (B + (o + 2)), .ref (B + (o + 3))] := by rcases ho with rfl | rfl <;> rfl
set_option maxRecDepth 100000 in
set_option maxHeartbeats 4000000 in
theorem ci_X4 (l : Launch) {G : GG} {A : Nat → Prop} {B : Nat} {E : Nat → va_E} {X : va_W} {o : Nat} (ho : o = 1 ∨ o = 55) (hE : E o = .inr (4, [.null, .int 0, .null, .null])) : MetI l yX4_init wcI_X4 rmI_X4 G A B X [.ref (B + o)] (o + 1) E (o + 54) (mixE E (entX G B w0) o) 53 763 := by
  refine Met.ofW (cc := cX4_init) (maxL := 2) (ret := none) (by decide) rfl ?_
  intro p e s m args below meth c s₁ B0 hml hv
  obtain ⟨rfl, ⟨hEv, hWd⟩, hO, hN, hA⟩ := hv
  have C : CX p s m _ meth c cX4_init 2 RX4 wcI_X4 none := ⟨B0.exec, B0.bytes, hml, findClass_of_methodNamed B0.named, atoms_spec (ws := wcI_X4) B0.pre, B0.returns, B0.notSynchronized⟩
  have hin2 : meth.name = "<init>" := (name_of_methodNamed B0.named B0.method).1
  have hl := lv_entry [.ref (B + o)] (n := 2) (Nat.le_of_ble_eq_true rfl)
  rw [lg_entry_eq]
  generalize (lg_sl [.ref (B + o)] ++ List.replicate (2 - (lg_sl [.ref (B + o)]).length) Slot.unset).toArray = ls at hl ⊢
  have hl : lv_has ls 2 [(0, .ref (B + o))] := hl
  have hG : Gc s G A (o + 1) B (va_up (va_up (va_up (mixE E (entX G B w0) o) (o + 1) (.inl (gA G, 4, .inr (.inr (.inr (.inr (pa B (o + 1) 5 10 0))))))) (o + 2) (.inl (gS G, 4, .inr (.inr (.inr (.inr (pa B (o + 2) 44 2 0))))))) o (.inr (4, [.null, .int 0, .null, .null]))) X s.heap [] := Gc.congr ⟨⟨⟨hEv, hWd, va_S.rf⟩, hO⟩, hN, hA⟩ (fun c hc => by
    by_cases z : c = o
    · subst z
      rw [va_up_self, hE]
    · rw [va_up_ne _ _ z, va_up_ne _ _ (by omega), va_up_ne _ _ (by omega), mixE_lt (by omega)])
  refine lv_aload_n C.1 C.2.1 dX4_init_0 rfl (lv_at hl 0 rfl) ?_
  refine rc_obj C hl.1 (List.mem_cons_of_mem _ tg_1_27) (List.mem_cons_of_mem _ tg_1_20) (List.mem_cons_of_mem _ tg_1_21) (Nat.le_of_ble_eq_true rfl) (Nat.le_of_ble_eq_true rfl) dX4_init_1 ?_
  refine lv_aload_n C.1 C.2.1 dX4_init_4 rfl (lv_at hl 0 rfl) ?_
  refine lv_iconst (v := nI 4) C.1 C.2.1 dX4_init_5 (by decide) ?_
  refine rc_newA C hG (n := 4) rfl (by omega) hG.1.2.1 (t0 := 2) rfl (((va_up_ne _ _ (by omega)).trans ((va_up_ne _ _ (by omega)).trans (va_up_self _ _ _))).trans (by rw [pa_0])) (List.mem_cons_of_mem _ tg_1_28) (k' := 1) (n' := 4) rfl rfl (Nat.le_of_ble_eq_true rfl) (Nat.le_of_ble_eq_true rfl) dX4_init_6 (fun H hG => ?_)
  have hG : Gc s G A (o + 2) B (va_up (va_up (va_up (mixE E (entX G B w0) o) (o + 1) (.inl (gA G, 4, .inr (.inr (.inr (.inr (pa B (o + 1) 5 10 0))))))) (o + 2) (.inl (gS G, 4, .inr (.inr (.inr (.inr (pa B (o + 2) 44 2 0))))))) o (.inr (4, [.null, .int 0, .null, .null]))) X H _ := hG
  refine rc_putF C hin2 hG (c0 := o) (by omega) (va_up_self _ _ _) (Cn := RX4) (T := TX4) (Nk := 4) rfl (fun x hx => List.mem_cons_of_mem _ (uw_X4 x hx)) (ty0 := tyX4) tyX4_ok nmX4 (i := 0) (Nat.le_of_ble_eq_true rfl) (List.mem_cons_of_mem _ tg_1_139) rfl rfl (v := .ref (B + (o + 1))) rfl rfl (Nat.le_of_ble_eq_true rfl) (E' := (va_up (va_up (va_up (mixE E (entX G B w0) o) (o + 1) (.inl (gA G, 4, .inr (.inr (.inr (.inr (pa B (o + 1) 5 10 0))))))) (o + 2) (.inl (gS G, 4, .inr (.inr (.inr (.inr (pa B (o + 2) 44 2 0))))))) o (.inr (4, [.ref (B + (o + 1)), .int 0, .null, .null])))) (up_up) dX4_init_9 (fun H locs hG => ?_)
  refine lv_aload_n C.1 C.2.1 dX4_init_12 rfl (lv_at hl 0 rfl) ?_
  refine lv_iconst (v := nI 4) C.1 C.2.1 dX4_init_13 (by decide) ?_
  refine rc_newA C hG (n := 4) rfl (by omega) hG.1.2.2.1 (t0 := 3) rfl (((va_up_ne _ _ (by omega)).trans (va_up_self _ _ _)).trans (by rw [pa_0])) (List.mem_cons_of_mem _ tg_1_30) (k' := 2) (n' := 8) rfl rfl (Nat.le_of_ble_eq_true rfl) (Nat.le_of_ble_eq_true rfl) dX4_init_14 (fun H hG => ?_)
  have hG : Gc s G A (o + 3) B (va_up (va_up (va_up (mixE E (entX G B w0) o) (o + 1) (.inl (gA G, 4, .inr (.inr (.inr (.inr (pa B (o + 1) 5 10 0))))))) (o + 2) (.inl (gS G, 4, .inr (.inr (.inr (.inr (pa B (o + 2) 44 2 0))))))) o (.inr (4, [.ref (B + (o + 1)), .int 0, .null, .null]))) X H _ := hG
  refine rc_putF C hin2 hG (c0 := o) (by omega) (va_up_self _ _ _) (Cn := RX4) (T := TX4) (Nk := 4) rfl (fun x hx => List.mem_cons_of_mem _ (uw_X4 x hx)) (ty0 := tyX4) tyX4_ok nmX4 (i := 2) (Nat.le_of_ble_eq_true rfl) (List.mem_cons_of_mem _ tg_1_143) rfl rfl (v := .ref (B + (o + 2))) rfl rfl (Nat.le_of_ble_eq_true rfl) (E' := (va_up (va_up (va_up (mixE E (entX G B w0) o) (o + 1) (.inl (gA G, 4, .inr (.inr (.inr (.inr (pa B (o + 1) 5 10 0))))))) (o + 2) (.inl (gS G, 4, .inr (.inr (.inr (.inr (pa B (o + 2) 44 2 0))))))) o (.inr (4, [.ref (B + (o + 1)), .int 0, .ref (B + (o + 2)), .null])))) (up_up) dX4_init_17 (fun H locs hG => ?_)
  refine lv_aload_n C.1 C.2.1 dX4_init_20 rfl (lv_at hl 0 rfl) ?_
  have hG := hG.congr (E' := va_up (va_up (va_up (va_up (mixE E (entX G B w0) o) (o + 1) (.inl (gA G, 4, .inr (.inr (.inr (.inr (pa B (o + 1) 5 10 0))))))) (o + 2) (.inl (gS G, 4, .inr (.inr (.inr (.inr (pa B (o + 2) 44 2 0))))))) o (.inr (4, [.ref (B + (o + 1)), .int 0, .ref (B + (o + 2)), .null]))) (o + 3) (.inr (3, [.null, .null, .int 0]))) (fun c hc => (va_up_ne _ _ (by omega)).symm)
  refine rc_new C hG (va_up_self _ _ _) (Cn := RX3) (T := TX3) (Nk := 3) rfl (fun x hx => List.mem_cons_of_mem _ (uw_X3 x hx)) tyX3 tyX3_ok bl_X3 (List.mem_cons_of_mem _ tg_1_32) (C.2.2.2.2.1 _ (List.mem_cons_of_mem _ tg_1_33)) (List.mem_cons_of_mem _ tg_1_3) (k' := 3) (n' := 11) rfl rfl (Nat.le_of_ble_eq_true rfl) (Nat.le_of_ble_eq_true rfl) dX4_init_21 (fun H hG => ?_)
  refine lv_dup C.1 C.2.1 dX4_init_24 rfl ?_
  refine rc_callIN C hG hl.1 (ci_X3 l (by rcases ho with rfl | rfl <;> decide +kernel) (va_up_self _ _ _)) (va_cnB 0 C.2.2.2.2.1 (gd_all tg_1_36) rfl rfl rfl (hG.1.1.1.2.1 _ nn_0) (C.2.2.2.2.1 _ (List.mem_cons_of_mem _ tg_1_3)) cdI_X3 ⟨Nat.le_of_ble_eq_true rfl, Nat.le_of_ble_eq_true rfl⟩) rfl (C.2.2.2.2.1 _ (List.mem_cons_of_mem _ tg_1_35)) (k' := 5) (n' := 27) rfl rfl (Nat.le_of_ble_eq_true rfl) (Nat.le_of_ble_eq_true rfl) (Nat.le_of_ble_eq_true rfl) dX4_init_25 (fun H locs hG => ?_)
  rw [mix_back (fun c hc => (va_up_ne _ _ (by omega)).trans ((va_up_ne _ _ (by omega)).trans ((va_up_ne _ _ (by omega)).trans (mixE_ge (by omega)))))] at hG
  have hG : Gc s G A (o + 6) B (va_up (va_up (va_up (mixE E (entX G B w0) o) (o + 1) (.inl (gA G, 4, .inr (.inr (.inr (.inr (pa B (o + 1) 5 10 0))))))) (o + 2) (.inl (gS G, 4, .inr (.inr (.inr (.inr (pa B (o + 2) 44 2 0))))))) o (.inr (4, [.ref (B + (o + 1)), .int 0, .ref (B + (o + 2)), .null]))) X H _ := hG
  refine rc_putF C hin2 hG (c0 := o) (by omega) (va_up_self _ _ _) (Cn := RX4) (T := TX4) (Nk := 4) rfl (fun x hx => List.mem_cons_of_mem _ (uw_X4 x hx)) (ty0 := tyX4) tyX4_ok nmX4 (i := 3) (Nat.le_of_ble_eq_true rfl) (List.mem_cons_of_mem _ tg_1_144) rfl rfl (v := .ref (B + (o + 3))) rfl rfl (Nat.le_of_ble_eq_true rfl) (E' := (va_up (va_up (va_up (mixE E (entX G B w0) o) (o + 1) (.inl (gA G, 4, .inr (.inr (.inr (.inr (pa B (o + 1) 5 10 0))))))) (o + 2) (.inl (gS G, 4, .inr (.inr (.inr (.inr (pa B (o + 2) 44 2 0))))))) o (.inr (4, [.ref (B + (o + 1)), .int 0, .ref (B + (o + 2)), .ref (B + (o + 3))])))) (up_up) dX4_init_28 (fun H locs hG => ?_)
  refine lv_iconst (v := nI 0) C.1 C.2.1 dX4_init_31 (by decide) ?_
  refine lv_istore_n (lv' := [(1, .int (nI 0)), (0, .ref (B + o))]) C.1 C.2.1 dX4_init_32 rfl hl (by decide) rfl (fun ls hl => ?_)
  refine lv_iload_n C.1 C.2.1 dX4_init_33 rfl (lv_at hl 0 rfl) ?_
  refine lv_iconst (v := nI 4) C.1 C.2.1 dX4_init_34 (by decide) ?_
  refine lv_icmp_ge (tgt := 57) C.1 C.2.1 dX4_init_35 (by decide) (fun q => absurd q (by decide)) (fun _ => ?_)
  refine lv_aload_n C.1 C.2.1 dX4_init_38 rfl (lv_at hl 1 rfl) ?_
  refine rc_getf C hG (c0 := o) (by omega) (va_up_self _ _ _) (Cn := RX4) (T := TX4) (Nk := 4) rfl (fun x hx => List.mem_cons_of_mem _ (uw_X4 x hx)) (i := 0) (Nat.le_of_ble_eq_true rfl) (List.mem_cons_of_mem _ tg_1_139) (v := .ref (B + (o + 1))) rfl dX4_init_39 ?_
  refine lv_iload_n C.1 C.2.1 dX4_init_42 rfl (lv_at hl 0 rfl) ?_
  have hG := hG.congr (E' := va_up (va_up (va_up (va_up (mixE E (entX G B w0) o) (o + 1) (.inl (gA G, 4, .inr (.inr (.inr (.inr (pa B (o + 1) 5 10 0))))))) (o + 2) (.inl (gS G, 4, .inr (.inr (.inr (.inr (pa B (o + 2) 44 2 0))))))) o (.inr (4, [.ref (B + (o + 1)), .int 0, .ref (B + (o + 2)), .ref (B + (o + 3))]))) (o + 6) (.inr (0, [.int 0, .int 0, .int 0, .int 0, .null, .null, .null, .null, .null, .null, .null, .null, .null]))) (fun c hc => (va_up_ne _ _ (by omega)).symm)
  refine rc_new C hG (va_up_self _ _ _) (Cn := RX0) (T := TX0) (Nk := 13) rfl (fun x hx => List.mem_cons_of_mem _ (uw_X0 x hx)) tyX0 tyX0_ok bl_X0 (List.mem_cons_of_mem _ tg_1_28) (C.2.2.2.2.1 _ (List.mem_cons_of_mem _ tg_1_53)) (List.mem_cons_of_mem _ tg_1_4) (k' := 6) (n' := 40) rfl rfl (Nat.le_of_ble_eq_true rfl) (Nat.le_of_ble_eq_true rfl) dX4_init_43 (fun H hG => ?_)
  refine lv_dup C.1 C.2.1 dX4_init_46 rfl ?_
  refine rc_callIN C hG hl.1 (ci_X0 l (by rcases ho with rfl | rfl <;> decide +kernel) (va_up_self _ _ _)) (va_cnB 0 C.2.2.2.2.1 (gd_all tg_1_56) rfl rfl rfl (hG.1.1.1.2.1 _ nn_5) (C.2.2.2.2.1 _ (List.mem_cons_of_mem _ tg_1_4)) cdI_X0 ⟨Nat.le_of_ble_eq_true rfl, Nat.le_of_ble_eq_true rfl⟩) rfl (C.2.2.2.2.1 _ (List.mem_cons_of_mem _ tg_1_55)) (k' := 15) (n' := 184) rfl rfl (Nat.le_of_ble_eq_true rfl) (Nat.le_of_ble_eq_true rfl) (Nat.le_of_ble_eq_true rfl) dX4_init_47 (fun H locs hG => ?_)
  rw [mix_back (fun c hc => (va_up_ne _ _ (by omega)).trans ((va_up_ne _ _ (by omega)).trans ((va_up_ne _ _ (by omega)).trans (mixE_ge (by omega)))))] at hG
  have hG : Gc s G A (o + 16) B (va_up (va_up (va_up (mixE E (entX G B w0) o) (o + 1) (.inl (gA G, 4, .inr (.inr (.inr (.inr (pa B (o + 1) 5 10 0))))))) (o + 2) (.inl (gS G, 4, .inr (.inr (.inr (.inr (pa B (o + 2) 44 2 0))))))) o (.inr (4, [.ref (B + (o + 1)), .int 0, .ref (B + (o + 2)), .ref (B + (o + 3))]))) X H _ := hG
  refine rc_aast C hG (c0 := (o + 1)) (c1 := (o + 6)) (n := 4) (i := 0) (t0 := 2) (ci := 0) (r := (RX0, TX0, 13)) (by omega) (by omega) ((va_up_ne _ _ (by omega)).trans ((va_up_ne _ _ (by omega)).trans (va_up_self _ _ _))) rfl ((va_up_ne _ _ (by omega)).trans ((va_up_ne _ _ (by omega)).trans ((va_up_ne _ _ (by omega)).trans ((mixE_ge (by omega)).trans (entX_O0 (n := 13) (by rcases ho with rfl | rfl <;> decide +kernel)))))) rfl (by omega) (by omega) (E' := (va_up (va_up (va_up (mixE E (entX G B w0) o) (o + 1) (.inl (gA G, 4, .inr (.inr (.inr (.inr (pa B (o + 1) 5 10 1))))))) (o + 2) (.inl (gS G, 4, .inr (.inr (.inr (.inr (pa B (o + 2) 44 2 0))))))) o (.inr (4, [.ref (B + (o + 1)), .int 0, .ref (B + (o + 2)), .ref (B + (o + 3))])))) ((congrArg (fun f => va_up _ _ (.inl (gA G, 4, .inr (.inr (.inr (.inr f)))))) (pa_s (by omega))).trans (up_in2 (by omega) (by omega))) dX4_init_50 (fun H locs hG => ?_)
  refine lv_iinc (v := nI 1) (lv' := [(1, .int (nI 1)), (0, .ref (B + o))]) C.1 C.2.1 dX4_init_51 hl (k := 0) rfl (by decide) (by decide) rfl (fun ls hl => ?_)
  refine lv_goto (tgt := 33) C.1 C.2.1 dX4_init_54 (by decide) ?_
  refine lv_iload_n C.1 C.2.1 dX4_init_33 rfl (lv_at hl 0 rfl) ?_
  refine lv_iconst (v := nI 4) C.1 C.2.1 dX4_init_34 (by decide) ?_
  refine lv_icmp_ge (tgt := 57) C.1 C.2.1 dX4_init_35 (by decide) (fun q => absurd q (by decide)) (fun _ => ?_)
  refine lv_aload_n C.1 C.2.1 dX4_init_38 rfl (lv_at hl 1 rfl) ?_
  refine rc_getf C hG (c0 := o) (by omega) (va_up_self _ _ _) (Cn := RX4) (T := TX4) (Nk := 4) rfl (fun x hx => List.mem_cons_of_mem _ (uw_X4 x hx)) (i := 0) (Nat.le_of_ble_eq_true rfl) (List.mem_cons_of_mem _ tg_1_139) (v := .ref (B + (o + 1))) rfl dX4_init_39 ?_
  refine lv_iload_n C.1 C.2.1 dX4_init_42 rfl (lv_at hl 0 rfl) ?_
  have hG := hG.congr (E' := va_up (va_up (va_up (va_up (mixE E (entX G B w0) o) (o + 1) (.inl (gA G, 4, .inr (.inr (.inr (.inr (pa B (o + 1) 5 10 1))))))) (o + 2) (.inl (gS G, 4, .inr (.inr (.inr (.inr (pa B (o + 2) 44 2 0))))))) o (.inr (4, [.ref (B + (o + 1)), .int 0, .ref (B + (o + 2)), .ref (B + (o + 3))]))) (o + 16) (.inr (0, [.int 0, .int 0, .int 0, .int 0, .null, .null, .null, .null, .null, .null, .null, .null, .null]))) (fun c hc => (va_up_ne _ _ (by omega)).symm)
  refine rc_new C hG (va_up_self _ _ _) (Cn := RX0) (T := TX0) (Nk := 13) rfl (fun x hx => List.mem_cons_of_mem _ (uw_X0 x hx)) tyX0 tyX0_ok bl_X0 (List.mem_cons_of_mem _ tg_1_28) (C.2.2.2.2.1 _ (List.mem_cons_of_mem _ tg_1_53)) (List.mem_cons_of_mem _ tg_1_4) (k' := 16) (n' := 197) rfl rfl (Nat.le_of_ble_eq_true rfl) (Nat.le_of_ble_eq_true rfl) dX4_init_43 (fun H hG => ?_)
  refine lv_dup C.1 C.2.1 dX4_init_46 rfl ?_
  refine rc_callIN C hG hl.1 (ci_X0 l (by rcases ho with rfl | rfl <;> decide +kernel) (va_up_self _ _ _)) (va_cnB 0 C.2.2.2.2.1 (gd_all tg_1_56) rfl rfl rfl (hG.1.1.1.2.1 _ nn_5) (C.2.2.2.2.1 _ (List.mem_cons_of_mem _ tg_1_4)) cdI_X0 ⟨Nat.le_of_ble_eq_true rfl, Nat.le_of_ble_eq_true rfl⟩) rfl (C.2.2.2.2.1 _ (List.mem_cons_of_mem _ tg_1_55)) (k' := 25) (n' := 341) rfl rfl (Nat.le_of_ble_eq_true rfl) (Nat.le_of_ble_eq_true rfl) (Nat.le_of_ble_eq_true rfl) dX4_init_47 (fun H locs hG => ?_)
  rw [mix_back (fun c hc => (va_up_ne _ _ (by omega)).trans ((va_up_ne _ _ (by omega)).trans ((va_up_ne _ _ (by omega)).trans (mixE_ge (by omega)))))] at hG
  have hG : Gc s G A (o + 26) B (va_up (va_up (va_up (mixE E (entX G B w0) o) (o + 1) (.inl (gA G, 4, .inr (.inr (.inr (.inr (pa B (o + 1) 5 10 1))))))) (o + 2) (.inl (gS G, 4, .inr (.inr (.inr (.inr (pa B (o + 2) 44 2 0))))))) o (.inr (4, [.ref (B + (o + 1)), .int 0, .ref (B + (o + 2)), .ref (B + (o + 3))]))) X H _ := hG
  refine rc_aast C hG (c0 := (o + 1)) (c1 := (o + 16)) (n := 4) (i := 1) (t0 := 2) (ci := 0) (r := (RX0, TX0, 13)) (by omega) (by omega) ((va_up_ne _ _ (by omega)).trans ((va_up_ne _ _ (by omega)).trans (va_up_self _ _ _))) rfl ((va_up_ne _ _ (by omega)).trans ((va_up_ne _ _ (by omega)).trans ((va_up_ne _ _ (by omega)).trans ((mixE_ge (by omega)).trans (entX_O0 (n := 13) (by rcases ho with rfl | rfl <;> decide +kernel)))))) rfl (by omega) (by omega) (E' := (va_up (va_up (va_up (mixE E (entX G B w0) o) (o + 1) (.inl (gA G, 4, .inr (.inr (.inr (.inr (pa B (o + 1) 5 10 2))))))) (o + 2) (.inl (gS G, 4, .inr (.inr (.inr (.inr (pa B (o + 2) 44 2 0))))))) o (.inr (4, [.ref (B + (o + 1)), .int 0, .ref (B + (o + 2)), .ref (B + (o + 3))])))) ((congrArg (fun f => va_up _ _ (.inl (gA G, 4, .inr (.inr (.inr (.inr f)))))) (pa_s (by omega))).trans (up_in2 (by omega) (by omega))) dX4_init_50 (fun H locs hG => ?_)
  refine lv_iinc (v := nI 2) (lv' := [(1, .int (nI 2)), (0, .ref (B + o))]) C.1 C.2.1 dX4_init_51 hl (k := 0) rfl (by decide) (by decide) rfl (fun ls hl => ?_)
  refine lv_goto (tgt := 33) C.1 C.2.1 dX4_init_54 (by decide) ?_
  refine lv_iload_n C.1 C.2.1 dX4_init_33 rfl (lv_at hl 0 rfl) ?_
  refine lv_iconst (v := nI 4) C.1 C.2.1 dX4_init_34 (by decide) ?_
  refine lv_icmp_ge (tgt := 57) C.1 C.2.1 dX4_init_35 (by decide) (fun q => absurd q (by decide)) (fun _ => ?_)
  refine lv_aload_n C.1 C.2.1 dX4_init_38 rfl (lv_at hl 1 rfl) ?_
  refine rc_getf C hG (c0 := o) (by omega) (va_up_self _ _ _) (Cn := RX4) (T := TX4) (Nk := 4) rfl (fun x hx => List.mem_cons_of_mem _ (uw_X4 x hx)) (i := 0) (Nat.le_of_ble_eq_true rfl) (List.mem_cons_of_mem _ tg_1_139) (v := .ref (B + (o + 1))) rfl dX4_init_39 ?_
  refine lv_iload_n C.1 C.2.1 dX4_init_42 rfl (lv_at hl 0 rfl) ?_
  have hG := hG.congr (E' := va_up (va_up (va_up (va_up (mixE E (entX G B w0) o) (o + 1) (.inl (gA G, 4, .inr (.inr (.inr (.inr (pa B (o + 1) 5 10 2))))))) (o + 2) (.inl (gS G, 4, .inr (.inr (.inr (.inr (pa B (o + 2) 44 2 0))))))) o (.inr (4, [.ref (B + (o + 1)), .int 0, .ref (B + (o + 2)), .ref (B + (o + 3))]))) (o + 26) (.inr (0, [.int 0, .int 0, .int 0, .int 0, .null, .null, .null, .null, .null, .null, .null, .null, .null]))) (fun c hc => (va_up_ne _ _ (by omega)).symm)
  refine rc_new C hG (va_up_self _ _ _) (Cn := RX0) (T := TX0) (Nk := 13) rfl (fun x hx => List.mem_cons_of_mem _ (uw_X0 x hx)) tyX0 tyX0_ok bl_X0 (List.mem_cons_of_mem _ tg_1_28) (C.2.2.2.2.1 _ (List.mem_cons_of_mem _ tg_1_53)) (List.mem_cons_of_mem _ tg_1_4) (k' := 26) (n' := 354) rfl rfl (Nat.le_of_ble_eq_true rfl) (Nat.le_of_ble_eq_true rfl) dX4_init_43 (fun H hG => ?_)
  refine lv_dup C.1 C.2.1 dX4_init_46 rfl ?_
  refine rc_callIN C hG hl.1 (ci_X0 l (by rcases ho with rfl | rfl <;> decide +kernel) (va_up_self _ _ _)) (va_cnB 0 C.2.2.2.2.1 (gd_all tg_1_56) rfl rfl rfl (hG.1.1.1.2.1 _ nn_5) (C.2.2.2.2.1 _ (List.mem_cons_of_mem _ tg_1_4)) cdI_X0 ⟨Nat.le_of_ble_eq_true rfl, Nat.le_of_ble_eq_true rfl⟩) rfl (C.2.2.2.2.1 _ (List.mem_cons_of_mem _ tg_1_55)) (k' := 35) (n' := 498) rfl rfl (Nat.le_of_ble_eq_true rfl) (Nat.le_of_ble_eq_true rfl) (Nat.le_of_ble_eq_true rfl) dX4_init_47 (fun H locs hG => ?_)
  rw [mix_back (fun c hc => (va_up_ne _ _ (by omega)).trans ((va_up_ne _ _ (by omega)).trans ((va_up_ne _ _ (by omega)).trans (mixE_ge (by omega)))))] at hG
  have hG : Gc s G A (o + 36) B (va_up (va_up (va_up (mixE E (entX G B w0) o) (o + 1) (.inl (gA G, 4, .inr (.inr (.inr (.inr (pa B (o + 1) 5 10 2))))))) (o + 2) (.inl (gS G, 4, .inr (.inr (.inr (.inr (pa B (o + 2) 44 2 0))))))) o (.inr (4, [.ref (B + (o + 1)), .int 0, .ref (B + (o + 2)), .ref (B + (o + 3))]))) X H _ := hG
  refine rc_aast C hG (c0 := (o + 1)) (c1 := (o + 26)) (n := 4) (i := 2) (t0 := 2) (ci := 0) (r := (RX0, TX0, 13)) (by omega) (by omega) ((va_up_ne _ _ (by omega)).trans ((va_up_ne _ _ (by omega)).trans (va_up_self _ _ _))) rfl ((va_up_ne _ _ (by omega)).trans ((va_up_ne _ _ (by omega)).trans ((va_up_ne _ _ (by omega)).trans ((mixE_ge (by omega)).trans (entX_O0 (n := 13) (by rcases ho with rfl | rfl <;> decide +kernel)))))) rfl (by omega) (by omega) (E' := (va_up (va_up (va_up (mixE E (entX G B w0) o) (o + 1) (.inl (gA G, 4, .inr (.inr (.inr (.inr (pa B (o + 1) 5 10 3))))))) (o + 2) (.inl (gS G, 4, .inr (.inr (.inr (.inr (pa B (o + 2) 44 2 0))))))) o (.inr (4, [.ref (B + (o + 1)), .int 0, .ref (B + (o + 2)), .ref (B + (o + 3))])))) ((congrArg (fun f => va_up _ _ (.inl (gA G, 4, .inr (.inr (.inr (.inr f)))))) (pa_s (by omega))).trans (up_in2 (by omega) (by omega))) dX4_init_50 (fun H locs hG => ?_)
  refine lv_iinc (v := nI 3) (lv' := [(1, .int (nI 3)), (0, .ref (B + o))]) C.1 C.2.1 dX4_init_51 hl (k := 0) rfl (by decide) (by decide) rfl (fun ls hl => ?_)
  refine lv_goto (tgt := 33) C.1 C.2.1 dX4_init_54 (by decide) ?_
  refine lv_iload_n C.1 C.2.1 dX4_init_33 rfl (lv_at hl 0 rfl) ?_
  refine lv_iconst (v := nI 4) C.1 C.2.1 dX4_init_34 (by decide) ?_
  refine lv_icmp_ge (tgt := 57) C.1 C.2.1 dX4_init_35 (by decide) (fun q => absurd q (by decide)) (fun _ => ?_)
  refine lv_aload_n C.1 C.2.1 dX4_init_38 rfl (lv_at hl 1 rfl) ?_
  refine rc_getf C hG (c0 := o) (by omega) (va_up_self _ _ _) (Cn := RX4) (T := TX4) (Nk := 4) rfl (fun x hx => List.mem_cons_of_mem _ (uw_X4 x hx)) (i := 0) (Nat.le_of_ble_eq_true rfl) (List.mem_cons_of_mem _ tg_1_139) (v := .ref (B + (o + 1))) rfl dX4_init_39 ?_
  refine lv_iload_n C.1 C.2.1 dX4_init_42 rfl (lv_at hl 0 rfl) ?_
  have hG := hG.congr (E' := va_up (va_up (va_up (va_up (mixE E (entX G B w0) o) (o + 1) (.inl (gA G, 4, .inr (.inr (.inr (.inr (pa B (o + 1) 5 10 3))))))) (o + 2) (.inl (gS G, 4, .inr (.inr (.inr (.inr (pa B (o + 2) 44 2 0))))))) o (.inr (4, [.ref (B + (o + 1)), .int 0, .ref (B + (o + 2)), .ref (B + (o + 3))]))) (o + 36) (.inr (0, [.int 0, .int 0, .int 0, .int 0, .null, .null, .null, .null, .null, .null, .null, .null, .null]))) (fun c hc => (va_up_ne _ _ (by omega)).symm)
  refine rc_new C hG (va_up_self _ _ _) (Cn := RX0) (T := TX0) (Nk := 13) rfl (fun x hx => List.mem_cons_of_mem _ (uw_X0 x hx)) tyX0 tyX0_ok bl_X0 (List.mem_cons_of_mem _ tg_1_28) (C.2.2.2.2.1 _ (List.mem_cons_of_mem _ tg_1_53)) (List.mem_cons_of_mem _ tg_1_4) (k' := 36) (n' := 511) rfl rfl (Nat.le_of_ble_eq_true rfl) (Nat.le_of_ble_eq_true rfl) dX4_init_43 (fun H hG => ?_)
  refine lv_dup C.1 C.2.1 dX4_init_46 rfl ?_
  refine rc_callIN C hG hl.1 (ci_X0 l (by rcases ho with rfl | rfl <;> decide +kernel) (va_up_self _ _ _)) (va_cnB 0 C.2.2.2.2.1 (gd_all tg_1_56) rfl rfl rfl (hG.1.1.1.2.1 _ nn_5) (C.2.2.2.2.1 _ (List.mem_cons_of_mem _ tg_1_4)) cdI_X0 ⟨Nat.le_of_ble_eq_true rfl, Nat.le_of_ble_eq_true rfl⟩) rfl (C.2.2.2.2.1 _ (List.mem_cons_of_mem _ tg_1_55)) (k' := 45) (n' := 655) rfl rfl (Nat.le_of_ble_eq_true rfl) (Nat.le_of_ble_eq_true rfl) (Nat.le_of_ble_eq_true rfl) dX4_init_47 (fun H locs hG => ?_)
  rw [mix_back (fun c hc => (va_up_ne _ _ (by omega)).trans ((va_up_ne _ _ (by omega)).trans ((va_up_ne _ _ (by omega)).trans (mixE_ge (by omega)))))] at hG
  have hG : Gc s G A (o + 46) B (va_up (va_up (va_up (mixE E (entX G B w0) o) (o + 1) (.inl (gA G, 4, .inr (.inr (.inr (.inr (pa B (o + 1) 5 10 3))))))) (o + 2) (.inl (gS G, 4, .inr (.inr (.inr (.inr (pa B (o + 2) 44 2 0))))))) o (.inr (4, [.ref (B + (o + 1)), .int 0, .ref (B + (o + 2)), .ref (B + (o + 3))]))) X H _ := hG
  refine rc_aast C hG (c0 := (o + 1)) (c1 := (o + 36)) (n := 4) (i := 3) (t0 := 2) (ci := 0) (r := (RX0, TX0, 13)) (by omega) (by omega) ((va_up_ne _ _ (by omega)).trans ((va_up_ne _ _ (by omega)).trans (va_up_self _ _ _))) rfl ((va_up_ne _ _ (by omega)).trans ((va_up_ne _ _ (by omega)).trans ((va_up_ne _ _ (by omega)).trans ((mixE_ge (by omega)).trans (entX_O0 (n := 13) (by rcases ho with rfl | rfl <;> decide +kernel)))))) rfl (by omega) (by omega) (E' := (va_up (va_up (va_up (mixE E (entX G B w0) o) (o + 1) (.inl (gA G, 4, .inr (.inr (.inr (.inr (pa B (o + 1) 5 10 4))))))) (o + 2) (.inl (gS G, 4, .inr (.inr (.inr (.inr (pa B (o + 2) 44 2 0))))))) o (.inr (4, [.ref (B + (o + 1)), .int 0, .ref (B + (o + 2)), .ref (B + (o + 3))])))) ((congrArg (fun f => va_up _ _ (.inl (gA G, 4, .inr (.inr (.inr (.inr f)))))) (pa_s (by omega))).trans (up_in2 (by omega) (by omega))) dX4_init_50 (fun H locs hG => ?_)
  refine lv_iinc (v := nI 4) (lv' := [(1, .int (nI 4)), (0, .ref (B + o))]) C.1 C.2.1 dX4_init_51 hl (k := 0) rfl (by decide) (by decide) rfl (fun ls hl => ?_)
  refine lv_goto (tgt := 33) C.1 C.2.1 dX4_init_54 (by decide) ?_
  refine lv_iload_n C.1 C.2.1 dX4_init_33 rfl (lv_at hl 0 rfl) ?_
  refine lv_iconst (v := nI 4) C.1 C.2.1 dX4_init_34 (by decide) ?_
  refine lv_icmp_ge (tgt := 57) C.1 C.2.1 dX4_init_35 (by decide) (fun _ => ?_) (fun q => absurd (by decide) q)
  refine lv_iconst (v := nI 0) C.1 C.2.1 dX4_init_57 (by decide) ?_
  refine lv_istore_n (lv' := [(1, .int (nI 0)), (0, .ref (B + o))]) C.1 C.2.1 dX4_init_58 rfl hl (by decide) rfl (fun ls hl => ?_)
  refine lv_iload_n C.1 C.2.1 dX4_init_59 rfl (lv_at hl 0 rfl) ?_
  refine lv_iconst (v := nI 4) C.1 C.2.1 dX4_init_60 (by decide) ?_
  refine lv_icmp_ge (tgt := 83) C.1 C.2.1 dX4_init_61 (by decide) (fun q => absurd q (by decide)) (fun _ => ?_)
  refine lv_aload_n C.1 C.2.1 dX4_init_64 rfl (lv_at hl 1 rfl) ?_
  refine rc_getf C hG (c0 := o) (by omega) (va_up_self _ _ _) (Cn := RX4) (T := TX4) (Nk := 4) rfl (fun x hx => List.mem_cons_of_mem _ (uw_X4 x hx)) (i := 2) (Nat.le_of_ble_eq_true rfl) (List.mem_cons_of_mem _ tg_1_143) (v := .ref (B + (o + 2))) rfl dX4_init_65 ?_
  refine lv_iload_n C.1 C.2.1 dX4_init_68 rfl (lv_at hl 0 rfl) ?_
  have hG := hG.congr (E' := va_up (va_up (va_up (va_up (mixE E (entX G B w0) o) (o + 1) (.inl (gA G, 4, .inr (.inr (.inr (.inr (pa B (o + 1) 5 10 4))))))) (o + 2) (.inl (gS G, 4, .inr (.inr (.inr (.inr (pa B (o + 2) 44 2 0))))))) o (.inr (4, [.ref (B + (o + 1)), .int 0, .ref (B + (o + 2)), .ref (B + (o + 3))]))) (o + 46) (.inr (6, [.null, .int 0, .int 0]))) (fun c hc => (va_up_ne _ _ (by omega)).symm)
  refine rc_new C hG (va_up_self _ _ _) (Cn := RX6) (T := TX6) (Nk := 3) rfl (fun x hx => List.mem_cons_of_mem _ (uw_X6 x hx)) tyX6 tyX6_ok bl_X6 (List.mem_cons_of_mem _ tg_1_30) (C.2.2.2.2.1 _ (List.mem_cons_of_mem _ tg_1_116)) (List.mem_cons_of_mem _ tg_1_5) (k' := 46) (n' := 658) rfl rfl (Nat.le_of_ble_eq_true rfl) (Nat.le_of_ble_eq_true rfl) dX4_init_69 (fun H hG => ?_)
  refine lv_dup C.1 C.2.1 dX4_init_72 rfl ?_
  refine rc_callIN C hG hl.1 (ci_X6 l (by rcases ho with rfl | rfl <;> decide +kernel) (va_up_self _ _ _)) (va_cnB 0 C.2.2.2.2.1 (gd_all tg_1_119) rfl rfl rfl (hG.1.1.1.2.1 _ nn_24) (C.2.2.2.2.1 _ (List.mem_cons_of_mem _ tg_1_5)) cdI_X6 ⟨Nat.le_of_ble_eq_true rfl, Nat.le_of_ble_eq_true rfl⟩) rfl (C.2.2.2.2.1 _ (List.mem_cons_of_mem _ tg_1_118)) (k' := 47) (n' := 682) rfl rfl (Nat.le_of_ble_eq_true rfl) (Nat.le_of_ble_eq_true rfl) (Nat.le_of_ble_eq_true rfl) dX4_init_73 (fun H locs hG => ?_)
  rw [mix_back (fun c hc => (va_up_ne _ _ (by omega)).trans ((va_up_ne _ _ (by omega)).trans ((va_up_ne _ _ (by omega)).trans (mixE_ge (by omega)))))] at hG
  have hG : Gc s G A (o + 48) B (va_up (va_up (va_up (mixE E (entX G B w0) o) (o + 1) (.inl (gA G, 4, .inr (.inr (.inr (.inr (pa B (o + 1) 5 10 4))))))) (o + 2) (.inl (gS G, 4, .inr (.inr (.inr (.inr (pa B (o + 2) 44 2 0))))))) o (.inr (4, [.ref (B + (o + 1)), .int 0, .ref (B + (o + 2)), .ref (B + (o + 3))]))) X H _ := hG
  refine rc_aast C hG (c0 := (o + 2)) (c1 := (o + 46)) (n := 4) (i := 0) (t0 := 3) (ci := 6) (r := (RX6, TX6, 3)) (by omega) (by omega) ((va_up_ne _ _ (by omega)).trans (va_up_self _ _ _)) rfl ((va_up_ne _ _ (by omega)).trans ((va_up_ne _ _ (by omega)).trans ((va_up_ne _ _ (by omega)).trans ((mixE_ge (by omega)).trans (entX_O6 (n := 3) (by rcases ho with rfl | rfl <;> decide +kernel)))))) rfl (by omega) (by omega) (E' := (va_up (va_up (va_up (mixE E (entX G B w0) o) (o + 1) (.inl (gA G, 4, .inr (.inr (.inr (.inr (pa B (o + 1) 5 10 4))))))) (o + 2) (.inl (gS G, 4, .inr (.inr (.inr (.inr (pa B (o + 2) 44 2 1))))))) o (.inr (4, [.ref (B + (o + 1)), .int 0, .ref (B + (o + 2)), .ref (B + (o + 3))])))) ((congrArg (fun f => va_up _ _ (.inl (gS G, 4, .inr (.inr (.inr (.inr f)))))) (pa_s (by omega))).trans (up_in1 (by omega))) dX4_init_76 (fun H locs hG => ?_)
  refine lv_iinc (v := nI 1) (lv' := [(1, .int (nI 1)), (0, .ref (B + o))]) C.1 C.2.1 dX4_init_77 hl (k := 0) rfl (by decide) (by decide) rfl (fun ls hl => ?_)
  refine lv_goto (tgt := 59) C.1 C.2.1 dX4_init_80 (by decide) ?_
  refine lv_iload_n C.1 C.2.1 dX4_init_59 rfl (lv_at hl 0 rfl) ?_
  refine lv_iconst (v := nI 4) C.1 C.2.1 dX4_init_60 (by decide) ?_
  refine lv_icmp_ge (tgt := 83) C.1 C.2.1 dX4_init_61 (by decide) (fun q => absurd q (by decide)) (fun _ => ?_)
  refine lv_aload_n C.1 C.2.1 dX4_init_64 rfl (lv_at hl 1 rfl) ?_
  refine rc_getf C hG (c0 := o) (by omega) (va_up_self _ _ _) (Cn := RX4) (T := TX4) (Nk := 4) rfl (fun x hx => List.mem_cons_of_mem _ (uw_X4 x hx)) (i := 2) (Nat.le_of_ble_eq_true rfl) (List.mem_cons_of_mem _ tg_1_143) (v := .ref (B + (o + 2))) rfl dX4_init_65 ?_
  refine lv_iload_n C.1 C.2.1 dX4_init_68 rfl (lv_at hl 0 rfl) ?_
  have hG := hG.congr (E' := va_up (va_up (va_up (va_up (mixE E (entX G B w0) o) (o + 1) (.inl (gA G, 4, .inr (.inr (.inr (.inr (pa B (o + 1) 5 10 4))))))) (o + 2) (.inl (gS G, 4, .inr (.inr (.inr (.inr (pa B (o + 2) 44 2 1))))))) o (.inr (4, [.ref (B + (o + 1)), .int 0, .ref (B + (o + 2)), .ref (B + (o + 3))]))) (o + 48) (.inr (6, [.null, .int 0, .int 0]))) (fun c hc => (va_up_ne _ _ (by omega)).symm)
  refine rc_new C hG (va_up_self _ _ _) (Cn := RX6) (T := TX6) (Nk := 3) rfl (fun x hx => List.mem_cons_of_mem _ (uw_X6 x hx)) tyX6 tyX6_ok bl_X6 (List.mem_cons_of_mem _ tg_1_30) (C.2.2.2.2.1 _ (List.mem_cons_of_mem _ tg_1_116)) (List.mem_cons_of_mem _ tg_1_5) (k' := 48) (n' := 685) rfl rfl (Nat.le_of_ble_eq_true rfl) (Nat.le_of_ble_eq_true rfl) dX4_init_69 (fun H hG => ?_)
  refine lv_dup C.1 C.2.1 dX4_init_72 rfl ?_
  refine rc_callIN C hG hl.1 (ci_X6 l (by rcases ho with rfl | rfl <;> decide +kernel) (va_up_self _ _ _)) (va_cnB 0 C.2.2.2.2.1 (gd_all tg_1_119) rfl rfl rfl (hG.1.1.1.2.1 _ nn_24) (C.2.2.2.2.1 _ (List.mem_cons_of_mem _ tg_1_5)) cdI_X6 ⟨Nat.le_of_ble_eq_true rfl, Nat.le_of_ble_eq_true rfl⟩) rfl (C.2.2.2.2.1 _ (List.mem_cons_of_mem _ tg_1_118)) (k' := 49) (n' := 709) rfl rfl (Nat.le_of_ble_eq_true rfl) (Nat.le_of_ble_eq_true rfl) (Nat.le_of_ble_eq_true rfl) dX4_init_73 (fun H locs hG => ?_)
  rw [mix_back (fun c hc => (va_up_ne _ _ (by omega)).trans ((va_up_ne _ _ (by omega)).trans ((va_up_ne _ _ (by omega)).trans (mixE_ge (by omega)))))] at hG
  have hG : Gc s G A (o + 50) B (va_up (va_up (va_up (mixE E (entX G B w0) o) (o + 1) (.inl (gA G, 4, .inr (.inr (.inr (.inr (pa B (o + 1) 5 10 4))))))) (o + 2) (.inl (gS G, 4, .inr (.inr (.inr (.inr (pa B (o + 2) 44 2 1))))))) o (.inr (4, [.ref (B + (o + 1)), .int 0, .ref (B + (o + 2)), .ref (B + (o + 3))]))) X H _ := hG
  refine rc_aast C hG (c0 := (o + 2)) (c1 := (o + 48)) (n := 4) (i := 1) (t0 := 3) (ci := 6) (r := (RX6, TX6, 3)) (by omega) (by omega) ((va_up_ne _ _ (by omega)).trans (va_up_self _ _ _)) rfl ((va_up_ne _ _ (by omega)).trans ((va_up_ne _ _ (by omega)).trans ((va_up_ne _ _ (by omega)).trans ((mixE_ge (by omega)).trans (entX_O6 (n := 3) (by rcases ho with rfl | rfl <;> decide +kernel)))))) rfl (by omega) (by omega) (E' := (va_up (va_up (va_up (mixE E (entX G B w0) o) (o + 1) (.inl (gA G, 4, .inr (.inr (.inr (.inr (pa B (o + 1) 5 10 4))))))) (o + 2) (.inl (gS G, 4, .inr (.inr (.inr (.inr (pa B (o + 2) 44 2 2))))))) o (.inr (4, [.ref (B + (o + 1)), .int 0, .ref (B + (o + 2)), .ref (B + (o + 3))])))) ((congrArg (fun f => va_up _ _ (.inl (gS G, 4, .inr (.inr (.inr (.inr f)))))) (pa_s (by omega))).trans (up_in1 (by omega))) dX4_init_76 (fun H locs hG => ?_)
  refine lv_iinc (v := nI 2) (lv' := [(1, .int (nI 2)), (0, .ref (B + o))]) C.1 C.2.1 dX4_init_77 hl (k := 0) rfl (by decide) (by decide) rfl (fun ls hl => ?_)
  refine lv_goto (tgt := 59) C.1 C.2.1 dX4_init_80 (by decide) ?_
  refine lv_iload_n C.1 C.2.1 dX4_init_59 rfl (lv_at hl 0 rfl) ?_
  refine lv_iconst (v := nI 4) C.1 C.2.1 dX4_init_60 (by decide) ?_
  refine lv_icmp_ge (tgt := 83) C.1 C.2.1 dX4_init_61 (by decide) (fun q => absurd q (by decide)) (fun _ => ?_)
  refine lv_aload_n C.1 C.2.1 dX4_init_64 rfl (lv_at hl 1 rfl) ?_
  refine rc_getf C hG (c0 := o) (by omega) (va_up_self _ _ _) (Cn := RX4) (T := TX4) (Nk := 4) rfl (fun x hx => List.mem_cons_of_mem _ (uw_X4 x hx)) (i := 2) (Nat.le_of_ble_eq_true rfl) (List.mem_cons_of_mem _ tg_1_143) (v := .ref (B + (o + 2))) rfl dX4_init_65 ?_
  refine lv_iload_n C.1 C.2.1 dX4_init_68 rfl (lv_at hl 0 rfl) ?_
  have hG := hG.congr (E' := va_up (va_up (va_up (va_up (mixE E (entX G B w0) o) (o + 1) (.inl (gA G, 4, .inr (.inr (.inr (.inr (pa B (o + 1) 5 10 4))))))) (o + 2) (.inl (gS G, 4, .inr (.inr (.inr (.inr (pa B (o + 2) 44 2 2))))))) o (.inr (4, [.ref (B + (o + 1)), .int 0, .ref (B + (o + 2)), .ref (B + (o + 3))]))) (o + 50) (.inr (6, [.null, .int 0, .int 0]))) (fun c hc => (va_up_ne _ _ (by omega)).symm)
  refine rc_new C hG (va_up_self _ _ _) (Cn := RX6) (T := TX6) (Nk := 3) rfl (fun x hx => List.mem_cons_of_mem _ (uw_X6 x hx)) tyX6 tyX6_ok bl_X6 (List.mem_cons_of_mem _ tg_1_30) (C.2.2.2.2.1 _ (List.mem_cons_of_mem _ tg_1_116)) (List.mem_cons_of_mem _ tg_1_5) (k' := 50) (n' := 712) rfl rfl (Nat.le_of_ble_eq_true rfl) (Nat.le_of_ble_eq_true rfl) dX4_init_69 (fun H hG => ?_)
  refine lv_dup C.1 C.2.1 dX4_init_72 rfl ?_
  refine rc_callIN C hG hl.1 (ci_X6 l (by rcases ho with rfl | rfl <;> decide +kernel) (va_up_self _ _ _)) (va_cnB 0 C.2.2.2.2.1 (gd_all tg_1_119) rfl rfl rfl (hG.1.1.1.2.1 _ nn_24) (C.2.2.2.2.1 _ (List.mem_cons_of_mem _ tg_1_5)) cdI_X6 ⟨Nat.le_of_ble_eq_true rfl, Nat.le_of_ble_eq_true rfl⟩) rfl (C.2.2.2.2.1 _ (List.mem_cons_of_mem _ tg_1_118)) (k' := 51) (n' := 736) rfl rfl (Nat.le_of_ble_eq_true rfl) (Nat.le_of_ble_eq_true rfl) (Nat.le_of_ble_eq_true rfl) dX4_init_73 (fun H locs hG => ?_)
  rw [mix_back (fun c hc => (va_up_ne _ _ (by omega)).trans ((va_up_ne _ _ (by omega)).trans ((va_up_ne _ _ (by omega)).trans (mixE_ge (by omega)))))] at hG
  have hG : Gc s G A (o + 52) B (va_up (va_up (va_up (mixE E (entX G B w0) o) (o + 1) (.inl (gA G, 4, .inr (.inr (.inr (.inr (pa B (o + 1) 5 10 4))))))) (o + 2) (.inl (gS G, 4, .inr (.inr (.inr (.inr (pa B (o + 2) 44 2 2))))))) o (.inr (4, [.ref (B + (o + 1)), .int 0, .ref (B + (o + 2)), .ref (B + (o + 3))]))) X H _ := hG
  refine rc_aast C hG (c0 := (o + 2)) (c1 := (o + 50)) (n := 4) (i := 2) (t0 := 3) (ci := 6) (r := (RX6, TX6, 3)) (by omega) (by omega) ((va_up_ne _ _ (by omega)).trans (va_up_self _ _ _)) rfl ((va_up_ne _ _ (by omega)).trans ((va_up_ne _ _ (by omega)).trans ((va_up_ne _ _ (by omega)).trans ((mixE_ge (by omega)).trans (entX_O6 (n := 3) (by rcases ho with rfl | rfl <;> decide +kernel)))))) rfl (by omega) (by omega) (E' := (va_up (va_up (va_up (mixE E (entX G B w0) o) (o + 1) (.inl (gA G, 4, .inr (.inr (.inr (.inr (pa B (o + 1) 5 10 4))))))) (o + 2) (.inl (gS G, 4, .inr (.inr (.inr (.inr (pa B (o + 2) 44 2 3))))))) o (.inr (4, [.ref (B + (o + 1)), .int 0, .ref (B + (o + 2)), .ref (B + (o + 3))])))) ((congrArg (fun f => va_up _ _ (.inl (gS G, 4, .inr (.inr (.inr (.inr f)))))) (pa_s (by omega))).trans (up_in1 (by omega))) dX4_init_76 (fun H locs hG => ?_)
  refine lv_iinc (v := nI 3) (lv' := [(1, .int (nI 3)), (0, .ref (B + o))]) C.1 C.2.1 dX4_init_77 hl (k := 0) rfl (by decide) (by decide) rfl (fun ls hl => ?_)
  refine lv_goto (tgt := 59) C.1 C.2.1 dX4_init_80 (by decide) ?_
  refine lv_iload_n C.1 C.2.1 dX4_init_59 rfl (lv_at hl 0 rfl) ?_
  refine lv_iconst (v := nI 4) C.1 C.2.1 dX4_init_60 (by decide) ?_
  refine lv_icmp_ge (tgt := 83) C.1 C.2.1 dX4_init_61 (by decide) (fun q => absurd q (by decide)) (fun _ => ?_)
  refine lv_aload_n C.1 C.2.1 dX4_init_64 rfl (lv_at hl 1 rfl) ?_
  refine rc_getf C hG (c0 := o) (by omega) (va_up_self _ _ _) (Cn := RX4) (T := TX4) (Nk := 4) rfl (fun x hx => List.mem_cons_of_mem _ (uw_X4 x hx)) (i := 2) (Nat.le_of_ble_eq_true rfl) (List.mem_cons_of_mem _ tg_1_143) (v := .ref (B + (o + 2))) rfl dX4_init_65 ?_
  refine lv_iload_n C.1 C.2.1 dX4_init_68 rfl (lv_at hl 0 rfl) ?_
  have hG := hG.congr (E' := va_up (va_up (va_up (va_up (mixE E (entX G B w0) o) (o + 1) (.inl (gA G, 4, .inr (.inr (.inr (.inr (pa B (o + 1) 5 10 4))))))) (o + 2) (.inl (gS G, 4, .inr (.inr (.inr (.inr (pa B (o + 2) 44 2 3))))))) o (.inr (4, [.ref (B + (o + 1)), .int 0, .ref (B + (o + 2)), .ref (B + (o + 3))]))) (o + 52) (.inr (6, [.null, .int 0, .int 0]))) (fun c hc => (va_up_ne _ _ (by omega)).symm)
  refine rc_new C hG (va_up_self _ _ _) (Cn := RX6) (T := TX6) (Nk := 3) rfl (fun x hx => List.mem_cons_of_mem _ (uw_X6 x hx)) tyX6 tyX6_ok bl_X6 (List.mem_cons_of_mem _ tg_1_30) (C.2.2.2.2.1 _ (List.mem_cons_of_mem _ tg_1_116)) (List.mem_cons_of_mem _ tg_1_5) (k' := 52) (n' := 739) rfl rfl (Nat.le_of_ble_eq_true rfl) (Nat.le_of_ble_eq_true rfl) dX4_init_69 (fun H hG => ?_)
  refine lv_dup C.1 C.2.1 dX4_init_72 rfl ?_
  refine rc_callIN C hG hl.1 (ci_X6 l (by rcases ho with rfl | rfl <;> decide +kernel) (va_up_self _ _ _)) (va_cnB 0 C.2.2.2.2.1 (gd_all tg_1_119) rfl rfl rfl (hG.1.1.1.2.1 _ nn_24) (C.2.2.2.2.1 _ (List.mem_cons_of_mem _ tg_1_5)) cdI_X6 ⟨Nat.le_of_ble_eq_true rfl, Nat.le_of_ble_eq_true rfl⟩) rfl (C.2.2.2.2.1 _ (List.mem_cons_of_mem _ tg_1_118)) (k' := 53) (n' := 763) rfl rfl (Nat.le_of_ble_eq_true rfl) (Nat.le_of_ble_eq_true rfl) (Nat.le_of_ble_eq_true rfl) dX4_init_73 (fun H locs hG => ?_)
  rw [mix_back (fun c hc => (va_up_ne _ _ (by omega)).trans ((va_up_ne _ _ (by omega)).trans ((va_up_ne _ _ (by omega)).trans (mixE_ge (by omega)))))] at hG
  have hG : Gc s G A (o + 54) B (va_up (va_up (va_up (mixE E (entX G B w0) o) (o + 1) (.inl (gA G, 4, .inr (.inr (.inr (.inr (pa B (o + 1) 5 10 4))))))) (o + 2) (.inl (gS G, 4, .inr (.inr (.inr (.inr (pa B (o + 2) 44 2 3))))))) o (.inr (4, [.ref (B + (o + 1)), .int 0, .ref (B + (o + 2)), .ref (B + (o + 3))]))) X H _ := hG
  refine rc_aast C hG (c0 := (o + 2)) (c1 := (o + 52)) (n := 4) (i := 3) (t0 := 3) (ci := 6) (r := (RX6, TX6, 3)) (by omega) (by omega) ((va_up_ne _ _ (by omega)).trans (va_up_self _ _ _)) rfl ((va_up_ne _ _ (by omega)).trans ((va_up_ne _ _ (by omega)).trans ((va_up_ne _ _ (by omega)).trans ((mixE_ge (by omega)).trans (entX_O6 (n := 3) (by rcases ho with rfl | rfl <;> decide +kernel)))))) rfl (by omega) (by omega) (E' := (va_up (va_up (va_up (mixE E (entX G B w0) o) (o + 1) (.inl (gA G, 4, .inr (.inr (.inr (.inr (pa B (o + 1) 5 10 4))))))) (o + 2) (.inl (gS G, 4, .inr (.inr (.inr (.inr (pa B (o + 2) 44 2 4))))))) o (.inr (4, [.ref (B + (o + 1)), .int 0, .ref (B + (o + 2)), .ref (B + (o + 3))])))) ((congrArg (fun f => va_up _ _ (.inl (gS G, 4, .inr (.inr (.inr (.inr f)))))) (pa_s (by omega))).trans (up_in1 (by omega))) dX4_init_76 (fun H locs hG => ?_)
  refine lv_iinc (v := nI 4) (lv' := [(1, .int (nI 4)), (0, .ref (B + o))]) C.1 C.2.1 dX4_init_77 hl (k := 0) rfl (by decide) (by decide) rfl (fun ls hl => ?_)
  refine lv_goto (tgt := 59) C.1 C.2.1 dX4_init_80 (by decide) ?_
  refine lv_iload_n C.1 C.2.1 dX4_init_59 rfl (lv_at hl 0 rfl) ?_
  refine lv_iconst (v := nI 4) C.1 C.2.1 dX4_init_60 (by decide) ?_
  refine lv_icmp_ge (tgt := 83) C.1 C.2.1 dX4_init_61 (by decide) (fun _ => ?_) (fun q => absurd (by decide) q)
  exact rc_ret C hG (fun c _ => congrFun (((up_id (x := _) ((va_up_ne _ _ (by omega)).trans ((va_up_ne _ _ (by omega)).trans ((mixE_ge (Nat.le_refl _)).trans ((entX_O4 (n := 4) (by rcases ho with rfl | rfl <;> decide +kernel)).trans (by rw [fs0_X4h ho])))))).trans (up_id ((va_up_ne _ _ (by omega)).trans ((mixE_ge (by omega)).trans (entX_S (n := 4) (by rcases ho with rfl | rfl <;> decide +kernel)))))).trans (up_id ((mixE_ge (by omega)).trans (entX_A (n := 4) (by rcases ho with rfl | rfl <;> decide +kernel))))) c) dX4_init_83
