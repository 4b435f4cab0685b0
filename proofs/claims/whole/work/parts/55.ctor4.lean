/-! the class itself -/
abbrev wcI_X8 : List Cond := Cond.code yX8_init cX8_init 1 none :: TG
abbrev rmI_X8 : Room := { frames := 3, cells := 152, slots := 3006, locals := 110 }
theorem dX8_init_0 : decode cX8_init 0 = .ok (.aload_n 0, 1) := by decide +kernel
theorem dX8_init_1 : decode cX8_init 1 = .ok (.invokespecial 3, 3) := by decide +kernel
theorem dX8_init_4 : decode cX8_init 4 = .ok (.aload_n 0, 1) := by decide +kernel
theorem dX8_init_5 : decode cX8_init 5 = .ok (.new 9, 3) := by decide +kernel
theorem dX8_init_8 : decode cX8_init 8 = .ok (.dup, 1) := by decide +kernel
theorem dX8_init_9 : decode cX8_init 9 = .ok (.invokespecial 11, 3) := by decide +kernel
theorem dX8_init_12 : decode cX8_init 12 = .ok (.putfield 12, 3) := by decide +kernel
theorem dX8_init_15 : decode cX8_init 15 = .ok (.aload_n 0, 1) := by decide +kernel
theorem dX8_init_16 : decode cX8_init 16 = .ok (.new 9, 3) := by decide +kernel
theorem dX8_init_19 : decode cX8_init 19 = .ok (.dup, 1) := by decide +kernel
theorem dX8_init_20 : decode cX8_init 20 = .ok (.invokespecial 11, 3) := by decide +kernel
theorem dX8_init_23 : decode cX8_init 23 = .ok (.putfield 18, 3) := by decide +kernel
theorem dX8_init_26 : decode cX8_init 26 = .ok (.aload_n 0, 1) := by decide +kernel
theorem dX8_init_27 : decode cX8_init 27 = .ok (.new 21, 3) := by decide +kernel
theorem dX8_init_30 : decode cX8_init 30 = .ok (.dup, 1) := by decide +kernel
theorem dX8_init_31 : decode cX8_init 31 = .ok (.invokespecial 23, 3) := by decide +kernel
theorem dX8_init_34 : decode cX8_init 34 = .ok (.putfield 24, 3) := by decide +kernel
theorem dX8_init_37 : decode cX8_init 37 = .ok (.aload_n 0, 1) := by decide +kernel
theorem dX8_init_38 : decode cX8_init 38 = .ok (.new 28, 3) := by decide +kernel
theorem dX8_init_41 : decode cX8_init 41 = .ok (.dup, 1) := by decide +kernel
theorem dX8_init_42 : decode cX8_init 42 = .ok (.invokespecial 30, 3) := by decide +kernel
theorem dX8_init_45 : decode cX8_init 45 = .ok (.putfield 31, 3) := by decide +kernel
theorem dX8_init_48 : decode cX8_init 48 = .ok (.aload_n 0, 1) := by decide +kernel
theorem dX8_init_49 : decode cX8_init 49 = .ok (.bipush 24, 2) := by decide +kernel
theorem dX8_init_51 : decode cX8_init 51 = .ok (.newarray .int, 2) := by decide +kernel
theorem dX8_init_53 : decode cX8_init 53 = .ok (.putfield 35, 3) := by decide +kernel
theorem dX8_init_56 : decode cX8_init 56 = .ok (.aload_n 0, 1) := by decide +kernel
theorem dX8_init_57 : decode cX8_init 57 = .ok (.new 39, 3) := by decide +kernel
theorem dX8_init_60 : decode cX8_init 60 = .ok (.dup, 1) := by decide +kernel
theorem dX8_init_61 : decode cX8_init 61 = .ok (.invokespecial 41, 3) := by decide +kernel
theorem dX8_init_64 : decode cX8_init 64 = .ok (.putfield 42, 3) := by decide +kernel
theorem dX8_init_67 : decode cX8_init 67 = .ok (.aload_n 0, 1) := by decide +kernel
theorem dX8_init_68 : decode cX8_init 68 = .ok (.new 46, 3) := by decide +kernel
theorem dX8_init_71 : decode cX8_init 71 = .ok (.dup, 1) := by decide +kernel
theorem dX8_init_72 : decode cX8_init 72 = .ok (.invokespecial 48, 3) := by decide +kernel
theorem dX8_init_75 : decode cX8_init 75 = .ok (.putfield 49, 3) := by decide +kernel
theorem dX8_init_78 : decode cX8_init 78 = .ok (.aload_n 0, 1) := by decide +kernel
theorem dX8_init_79 : decode cX8_init 79 = .ok (.new 53, 3) := by decide +kernel
theorem dX8_init_82 : decode cX8_init 82 = .ok (.dup, 1) := by decide +kernel
theorem dX8_init_83 : decode cX8_init 83 = .ok (.invokespecial 55, 3) := by decide +kernel
theorem dX8_init_86 : decode cX8_init 86 = .ok (.putfield 56, 3) := by decide +kernel
theorem dX8_init_89 : decode cX8_init 89 = .ok (.aload_n 0, 1) := by decide +kernel
theorem dX8_init_90 : decode cX8_init 90 = .ok (.new 53, 3) := by decide +kernel
theorem dX8_init_93 : decode cX8_init 93 = .ok (.dup, 1) := by decide +kernel
theorem dX8_init_94 : decode cX8_init 94 = .ok (.invokespecial 55, 3) := by decide +kernel
theorem dX8_init_97 : decode cX8_init 97 = .ok (.putfield 60, 3) := by decide +kernel
theorem dX8_init_100 : decode cX8_init 100 = .ok (.aload_n 0, 1) := by decide +kernel
theorem dX8_init_101 : decode cX8_init 101 = .ok (.new 63, 3) := by decide +kernel
theorem dX8_init_104 : decode cX8_init 104 = .ok (.dup, 1) := by decide +kernel
theorem dX8_init_105 : decode cX8_init 105 = .ok (.invokespecial 65, 3) := by decide +kernel
theorem dX8_init_108 : decode cX8_init 108 = .ok (.putfield 66, 3) := by decide +kernel
theorem dX8_init_111 : decode cX8_init 111 = .ok (.aload_n 0, 1) := by decide +kernel
theorem dX8_init_112 : decode cX8_init 112 = .ok (.new 63, 3) := by decide +kernel
theorem dX8_init_115 : decode cX8_init 115 = .ok (.dup, 1) := by decide +kernel
theorem dX8_init_116 : decode cX8_init 116 = .ok (.invokespecial 65, 3) := by decide +kernel
theorem dX8_init_119 : decode cX8_init 119 = .ok (.putfield 70, 3) := by decide +kernel
theorem dX8_init_122 : decode cX8_init 122 = .ok (.return_, 1) := by decide +kernel
set_option maxRecDepth 100000 in
set_option maxHeartbeats 4000000 in
theorem ci_X8 (l : Launch) {G : GG} {A : Nat → Prop} {B : Nat} {E : Nat → va_E} {X : va_W} (hE : E 0 = .inr (8, [.null, .null, .int 0, .null, .null, .null, .int 0, .null, .null, .null, .null, .null, .null])) : MetI l yX8_init wcI_X8 rmI_X8 G A B X [.ref (B + 0)] (0 + 1) E 153 (entX G B w0) 152 3006 := by
  refine Met.ofW (cc := cX8_init) (maxL := 1) (ret := none) (by decide) rfl ?_
  intro p e s m args below meth c s₁ B0 hml hv
  obtain ⟨rfl, ⟨hEv, hWd⟩, hO, hN, hA⟩ := hv
  have C : CX p s m _ meth c cX8_init 1 RX8 wcI_X8 none := ⟨B0.exec, B0.bytes, hml, findClass_of_methodNamed B0.named, atoms_spec (ws := wcI_X8) B0.pre, B0.returns, B0.notSynchronized⟩
  have hin2 : meth.name = "<init>" := (name_of_methodNamed B0.named B0.method).1
  have hl := lv_entry [.ref (B + 0)] (n := 1) (Nat.le_of_ble_eq_true rfl)
  rw [lg_entry_eq]
  generalize (lg_sl [.ref (B + 0)] ++ List.replicate (1 - (lg_sl [.ref (B + 0)]).length) Slot.unset).toArray = ls at hl ⊢
  have hl : lv_has ls 1 [(0, .ref (B + 0))] := hl
  have hG : Gc s G A (0 + 1) B (va_up (entX G B w0) 0 (.inr (8, [.null, .null, .int 0, .null, .null, .null, .int 0, .null, .null, .null, .null, .null, .null]))) X s.heap [] := Gc.congr ⟨⟨⟨hEv, hWd, va_S.rf⟩, hO⟩, hN, hA⟩ (fun c hc => by
    by_cases z : c = 0
    · rw [z, va_up_self, hE]
    · omega)
  refine lv_aload_n C.1 C.2.1 dX8_init_0 rfl (lv_at hl 0 rfl) ?_
  refine rc_obj C hl.1 (List.mem_cons_of_mem _ tg_1_19) (List.mem_cons_of_mem _ tg_1_20) (List.mem_cons_of_mem _ tg_1_21) (Nat.le_of_ble_eq_true rfl) (Nat.le_of_ble_eq_true rfl) dX8_init_1 ?_
  refine lv_aload_n C.1 C.2.1 dX8_init_4 rfl (lv_at hl 0 rfl) ?_
  have hG := hG.congr (E' := va_up (va_up (entX G B w0) 0 (.inr (8, [.null, .null, .int 0, .null, .null, .null, .int 0, .null, .null, .null, .null, .null, .null]))) 1 (.inr (4, [.null, .int 0, .null, .null]))) (fun c hc => (va_up_ne _ _ (by omega)).symm)
  refine rc_new C hG (va_up_self _ _ _) (Cn := RX4) (T := TX4) (Nk := 4) rfl (fun x hx => List.mem_cons_of_mem _ (uw_X4 x hx)) tyX4 tyX4_ok bl_X4 (List.mem_cons_of_mem _ tg_1_22) (C.2.2.2.2.1 _ (List.mem_cons_of_mem _ tg_1_23)) (List.mem_cons_of_mem _ tg_1_2) (k' := 1) (n' := 4) rfl rfl (Nat.le_of_ble_eq_true rfl) (Nat.le_of_ble_eq_true rfl) dX8_init_5 (fun H hG => ?_)
  refine lv_dup C.1 C.2.1 dX8_init_8 rfl ?_
  refine rc_callI C hG hl.1 (ci_X4 l (Or.inl rfl) (va_up_self _ _ _)) (cwI 0 C.2.2.2.2.1 (gd_all tg_1_26) rfl rfl rfl (C.2.2.2.2.1 _ (List.mem_cons_of_mem _ tg_1_2)) (C.2.2.2.2.1 _ (List.mem_cons_of_mem _ tg_1_24)) (C.2.2.2.2.1 _ (List.mem_cons_of_mem _ tg_1_25)) rfl cdI_X4 ⟨Nat.le_of_ble_eq_true rfl, Nat.le_of_ble_eq_true rfl⟩) (k' := 54) (n' := 767) rfl rfl (Nat.le_of_ble_eq_true rfl) (Nat.le_of_ble_eq_true rfl) (Nat.le_of_ble_eq_true rfl) dX8_init_9 (fun H locs hG => ?_)
  rw [mix_back (fun c hc => (va_up_ne _ _ (by omega)).trans (rfl))] at hG
  have hG : Gc s G A 55 B (va_up (entX G B w0) 0 (.inr (8, [.null, .null, .int 0, .null, .null, .null, .int 0, .null, .null, .null, .null, .null, .null]))) X H _ := hG
  refine rc_putF C hin2 hG (c0 := 0) (by omega) (va_up_self _ _ _) (Cn := RX8) (T := TX8) (Nk := 13) rfl (fun x hx => List.mem_cons_of_mem _ (uw_X8 x hx)) (ty0 := tyX8) tyX8_ok nmX8 (i := 0) (Nat.le_of_ble_eq_true rfl) (List.mem_cons_of_mem _ tg_2_10) rfl rfl (v := .ref (B + 1)) rfl rfl (Nat.le_of_ble_eq_true rfl) (E' := (va_up (entX G B w0) 0 (.inr (8, [.ref (B + 1), .null, .int 0, .null, .null, .null, .int 0, .null, .null, .null, .null, .null, .null])))) (up_up) dX8_init_12 (fun H locs hG => ?_)
  refine lv_aload_n C.1 C.2.1 dX8_init_15 rfl (lv_at hl 0 rfl) ?_
  have hG := hG.congr (E' := va_up (va_up (entX G B w0) 0 (.inr (8, [.ref (B + 1), .null, .int 0, .null, .null, .null, .int 0, .null, .null, .null, .null, .null, .null]))) 55 (.inr (4, [.null, .int 0, .null, .null]))) (fun c hc => (va_up_ne _ _ (by omega)).symm)
  refine rc_new C hG (va_up_self _ _ _) (Cn := RX4) (T := TX4) (Nk := 4) rfl (fun x hx => List.mem_cons_of_mem _ (uw_X4 x hx)) tyX4 tyX4_ok bl_X4 (List.mem_cons_of_mem _ tg_1_22) (C.2.2.2.2.1 _ (List.mem_cons_of_mem _ tg_1_23)) (List.mem_cons_of_mem _ tg_1_2) (k' := 55) (n' := 771) rfl rfl (Nat.le_of_ble_eq_true rfl) (Nat.le_of_ble_eq_true rfl) dX8_init_16 (fun H hG => ?_)
  refine lv_dup C.1 C.2.1 dX8_init_19 rfl ?_
  refine rc_callI C hG hl.1 (ci_X4 l (Or.inr rfl) (va_up_self _ _ _)) (cwI 0 C.2.2.2.2.1 (gd_all tg_1_26) rfl rfl rfl (C.2.2.2.2.1 _ (List.mem_cons_of_mem _ tg_1_2)) (C.2.2.2.2.1 _ (List.mem_cons_of_mem _ tg_1_24)) (C.2.2.2.2.1 _ (List.mem_cons_of_mem _ tg_1_25)) rfl cdI_X4 ⟨Nat.le_of_ble_eq_true rfl, Nat.le_of_ble_eq_true rfl⟩) (k' := 108) (n' := 1534) rfl rfl (Nat.le_of_ble_eq_true rfl) (Nat.le_of_ble_eq_true rfl) (Nat.le_of_ble_eq_true rfl) dX8_init_20 (fun H locs hG => ?_)
  rw [mix_back (fun c hc => (va_up_ne _ _ (by omega)).trans (rfl))] at hG
  have hG : Gc s G A 109 B (va_up (entX G B w0) 0 (.inr (8, [.ref (B + 1), .null, .int 0, .null, .null, .null, .int 0, .null, .null, .null, .null, .null, .null]))) X H _ := hG
  refine rc_putF C hin2 hG (c0 := 0) (by omega) (va_up_self _ _ _) (Cn := RX8) (T := TX8) (Nk := 13) rfl (fun x hx => List.mem_cons_of_mem _ (uw_X8 x hx)) (ty0 := tyX8) tyX8_ok nmX8 (i := 1) (Nat.le_of_ble_eq_true rfl) (List.mem_cons_of_mem _ tg_2_11) rfl rfl (v := .ref (B + 55)) rfl rfl (Nat.le_of_ble_eq_true rfl) (E' := (va_up (entX G B w0) 0 (.inr (8, [.ref (B + 1), .ref (B + 55), .int 0, .null, .null, .null, .int 0, .null, .null, .null, .null, .null, .null])))) (up_up) dX8_init_23 (fun H locs hG => ?_)
  refine lv_aload_n C.1 C.2.1 dX8_init_26 rfl (lv_at hl 0 rfl) ?_
  have hG := hG.congr (E' := va_up (va_up (entX G B w0) 0 (.inr (8, [.ref (B + 1), .ref (B + 55), .int 0, .null, .null, .null, .int 0, .null, .null, .null, .null, .null, .null]))) 109 (.inr (7, [.null, .int 0]))) (fun c hc => (va_up_ne _ _ (by omega)).symm)
  refine rc_new C hG (va_up_self _ _ _) (Cn := RX7) (T := TX7) (Nk := 2) rfl (fun x hx => List.mem_cons_of_mem _ (uw_X7 x hx)) tyX7 tyX7_ok bl_X7 (List.mem_cons_of_mem _ tg_1_155) (C.2.2.2.2.1 _ (List.mem_cons_of_mem _ tg_1_156)) (List.mem_cons_of_mem _ tg_1_6) (k' := 109) (n' := 1536) rfl rfl (Nat.le_of_ble_eq_true rfl) (Nat.le_of_ble_eq_true rfl) dX8_init_27 (fun H hG => ?_)
  refine lv_dup C.1 C.2.1 dX8_init_30 rfl ?_
  refine rc_callIN C hG hl.1 (ci_X7 l (by decide +kernel) rfl (va_up_self _ _ _)) (va_cnB 0 C.2.2.2.2.1 (gd_all tg_1_159) rfl rfl rfl (hG.1.1.1.2.1 _ nn_36) (C.2.2.2.2.1 _ (List.mem_cons_of_mem _ tg_1_6)) cdI_X7 ⟨Nat.le_of_ble_eq_true rfl, Nat.le_of_ble_eq_true rfl⟩) rfl (C.2.2.2.2.1 _ (List.mem_cons_of_mem _ tg_1_158)) (k' := 110) (n' := 1596) rfl rfl (Nat.le_of_ble_eq_true rfl) (Nat.le_of_ble_eq_true rfl) (Nat.le_of_ble_eq_true rfl) dX8_init_31 (fun H locs hG => ?_)
  rw [mix_back (fun c hc => (va_up_ne _ _ (by omega)).trans (rfl))] at hG
  have hG : Gc s G A 111 B (va_up (entX G B w0) 0 (.inr (8, [.ref (B + 1), .ref (B + 55), .int 0, .null, .null, .null, .int 0, .null, .null, .null, .null, .null, .null]))) X H _ := hG
  refine rc_putF C hin2 hG (c0 := 0) (by omega) (va_up_self _ _ _) (Cn := RX8) (T := TX8) (Nk := 13) rfl (fun x hx => List.mem_cons_of_mem _ (uw_X8 x hx)) (ty0 := tyX8) tyX8_ok nmX8 (i := 3) (Nat.le_of_ble_eq_true rfl) (List.mem_cons_of_mem _ tg_2_13) rfl rfl (v := .ref (B + 109)) rfl rfl (Nat.le_of_ble_eq_true rfl) (E' := (va_up (entX G B w0) 0 (.inr (8, [.ref (B + 1), .ref (B + 55), .int 0, .ref (B + 109), .null, .null, .int 0, .null, .null, .null, .null, .null, .null])))) (up_up) dX8_init_34 (fun H locs hG => ?_)
  refine lv_aload_n C.1 C.2.1 dX8_init_37 rfl (lv_at hl 0 rfl) ?_
  have hG := hG.congr (E' := va_up (va_up (entX G B w0) 0 (.inr (8, [.ref (B + 1), .ref (B + 55), .int 0, .ref (B + 109), .null, .null, .int 0, .null, .null, .null, .null, .null, .null]))) 111 (.inr (1, [.null, .null]))) (fun c hc => (va_up_ne _ _ (by omega)).symm)
  refine rc_new C hG (va_up_self _ _ _) (Cn := RX1) (T := TX1) (Nk := 2) rfl (fun x hx => List.mem_cons_of_mem _ (uw_X1 x hx)) tyX1 tyX1_ok bl_X1 (List.mem_cons_of_mem _ tg_1_169) (C.2.2.2.2.1 _ (List.mem_cons_of_mem _ tg_1_170)) (List.mem_cons_of_mem _ tg_1_7) (k' := 111) (n' := 1598) rfl rfl (Nat.le_of_ble_eq_true rfl) (Nat.le_of_ble_eq_true rfl) dX8_init_38 (fun H hG => ?_)
  refine lv_dup C.1 C.2.1 dX8_init_41 rfl ?_
  refine rc_callI C hG hl.1 (ci_X1 l (va_up_self _ _ _)) (cwI 0 C.2.2.2.2.1 (gd_all tg_1_173) rfl rfl rfl (C.2.2.2.2.1 _ (List.mem_cons_of_mem _ tg_1_7)) (C.2.2.2.2.1 _ (List.mem_cons_of_mem _ tg_1_171)) (C.2.2.2.2.1 _ (List.mem_cons_of_mem _ tg_1_172)) rfl cdI_X1 ⟨Nat.le_of_ble_eq_true rfl, Nat.le_of_ble_eq_true rfl⟩) (k' := 117) (n' := 1654) rfl rfl (Nat.le_of_ble_eq_true rfl) (Nat.le_of_ble_eq_true rfl) (Nat.le_of_ble_eq_true rfl) dX8_init_42 (fun H locs hG => ?_)
  rw [mix_back (fun c hc => (va_up_ne _ _ (by omega)).trans (rfl))] at hG
  have hG : Gc s G A 118 B (va_up (entX G B w0) 0 (.inr (8, [.ref (B + 1), .ref (B + 55), .int 0, .ref (B + 109), .null, .null, .int 0, .null, .null, .null, .null, .null, .null]))) X H _ := hG
  refine rc_putF C hin2 hG (c0 := 0) (by omega) (va_up_self _ _ _) (Cn := RX8) (T := TX8) (Nk := 13) rfl (fun x hx => List.mem_cons_of_mem _ (uw_X8 x hx)) (ty0 := tyX8) tyX8_ok nmX8 (i := 4) (Nat.le_of_ble_eq_true rfl) (List.mem_cons_of_mem _ tg_2_14) rfl rfl (v := .ref (B + 111)) rfl rfl (Nat.le_of_ble_eq_true rfl) (E' := (va_up (entX G B w0) 0 (.inr (8, [.ref (B + 1), .ref (B + 55), .int 0, .ref (B + 109), .ref (B + 111), .null, .int 0, .null, .null, .null, .null, .null, .null])))) (up_up) dX8_init_45 (fun H locs hG => ?_)
  refine lv_aload_n C.1 C.2.1 dX8_init_48 rfl (lv_at hl 0 rfl) ?_
  refine lv_bipush (v := nI 24) C.1 C.2.1 dX8_init_49 (by decide) ?_
  refine rc_newI C hG (n := 24) rfl (by omega) ((va_up_ne _ _ (by omega)).trans (ent0_I (by decide +kernel) (by omega))) (k' := 118) (n' := 1678) rfl rfl (Nat.le_of_ble_eq_true rfl) (Nat.le_of_ble_eq_true rfl) dX8_init_51 (fun H hG => ?_)
  have hG : Gc s G A 119 B (va_up (entX G B w0) 0 (.inr (8, [.ref (B + 1), .ref (B + 55), .int 0, .ref (B + 109), .ref (B + 111), .null, .int 0, .null, .null, .null, .null, .null, .null]))) X H _ := hG
  refine rc_putF C hin2 hG (c0 := 0) (by omega) (va_up_self _ _ _) (Cn := RX8) (T := TX8) (Nk := 13) rfl (fun x hx => List.mem_cons_of_mem _ (uw_X8 x hx)) (ty0 := tyX8) tyX8_ok nmX8 (i := 5) (Nat.le_of_ble_eq_true rfl) (List.mem_cons_of_mem _ tg_2_15) rfl rfl (v := .ref (B + 118)) rfl rfl (Nat.le_of_ble_eq_true rfl) (E' := (va_up (entX G B w0) 0 (.inr (8, [.ref (B + 1), .ref (B + 55), .int 0, .ref (B + 109), .ref (B + 111), .ref (B + 118), .int 0, .null, .null, .null, .null, .null, .null])))) (up_up) dX8_init_53 (fun H locs hG => ?_)
  refine lv_aload_n C.1 C.2.1 dX8_init_56 rfl (lv_at hl 0 rfl) ?_
  have hG := hG.congr (E' := va_up (va_up (entX G B w0) 0 (.inr (8, [.ref (B + 1), .ref (B + 55), .int 0, .ref (B + 109), .ref (B + 111), .ref (B + 118), .int 0, .null, .null, .null, .null, .null, .null]))) 119 (.inr (6, [.null, .int 0, .int 0]))) (fun c hc => (va_up_ne _ _ (by omega)).symm)
  refine rc_new C hG (va_up_self _ _ _) (Cn := RX6) (T := TX6) (Nk := 3) rfl (fun x hx => List.mem_cons_of_mem _ (uw_X6 x hx)) tyX6 tyX6_ok bl_X6 (List.mem_cons_of_mem _ tg_1_186) (C.2.2.2.2.1 _ (List.mem_cons_of_mem _ tg_1_116)) (List.mem_cons_of_mem _ tg_1_5) (k' := 119) (n' := 1681) rfl rfl (Nat.le_of_ble_eq_true rfl) (Nat.le_of_ble_eq_true rfl) dX8_init_57 (fun H hG => ?_)
  refine lv_dup C.1 C.2.1 dX8_init_60 rfl ?_
  refine rc_callIN C hG hl.1 (ci_X6 l (by decide +kernel) (va_up_self _ _ _)) (va_cnB 0 C.2.2.2.2.1 (gd_all tg_1_119) rfl rfl rfl (hG.1.1.1.2.1 _ nn_40) (C.2.2.2.2.1 _ (List.mem_cons_of_mem _ tg_1_5)) cdI_X6 ⟨Nat.le_of_ble_eq_true rfl, Nat.le_of_ble_eq_true rfl⟩) rfl (C.2.2.2.2.1 _ (List.mem_cons_of_mem _ tg_1_118)) (k' := 120) (n' := 1705) rfl rfl (Nat.le_of_ble_eq_true rfl) (Nat.le_of_ble_eq_true rfl) (Nat.le_of_ble_eq_true rfl) dX8_init_61 (fun H locs hG => ?_)
  rw [mix_back (fun c hc => (va_up_ne _ _ (by omega)).trans (rfl))] at hG
  have hG : Gc s G A 121 B (va_up (entX G B w0) 0 (.inr (8, [.ref (B + 1), .ref (B + 55), .int 0, .ref (B + 109), .ref (B + 111), .ref (B + 118), .int 0, .null, .null, .null, .null, .null, .null]))) X H _ := hG
  refine rc_putF C hin2 hG (c0 := 0) (by omega) (va_up_self _ _ _) (Cn := RX8) (T := TX8) (Nk := 13) rfl (fun x hx => List.mem_cons_of_mem _ (uw_X8 x hx)) (ty0 := tyX8) tyX8_ok nmX8 (i := 7) (Nat.le_of_ble_eq_true rfl) (List.mem_cons_of_mem _ tg_2_17) rfl rfl (v := .ref (B + 119)) rfl rfl (Nat.le_of_ble_eq_true rfl) (E' := (va_up (entX G B w0) 0 (.inr (8, [.ref (B + 1), .ref (B + 55), .int 0, .ref (B + 109), .ref (B + 111), .ref (B + 118), .int 0, .ref (B + 119), .null, .null, .null, .null, .null])))) (up_up) dX8_init_64 (fun H locs hG => ?_)
  refine lv_aload_n C.1 C.2.1 dX8_init_67 rfl (lv_at hl 0 rfl) ?_
  have hG := hG.congr (E' := va_up (va_up (entX G B w0) 0 (.inr (8, [.ref (B + 1), .ref (B + 55), .int 0, .ref (B + 109), .ref (B + 111), .ref (B + 118), .int 0, .ref (B + 119), .null, .null, .null, .null, .null]))) 121 (.inr (0, [.int 0, .int 0, .int 0, .int 0, .null, .null, .null, .null, .null, .null, .null, .null, .null]))) (fun c hc => (va_up_ne _ _ (by omega)).symm)
  refine rc_new C hG (va_up_self _ _ _) (Cn := RX0) (T := TX0) (Nk := 13) rfl (fun x hx => List.mem_cons_of_mem _ (uw_X0 x hx)) tyX0 tyX0_ok bl_X0 (List.mem_cons_of_mem _ tg_1_188) (C.2.2.2.2.1 _ (List.mem_cons_of_mem _ tg_1_53)) (List.mem_cons_of_mem _ tg_1_4) (k' := 121) (n' := 1718) rfl rfl (Nat.le_of_ble_eq_true rfl) (Nat.le_of_ble_eq_true rfl) dX8_init_68 (fun H hG => ?_)
  refine lv_dup C.1 C.2.1 dX8_init_71 rfl ?_
  refine rc_callIN C hG hl.1 (ci_X0 l (by decide +kernel) (va_up_self _ _ _)) (va_cnB 0 C.2.2.2.2.1 (gd_all tg_1_56) rfl rfl rfl (hG.1.1.1.2.1 _ nn_41) (C.2.2.2.2.1 _ (List.mem_cons_of_mem _ tg_1_4)) cdI_X0 ⟨Nat.le_of_ble_eq_true rfl, Nat.le_of_ble_eq_true rfl⟩) rfl (C.2.2.2.2.1 _ (List.mem_cons_of_mem _ tg_1_55)) (k' := 130) (n' := 1862) rfl rfl (Nat.le_of_ble_eq_true rfl) (Nat.le_of_ble_eq_true rfl) (Nat.le_of_ble_eq_true rfl) dX8_init_72 (fun H locs hG => ?_)
  rw [mix_back (fun c hc => (va_up_ne _ _ (by omega)).trans (rfl))] at hG
  have hG : Gc s G A 131 B (va_up (entX G B w0) 0 (.inr (8, [.ref (B + 1), .ref (B + 55), .int 0, .ref (B + 109), .ref (B + 111), .ref (B + 118), .int 0, .ref (B + 119), .null, .null, .null, .null, .null]))) X H _ := hG
  refine rc_putF C hin2 hG (c0 := 0) (by omega) (va_up_self _ _ _) (Cn := RX8) (T := TX8) (Nk := 13) rfl (fun x hx => List.mem_cons_of_mem _ (uw_X8 x hx)) (ty0 := tyX8) tyX8_ok nmX8 (i := 8) (Nat.le_of_ble_eq_true rfl) (List.mem_cons_of_mem _ tg_2_18) rfl rfl (v := .ref (B + 121)) rfl rfl (Nat.le_of_ble_eq_true rfl) (E' := (va_up (entX G B w0) 0 (.inr (8, [.ref (B + 1), .ref (B + 55), .int 0, .ref (B + 109), .ref (B + 111), .ref (B + 118), .int 0, .ref (B + 119), .ref (B + 121), .null, .null, .null, .null])))) (up_up) dX8_init_75 (fun H locs hG => ?_)
  refine lv_aload_n C.1 C.2.1 dX8_init_78 rfl (lv_at hl 0 rfl) ?_
  have hG := hG.congr (E' := va_up (va_up (entX G B w0) 0 (.inr (8, [.ref (B + 1), .ref (B + 55), .int 0, .ref (B + 109), .ref (B + 111), .ref (B + 118), .int 0, .ref (B + 119), .ref (B + 121), .null, .null, .null, .null]))) 131 (.inr (2, [.int 0, .int 0, .null, .null, .null, .null, .null, .null]))) (fun c hc => (va_up_ne _ _ (by omega)).symm)
  refine rc_new C hG (va_up_self _ _ _) (Cn := RX2) (T := TX2) (Nk := 8) rfl (fun x hx => List.mem_cons_of_mem _ (uw_X2 x hx)) tyX2 tyX2_ok bl_X2 (List.mem_cons_of_mem _ tg_1_190) (C.2.2.2.2.1 _ (List.mem_cons_of_mem _ tg_1_191)) (List.mem_cons_of_mem _ tg_1_8) (k' := 131) (n' := 1870) rfl rfl (Nat.le_of_ble_eq_true rfl) (Nat.le_of_ble_eq_true rfl) dX8_init_79 (fun H hG => ?_)
  refine lv_dup C.1 C.2.1 dX8_init_82 rfl ?_
  refine rc_callIN C hG hl.1 (ci_X2 l (by decide +kernel) (va_up_self _ _ _)) (va_cnB 0 C.2.2.2.2.1 (gd_all tg_1_194) rfl rfl rfl (hG.1.1.1.2.1 _ nn_42) (C.2.2.2.2.1 _ (List.mem_cons_of_mem _ tg_1_8)) cdI_X2 ⟨Nat.le_of_ble_eq_true rfl, Nat.le_of_ble_eq_true rfl⟩) rfl (C.2.2.2.2.1 _ (List.mem_cons_of_mem _ tg_1_193)) (k' := 137) (n' := 1993) rfl rfl (Nat.le_of_ble_eq_true rfl) (Nat.le_of_ble_eq_true rfl) (Nat.le_of_ble_eq_true rfl) dX8_init_83 (fun H locs hG => ?_)
  rw [mix_back (fun c hc => (va_up_ne _ _ (by omega)).trans (rfl))] at hG
  have hG : Gc s G A 138 B (va_up (entX G B w0) 0 (.inr (8, [.ref (B + 1), .ref (B + 55), .int 0, .ref (B + 109), .ref (B + 111), .ref (B + 118), .int 0, .ref (B + 119), .ref (B + 121), .null, .null, .null, .null]))) X H _ := hG
  refine rc_putF C hin2 hG (c0 := 0) (by omega) (va_up_self _ _ _) (Cn := RX8) (T := TX8) (Nk := 13) rfl (fun x hx => List.mem_cons_of_mem _ (uw_X8 x hx)) (ty0 := tyX8) tyX8_ok nmX8 (i := 9) (Nat.le_of_ble_eq_true rfl) (List.mem_cons_of_mem _ tg_2_19) rfl rfl (v := .ref (B + 131)) rfl rfl (Nat.le_of_ble_eq_true rfl) (E' := (va_up (entX G B w0) 0 (.inr (8, [.ref (B + 1), .ref (B + 55), .int 0, .ref (B + 109), .ref (B + 111), .ref (B + 118), .int 0, .ref (B + 119), .ref (B + 121), .ref (B + 131), .null, .null, .null])))) (up_up) dX8_init_86 (fun H locs hG => ?_)
  refine lv_aload_n C.1 C.2.1 dX8_init_89 rfl (lv_at hl 0 rfl) ?_
  have hG := hG.congr (E' := va_up (va_up (entX G B w0) 0 (.inr (8, [.ref (B + 1), .ref (B + 55), .int 0, .ref (B + 109), .ref (B + 111), .ref (B + 118), .int 0, .ref (B + 119), .ref (B + 121), .ref (B + 131), .null, .null, .null]))) 138 (.inr (2, [.int 0, .int 0, .null, .null, .null, .null, .null, .null]))) (fun c hc => (va_up_ne _ _ (by omega)).symm)
  refine rc_new C hG (va_up_self _ _ _) (Cn := RX2) (T := TX2) (Nk := 8) rfl (fun x hx => List.mem_cons_of_mem _ (uw_X2 x hx)) tyX2 tyX2_ok bl_X2 (List.mem_cons_of_mem _ tg_1_190) (C.2.2.2.2.1 _ (List.mem_cons_of_mem _ tg_1_191)) (List.mem_cons_of_mem _ tg_1_8) (k' := 138) (n' := 2001) rfl rfl (Nat.le_of_ble_eq_true rfl) (Nat.le_of_ble_eq_true rfl) dX8_init_90 (fun H hG => ?_)
  refine lv_dup C.1 C.2.1 dX8_init_93 rfl ?_
  refine rc_callIN C hG hl.1 (ci_X2 l (by decide +kernel) (va_up_self _ _ _)) (va_cnB 0 C.2.2.2.2.1 (gd_all tg_1_194) rfl rfl rfl (hG.1.1.1.2.1 _ nn_42) (C.2.2.2.2.1 _ (List.mem_cons_of_mem _ tg_1_8)) cdI_X2 ⟨Nat.le_of_ble_eq_true rfl, Nat.le_of_ble_eq_true rfl⟩) rfl (C.2.2.2.2.1 _ (List.mem_cons_of_mem _ tg_1_193)) (k' := 144) (n' := 2124) rfl rfl (Nat.le_of_ble_eq_true rfl) (Nat.le_of_ble_eq_true rfl) (Nat.le_of_ble_eq_true rfl) dX8_init_94 (fun H locs hG => ?_)
  rw [mix_back (fun c hc => (va_up_ne _ _ (by omega)).trans (rfl))] at hG
  have hG : Gc s G A 145 B (va_up (entX G B w0) 0 (.inr (8, [.ref (B + 1), .ref (B + 55), .int 0, .ref (B + 109), .ref (B + 111), .ref (B + 118), .int 0, .ref (B + 119), .ref (B + 121), .ref (B + 131), .null, .null, .null]))) X H _ := hG
  refine rc_putF C hin2 hG (c0 := 0) (by omega) (va_up_self _ _ _) (Cn := RX8) (T := TX8) (Nk := 13) rfl (fun x hx => List.mem_cons_of_mem _ (uw_X8 x hx)) (ty0 := tyX8) tyX8_ok nmX8 (i := 10) (Nat.le_of_ble_eq_true rfl) (List.mem_cons_of_mem _ tg_2_20) rfl rfl (v := .ref (B + 138)) rfl rfl (Nat.le_of_ble_eq_true rfl) (E' := (va_up (entX G B w0) 0 (.inr (8, [.ref (B + 1), .ref (B + 55), .int 0, .ref (B + 109), .ref (B + 111), .ref (B + 118), .int 0, .ref (B + 119), .ref (B + 121), .ref (B + 131), .ref (B + 138), .null, .null])))) (up_up) dX8_init_97 (fun H locs hG => ?_)
  refine lv_aload_n C.1 C.2.1 dX8_init_100 rfl (lv_at hl 0 rfl) ?_
  have hG := hG.congr (E' := va_up (va_up (entX G B w0) 0 (.inr (8, [.ref (B + 1), .ref (B + 55), .int 0, .ref (B + 109), .ref (B + 111), .ref (B + 118), .int 0, .ref (B + 119), .ref (B + 121), .ref (B + 131), .ref (B + 138), .null, .null]))) 145 (.inr (5, [.null, .null, .null, .int 0, .int 0]))) (fun c hc => (va_up_ne _ _ (by omega)).symm)
  refine rc_new C hG (va_up_self _ _ _) (Cn := RX5) (T := TX5) (Nk := 5) rfl (fun x hx => List.mem_cons_of_mem _ (uw_X5 x hx)) tyX5 tyX5_ok bl_X5 (List.mem_cons_of_mem _ tg_1_227) (C.2.2.2.2.1 _ (List.mem_cons_of_mem _ tg_1_228)) (List.mem_cons_of_mem _ tg_1_9) (k' := 145) (n' := 2129) rfl rfl (Nat.le_of_ble_eq_true rfl) (Nat.le_of_ble_eq_true rfl) dX8_init_101 (fun H hG => ?_)
  refine lv_dup C.1 C.2.1 dX8_init_104 rfl ?_
  refine rc_callIN C hG hl.1 (ci_X5 l (by decide +kernel) (va_up_self _ _ _)) (va_cnB 0 C.2.2.2.2.1 (gd_all tg_1_231) rfl rfl rfl (hG.1.1.1.2.1 _ nn_48) (C.2.2.2.2.1 _ (List.mem_cons_of_mem _ tg_1_9)) cdI_X5 ⟨Nat.le_of_ble_eq_true rfl, Nat.le_of_ble_eq_true rfl⟩) rfl (C.2.2.2.2.1 _ (List.mem_cons_of_mem _ tg_1_230)) (k' := 148) (n' := 2565) rfl rfl (Nat.le_of_ble_eq_true rfl) (Nat.le_of_ble_eq_true rfl) (Nat.le_of_ble_eq_true rfl) dX8_init_105 (fun H locs hG => ?_)
  rw [mix_back (fun c hc => (va_up_ne _ _ (by omega)).trans (rfl))] at hG
  have hG : Gc s G A 149 B (va_up (entX G B w0) 0 (.inr (8, [.ref (B + 1), .ref (B + 55), .int 0, .ref (B + 109), .ref (B + 111), .ref (B + 118), .int 0, .ref (B + 119), .ref (B + 121), .ref (B + 131), .ref (B + 138), .null, .null]))) X H _ := hG
  refine rc_putF C hin2 hG (c0 := 0) (by omega) (va_up_self _ _ _) (Cn := RX8) (T := TX8) (Nk := 13) rfl (fun x hx => List.mem_cons_of_mem _ (uw_X8 x hx)) (ty0 := tyX8) tyX8_ok nmX8 (i := 11) (Nat.le_of_ble_eq_true rfl) (List.mem_cons_of_mem _ tg_2_21) rfl rfl (v := .ref (B + 145)) rfl rfl (Nat.le_of_ble_eq_true rfl) (E' := (va_up (entX G B w0) 0 (.inr (8, [.ref (B + 1), .ref (B + 55), .int 0, .ref (B + 109), .ref (B + 111), .ref (B + 118), .int 0, .ref (B + 119), .ref (B + 121), .ref (B + 131), .ref (B + 138), .ref (B + 145), .null])))) (up_up) dX8_init_108 (fun H locs hG => ?_)
  refine lv_aload_n C.1 C.2.1 dX8_init_111 rfl (lv_at hl 0 rfl) ?_
  have hG := hG.congr (E' := va_up (va_up (entX G B w0) 0 (.inr (8, [.ref (B + 1), .ref (B + 55), .int 0, .ref (B + 109), .ref (B + 111), .ref (B + 118), .int 0, .ref (B + 119), .ref (B + 121), .ref (B + 131), .ref (B + 138), .ref (B + 145), .null]))) 149 (.inr (5, [.null, .null, .null, .int 0, .int 0]))) (fun c hc => (va_up_ne _ _ (by omega)).symm)
  refine rc_new C hG (va_up_self _ _ _) (Cn := RX5) (T := TX5) (Nk := 5) rfl (fun x hx => List.mem_cons_of_mem _ (uw_X5 x hx)) tyX5 tyX5_ok bl_X5 (List.mem_cons_of_mem _ tg_1_227) (C.2.2.2.2.1 _ (List.mem_cons_of_mem _ tg_1_228)) (List.mem_cons_of_mem _ tg_1_9) (k' := 149) (n' := 2570) rfl rfl (Nat.le_of_ble_eq_true rfl) (Nat.le_of_ble_eq_true rfl) dX8_init_112 (fun H hG => ?_)
  refine lv_dup C.1 C.2.1 dX8_init_115 rfl ?_
  refine rc_callIN C hG hl.1 (ci_X5 l (by decide +kernel) (va_up_self _ _ _)) (va_cnB 0 C.2.2.2.2.1 (gd_all tg_1_231) rfl rfl rfl (hG.1.1.1.2.1 _ nn_48) (C.2.2.2.2.1 _ (List.mem_cons_of_mem _ tg_1_9)) cdI_X5 ⟨Nat.le_of_ble_eq_true rfl, Nat.le_of_ble_eq_true rfl⟩) rfl (C.2.2.2.2.1 _ (List.mem_cons_of_mem _ tg_1_230)) (k' := 152) (n' := 3006) rfl rfl (Nat.le_of_ble_eq_true rfl) (Nat.le_of_ble_eq_true rfl) (Nat.le_of_ble_eq_true rfl) dX8_init_116 (fun H locs hG => ?_)
  rw [mix_back (fun c hc => (va_up_ne _ _ (by omega)).trans (rfl))] at hG
  have hG : Gc s G A 153 B (va_up (entX G B w0) 0 (.inr (8, [.ref (B + 1), .ref (B + 55), .int 0, .ref (B + 109), .ref (B + 111), .ref (B + 118), .int 0, .ref (B + 119), .ref (B + 121), .ref (B + 131), .ref (B + 138), .ref (B + 145), .null]))) X H _ := hG
  refine rc_putF C hin2 hG (c0 := 0) (by omega) (va_up_self _ _ _) (Cn := RX8) (T := TX8) (Nk := 13) rfl (fun x hx => List.mem_cons_of_mem _ (uw_X8 x hx)) (ty0 := tyX8) tyX8_ok nmX8 (i := 12) (Nat.le_of_ble_eq_true rfl) (List.mem_cons_of_mem _ tg_2_22) rfl rfl (v := .ref (B + 149)) rfl rfl (Nat.le_of_ble_eq_true rfl) (E' := (va_up (entX G B w0) 0 (.inr (8, [.ref (B + 1), .ref (B + 55), .int 0, .ref (B + 109), .ref (B + 111), .ref (B + 118), .int 0, .ref (B + 119), .ref (B + 121), .ref (B + 131), .ref (B + 138), .ref (B + 145), .ref (B + 149)])))) (up_up) dX8_init_119 (fun H locs hG => ?_)
  exact rc_ret C hG (fun c _ => congrFun (up_id ((entX_O8 (n := 13) (by decide +kernel)).trans rfl)) c) dX8_init_122
