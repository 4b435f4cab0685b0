/-! the constructors that make arrays alone -/
abbrev wcI_X0 : List Cond := Cond.code yX0_init cX0_init 1 none :: TG
abbrev rmI_X0 : Room := { frames := 1, cells := 9, slots := 144, locals := 20 }
theorem dX0_init_0 : decode cX0_init 0 = .ok (.aload_n 0, 1) := by decide +kernel
theorem dX0_init_1 : decode cX0_init 1 = .ok (.invokespecial 3, 3) := by decide +kernel
theorem dX0_init_4 : decode cX0_init 4 = .ok (.aload_n 0, 1) := by decide +kernel
theorem dX0_init_5 : decode cX0_init 5 = .ok (.bipush 36, 2) := by decide +kernel
theorem dX0_init_7 : decode cX0_init 7 = .ok (.newarray .int, 2) := by decide +kernel
theorem dX0_init_9 : decode cX0_init 9 = .ok (.putfield 9, 3) := by decide +kernel
theorem dX0_init_12 : decode cX0_init 12 = .ok (.aload_n 0, 1) := by decide +kernel
theorem dX0_init_13 : decode cX0_init 13 = .ok (.bipush 36, 2) := by decide +kernel
theorem dX0_init_15 : decode cX0_init 15 = .ok (.newarray .int, 2) := by decide +kernel
theorem dX0_init_17 : decode cX0_init 17 = .ok (.putfield 15, 3) := by decide +kernel
theorem dX0_init_20 : decode cX0_init 20 = .ok (.aload_n 0, 1) := by decide +kernel
theorem dX0_init_21 : decode cX0_init 21 = .ok (.bipush 36, 2) := by decide +kernel
theorem dX0_init_23 : decode cX0_init 23 = .ok (.newarray .int, 2) := by decide +kernel
theorem dX0_init_25 : decode cX0_init 25 = .ok (.putfield 18, 3) := by decide +kernel
theorem dX0_init_28 : decode cX0_init 28 = .ok (.aload_n 0, 1) := by decide +kernel
theorem dX0_init_29 : decode cX0_init 29 = .ok (.bipush 6, 2) := by decide +kernel
theorem dX0_init_31 : decode cX0_init 31 = .ok (.newarray .int, 2) := by decide +kernel
theorem dX0_init_33 : decode cX0_init 33 = .ok (.putfield 21, 3) := by decide +kernel
theorem dX0_init_36 : decode cX0_init 36 = .ok (.aload_n 0, 1) := by decide +kernel
theorem dX0_init_37 : decode cX0_init 37 = .ok (.bipush 6, 2) := by decide +kernel
theorem dX0_init_39 : decode cX0_init 39 = .ok (.newarray .int, 2) := by decide +kernel
theorem dX0_init_41 : decode cX0_init 41 = .ok (.putfield 24, 3) := by decide +kernel
theorem dX0_init_44 : decode cX0_init 44 = .ok (.aload_n 0, 1) := by decide +kernel
theorem dX0_init_45 : decode cX0_init 45 = .ok (.bipush 6, 2) := by decide +kernel
theorem dX0_init_47 : decode cX0_init 47 = .ok (.newarray .int, 2) := by decide +kernel
theorem dX0_init_49 : decode cX0_init 49 = .ok (.putfield 27, 3) := by decide +kernel
theorem dX0_init_52 : decode cX0_init 52 = .ok (.aload_n 0, 1) := by decide +kernel
theorem dX0_init_53 : decode cX0_init 53 = .ok (.bipush 6, 2) := by decide +kernel
theorem dX0_init_55 : decode cX0_init 55 = .ok (.newarray .int, 2) := by decide +kernel
theorem dX0_init_57 : decode cX0_init 57 = .ok (.putfield 30, 3) := by decide +kernel
theorem dX0_init_60 : decode cX0_init 60 = .ok (.aload_n 0, 1) := by decide +kernel
theorem dX0_init_61 : decode cX0_init 61 = .ok (.bipush 6, 2) := by decide +kernel
theorem dX0_init_63 : decode cX0_init 63 = .ok (.newarray .int, 2) := by decide +kernel
theorem dX0_init_65 : decode cX0_init 65 = .ok (.putfield 33, 3) := by decide +kernel
theorem dX0_init_68 : decode cX0_init 68 = .ok (.aload_n 0, 1) := by decide +kernel
theorem dX0_init_69 : decode cX0_init 69 = .ok (.bipush 6, 2) := by decide +kernel
theorem dX0_init_71 : decode cX0_init 71 = .ok (.newarray .int, 2) := by decide +kernel
theorem dX0_init_73 : decode cX0_init 73 = .ok (.putfield 36, 3) := by decide +kernel
theorem dX0_init_76 : decode cX0_init 76 = .ok (.return_, 1) := by decide +kernel
theorem no117_X0 : ∀ o, o < 153 → KDx o = (0, 13) → o + 9 < 117 ∨ 117 < o := by decide +kernel
theorem kd_X0_1 {o : Nat} (ho : KDx o = (0, 13)) : KDx (o + 1) = (10, 36) := (show ∀ o, o < 153 → KDx o = (0, 13) → KDx (o + 1) = (10, 36) from by decide +kernel) o (kdx_lt ho (by decide)) ho
theorem kd_X0_2 {o : Nat} (ho : KDx o = (0, 13)) : KDx (o + 2) = (10, 36) := (show ∀ o, o < 153 → KDx o = (0, 13) → KDx (o + 2) = (10, 36) from by decide +kernel) o (kdx_lt ho (by decide)) ho
theorem kd_X0_3 {o : Nat} (ho : KDx o = (0, 13)) : KDx (o + 3) = (10, 36) := (show ∀ o, o < 153 → KDx o = (0, 13) → KDx (o + 3) = (10, 36) from by decide +kernel) o (kdx_lt ho (by decide)) ho
theorem kd_X0_4 {o : Nat} (ho : KDx o = (0, 13)) : KDx (o + 4) = (10, 6) := (show ∀ o, o < 153 → KDx o = (0, 13) → KDx (o + 4) = (10, 6) from by decide +kernel) o (kdx_lt ho (by decide)) ho
theorem kd_X0_5 {o : Nat} (ho : KDx o = (0, 13)) : KDx (o + 5) = (10, 6) := (show ∀ o, o < 153 → KDx o = (0, 13) → KDx (o + 5) = (10, 6) from by decide +kernel) o (kdx_lt ho (by decide)) ho
theorem kd_X0_6 {o : Nat} (ho : KDx o = (0, 13)) : KDx (o + 6) = (10, 6) := (show ∀ o, o < 153 → KDx o = (0, 13) → KDx (o + 6) = (10, 6) from by decide +kernel) o (kdx_lt ho (by decide)) ho
theorem kd_X0_7 {o : Nat} (ho : KDx o = (0, 13)) : KDx (o + 7) = (10, 6) := (show ∀ o, o < 153 → KDx o = (0, 13) → KDx (o + 7) = (10, 6) from by decide +kernel) o (kdx_lt ho (by decide)) ho
theorem kd_X0_8 {o : Nat} (ho : KDx o = (0, 13)) : KDx (o + 8) = (10, 6) := (show ∀ o, o < 153 → KDx o = (0, 13) → KDx (o + 8) = (10, 6) from by decide +kernel) o (kdx_lt ho (by decide)) ho
theorem kd_X0_9 {o : Nat} (ho : KDx o = (0, 13)) : KDx (o + 9) = (10, 6) := (show ∀ o, o < 153 → KDx o = (0, 13) → KDx (o + 9) = (10, 6) from by decide +kernel) o (kdx_lt ho (by decide)) ho
theorem fs0_X0 {B o : Nat} (h : o ≠ 117) : fsX B w0 0 o = [.int 0, .int 0, .int 0, .int 0, .ref (B + (o + 1)), .ref (B + (o + 2)), .ref (B + (o + 3)), .ref (B + (o + 4)), .ref (B + (o + 5)), .ref (B + (o + 6)), .ref (B + (o + 7)), .ref (B + (o + 8)), .ref (B + (o + 9))] := by simp [fsX, w0, h]
set_option maxRecDepth 100000 in
theorem ci_X0 (l : Launch) {G : GG} {A : Nat → Prop} {B : Nat} {E : Nat → va_E} {X : va_W} {o : Nat} (ho : KDx o = (0, 13)) (hE : E o = .inr (0, [.int 0, .int 0, .int 0, .int 0, .null, .null, .null, .null, .null, .null, .null, .null, .null])) : MetI l yX0_init wcI_X0 rmI_X0 G A B X [.ref (B + o)] (o + 1) E (o + 10) (mixE E (entX G B w0) o) 9 144 := by
  refine Met.ofW (cc := cX0_init) (maxL := 1) (ret := none) (by decide) rfl ?_
  intro p e s m args below meth c s₁ B0 hml hv
  obtain ⟨rfl, ⟨hEv, hWd⟩, hO, hN, hA⟩ := hv
  have C : CX p s m _ meth c cX0_init 1 RX0 wcI_X0 none := ⟨B0.exec, B0.bytes, hml, findClass_of_methodNamed B0.named, atoms_spec (ws := wcI_X0) B0.pre, B0.returns, B0.notSynchronized⟩
  have hin2 : meth.name = "<init>" := (name_of_methodNamed B0.named B0.method).1
  have hl := lv_entry [.ref (B + o)] (n := 1) (Nat.le_of_ble_eq_true rfl)
  rw [lg_entry_eq]
  generalize (lg_sl [.ref (B + o)] ++ List.replicate (1 - (lg_sl [.ref (B + o)]).length) Slot.unset).toArray = ls at hl ⊢
  have hl : lv_has ls 1 [(0, .ref (B + o))] := hl
  have h117 := no117_X0 o (kdx_lt ho (by decide)) ho
  have hG : Gc s G A (o + 1) B (va_up (mixE E (entX G B w0) o) o (.inr (0, [.int 0, .int 0, .int 0, .int 0, .null, .null, .null, .null, .null, .null, .null, .null, .null]))) X s.heap [] := Gc.congr ⟨⟨⟨hEv, hWd, va_S.rf⟩, hO⟩, hN, hA⟩ (mix_start hE)
  refine lv_aload_n C.1 C.2.1 dX0_init_0 rfl (lv_at hl 0 rfl) ?_
  refine rc_obj C hl.1 (List.mem_cons_of_mem _ tg_1_57) (List.mem_cons_of_mem _ tg_1_20) (List.mem_cons_of_mem _ tg_1_21) (Nat.le_of_ble_eq_true rfl) (Nat.le_of_ble_eq_true rfl) dX0_init_1 ?_
  refine lv_aload_n C.1 C.2.1 dX0_init_4 rfl (lv_at hl 0 rfl) ?_
  refine lv_bipush (v := nI 36) C.1 C.2.1 dX0_init_5 (by decide) ?_
  refine rc_newI C hG (n := 36) rfl (by omega) ((va_up_ne _ _ (by omega)).trans ((mixE_ge (by omega)).trans (ent0_I (kd_X0_1 ho) (by omega)))) (k' := 1) (n' := 36) rfl rfl (Nat.le_of_ble_eq_true rfl) (Nat.le_of_ble_eq_true rfl) dX0_init_7 (fun H hG => ?_)
  have hG : Gc s G A (o + 2) B (va_up (mixE E (entX G B w0) o) o (.inr (0, [.int 0, .int 0, .int 0, .int 0, .null, .null, .null, .null, .null, .null, .null, .null, .null]))) X H _ := hG
  refine rc_putF C hin2 hG (c0 := o) (by omega) (va_up_self _ _ _) (Cn := RX0) (T := TX0) (Nk := 13) rfl (fun x hx => List.mem_cons_of_mem _ (uw_X0 x hx)) (ty0 := tyX0) tyX0_ok nmX0 (i := 4) (Nat.le_of_ble_eq_true rfl) (List.mem_cons_of_mem _ tg_1_70) rfl rfl (v := .ref (B + (o + 1))) rfl rfl (Nat.le_of_ble_eq_true rfl) (E' := va_up (mixE E (entX G B w0) o) o (.inr (0, [.int 0, .int 0, .int 0, .int 0, .ref (B + (o + 1)), .null, .null, .null, .null, .null, .null, .null, .null]))) up_up dX0_init_9 (fun H locs hG => ?_)
  refine lv_aload_n C.1 C.2.1 dX0_init_12 rfl (lv_at hl 0 rfl) ?_
  refine lv_bipush (v := nI 36) C.1 C.2.1 dX0_init_13 (by decide) ?_
  refine rc_newI C hG (n := 36) rfl (by omega) ((va_up_ne _ _ (by omega)).trans ((mixE_ge (by omega)).trans (ent0_I (kd_X0_2 ho) (by omega)))) (k' := 2) (n' := 72) rfl rfl (Nat.le_of_ble_eq_true rfl) (Nat.le_of_ble_eq_true rfl) dX0_init_15 (fun H hG => ?_)
  have hG : Gc s G A (o + 3) B (va_up (mixE E (entX G B w0) o) o (.inr (0, [.int 0, .int 0, .int 0, .int 0, .ref (B + (o + 1)), .null, .null, .null, .null, .null, .null, .null, .null]))) X H _ := hG
  refine rc_putF C hin2 hG (c0 := o) (by omega) (va_up_self _ _ _) (Cn := RX0) (T := TX0) (Nk := 13) rfl (fun x hx => List.mem_cons_of_mem _ (uw_X0 x hx)) (ty0 := tyX0) tyX0_ok nmX0 (i := 5) (Nat.le_of_ble_eq_true rfl) (List.mem_cons_of_mem _ tg_1_72) rfl rfl (v := .ref (B + (o + 2))) rfl rfl (Nat.le_of_ble_eq_true rfl) (E' := va_up (mixE E (entX G B w0) o) o (.inr (0, [.int 0, .int 0, .int 0, .int 0, .ref (B + (o + 1)), .ref (B + (o + 2)), .null, .null, .null, .null, .null, .null, .null]))) up_up dX0_init_17 (fun H locs hG => ?_)
  refine lv_aload_n C.1 C.2.1 dX0_init_20 rfl (lv_at hl 0 rfl) ?_
  refine lv_bipush (v := nI 36) C.1 C.2.1 dX0_init_21 (by decide) ?_
  refine rc_newI C hG (n := 36) rfl (by omega) ((va_up_ne _ _ (by omega)).trans ((mixE_ge (by omega)).trans (ent0_I (kd_X0_3 ho) (by omega)))) (k' := 3) (n' := 108) rfl rfl (Nat.le_of_ble_eq_true rfl) (Nat.le_of_ble_eq_true rfl) dX0_init_23 (fun H hG => ?_)
  have hG : Gc s G A (o + 4) B (va_up (mixE E (entX G B w0) o) o (.inr (0, [.int 0, .int 0, .int 0, .int 0, .ref (B + (o + 1)), .ref (B + (o + 2)), .null, .null, .null, .null, .null, .null, .null]))) X H _ := hG
  refine rc_putF C hin2 hG (c0 := o) (by omega) (va_up_self _ _ _) (Cn := RX0) (T := TX0) (Nk := 13) rfl (fun x hx => List.mem_cons_of_mem _ (uw_X0 x hx)) (ty0 := tyX0) tyX0_ok nmX0 (i := 6) (Nat.le_of_ble_eq_true rfl) (List.mem_cons_of_mem _ tg_1_74) rfl rfl (v := .ref (B + (o + 3))) rfl rfl (Nat.le_of_ble_eq_true rfl) (E' := va_up (mixE E (entX G B w0) o) o (.inr (0, [.int 0, .int 0, .int 0, .int 0, .ref (B + (o + 1)), .ref (B + (o + 2)), .ref (B + (o + 3)), .null, .null, .null, .null, .null, .null]))) up_up dX0_init_25 (fun H locs hG => ?_)
  refine lv_aload_n C.1 C.2.1 dX0_init_28 rfl (lv_at hl 0 rfl) ?_
  refine lv_bipush (v := nI 6) C.1 C.2.1 dX0_init_29 (by decide) ?_
  refine rc_newI C hG (n := 6) rfl (by omega) ((va_up_ne _ _ (by omega)).trans ((mixE_ge (by omega)).trans (ent0_I (kd_X0_4 ho) (by omega)))) (k' := 4) (n' := 114) rfl rfl (Nat.le_of_ble_eq_true rfl) (Nat.le_of_ble_eq_true rfl) dX0_init_31 (fun H hG => ?_)
  have hG : Gc s G A (o + 5) B (va_up (mixE E (entX G B w0) o) o (.inr (0, [.int 0, .int 0, .int 0, .int 0, .ref (B + (o + 1)), .ref (B + (o + 2)), .ref (B + (o + 3)), .null, .null, .null, .null, .null, .null]))) X H _ := hG
  refine rc_putF C hin2 hG (c0 := o) (by omega) (va_up_self _ _ _) (Cn := RX0) (T := TX0) (Nk := 13) rfl (fun x hx => List.mem_cons_of_mem _ (uw_X0 x hx)) (ty0 := tyX0) tyX0_ok nmX0 (i := 7) (Nat.le_of_ble_eq_true rfl) (List.mem_cons_of_mem _ tg_1_75) rfl rfl (v := .ref (B + (o + 4))) rfl rfl (Nat.le_of_ble_eq_true rfl) (E' := va_up (mixE E (entX G B w0) o) o (.inr (0, [.int 0, .int 0, .int 0, .int 0, .ref (B + (o + 1)), .ref (B + (o + 2)), .ref (B + (o + 3)), .ref (B + (o + 4)), .null, .null, .null, .null, .null]))) up_up dX0_init_33 (fun H locs hG => ?_)
  refine lv_aload_n C.1 C.2.1 dX0_init_36 rfl (lv_at hl 0 rfl) ?_
  refine lv_bipush (v := nI 6) C.1 C.2.1 dX0_init_37 (by decide) ?_
  refine rc_newI C hG (n := 6) rfl (by omega) ((va_up_ne _ _ (by omega)).trans ((mixE_ge (by omega)).trans (ent0_I (kd_X0_5 ho) (by omega)))) (k' := 5) (n' := 120) rfl rfl (Nat.le_of_ble_eq_true rfl) (Nat.le_of_ble_eq_true rfl) dX0_init_39 (fun H hG => ?_)
  have hG : Gc s G A (o + 6) B (va_up (mixE E (entX G B w0) o) o (.inr (0, [.int 0, .int 0, .int 0, .int 0, .ref (B + (o + 1)), .ref (B + (o + 2)), .ref (B + (o + 3)), .ref (B + (o + 4)), .null, .null, .null, .null, .null]))) X H _ := hG
  refine rc_putF C hin2 hG (c0 := o) (by omega) (va_up_self _ _ _) (Cn := RX0) (T := TX0) (Nk := 13) rfl (fun x hx => List.mem_cons_of_mem _ (uw_X0 x hx)) (ty0 := tyX0) tyX0_ok nmX0 (i := 8) (Nat.le_of_ble_eq_true rfl) (List.mem_cons_of_mem _ tg_1_78) rfl rfl (v := .ref (B + (o + 5))) rfl rfl (Nat.le_of_ble_eq_true rfl) (E' := va_up (mixE E (entX G B w0) o) o (.inr (0, [.int 0, .int 0, .int 0, .int 0, .ref (B + (o + 1)), .ref (B + (o + 2)), .ref (B + (o + 3)), .ref (B + (o + 4)), .ref (B + (o + 5)), .null, .null, .null, .null]))) up_up dX0_init_41 (fun H locs hG => ?_)
  refine lv_aload_n C.1 C.2.1 dX0_init_44 rfl (lv_at hl 0 rfl) ?_
  refine lv_bipush (v := nI 6) C.1 C.2.1 dX0_init_45 (by decide) ?_
  refine rc_newI C hG (n := 6) rfl (by omega) ((va_up_ne _ _ (by omega)).trans ((mixE_ge (by omega)).trans (ent0_I (kd_X0_6 ho) (by omega)))) (k' := 6) (n' := 126) rfl rfl (Nat.le_of_ble_eq_true rfl) (Nat.le_of_ble_eq_true rfl) dX0_init_47 (fun H hG => ?_)
  have hG : Gc s G A (o + 7) B (va_up (mixE E (entX G B w0) o) o (.inr (0, [.int 0, .int 0, .int 0, .int 0, .ref (B + (o + 1)), .ref (B + (o + 2)), .ref (B + (o + 3)), .ref (B + (o + 4)), .ref (B + (o + 5)), .null, .null, .null, .null]))) X H _ := hG
  refine rc_putF C hin2 hG (c0 := o) (by omega) (va_up_self _ _ _) (Cn := RX0) (T := TX0) (Nk := 13) rfl (fun x hx => List.mem_cons_of_mem _ (uw_X0 x hx)) (ty0 := tyX0) tyX0_ok nmX0 (i := 9) (Nat.le_of_ble_eq_true rfl) (List.mem_cons_of_mem _ tg_1_81) rfl rfl (v := .ref (B + (o + 6))) rfl rfl (Nat.le_of_ble_eq_true rfl) (E' := va_up (mixE E (entX G B w0) o) o (.inr (0, [.int 0, .int 0, .int 0, .int 0, .ref (B + (o + 1)), .ref (B + (o + 2)), .ref (B + (o + 3)), .ref (B + (o + 4)), .ref (B + (o + 5)), .ref (B + (o + 6)), .null, .null, .null]))) up_up dX0_init_49 (fun H locs hG => ?_)
  refine lv_aload_n C.1 C.2.1 dX0_init_52 rfl (lv_at hl 0 rfl) ?_
  refine lv_bipush (v := nI 6) C.1 C.2.1 dX0_init_53 (by decide) ?_
  refine rc_newI C hG (n := 6) rfl (by omega) ((va_up_ne _ _ (by omega)).trans ((mixE_ge (by omega)).trans (ent0_I (kd_X0_7 ho) (by omega)))) (k' := 7) (n' := 132) rfl rfl (Nat.le_of_ble_eq_true rfl) (Nat.le_of_ble_eq_true rfl) dX0_init_55 (fun H hG => ?_)
  have hG : Gc s G A (o + 8) B (va_up (mixE E (entX G B w0) o) o (.inr (0, [.int 0, .int 0, .int 0, .int 0, .ref (B + (o + 1)), .ref (B + (o + 2)), .ref (B + (o + 3)), .ref (B + (o + 4)), .ref (B + (o + 5)), .ref (B + (o + 6)), .null, .null, .null]))) X H _ := hG
  refine rc_putF C hin2 hG (c0 := o) (by omega) (va_up_self _ _ _) (Cn := RX0) (T := TX0) (Nk := 13) rfl (fun x hx => List.mem_cons_of_mem _ (uw_X0 x hx)) (ty0 := tyX0) tyX0_ok nmX0 (i := 10) (Nat.le_of_ble_eq_true rfl) (List.mem_cons_of_mem _ tg_1_84) rfl rfl (v := .ref (B + (o + 7))) rfl rfl (Nat.le_of_ble_eq_true rfl) (E' := va_up (mixE E (entX G B w0) o) o (.inr (0, [.int 0, .int 0, .int 0, .int 0, .ref (B + (o + 1)), .ref (B + (o + 2)), .ref (B + (o + 3)), .ref (B + (o + 4)), .ref (B + (o + 5)), .ref (B + (o + 6)), .ref (B + (o + 7)), .null, .null]))) up_up dX0_init_57 (fun H locs hG => ?_)
  refine lv_aload_n C.1 C.2.1 dX0_init_60 rfl (lv_at hl 0 rfl) ?_
  refine lv_bipush (v := nI 6) C.1 C.2.1 dX0_init_61 (by decide) ?_
  refine rc_newI C hG (n := 6) rfl (by omega) ((va_up_ne _ _ (by omega)).trans ((mixE_ge (by omega)).trans (ent0_I (kd_X0_8 ho) (by omega)))) (k' := 8) (n' := 138) rfl rfl (Nat.le_of_ble_eq_true rfl) (Nat.le_of_ble_eq_true rfl) dX0_init_63 (fun H hG => ?_)
  have hG : Gc s G A (o + 9) B (va_up (mixE E (entX G B w0) o) o (.inr (0, [.int 0, .int 0, .int 0, .int 0, .ref (B + (o + 1)), .ref (B + (o + 2)), .ref (B + (o + 3)), .ref (B + (o + 4)), .ref (B + (o + 5)), .ref (B + (o + 6)), .ref (B + (o + 7)), .null, .null]))) X H _ := hG
  refine rc_putM C hG (c0 := o) (by omega) (va_up_self _ _ _) (Cn := RX0) (T := TX0) (Nk := 13) rfl (fun x hx => List.mem_cons_of_mem _ (uw_X0 x hx)) (ty0 := tyX0) tyX0_ok nmX0 (i := 11) (Nat.le_of_ble_eq_true rfl) (List.mem_cons_of_mem _ tg_1_87) rfl (v := .ref (B + (o + 8))) rfl rfl (Nat.le_of_ble_eq_true rfl) (E' := va_up (mixE E (entX G B w0) o) o (.inr (0, [.int 0, .int 0, .int 0, .int 0, .ref (B + (o + 1)), .ref (B + (o + 2)), .ref (B + (o + 3)), .ref (B + (o + 4)), .ref (B + (o + 5)), .ref (B + (o + 6)), .ref (B + (o + 7)), .ref (B + (o + 8)), .null]))) up_up dX0_init_65 (fun H locs hG => ?_)
  refine lv_aload_n C.1 C.2.1 dX0_init_68 rfl (lv_at hl 0 rfl) ?_
  refine lv_bipush (v := nI 6) C.1 C.2.1 dX0_init_69 (by decide) ?_
  refine rc_newI C hG (n := 6) rfl (by omega) ((va_up_ne _ _ (by omega)).trans ((mixE_ge (by omega)).trans (ent0_I (kd_X0_9 ho) (by omega)))) (k' := 9) (n' := 144) rfl rfl (Nat.le_of_ble_eq_true rfl) (Nat.le_of_ble_eq_true rfl) dX0_init_71 (fun H hG => ?_)
  have hG : Gc s G A (o + 10) B (va_up (mixE E (entX G B w0) o) o (.inr (0, [.int 0, .int 0, .int 0, .int 0, .ref (B + (o + 1)), .ref (B + (o + 2)), .ref (B + (o + 3)), .ref (B + (o + 4)), .ref (B + (o + 5)), .ref (B + (o + 6)), .ref (B + (o + 7)), .ref (B + (o + 8)), .null]))) X H _ := hG
  refine rc_putM C hG (c0 := o) (by omega) (va_up_self _ _ _) (Cn := RX0) (T := TX0) (Nk := 13) rfl (fun x hx => List.mem_cons_of_mem _ (uw_X0 x hx)) (ty0 := tyX0) tyX0_ok nmX0 (i := 12) (Nat.le_of_ble_eq_true rfl) (List.mem_cons_of_mem _ tg_1_88) rfl (v := .ref (B + (o + 9))) rfl rfl (Nat.le_of_ble_eq_true rfl) (E' := va_up (mixE E (entX G B w0) o) o (.inr (0, [.int 0, .int 0, .int 0, .int 0, .ref (B + (o + 1)), .ref (B + (o + 2)), .ref (B + (o + 3)), .ref (B + (o + 4)), .ref (B + (o + 5)), .ref (B + (o + 6)), .ref (B + (o + 7)), .ref (B + (o + 8)), .ref (B + (o + 9))]))) up_up dX0_init_73 (fun H locs hG => ?_)
  exact rc_ret C hG (fun c _ => congrFun (up_id ((mixE_ge (Nat.le_refl _)).trans ((entX_O0 ho).trans (by rw [fs0_X0 (by omega)])))) c) dX0_init_76
abbrev wcI_X2 : List Cond := Cond.code yX2_init cX2_init 1 none :: TG
abbrev rmI_X2 : Room := { frames := 1, cells := 6, slots := 123, locals := 20 }
theorem dX2_init_0 : decode cX2_init 0 = .ok (.aload_n 0, 1) := by decide +kernel
theorem dX2_init_1 : decode cX2_init 1 = .ok (.invokespecial 3, 3) := by decide +kernel
theorem dX2_init_4 : decode cX2_init 4 = .ok (.aload_n 0, 1) := by decide +kernel
theorem dX2_init_5 : decode cX2_init 5 = .ok (.bipush 24, 2) := by decide +kernel
theorem dX2_init_7 : decode cX2_init 7 = .ok (.newarray .int, 2) := by decide +kernel
theorem dX2_init_9 : decode cX2_init 9 = .ok (.putfield 9, 3) := by decide +kernel
theorem dX2_init_12 : decode cX2_init 12 = .ok (.aload_n 0, 1) := by decide +kernel
theorem dX2_init_13 : decode cX2_init 13 = .ok (.bipush 24, 2) := by decide +kernel
theorem dX2_init_15 : decode cX2_init 15 = .ok (.newarray .int, 2) := by decide +kernel
theorem dX2_init_17 : decode cX2_init 17 = .ok (.putfield 15, 3) := by decide +kernel
theorem dX2_init_20 : decode cX2_init 20 = .ok (.aload_n 0, 1) := by decide +kernel
theorem dX2_init_21 : decode cX2_init 21 = .ok (.bipush 24, 2) := by decide +kernel
theorem dX2_init_23 : decode cX2_init 23 = .ok (.newarray .boolean, 2) := by decide +kernel
theorem dX2_init_25 : decode cX2_init 25 = .ok (.putfield 18, 3) := by decide +kernel
theorem dX2_init_28 : decode cX2_init 28 = .ok (.aload_n 0, 1) := by decide +kernel
theorem dX2_init_29 : decode cX2_init 29 = .ok (.iconst 3, 1) := by decide +kernel
theorem dX2_init_30 : decode cX2_init 30 = .ok (.newarray .int, 2) := by decide +kernel
theorem dX2_init_32 : decode cX2_init 32 = .ok (.putfield 22, 3) := by decide +kernel
theorem dX2_init_35 : decode cX2_init 35 = .ok (.aload_n 0, 1) := by decide +kernel
theorem dX2_init_36 : decode cX2_init 36 = .ok (.bipush 24, 2) := by decide +kernel
theorem dX2_init_38 : decode cX2_init 38 = .ok (.newarray .boolean, 2) := by decide +kernel
theorem dX2_init_40 : decode cX2_init 40 = .ok (.putfield 25, 3) := by decide +kernel
theorem dX2_init_43 : decode cX2_init 43 = .ok (.aload_n 0, 1) := by decide +kernel
theorem dX2_init_44 : decode cX2_init 44 = .ok (.bipush 24, 2) := by decide +kernel
theorem dX2_init_46 : decode cX2_init 46 = .ok (.newarray .boolean, 2) := by decide +kernel
theorem dX2_init_48 : decode cX2_init 48 = .ok (.putfield 28, 3) := by decide +kernel
theorem dX2_init_51 : decode cX2_init 51 = .ok (.return_, 1) := by decide +kernel
theorem no117_X2 : ∀ o, o < 153 → KDx o = (2, 8) → o + 6 < 117 ∨ 117 < o := by decide +kernel
theorem kd_X2_1 {o : Nat} (ho : KDx o = (2, 8)) : KDx (o + 1) = (10, 24) := (show ∀ o, o < 153 → KDx o = (2, 8) → KDx (o + 1) = (10, 24) from by decide +kernel) o (kdx_lt ho (by decide)) ho
theorem kd_X2_2 {o : Nat} (ho : KDx o = (2, 8)) : KDx (o + 2) = (10, 24) := (show ∀ o, o < 153 → KDx o = (2, 8) → KDx (o + 2) = (10, 24) from by decide +kernel) o (kdx_lt ho (by decide)) ho
theorem kd_X2_3 {o : Nat} (ho : KDx o = (2, 8)) : KDx (o + 3) = (11, 24) := (show ∀ o, o < 153 → KDx o = (2, 8) → KDx (o + 3) = (11, 24) from by decide +kernel) o (kdx_lt ho (by decide)) ho
theorem kd_X2_4 {o : Nat} (ho : KDx o = (2, 8)) : KDx (o + 4) = (10, 3) := (show ∀ o, o < 153 → KDx o = (2, 8) → KDx (o + 4) = (10, 3) from by decide +kernel) o (kdx_lt ho (by decide)) ho
theorem kd_X2_5 {o : Nat} (ho : KDx o = (2, 8)) : KDx (o + 5) = (11, 24) := (show ∀ o, o < 153 → KDx o = (2, 8) → KDx (o + 5) = (11, 24) from by decide +kernel) o (kdx_lt ho (by decide)) ho
theorem kd_X2_6 {o : Nat} (ho : KDx o = (2, 8)) : KDx (o + 6) = (11, 24) := (show ∀ o, o < 153 → KDx o = (2, 8) → KDx (o + 6) = (11, 24) from by decide +kernel) o (kdx_lt ho (by decide)) ho
theorem fs0_X2 {B o : Nat} (h : o ≠ 117) : fsX B w0 2 o = [.int 0, .int 0, .ref (B + (o + 1)), .ref (B + (o + 2)), .ref (B + (o + 3)), .ref (B + (o + 4)), .ref (B + (o + 5)), .ref (B + (o + 6))] := by simp [fsX, w0, h]
set_option maxRecDepth 100000 in
theorem ci_X2 (l : Launch) {G : GG} {A : Nat → Prop} {B : Nat} {E : Nat → va_E} {X : va_W} {o : Nat} (ho : KDx o = (2, 8)) (hE : E o = .inr (2, [.int 0, .int 0, .null, .null, .null, .null, .null, .null])) : MetI l yX2_init wcI_X2 rmI_X2 G A B X [.ref (B + o)] (o + 1) E (o + 7) (mixE E (entX G B w0) o) 6 123 := by
  refine Met.ofW (cc := cX2_init) (maxL := 1) (ret := none) (by decide) rfl ?_
  intro p e s m args below meth c s₁ B0 hml hv
  obtain ⟨rfl, ⟨hEv, hWd⟩, hO, hN, hA⟩ := hv
  have C : CX p s m _ meth c cX2_init 1 RX2 wcI_X2 none := ⟨B0.exec, B0.bytes, hml, findClass_of_methodNamed B0.named, atoms_spec (ws := wcI_X2) B0.pre, B0.returns, B0.notSynchronized⟩
  have hin2 : meth.name = "<init>" := (name_of_methodNamed B0.named B0.method).1
  have hl := lv_entry [.ref (B + o)] (n := 1) (Nat.le_of_ble_eq_true rfl)
  rw [lg_entry_eq]
  generalize (lg_sl [.ref (B + o)] ++ List.replicate (1 - (lg_sl [.ref (B + o)]).length) Slot.unset).toArray = ls at hl ⊢
  have hl : lv_has ls 1 [(0, .ref (B + o))] := hl
  have h117 := no117_X2 o (kdx_lt ho (by decide)) ho
  have hG : Gc s G A (o + 1) B (va_up (mixE E (entX G B w0) o) o (.inr (2, [.int 0, .int 0, .null, .null, .null, .null, .null, .null]))) X s.heap [] := Gc.congr ⟨⟨⟨hEv, hWd, va_S.rf⟩, hO⟩, hN, hA⟩ (mix_start hE)
  refine lv_aload_n C.1 C.2.1 dX2_init_0 rfl (lv_at hl 0 rfl) ?_
  refine rc_obj C hl.1 (List.mem_cons_of_mem _ tg_1_195) (List.mem_cons_of_mem _ tg_1_20) (List.mem_cons_of_mem _ tg_1_21) (Nat.le_of_ble_eq_true rfl) (Nat.le_of_ble_eq_true rfl) dX2_init_1 ?_
  refine lv_aload_n C.1 C.2.1 dX2_init_4 rfl (lv_at hl 0 rfl) ?_
  refine lv_bipush (v := nI 24) C.1 C.2.1 dX2_init_5 (by decide) ?_
  refine rc_newI C hG (n := 24) rfl (by omega) ((va_up_ne _ _ (by omega)).trans ((mixE_ge (by omega)).trans (ent0_I (kd_X2_1 ho) (by omega)))) (k' := 1) (n' := 24) rfl rfl (Nat.le_of_ble_eq_true rfl) (Nat.le_of_ble_eq_true rfl) dX2_init_7 (fun H hG => ?_)
  have hG : Gc s G A (o + 2) B (va_up (mixE E (entX G B w0) o) o (.inr (2, [.int 0, .int 0, .null, .null, .null, .null, .null, .null]))) X H _ := hG
  refine rc_putF C hin2 hG (c0 := o) (by omega) (va_up_self _ _ _) (Cn := RX2) (T := TX2) (Nk := 8) rfl (fun x hx => List.mem_cons_of_mem _ (uw_X2 x hx)) (ty0 := tyX2) tyX2_ok nmX2 (i := 2) (Nat.le_of_ble_eq_true rfl) (List.mem_cons_of_mem _ tg_1_199) rfl rfl (v := .ref (B + (o + 1))) rfl rfl (Nat.le_of_ble_eq_true rfl) (E' := va_up (mixE E (entX G B w0) o) o (.inr (2, [.int 0, .int 0, .ref (B + (o + 1)), .null, .null, .null, .null, .null]))) up_up dX2_init_9 (fun H locs hG => ?_)
  refine lv_aload_n C.1 C.2.1 dX2_init_12 rfl (lv_at hl 0 rfl) ?_
  refine lv_bipush (v := nI 24) C.1 C.2.1 dX2_init_13 (by decide) ?_
  refine rc_newI C hG (n := 24) rfl (by omega) ((va_up_ne _ _ (by omega)).trans ((mixE_ge (by omega)).trans (ent0_I (kd_X2_2 ho) (by omega)))) (k' := 2) (n' := 48) rfl rfl (Nat.le_of_ble_eq_true rfl) (Nat.le_of_ble_eq_true rfl) dX2_init_15 (fun H hG => ?_)
  have hG : Gc s G A (o + 3) B (va_up (mixE E (entX G B w0) o) o (.inr (2, [.int 0, .int 0, .ref (B + (o + 1)), .null, .null, .null, .null, .null]))) X H _ := hG
  refine rc_putF C hin2 hG (c0 := o) (by omega) (va_up_self _ _ _) (Cn := RX2) (T := TX2) (Nk := 8) rfl (fun x hx => List.mem_cons_of_mem _ (uw_X2 x hx)) (ty0 := tyX2) tyX2_ok nmX2 (i := 3) (Nat.le_of_ble_eq_true rfl) (List.mem_cons_of_mem _ tg_1_201) rfl rfl (v := .ref (B + (o + 2))) rfl rfl (Nat.le_of_ble_eq_true rfl) (E' := va_up (mixE E (entX G B w0) o) o (.inr (2, [.int 0, .int 0, .ref (B + (o + 1)), .ref (B + (o + 2)), .null, .null, .null, .null]))) up_up dX2_init_17 (fun H locs hG => ?_)
  refine lv_aload_n C.1 C.2.1 dX2_init_20 rfl (lv_at hl 0 rfl) ?_
  refine lv_bipush (v := nI 24) C.1 C.2.1 dX2_init_21 (by decide) ?_
  refine rc_newZ C hG (n := 24) rfl (by omega) ((va_up_ne _ _ (by omega)).trans ((mixE_ge (by omega)).trans (ent0_Z (kd_X2_3 ho) (by omega)))) (k' := 3) (n' := 72) rfl rfl (Nat.le_of_ble_eq_true rfl) (Nat.le_of_ble_eq_true rfl) dX2_init_23 (fun H hG => ?_)
  have hG : Gc s G A (o + 4) B (va_up (mixE E (entX G B w0) o) o (.inr (2, [.int 0, .int 0, .ref (B + (o + 1)), .ref (B + (o + 2)), .null, .null, .null, .null]))) X H _ := hG
  refine rc_putF C hin2 hG (c0 := o) (by omega) (va_up_self _ _ _) (Cn := RX2) (T := TX2) (Nk := 8) rfl (fun x hx => List.mem_cons_of_mem _ (uw_X2 x hx)) (ty0 := tyX2) tyX2_ok nmX2 (i := 4) (Nat.le_of_ble_eq_true rfl) (List.mem_cons_of_mem _ tg_1_203) rfl rfl (v := .ref (B + (o + 3))) rfl rfl (Nat.le_of_ble_eq_true rfl) (E' := va_up (mixE E (entX G B w0) o) o (.inr (2, [.int 0, .int 0, .ref (B + (o + 1)), .ref (B + (o + 2)), .ref (B + (o + 3)), .null, .null, .null]))) up_up dX2_init_25 (fun H locs hG => ?_)
  refine lv_aload_n C.1 C.2.1 dX2_init_28 rfl (lv_at hl 0 rfl) ?_
  refine lv_iconst (v := nI 3) C.1 C.2.1 dX2_init_29 (by decide) ?_
  refine rc_newI C hG (n := 3) rfl (by omega) ((va_up_ne _ _ (by omega)).trans ((mixE_ge (by omega)).trans (ent0_I (kd_X2_4 ho) (by omega)))) (k' := 4) (n' := 75) rfl rfl (Nat.le_of_ble_eq_true rfl) (Nat.le_of_ble_eq_true rfl) dX2_init_30 (fun H hG => ?_)
  have hG : Gc s G A (o + 5) B (va_up (mixE E (entX G B w0) o) o (.inr (2, [.int 0, .int 0, .ref (B + (o + 1)), .ref (B + (o + 2)), .ref (B + (o + 3)), .null, .null, .null]))) X H _ := hG
  refine rc_putF C hin2 hG (c0 := o) (by omega) (va_up_self _ _ _) (Cn := RX2) (T := TX2) (Nk := 8) rfl (fun x hx => List.mem_cons_of_mem _ (uw_X2 x hx)) (ty0 := tyX2) tyX2_ok nmX2 (i := 5) (Nat.le_of_ble_eq_true rfl) (List.mem_cons_of_mem _ tg_1_205) rfl rfl (v := .ref (B + (o + 4))) rfl rfl (Nat.le_of_ble_eq_true rfl) (E' := va_up (mixE E (entX G B w0) o) o (.inr (2, [.int 0, .int 0, .ref (B + (o + 1)), .ref (B + (o + 2)), .ref (B + (o + 3)), .ref (B + (o + 4)), .null, .null]))) up_up dX2_init_32 (fun H locs hG => ?_)
  refine lv_aload_n C.1 C.2.1 dX2_init_35 rfl (lv_at hl 0 rfl) ?_
  refine lv_bipush (v := nI 24) C.1 C.2.1 dX2_init_36 (by decide) ?_
  refine rc_newZ C hG (n := 24) rfl (by omega) ((va_up_ne _ _ (by omega)).trans ((mixE_ge (by omega)).trans (ent0_Z (kd_X2_5 ho) (by omega)))) (k' := 5) (n' := 99) rfl rfl (Nat.le_of_ble_eq_true rfl) (Nat.le_of_ble_eq_true rfl) dX2_init_38 (fun H hG => ?_)
  have hG : Gc s G A (o + 6) B (va_up (mixE E (entX G B w0) o) o (.inr (2, [.int 0, .int 0, .ref (B + (o + 1)), .ref (B + (o + 2)), .ref (B + (o + 3)), .ref (B + (o + 4)), .null, .null]))) X H _ := hG
  refine rc_putF C hin2 hG (c0 := o) (by omega) (va_up_self _ _ _) (Cn := RX2) (T := TX2) (Nk := 8) rfl (fun x hx => List.mem_cons_of_mem _ (uw_X2 x hx)) (ty0 := tyX2) tyX2_ok nmX2 (i := 6) (Nat.le_of_ble_eq_true rfl) (List.mem_cons_of_mem _ tg_1_207) rfl rfl (v := .ref (B + (o + 5))) rfl rfl (Nat.le_of_ble_eq_true rfl) (E' := va_up (mixE E (entX G B w0) o) o (.inr (2, [.int 0, .int 0, .ref (B + (o + 1)), .ref (B + (o + 2)), .ref (B + (o + 3)), .ref (B + (o + 4)), .ref (B + (o + 5)), .null]))) up_up dX2_init_40 (fun H locs hG => ?_)
  refine lv_aload_n C.1 C.2.1 dX2_init_43 rfl (lv_at hl 0 rfl) ?_
  refine lv_bipush (v := nI 24) C.1 C.2.1 dX2_init_44 (by decide) ?_
  refine rc_newZ C hG (n := 24) rfl (by omega) ((va_up_ne _ _ (by omega)).trans ((mixE_ge (by omega)).trans (ent0_Z (kd_X2_6 ho) (by omega)))) (k' := 6) (n' := 123) rfl rfl (Nat.le_of_ble_eq_true rfl) (Nat.le_of_ble_eq_true rfl) dX2_init_46 (fun H hG => ?_)
  have hG : Gc s G A (o + 7) B (va_up (mixE E (entX G B w0) o) o (.inr (2, [.int 0, .int 0, .ref (B + (o + 1)), .ref (B + (o + 2)), .ref (B + (o + 3)), .ref (B + (o + 4)), .ref (B + (o + 5)), .null]))) X H _ := hG
  refine rc_putF C hin2 hG (c0 := o) (by omega) (va_up_self _ _ _) (Cn := RX2) (T := TX2) (Nk := 8) rfl (fun x hx => List.mem_cons_of_mem _ (uw_X2 x hx)) (ty0 := tyX2) tyX2_ok nmX2 (i := 7) (Nat.le_of_ble_eq_true rfl) (List.mem_cons_of_mem _ tg_1_208) rfl rfl (v := .ref (B + (o + 6))) rfl rfl (Nat.le_of_ble_eq_true rfl) (E' := va_up (mixE E (entX G B w0) o) o (.inr (2, [.int 0, .int 0, .ref (B + (o + 1)), .ref (B + (o + 2)), .ref (B + (o + 3)), .ref (B + (o + 4)), .ref (B + (o + 5)), .ref (B + (o + 6))]))) up_up dX2_init_48 (fun H locs hG => ?_)
  exact rc_ret C hG (fun c _ => congrFun (up_id ((mixE_ge (Nat.le_refl _)).trans ((entX_O2 ho).trans (by rw [fs0_X2 (by omega)])))) c) dX2_init_51
abbrev wcI_X3 : List Cond := Cond.code yX3_init cX3_init 1 none :: TG
abbrev rmI_X3 : Room := { frames := 1, cells := 2, slots := 16, locals := 20 }
theorem dX3_init_0 : decode cX3_init 0 = .ok (.aload_n 0, 1) := by decide +kernel
theorem dX3_init_1 : decode cX3_init 1 = .ok (.invokespecial 3, 3) := by decide +kernel
theorem dX3_init_4 : decode cX3_init 4 = .ok (.aload_n 0, 1) := by decide +kernel
theorem dX3_init_5 : decode cX3_init 5 = .ok (.bipush 8, 2) := by decide +kernel
theorem dX3_init_7 : decode cX3_init 7 = .ok (.newarray .int, 2) := by decide +kernel
theorem dX3_init_9 : decode cX3_init 9 = .ok (.putfield 9, 3) := by decide +kernel
theorem dX3_init_12 : decode cX3_init 12 = .ok (.aload_n 0, 1) := by decide +kernel
theorem dX3_init_13 : decode cX3_init 13 = .ok (.bipush 8, 2) := by decide +kernel
theorem dX3_init_15 : decode cX3_init 15 = .ok (.newarray .int, 2) := by decide +kernel
theorem dX3_init_17 : decode cX3_init 17 = .ok (.putfield 15, 3) := by decide +kernel
theorem dX3_init_20 : decode cX3_init 20 = .ok (.return_, 1) := by decide +kernel
theorem no117_X3 : ∀ o, o < 153 → KDx o = (3, 3) → o + 2 < 117 ∨ 117 < o := by decide +kernel
theorem kd_X3_1 {o : Nat} (ho : KDx o = (3, 3)) : KDx (o + 1) = (10, 8) := (show ∀ o, o < 153 → KDx o = (3, 3) → KDx (o + 1) = (10, 8) from by decide +kernel) o (kdx_lt ho (by decide)) ho
theorem kd_X3_2 {o : Nat} (ho : KDx o = (3, 3)) : KDx (o + 2) = (10, 8) := (show ∀ o, o < 153 → KDx o = (3, 3) → KDx (o + 2) = (10, 8) from by decide +kernel) o (kdx_lt ho (by decide)) ho
theorem fs0_X3 {B o : Nat} (h : o ≠ 117) : fsX B w0 3 o = [.ref (B + (o + 1)), .ref (B + (o + 2)), .int 0] := by simp [fsX, w0, h]
set_option maxRecDepth 100000 in
theorem ci_X3 (l : Launch) {G : GG} {A : Nat → Prop} {B : Nat} {E : Nat → va_E} {X : va_W} {o : Nat} (ho : KDx o = (3, 3)) (hE : E o = .inr (3, [.null, .null, .int 0])) : MetI l yX3_init wcI_X3 rmI_X3 G A B X [.ref (B + o)] (o + 1) E (o + 3) (mixE E (entX G B w0) o) 2 16 := by
  refine Met.ofW (cc := cX3_init) (maxL := 1) (ret := none) (by decide) rfl ?_
  intro p e s m args below meth c s₁ B0 hml hv
  obtain ⟨rfl, ⟨hEv, hWd⟩, hO, hN, hA⟩ := hv
  have C : CX p s m _ meth c cX3_init 1 RX3 wcI_X3 none := ⟨B0.exec, B0.bytes, hml, findClass_of_methodNamed B0.named, atoms_spec (ws := wcI_X3) B0.pre, B0.returns, B0.notSynchronized⟩
  have hin2 : meth.name = "<init>" := (name_of_methodNamed B0.named B0.method).1
  have hl := lv_entry [.ref (B + o)] (n := 1) (Nat.le_of_ble_eq_true rfl)
  rw [lg_entry_eq]
  generalize (lg_sl [.ref (B + o)] ++ List.replicate (1 - (lg_sl [.ref (B + o)]).length) Slot.unset).toArray = ls at hl ⊢
  have hl : lv_has ls 1 [(0, .ref (B + o))] := hl
  have h117 := no117_X3 o (kdx_lt ho (by decide)) ho
  have hG : Gc s G A (o + 1) B (va_up (mixE E (entX G B w0) o) o (.inr (3, [.null, .null, .int 0]))) X s.heap [] := Gc.congr ⟨⟨⟨hEv, hWd, va_S.rf⟩, hO⟩, hN, hA⟩ (mix_start hE)
  refine lv_aload_n C.1 C.2.1 dX3_init_0 rfl (lv_at hl 0 rfl) ?_
  refine rc_obj C hl.1 (List.mem_cons_of_mem _ tg_1_37) (List.mem_cons_of_mem _ tg_1_20) (List.mem_cons_of_mem _ tg_1_21) (Nat.le_of_ble_eq_true rfl) (Nat.le_of_ble_eq_true rfl) dX3_init_1 ?_
  refine lv_aload_n C.1 C.2.1 dX3_init_4 rfl (lv_at hl 0 rfl) ?_
  refine lv_bipush (v := nI 8) C.1 C.2.1 dX3_init_5 (by decide) ?_
  refine rc_newI C hG (n := 8) rfl (by omega) ((va_up_ne _ _ (by omega)).trans ((mixE_ge (by omega)).trans (ent0_I (kd_X3_1 ho) (by omega)))) (k' := 1) (n' := 8) rfl rfl (Nat.le_of_ble_eq_true rfl) (Nat.le_of_ble_eq_true rfl) dX3_init_7 (fun H hG => ?_)
  have hG : Gc s G A (o + 2) B (va_up (mixE E (entX G B w0) o) o (.inr (3, [.null, .null, .int 0]))) X H _ := hG
  refine rc_putF C hin2 hG (c0 := o) (by omega) (va_up_self _ _ _) (Cn := RX3) (T := TX3) (Nk := 3) rfl (fun x hx => List.mem_cons_of_mem _ (uw_X3 x hx)) (ty0 := tyX3) tyX3_ok nmX3 (i := 0) (Nat.le_of_ble_eq_true rfl) (List.mem_cons_of_mem _ tg_1_38) rfl rfl (v := .ref (B + (o + 1))) rfl rfl (Nat.le_of_ble_eq_true rfl) (E' := va_up (mixE E (entX G B w0) o) o (.inr (3, [.ref (B + (o + 1)), .null, .int 0]))) up_up dX3_init_9 (fun H locs hG => ?_)
  refine lv_aload_n C.1 C.2.1 dX3_init_12 rfl (lv_at hl 0 rfl) ?_
  refine lv_bipush (v := nI 8) C.1 C.2.1 dX3_init_13 (by decide) ?_
  refine rc_newI C hG (n := 8) rfl (by omega) ((va_up_ne _ _ (by omega)).trans ((mixE_ge (by omega)).trans (ent0_I (kd_X3_2 ho) (by omega)))) (k' := 2) (n' := 16) rfl rfl (Nat.le_of_ble_eq_true rfl) (Nat.le_of_ble_eq_true rfl) dX3_init_15 (fun H hG => ?_)
  have hG : Gc s G A (o + 3) B (va_up (mixE E (entX G B w0) o) o (.inr (3, [.ref (B + (o + 1)), .null, .int 0]))) X H _ := hG
  refine rc_putF C hin2 hG (c0 := o) (by omega) (va_up_self _ _ _) (Cn := RX3) (T := TX3) (Nk := 3) rfl (fun x hx => List.mem_cons_of_mem _ (uw_X3 x hx)) (ty0 := tyX3) tyX3_ok nmX3 (i := 1) (Nat.le_of_ble_eq_true rfl) (List.mem_cons_of_mem _ tg_1_40) rfl rfl (v := .ref (B + (o + 2))) rfl rfl (Nat.le_of_ble_eq_true rfl) (E' := va_up (mixE E (entX G B w0) o) o (.inr (3, [.ref (B + (o + 1)), .ref (B + (o + 2)), .int 0]))) up_up dX3_init_17 (fun H locs hG => ?_)
  exact rc_ret C hG (fun c _ => congrFun (up_id ((mixE_ge (Nat.le_refl _)).trans ((entX_O3 ho).trans (by rw [fs0_X3 (by omega)])))) c) dX3_init_20
abbrev wcI_X5 : List Cond := Cond.code yX5_init cX5_init 1 none :: TG
abbrev rmI_X5 : Room := { frames := 1, cells := 3, slots := 436, locals := 20 }
theorem dX5_init_0 : decode cX5_init 0 = .ok (.aload_n 0, 1) := by decide +kernel
theorem dX5_init_1 : decode cX5_init 1 = .ok (.invokespecial 3, 3) := by decide +kernel
theorem dX5_init_4 : decode cX5_init 4 = .ok (.aload_n 0, 1) := by decide +kernel
theorem dX5_init_5 : decode cX5_init 5 = .ok (.sipush 216, 3) := by decide +kernel
theorem dX5_init_8 : decode cX5_init 8 = .ok (.newarray .int, 2) := by decide +kernel
theorem dX5_init_10 : decode cX5_init 10 = .ok (.putfield 9, 3) := by decide +kernel
theorem dX5_init_13 : decode cX5_init 13 = .ok (.aload_n 0, 1) := by decide +kernel
theorem dX5_init_14 : decode cX5_init 14 = .ok (.sipush 216, 3) := by decide +kernel
theorem dX5_init_17 : decode cX5_init 17 = .ok (.newarray .int, 2) := by decide +kernel
theorem dX5_init_19 : decode cX5_init 19 = .ok (.putfield 15, 3) := by decide +kernel
theorem dX5_init_22 : decode cX5_init 22 = .ok (.aload_n 0, 1) := by decide +kernel
theorem dX5_init_23 : decode cX5_init 23 = .ok (.iconst 4, 1) := by decide +kernel
theorem dX5_init_24 : decode cX5_init 24 = .ok (.newarray .int, 2) := by decide +kernel
theorem dX5_init_26 : decode cX5_init 26 = .ok (.putfield 18, 3) := by decide +kernel
theorem dX5_init_29 : decode cX5_init 29 = .ok (.return_, 1) := by decide +kernel
theorem no117_X5 : ∀ o, o < 153 → KDx o = (5, 5) → o + 3 < 117 ∨ 117 < o := by decide +kernel
theorem kd_X5_1 {o : Nat} (ho : KDx o = (5, 5)) : KDx (o + 1) = (10, 216) := (show ∀ o, o < 153 → KDx o = (5, 5) → KDx (o + 1) = (10, 216) from by decide +kernel) o (kdx_lt ho (by decide)) ho
theorem kd_X5_2 {o : Nat} (ho : KDx o = (5, 5)) : KDx (o + 2) = (10, 216) := (show ∀ o, o < 153 → KDx o = (5, 5) → KDx (o + 2) = (10, 216) from by decide +kernel) o (kdx_lt ho (by decide)) ho
theorem kd_X5_3 {o : Nat} (ho : KDx o = (5, 5)) : KDx (o + 3) = (10, 4) := (show ∀ o, o < 153 → KDx o = (5, 5) → KDx (o + 3) = (10, 4) from by decide +kernel) o (kdx_lt ho (by decide)) ho
theorem fs0_X5 {B o : Nat} (h : o ≠ 117) : fsX B w0 5 o = [.ref (B + (o + 1)), .ref (B + (o + 2)), .ref (B + (o + 3)), .int 0, .int 0] := by simp [fsX, w0, h]
set_option maxRecDepth 100000 in
theorem ci_X5 (l : Launch) {G : GG} {A : Nat → Prop} {B : Nat} {E : Nat → va_E} {X : va_W} {o : Nat} (ho : KDx o = (5, 5)) (hE : E o = .inr (5, [.null, .null, .null, .int 0, .int 0])) : MetI l yX5_init wcI_X5 rmI_X5 G A B X [.ref (B + o)] (o + 1) E (o + 4) (mixE E (entX G B w0) o) 3 436 := by
  refine Met.ofW (cc := cX5_init) (maxL := 1) (ret := none) (by decide) rfl ?_
  intro p e s m args below meth c s₁ B0 hml hv
  obtain ⟨rfl, ⟨hEv, hWd⟩, hO, hN, hA⟩ := hv
  have C : CX p s m _ meth c cX5_init 1 RX5 wcI_X5 none := ⟨B0.exec, B0.bytes, hml, findClass_of_methodNamed B0.named, atoms_spec (ws := wcI_X5) B0.pre, B0.returns, B0.notSynchronized⟩
  have hin2 : meth.name = "<init>" := (name_of_methodNamed B0.named B0.method).1
  have hl := lv_entry [.ref (B + o)] (n := 1) (Nat.le_of_ble_eq_true rfl)
  rw [lg_entry_eq]
  generalize (lg_sl [.ref (B + o)] ++ List.replicate (1 - (lg_sl [.ref (B + o)]).length) Slot.unset).toArray = ls at hl ⊢
  have hl : lv_has ls 1 [(0, .ref (B + o))] := hl
  have h117 := no117_X5 o (kdx_lt ho (by decide)) ho
  have hG : Gc s G A (o + 1) B (va_up (mixE E (entX G B w0) o) o (.inr (5, [.null, .null, .null, .int 0, .int 0]))) X s.heap [] := Gc.congr ⟨⟨⟨hEv, hWd, va_S.rf⟩, hO⟩, hN, hA⟩ (mix_start hE)
  refine lv_aload_n C.1 C.2.1 dX5_init_0 rfl (lv_at hl 0 rfl) ?_
  refine rc_obj C hl.1 (List.mem_cons_of_mem _ tg_1_232) (List.mem_cons_of_mem _ tg_1_20) (List.mem_cons_of_mem _ tg_1_21) (Nat.le_of_ble_eq_true rfl) (Nat.le_of_ble_eq_true rfl) dX5_init_1 ?_
  refine lv_aload_n C.1 C.2.1 dX5_init_4 rfl (lv_at hl 0 rfl) ?_
  refine lv_sipush (v := nI 216) C.1 C.2.1 dX5_init_5 (by decide) ?_
  refine rc_newI C hG (n := 216) rfl (by omega) ((va_up_ne _ _ (by omega)).trans ((mixE_ge (by omega)).trans (ent0_I (kd_X5_1 ho) (by omega)))) (k' := 1) (n' := 216) rfl rfl (Nat.le_of_ble_eq_true rfl) (Nat.le_of_ble_eq_true rfl) dX5_init_8 (fun H hG => ?_)
  have hG : Gc s G A (o + 2) B (va_up (mixE E (entX G B w0) o) o (.inr (5, [.null, .null, .null, .int 0, .int 0]))) X H _ := hG
  refine rc_putM C hG (c0 := o) (by omega) (va_up_self _ _ _) (Cn := RX5) (T := TX5) (Nk := 5) rfl (fun x hx => List.mem_cons_of_mem _ (uw_X5 x hx)) (ty0 := tyX5) tyX5_ok nmX5 (i := 0) (Nat.le_of_ble_eq_true rfl) (List.mem_cons_of_mem _ tg_1_233) rfl (v := .ref (B + (o + 1))) rfl rfl (Nat.le_of_ble_eq_true rfl) (E' := va_up (mixE E (entX G B w0) o) o (.inr (5, [.ref (B + (o + 1)), .null, .null, .int 0, .int 0]))) up_up dX5_init_10 (fun H locs hG => ?_)
  refine lv_aload_n C.1 C.2.1 dX5_init_13 rfl (lv_at hl 0 rfl) ?_
  refine lv_sipush (v := nI 216) C.1 C.2.1 dX5_init_14 (by decide) ?_
  refine rc_newI C hG (n := 216) rfl (by omega) ((va_up_ne _ _ (by omega)).trans ((mixE_ge (by omega)).trans (ent0_I (kd_X5_2 ho) (by omega)))) (k' := 2) (n' := 432) rfl rfl (Nat.le_of_ble_eq_true rfl) (Nat.le_of_ble_eq_true rfl) dX5_init_17 (fun H hG => ?_)
  have hG : Gc s G A (o + 3) B (va_up (mixE E (entX G B w0) o) o (.inr (5, [.ref (B + (o + 1)), .null, .null, .int 0, .int 0]))) X H _ := hG
  refine rc_putM C hG (c0 := o) (by omega) (va_up_self _ _ _) (Cn := RX5) (T := TX5) (Nk := 5) rfl (fun x hx => List.mem_cons_of_mem _ (uw_X5 x hx)) (ty0 := tyX5) tyX5_ok nmX5 (i := 1) (Nat.le_of_ble_eq_true rfl) (List.mem_cons_of_mem _ tg_1_235) rfl (v := .ref (B + (o + 2))) rfl rfl (Nat.le_of_ble_eq_true rfl) (E' := va_up (mixE E (entX G B w0) o) o (.inr (5, [.ref (B + (o + 1)), .ref (B + (o + 2)), .null, .int 0, .int 0]))) up_up dX5_init_19 (fun H locs hG => ?_)
  refine lv_aload_n C.1 C.2.1 dX5_init_22 rfl (lv_at hl 0 rfl) ?_
  refine lv_iconst (v := nI 4) C.1 C.2.1 dX5_init_23 (by decide) ?_
  refine rc_newI C hG (n := 4) rfl (by omega) ((va_up_ne _ _ (by omega)).trans ((mixE_ge (by omega)).trans (ent0_I (kd_X5_3 ho) (by omega)))) (k' := 3) (n' := 436) rfl rfl (Nat.le_of_ble_eq_true rfl) (Nat.le_of_ble_eq_true rfl) dX5_init_24 (fun H hG => ?_)
  have hG : Gc s G A (o + 4) B (va_up (mixE E (entX G B w0) o) o (.inr (5, [.ref (B + (o + 1)), .ref (B + (o + 2)), .null, .int 0, .int 0]))) X H _ := hG
  refine rc_putF C hin2 hG (c0 := o) (by omega) (va_up_self _ _ _) (Cn := RX5) (T := TX5) (Nk := 5) rfl (fun x hx => List.mem_cons_of_mem _ (uw_X5 x hx)) (ty0 := tyX5) tyX5_ok nmX5 (i := 2) (Nat.le_of_ble_eq_true rfl) (List.mem_cons_of_mem _ tg_1_236) rfl rfl (v := .ref (B + (o + 3))) rfl rfl (Nat.le_of_ble_eq_true rfl) (E' := va_up (mixE E (entX G B w0) o) o (.inr (5, [.ref (B + (o + 1)), .ref (B + (o + 2)), .ref (B + (o + 3)), .int 0, .int 0]))) up_up dX5_init_26 (fun H locs hG => ?_)
  exact rc_ret C hG (fun c _ => congrFun (up_id ((mixE_ge (Nat.le_refl _)).trans ((entX_O5 ho).trans (by rw [fs0_X5 (by omega)])))) c) dX5_init_29
abbrev wcI_X6 : List Cond := Cond.code yX6_init cX6_init 1 none :: TG
abbrev rmI_X6 : Room := { frames := 1, cells := 1, slots := 24, locals := 20 }
theorem dX6_init_0 : decode cX6_init 0 = .ok (.aload_n 0, 1) := by decide +kernel
theorem dX6_init_1 : decode cX6_init 1 = .ok (.invokespecial 3, 3) := by decide +kernel
theorem dX6_init_4 : decode cX6_init 4 = .ok (.aload_n 0, 1) := by decide +kernel
theorem dX6_init_5 : decode cX6_init 5 = .ok (.bipush 24, 2) := by decide +kernel
theorem dX6_init_7 : decode cX6_init 7 = .ok (.newarray .int, 2) := by decide +kernel
theorem dX6_init_9 : decode cX6_init 9 = .ok (.putfield 9, 3) := by decide +kernel
theorem dX6_init_12 : decode cX6_init 12 = .ok (.return_, 1) := by decide +kernel
theorem no117_X6 : ∀ o, o < 153 → KDx o = (6, 3) → o + 1 < 117 ∨ 117 < o := by decide +kernel
theorem kd_X6_1 {o : Nat} (ho : KDx o = (6, 3)) : KDx (o + 1) = (10, 24) := (show ∀ o, o < 153 → KDx o = (6, 3) → KDx (o + 1) = (10, 24) from by decide +kernel) o (kdx_lt ho (by decide)) ho
theorem fs0_X6 {B o : Nat} (h : o ≠ 117) : fsX B w0 6 o = [.ref (B + (o + 1)), .int 0, .int 0] := by simp [fsX, w0, h]
set_option maxRecDepth 100000 in
theorem ci_X6 (l : Launch) {G : GG} {A : Nat → Prop} {B : Nat} {E : Nat → va_E} {X : va_W} {o : Nat} (ho : KDx o = (6, 3)) (hE : E o = .inr (6, [.null, .int 0, .int 0])) : MetI l yX6_init wcI_X6 rmI_X6 G A B X [.ref (B + o)] (o + 1) E (o + 2) (mixE E (entX G B w0) o) 1 24 := by
  refine Met.ofW (cc := cX6_init) (maxL := 1) (ret := none) (by decide) rfl ?_
  intro p e s m args below meth c s₁ B0 hml hv
  obtain ⟨rfl, ⟨hEv, hWd⟩, hO, hN, hA⟩ := hv
  have C : CX p s m _ meth c cX6_init 1 RX6 wcI_X6 none := ⟨B0.exec, B0.bytes, hml, findClass_of_methodNamed B0.named, atoms_spec (ws := wcI_X6) B0.pre, B0.returns, B0.notSynchronized⟩
  have hin2 : meth.name = "<init>" := (name_of_methodNamed B0.named B0.method).1
  have hl := lv_entry [.ref (B + o)] (n := 1) (Nat.le_of_ble_eq_true rfl)
  rw [lg_entry_eq]
  generalize (lg_sl [.ref (B + o)] ++ List.replicate (1 - (lg_sl [.ref (B + o)]).length) Slot.unset).toArray = ls at hl ⊢
  have hl : lv_has ls 1 [(0, .ref (B + o))] := hl
  have h117 := no117_X6 o (kdx_lt ho (by decide)) ho
  have hG : Gc s G A (o + 1) B (va_up (mixE E (entX G B w0) o) o (.inr (6, [.null, .int 0, .int 0]))) X s.heap [] := Gc.congr ⟨⟨⟨hEv, hWd, va_S.rf⟩, hO⟩, hN, hA⟩ (mix_start hE)
  refine lv_aload_n C.1 C.2.1 dX6_init_0 rfl (lv_at hl 0 rfl) ?_
  refine rc_obj C hl.1 (List.mem_cons_of_mem _ tg_1_120) (List.mem_cons_of_mem _ tg_1_20) (List.mem_cons_of_mem _ tg_1_21) (Nat.le_of_ble_eq_true rfl) (Nat.le_of_ble_eq_true rfl) dX6_init_1 ?_
  refine lv_aload_n C.1 C.2.1 dX6_init_4 rfl (lv_at hl 0 rfl) ?_
  refine lv_bipush (v := nI 24) C.1 C.2.1 dX6_init_5 (by decide) ?_
  refine rc_newI C hG (n := 24) rfl (by omega) ((va_up_ne _ _ (by omega)).trans ((mixE_ge (by omega)).trans (ent0_I (kd_X6_1 ho) (by omega)))) (k' := 1) (n' := 24) rfl rfl (Nat.le_of_ble_eq_true rfl) (Nat.le_of_ble_eq_true rfl) dX6_init_7 (fun H hG => ?_)
  have hG : Gc s G A (o + 2) B (va_up (mixE E (entX G B w0) o) o (.inr (6, [.null, .int 0, .int 0]))) X H _ := hG
  refine rc_putF C hin2 hG (c0 := o) (by omega) (va_up_self _ _ _) (Cn := RX6) (T := TX6) (Nk := 3) rfl (fun x hx => List.mem_cons_of_mem _ (uw_X6 x hx)) (ty0 := tyX6) tyX6_ok nmX6 (i := 0) (Nat.le_of_ble_eq_true rfl) (List.mem_cons_of_mem _ tg_1_121) rfl rfl (v := .ref (B + (o + 1))) rfl rfl (Nat.le_of_ble_eq_true rfl) (E' := va_up (mixE E (entX G B w0) o) o (.inr (6, [.ref (B + (o + 1)), .int 0, .int 0]))) up_up dX6_init_9 (fun H locs hG => ?_)
  exact rc_ret C hG (fun c _ => congrFun (up_id ((mixE_ge (Nat.le_refl _)).trans ((entX_O6 ho).trans (by rw [fs0_X6 (by omega)])))) c) dX6_init_12
abbrev wcI_X7 : List Cond := Cond.code yX7_init cX7_init 1 none :: TG
abbrev rmI_X7 : Room := { frames := 1, cells := 1, slots := 60, locals := 20 }
theorem dX7_init_0 : decode cX7_init 0 = .ok (.aload_n 0, 1) := by decide +kernel
theorem dX7_init_1 : decode cX7_init 1 = .ok (.invokespecial 3, 3) := by decide +kernel
theorem dX7_init_4 : decode cX7_init 4 = .ok (.aload_n 0, 1) := by decide +kernel
theorem dX7_init_5 : decode cX7_init 5 = .ok (.bipush 60, 2) := by decide +kernel
theorem dX7_init_7 : decode cX7_init 7 = .ok (.newarray .int, 2) := by decide +kernel
theorem dX7_init_9 : decode cX7_init 9 = .ok (.putfield 9, 3) := by decide +kernel
theorem dX7_init_12 : decode cX7_init 12 = .ok (.return_, 1) := by decide +kernel
theorem no117_X7 : ∀ o, o < 153 → KDx o = (7, 2) → o + 1 < 117 ∨ 117 < o := by decide +kernel
theorem kd_X7_1 {o : Nat} (ho : KDx o = (7, 2)) : KDx (o + 1) = (10, 60) := (show ∀ o, o < 153 → KDx o = (7, 2) → KDx (o + 1) = (10, 60) from by decide +kernel) o (kdx_lt ho (by decide)) ho
theorem fs0_X7 {B o : Nat} (h : o ≠ 117) : fsX B w0 7 o = [.ref (B + 110), .int 0] := by simp [fsX, w0, h]
set_option maxRecDepth 100000 in
theorem ci_X7 (l : Launch) {G : GG} {A : Nat → Prop} {B : Nat} {E : Nat → va_E} {X : va_W} {o : Nat} (ho : KDx o = (7, 2)) (h109 : o = 109) (hE : E o = .inr (7, [.null, .int 0])) : MetI l yX7_init wcI_X7 rmI_X7 G A B X [.ref (B + o)] (o + 1) E (o + 2) (mixE E (entX G B w0) o) 1 60 := by
  refine Met.ofW (cc := cX7_init) (maxL := 1) (ret := none) (by decide) rfl ?_
  intro p e s m args below meth c s₁ B0 hml hv
  obtain ⟨rfl, ⟨hEv, hWd⟩, hO, hN, hA⟩ := hv
  have C : CX p s m _ meth c cX7_init 1 RX7 wcI_X7 none := ⟨B0.exec, B0.bytes, hml, findClass_of_methodNamed B0.named, atoms_spec (ws := wcI_X7) B0.pre, B0.returns, B0.notSynchronized⟩
  have hin2 : meth.name = "<init>" := (name_of_methodNamed B0.named B0.method).1
  have hl := lv_entry [.ref (B + o)] (n := 1) (Nat.le_of_ble_eq_true rfl)
  rw [lg_entry_eq]
  generalize (lg_sl [.ref (B + o)] ++ List.replicate (1 - (lg_sl [.ref (B + o)]).length) Slot.unset).toArray = ls at hl ⊢
  have hl : lv_has ls 1 [(0, .ref (B + o))] := hl
  have h117 := no117_X7 o (kdx_lt ho (by decide)) ho
  have hG : Gc s G A (o + 1) B (va_up (mixE E (entX G B w0) o) o (.inr (7, [.null, .int 0]))) X s.heap [] := Gc.congr ⟨⟨⟨hEv, hWd, va_S.rf⟩, hO⟩, hN, hA⟩ (mix_start hE)
  refine lv_aload_n C.1 C.2.1 dX7_init_0 rfl (lv_at hl 0 rfl) ?_
  refine rc_obj C hl.1 (List.mem_cons_of_mem _ tg_1_160) (List.mem_cons_of_mem _ tg_1_20) (List.mem_cons_of_mem _ tg_1_21) (Nat.le_of_ble_eq_true rfl) (Nat.le_of_ble_eq_true rfl) dX7_init_1 ?_
  refine lv_aload_n C.1 C.2.1 dX7_init_4 rfl (lv_at hl 0 rfl) ?_
  refine lv_bipush (v := nI 60) C.1 C.2.1 dX7_init_5 (by decide) ?_
  refine rc_newI C hG (n := 60) rfl (by omega) ((va_up_ne _ _ (by omega)).trans ((mixE_ge (by omega)).trans (ent0_I (kd_X7_1 ho) (by omega)))) (k' := 1) (n' := 60) rfl rfl (Nat.le_of_ble_eq_true rfl) (Nat.le_of_ble_eq_true rfl) dX7_init_7 (fun H hG => ?_)
  have hG : Gc s G A (o + 2) B (va_up (mixE E (entX G B w0) o) o (.inr (7, [.null, .int 0]))) X H _ := hG
  refine rc_putF C hin2 hG (c0 := o) (by omega) (va_up_self _ _ _) (Cn := RX7) (T := TX7) (Nk := 2) rfl (fun x hx => List.mem_cons_of_mem _ (uw_X7 x hx)) (ty0 := tyX7) tyX7_ok nmX7 (i := 0) (Nat.le_of_ble_eq_true rfl) (List.mem_cons_of_mem _ tg_1_161) rfl rfl (v := .ref (B + (o + 1))) rfl rfl (Nat.le_of_ble_eq_true rfl) (E' := va_up (mixE E (entX G B w0) o) o (.inr (7, [.ref (B + (o + 1)), .int 0]))) up_up dX7_init_9 (fun H locs hG => ?_)
  exact rc_ret C hG (fun c _ => congrFun (up_id ((mixE_ge (Nat.le_refl _)).trans ((entX_O7 ho).trans (by subst h109; rw [fs0_X7 (by omega)])))) c) dX7_init_12
