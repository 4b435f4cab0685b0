section
variable {p : Program} {l : Launch} {e : Env} {s : State} {m : MethodId} {args : Array Value} {below : List Frame} {meth : Method} {c : Code} {Q : State → Prop} {G : GG} {A : Nat → Prop} {N B : Nat} {E : Nat → va_E} {X : va_W}
abbrev wc_X6_keepFirst : List Cond := Cond.code yX6_keepFirst cX6_keepFirst 3 none :: TG
abbrev rm_X6_keepFirst : Room := { frames := 2, cells := 0, slots := 0, locals := 100 }
theorem cd_X6_keepFirst : yX6_keepFirst.cls = RX6 ∧ yX6_keepFirst.cls ≠ "java/lang/invoke/MethodHandle" ∧ yX6_keepFirst.cls ≠ "java/lang/invoke/VarHandle" ∧ (parseMethodDescriptor yX6_keepFirst.desc).map (fun d => d.parameters.length) = some 1 := by decide +kernel
theorem dX6_keepFirst_0 : decode cX6_keepFirst 0 = .ok (.aload_n 0, 1) := by decide +kernel
theorem dX6_keepFirst_1 : decode cX6_keepFirst 1 = .ok (.iconst 0, 1) := by decide +kernel
theorem dX6_keepFirst_2 : decode cX6_keepFirst 2 = .ok (.aload_n 0, 1) := by decide +kernel
theorem dX6_keepFirst_3 : decode cX6_keepFirst 3 = .ok (.getfield 15, 3) := by decide +kernel
theorem dX6_keepFirst_6 : decode cX6_keepFirst 6 = .ok (.iload_n 1, 1) := by decide +kernel
theorem dX6_keepFirst_7 : decode cX6_keepFirst 7 = .ok (.invokestatic 29, 3) := by decide +kernel
theorem dX6_keepFirst_10 : decode cX6_keepFirst 10 = .ok (.invokestatic 35, 3) := by decide +kernel
theorem dX6_keepFirst_13 : decode cX6_keepFirst 13 = .ok (.putfield 15, 3) := by decide +kernel
theorem dX6_keepFirst_16 : decode cX6_keepFirst 16 = .ok (.aload_n 0, 1) := by decide +kernel
theorem dX6_keepFirst_17 : decode cX6_keepFirst 17 = .ok (.iconst 0, 1) := by decide +kernel
theorem dX6_keepFirst_18 : decode cX6_keepFirst 18 = .ok (.putfield 19, 3) := by decide +kernel
theorem dX6_keepFirst_21 : decode cX6_keepFirst 21 = .ok (.iconst 0, 1) := by decide +kernel
theorem dX6_keepFirst_22 : decode cX6_keepFirst 22 = .ok (.istore_n 2, 1) := by decide +kernel
theorem dX6_keepFirst_23 : decode cX6_keepFirst 23 = .ok (.iload_n 2, 1) := by decide +kernel
theorem dX6_keepFirst_24 : decode cX6_keepFirst 24 = .ok (.aload_n 0, 1) := by decide +kernel
theorem dX6_keepFirst_25 : decode cX6_keepFirst 25 = .ok (.getfield 15, 3) := by decide +kernel
theorem dX6_keepFirst_28 : decode cX6_keepFirst 28 = .ok (.if_icmp .ge 28, 3) := by decide +kernel
theorem dX6_keepFirst_31 : decode cX6_keepFirst 31 = .ok (.aload_n 0, 1) := by decide +kernel
theorem dX6_keepFirst_32 : decode cX6_keepFirst 32 = .ok (.dup, 1) := by decide +kernel
theorem dX6_keepFirst_33 : decode cX6_keepFirst 33 = .ok (.getfield 19, 3) := by decide +kernel
theorem dX6_keepFirst_36 : decode cX6_keepFirst 36 = .ok (.getstatic 26, 3) := by decide +kernel
theorem dX6_keepFirst_39 : decode cX6_keepFirst 39 = .ok (.aload_n 0, 1) := by decide +kernel
theorem dX6_keepFirst_40 : decode cX6_keepFirst 40 = .ok (.getfield 9, 3) := by decide +kernel
theorem dX6_keepFirst_43 : decode cX6_keepFirst 43 = .ok (.iload_n 2, 1) := by decide +kernel
theorem dX6_keepFirst_44 : decode cX6_keepFirst 44 = .ok (.iaload, 1) := by decide +kernel
theorem dX6_keepFirst_45 : decode cX6_keepFirst 45 = .ok (.iaload, 1) := by decide +kernel
theorem dX6_keepFirst_46 : decode cX6_keepFirst 46 = .ok (.iadd, 1) := by decide +kernel
theorem dX6_keepFirst_47 : decode cX6_keepFirst 47 = .ok (.putfield 19, 3) := by decide +kernel
theorem dX6_keepFirst_50 : decode cX6_keepFirst 50 = .ok (.iinc 2 1, 3) := by decide +kernel
theorem dX6_keepFirst_53 : decode cX6_keepFirst 53 = .ok (.goto (-30), 3) := by decide +kernel
theorem dX6_keepFirst_56 : decode cX6_keepFirst 56 = .ok (.return_, 1) := by decide +kernel
set_option maxRecDepth 100000 in
set_option maxHeartbeats 4000000 in
theorem kb_X6_keepFirst_23 {th : Nat} {st : Int32 × WX} {r : (Int32 × WX) ⊕ ((WX))} {H : Heap} {locs : List Loc} {ls : Array Slot} (C : CX p s m args meth c cX6_keepFirst 3 RX6 wc_X6_keepFirst none) (hth : KDx th = (6, 3)) (hG : Gd s G A 153 B (entX G B st.2) X H locs) (hl : lv_has ls 3 [(0, .ref (B + th)), (2, .int st.1)]) (hf : sh_X6_keepFirst_s23 th st = some r)
    (kL : ∀ st' : Int32 × WX, r = Sum.inl st' → ∀ (H : Heap) (locs : List Loc) (ls : Array Slot), Gd s G A 153 B (entX G B st'.2) X H locs → lv_has ls 3 [(0, .ref (B + th)), (2, .int st'.1)] → W p l e rm_X6_keepFirst s m args below meth c H locs 0 0 Q (F0 m 23 ls []))
    (kX0 : ∀ y' : WX, r = Sum.inr y' → ∀ (H : Heap) (locs : List Loc) (ls : Array Slot), Gd s G A 153 B (entX G B y') X H locs → lv_has ls 3 [] → W p l e rm_X6_keepFirst s m args below meth c H locs 0 0 Q (F0 m 56 ls [])) :
    W p l e rm_X6_keepFirst s m args below meth c H locs 0 0 Q (F0 m 23 ls []) := by
  refine lv_iload_n C.1 C.2.1 dX6_keepFirst_23 rfl (lv_at hl 1 rfl) ?_
  refine lv_aload_n C.1 C.2.1 dX6_keepFirst_24 rfl (lv_at hl 0 rfl) ?_
  refine gf_X6_15 C hG hth dX6_keepFirst_25 ?_
  rcases of_ite hf with ⟨c1, hf⟩ | ⟨c1, hf⟩
  · refine lv_icmp_ge (tgt := 56) C.1 C.2.1 dX6_keepFirst_28 (by decide) (fun _ => ?_) (fun q => absurd c1 q)
    obtain rfl := Option.some.inj hf
    exact kX0 _ rfl _ _ _ hG (lv_sub hl [] rfl)
  · refine lv_icmp_ge (tgt := 56) C.1 C.2.1 dX6_keepFirst_28 (by decide) (fun q => absurd q c1) (fun _ => ?_)
    refine lv_aload_n C.1 C.2.1 dX6_keepFirst_31 rfl (lv_at hl 0 rfl) ?_
    refine lv_dup C.1 C.2.1 dX6_keepFirst_32 rfl ?_
    refine gf_X6_19 C hG hth dX6_keepFirst_33 ?_
    refine r_getsN C hG hG.1.2.2.2.2.1 nn_53 dX6_keepFirst_36 ?_
    refine lv_aload_n C.1 C.2.1 dX6_keepFirst_39 rfl (lv_at hl 0 rfl) ?_
    refine gf_X6_9 C hG hth dX6_keepFirst_40 ?_
    refine lv_iload_n C.1 C.2.1 dX6_keepFirst_43 rfl (lv_at hl 1 rfl) ?_
    obtain ⟨v2, hv2, hf⟩ := of_bind hf
    obtain ⟨bv2, ev2⟩ := of_ldS hv2
    refine r_iald C hG (c0 := (th + 1)) (kdx_lt (kx_6_0 hth) (by decide)) (entX_I (kx_6_0 hth)) bv2 dX6_keepFirst_44 ?_
    refine r_top ev2 ?_
    obtain ⟨v3, hv3, hf⟩ := of_bind hf
    obtain ⟨bv3, ev3⟩ := of_tbl7 hv3
    refine r_ti C hG hG.1.2.2.2.2.1 bv3 dX6_keepFirst_45 ?_
    refine r_top ev3 ?_
    refine lv_iadd C.1 C.2.1 dX6_keepFirst_46 ?_
    obtain ⟨w4, ew4, hf⟩ := of_letv hf
    refine pf_X6_19 C hG hth dX6_keepFirst_47 (fun H locs hG => ?_)
    rw [← ew4] at hG
    obtain ⟨v5, ev5, hf⟩ := of_letv hf
    refine lv_iinc (v := v5) (lv' := [(2, .int v5), (0, .ref (B + th))]) C.1 C.2.1 dX6_keepFirst_50 hl (k := 1) rfl (by rw [ev5, show Int32.ofInt (1) = nI 1 from by decide]) (by decide) rfl (fun ls hl => ?_)
    refine lv_goto (tgt := 23) C.1 C.2.1 dX6_keepFirst_53 (by decide) ?_
    obtain rfl := Option.some.inj hf
    exact kL _ rfl _ _ _ hG (lv_sub hl [1, 0] rfl)
set_option maxRecDepth 100000 in
set_option maxHeartbeats 4000000 in
theorem kl_X6_keepFirst_23 {th : Nat} (C : CX p s m args meth c cX6_keepFirst 3 RX6 wc_X6_keepFirst none) (hth : KDx th = (6, 3)) : ∀ (n : Nat) (st : Int32 × WX) (x : (WX)) (H : Heap) (locs : List Loc) (ls : Array Slot), Gd s G A 153 B (entX G B st.2) X H locs → lv_has ls 3 [(0, .ref (B + th)), (2, .int st.1)] → lpw (sh_X6_keepFirst_s23 th) n st = some x →
    (∀ y' : WX, x = y' → ∀ (H : Heap) (locs : List Loc) (ls : Array Slot), Gd s G A 153 B (entX G B y') X H locs → lv_has ls 3 [] → W p l e rm_X6_keepFirst s m args below meth c H locs 0 0 Q (F0 m 56 ls [])) → W p l e rm_X6_keepFirst s m args below meth c H locs 0 0 Q (F0 m 23 ls []) := by
  intro n
  induction n with
  | zero =>
    intro st x H locs ls hG hl hf
    cases hf
  | succ n ih =>
    intro st x H locs ls hG hl hf kX0
    obtain ⟨r, hr, hh⟩ := of_lpw hf
    refine kb_X6_keepFirst_23 C hth hG hl hr (fun st2 e1 H locs ls hG hl => ?_) (fun y2 e1 H locs ls hG hl => ?_)
    · rcases hh with ⟨s3, e2, hh⟩ | e2
      · rw [e2] at e1
        cases e1
        exact ih _ _ _ _ _ hG hl hh kX0
      · rw [e2] at e1
        cases e1
    · rcases hh with ⟨s3, e2, hh⟩ | e2
      · rw [e2] at e1
        cases e1
      · rw [e2] at e1
        cases e1
        exact kX0 _ rfl _ _ _ hG hl
set_option maxRecDepth 100000 in
set_option maxHeartbeats 4000000 in
theorem kb_X6_keepFirst_0 {th : Nat} {x1 : Int32} {w : WX} {out : WX} {H : Heap} {locs : List Loc} {ls : Array Slot} (C : CX p s m args meth c cX6_keepFirst 3 RX6 wc_X6_keepFirst none) (hth : KDx th = (6, 3)) (hG : Gd s G A 153 B (entX G B w) X H locs) (hl : lv_has ls 3 [(0, .ref (B + th)), (1, .int x1)]) (hf : sh_X6_keepFirst th x1 w = some out) :
    W p l e rm_X6_keepFirst s m args below meth c H locs 0 0 (MQ below (CPost G A 153 B (entX G B out) X none) args s 0 0 A) (F0 m 0 ls []) := by
  refine lv_aload_n C.1 C.2.1 dX6_keepFirst_0 rfl (lv_at hl 0 rfl) ?_
  refine lv_iconst (v := nI 0) C.1 C.2.1 dX6_keepFirst_1 (by decide) ?_
  refine lv_aload_n C.1 C.2.1 dX6_keepFirst_2 rfl (lv_at hl 0 rfl) ?_
  refine gf_X6_15 C hG hth dX6_keepFirst_3 ?_
  refine lv_iload_n C.1 C.2.1 dX6_keepFirst_6 rfl (lv_at hl 1 rfl) ?_
  refine r_min C hl.1 (List.mem_cons_of_mem _ tg_2_207) (List.mem_cons_of_mem _ tg_2_208) (List.mem_cons_of_mem _ tg_1_12) (List.mem_cons_of_mem _ tg_2_209) (Nat.le_of_ble_eq_true rfl) (Nat.le_of_ble_eq_true rfl) dX6_keepFirst_7 ?_
  refine r_max C hl.1 (List.mem_cons_of_mem _ tg_2_210) (List.mem_cons_of_mem _ tg_2_211) (List.mem_cons_of_mem _ tg_1_12) (List.mem_cons_of_mem _ tg_2_212) (Nat.le_of_ble_eq_true rfl) (Nat.le_of_ble_eq_true rfl) dX6_keepFirst_10 ?_
  obtain ⟨w1, ew1, hf⟩ := of_letv hf
  refine pf_X6_15 C hG hth dX6_keepFirst_13 (fun H locs hG => ?_)
  rw [← ew1] at hG
  refine lv_aload_n C.1 C.2.1 dX6_keepFirst_16 rfl (lv_at hl 0 rfl) ?_
  refine lv_iconst (v := nI 0) C.1 C.2.1 dX6_keepFirst_17 (by decide) ?_
  obtain ⟨w2, ew2, hf⟩ := of_letv hf
  refine pf_X6_19 C hG hth dX6_keepFirst_18 (fun H locs hG => ?_)
  rw [← ew2] at hG
  refine lv_iconst (v := nI 0) C.1 C.2.1 dX6_keepFirst_21 (by decide) ?_
  refine lv_istore_n (lv' := [(2, .int (nI 0)), (0, .ref (B + th)), (1, .int x1)]) C.1 C.2.1 dX6_keepFirst_22 rfl hl (by decide) rfl (fun ls hl => ?_)
  obtain ⟨ex3, hex3, hf⟩ := of_bind hf
  refine kl_X6_keepFirst_23 C hth FU (nI 0, w2) ex3 _ _ _ hG (lv_sub hl [1, 0] rfl) hex3 (fun y e0 H locs ls hG hl => ?_)
  subst e0
  obtain rfl := Option.some.inj hf
  exact r_vret C hG dX6_keepFirst_56
set_option maxRecDepth 100000 in
set_option maxHeartbeats 4000000 in
theorem mt_X6_keepFirst (l : Launch) {G : GG} {A : Nat → Prop} {B : Nat} {X : va_W} {th : Nat} {x1 : Int32} {w : WX} {out : WX} (hth : KDx th = (6, 3)) (hf : sh_X6_keepFirst th x1 w = some out) : MetW l yX6_keepFirst wc_X6_keepFirst rm_X6_keepFirst G A 153 B (entX G B w) X [.ref (B + th), .int x1] none (entX G B out) := by
  refine Met.ofW (cc := cX6_keepFirst) (maxL := 3) (ret := none) (by decide) rfl ?_
  intro p e s m args below meth c s₁ B0 hml hv
  obtain ⟨rfl, hEv, hWd⟩ := hv
  have C : CX p s m _ meth c cX6_keepFirst 3 RX6 wc_X6_keepFirst none := ⟨B0.exec, B0.bytes, hml, findClass_of_methodNamed B0.named, atoms_spec (ws := wc_X6_keepFirst) B0.pre, B0.returns, B0.notSynchronized⟩
  have hl := lv_entry [.ref (B + th), .int x1] (n := 3) (Nat.le_of_ble_eq_true rfl)
  rw [lg_entry_eq]
  generalize (lg_sl [.ref (B + th), .int x1] ++ List.replicate (3 - (lg_sl [.ref (B + th), .int x1]).length) Slot.unset).toArray = ls at hl ⊢
  have hl : lv_has ls 3 [(0, .ref (B + th)), (1, .int x1)] := hl
  exact kb_X6_keepFirst_0 C hth ⟨hEv, hWd, va_S.rf⟩ hl hf
abbrev wc_X4_doRow : List Cond := Cond.code yX4_doRow cX4_doRow 5 none :: TG
abbrev rm_X4_doRow : Room := { frames := 5, cells := 0, slots := 0, locals := 165 }
theorem cd_X4_doRow : yX4_doRow.cls = RX4 ∧ yX4_doRow.cls ≠ "java/lang/invoke/MethodHandle" ∧ yX4_doRow.cls ≠ "java/lang/invoke/VarHandle" ∧ (parseMethodDescriptor yX4_doRow.desc).map (fun d => d.parameters.length) = some 3 := by decide +kernel
theorem dX4_doRow_0 : decode cX4_doRow 0 = .ok (.iload_n 1, 1) := by decide +kernel
theorem dX4_doRow_1 : decode cX4_doRow 1 = .ok (.ifCond .ne 12, 3) := by decide +kernel
theorem dX4_doRow_4 : decode cX4_doRow 4 = .ok (.aload_n 3, 1) := by decide +kernel
theorem dX4_doRow_5 : decode cX4_doRow 5 = .ok (.iload_n 2, 1) := by decide +kernel
theorem dX4_doRow_6 : decode cX4_doRow 6 = .ok (.invokevirtual 68, 3) := by decide +kernel
theorem dX4_doRow_9 : decode cX4_doRow 9 = .ok (.pop, 1) := by decide +kernel
theorem dX4_doRow_10 : decode cX4_doRow 10 = .ok (.goto 48, 3) := by decide +kernel
theorem dX4_doRow_13 : decode cX4_doRow 13 = .ok (.iload_n 1, 1) := by decide +kernel
theorem dX4_doRow_14 : decode cX4_doRow 14 = .ok (.iconst 1, 1) := by decide +kernel
theorem dX4_doRow_15 : decode cX4_doRow 15 = .ok (.if_icmp .ne 16, 3) := by decide +kernel
theorem dX4_doRow_18 : decode cX4_doRow 18 = .ok (.aload_n 3, 1) := by decide +kernel
theorem dX4_doRow_19 : decode cX4_doRow 19 = .ok (.aload_n 3, 1) := by decide +kernel
theorem dX4_doRow_20 : decode cX4_doRow 20 = .ok (.getfield 72, 3) := by decide +kernel
theorem dX4_doRow_23 : decode cX4_doRow 23 = .ok (.iload_n 2, 1) := by decide +kernel
theorem dX4_doRow_24 : decode cX4_doRow 24 = .ok (.isub, 1) := by decide +kernel
theorem dX4_doRow_25 : decode cX4_doRow 25 = .ok (.invokevirtual 73, 3) := by decide +kernel
theorem dX4_doRow_28 : decode cX4_doRow 28 = .ok (.goto 30, 3) := by decide +kernel
theorem dX4_doRow_31 : decode cX4_doRow 31 = .ok (.aload_n 0, 1) := by decide +kernel
theorem dX4_doRow_32 : decode cX4_doRow 32 = .ok (.iload_n 2, 1) := by decide +kernel
theorem dX4_doRow_33 : decode cX4_doRow 33 = .ok (.invokevirtual 77, 3) := by decide +kernel
theorem dX4_doRow_36 : decode cX4_doRow 36 = .ok (.astore 4, 2) := by decide +kernel
theorem dX4_doRow_38 : decode cX4_doRow 38 = .ok (.aload 4, 2) := by decide +kernel
theorem dX4_doRow_40 : decode cX4_doRow 40 = .ok (.ifnull 18, 3) := by decide +kernel
theorem dX4_doRow_43 : decode cX4_doRow 43 = .ok (.aload_n 3, 1) := by decide +kernel
theorem dX4_doRow_44 : decode cX4_doRow 44 = .ok (.aload 4, 2) := by decide +kernel
theorem dX4_doRow_46 : decode cX4_doRow 46 = .ok (.invokevirtual 81, 3) := by decide +kernel
theorem dX4_doRow_49 : decode cX4_doRow 49 = .ok (.ifCond .ne 9, 3) := by decide +kernel
theorem dX4_doRow_52 : decode cX4_doRow 52 = .ok (.aload_n 3, 1) := by decide +kernel
theorem dX4_doRow_53 : decode cX4_doRow 53 = .ok (.aload 4, 2) := by decide +kernel
theorem dX4_doRow_55 : decode cX4_doRow 55 = .ok (.invokevirtual 85, 3) := by decide +kernel
theorem dX4_doRow_58 : decode cX4_doRow 58 = .ok (.return_, 1) := by decide +kernel
set_option maxRecDepth 100000 in
set_option maxHeartbeats 4000000 in
theorem kb_X4_doRow_0 {th : Nat} {x1 : Int32} {x2 : Int32} {x3 : Nat} {w : WX} {out : WX} {H : Heap} {locs : List Loc} {ls : Array Slot} (C : CX p s m args meth c cX4_doRow 5 RX4 wc_X4_doRow none) (hth : KDx th = (4, 4)) (h3 : KDx x3 = (6, 3)) (hG : Gd s G A 153 B (entX G B w) X H locs) (hl : lv_has ls 5 [(0, .ref (B + th)), (1, .int x1), (2, .int x2), (3, .ref (B + x3))]) (hf : sh_X4_doRow th x1 x2 x3 w = some out) :
    W p l e rm_X4_doRow s m args below meth c H locs 0 0 (MQ below (CPost G A 153 B (entX G B out) X none) args s 0 0 A) (F0 m 0 ls []) := by
  refine lv_iload_n C.1 C.2.1 dX4_doRow_0 rfl (lv_at hl 1 rfl) ?_
  rcases of_ite hf with ⟨c1, hf⟩ | ⟨c1, hf⟩
  · refine lv_if_ne (tgt := 13) C.1 C.2.1 dX4_doRow_1 (by decide) (fun q => absurd c1 q) (fun _ => ?_)
    refine lv_aload_n C.1 C.2.1 dX4_doRow_4 rfl (lv_at hl 3 rfl) ?_
    refine lv_iload_n C.1 C.2.1 dX4_doRow_5 rfl (lv_at hl 2 rfl) ?_
    obtain ⟨v10, hv10, hf⟩ := of_bind hf
    refine r_callV1 C hG hl.1 (c0 := x3) (As := [.int x2]) (kdx_lt h3 (by decide)) (entX_O6 h3) rfl (mt_X6_append l h3 hv10) (cwV 1 C.2.2.2.2.1 (gd_V tg_3_239 tg_2_227 tg_2_228 tg_1_5 tg_2_229) rfl rfl rfl cd_X6_append ⟨Nat.le_of_ble_eq_true rfl, Nat.le_of_ble_eq_true rfl⟩) rfl rfl (Nat.le_of_ble_eq_true rfl) dX4_doRow_6 (fun H locs hG => ?_)
    refine lv_pop C.1 C.2.1 dX4_doRow_9 rfl ?_
    refine lv_goto (tgt := 58) C.1 C.2.1 dX4_doRow_10 (by decide) ?_
    obtain rfl := Option.some.inj hf
    exact r_vret C hG dX4_doRow_58
  · refine lv_if_ne (tgt := 13) C.1 C.2.1 dX4_doRow_1 (by decide) (fun _ => ?_) (fun q => absurd q c1)
    refine lv_iload_n C.1 C.2.1 dX4_doRow_13 rfl (lv_at hl 1 rfl) ?_
    refine lv_iconst (v := nI 1) C.1 C.2.1 dX4_doRow_14 (by decide) ?_
    rcases of_ite hf with ⟨c2, hf⟩ | ⟨c2, hf⟩
    · refine lv_icmp_ne (tgt := 31) C.1 C.2.1 dX4_doRow_15 (by decide) (fun q => absurd c2 q) (fun _ => ?_)
      refine lv_aload_n C.1 C.2.1 dX4_doRow_18 rfl (lv_at hl 3 rfl) ?_
      refine lv_aload_n C.1 C.2.1 dX4_doRow_19 rfl (lv_at hl 3 rfl) ?_
      refine gf_X4_72 C hG h3 dX4_doRow_20 ?_
      refine lv_iload_n C.1 C.2.1 dX4_doRow_23 rfl (lv_at hl 2 rfl) ?_
      refine lv_isub C.1 C.2.1 dX4_doRow_24 ?_
      obtain ⟨w9, hw9, hf⟩ := of_bind hf
      refine r_callV0 C hG hl.1 (c0 := x3) (As := [.int ((w.1 x3 1) - x2)]) (kdx_lt h3 (by decide)) (entX_O6 h3) rfl (mt_X6_keepFirst l h3 hw9) (cwV 1 C.2.2.2.2.1 (gd_V tg_4_0 tg_2_204 tg_2_205 tg_1_5 tg_2_206) rfl rfl rfl cd_X6_keepFirst ⟨Nat.le_of_ble_eq_true rfl, Nat.le_of_ble_eq_true rfl⟩) rfl rfl (Nat.le_of_ble_eq_true rfl) dX4_doRow_25 (fun H locs hG => ?_)
      refine lv_goto (tgt := 58) C.1 C.2.1 dX4_doRow_28 (by decide) ?_
      obtain rfl := Option.some.inj hf
      exact r_vret C hG dX4_doRow_58
    · refine lv_icmp_ne (tgt := 31) C.1 C.2.1 dX4_doRow_15 (by decide) (fun _ => ?_) (fun q => absurd q c2)
      refine lv_aload_n C.1 C.2.1 dX4_doRow_31 rfl (lv_at hl 0 rfl) ?_
      refine lv_iload_n C.1 C.2.1 dX4_doRow_32 rfl (lv_at hl 2 rfl) ?_
      obtain ⟨v3, hv3, hf⟩ := of_bind hf
      refine r_callV1 C hG hl.1 (c0 := th) (As := [.int x2]) (kdx_lt hth (by decide)) (entX_O4 hth) rfl (mt_X4_surfaceAt l hth hv3) (cwV 1 C.2.2.2.2.1 (gd_V tg_4_1 tg_2_196 tg_2_197 tg_1_2 tg_2_198) rfl rfl rfl cd_X4_surfaceAt ⟨Nat.le_of_ble_eq_true rfl, Nat.le_of_ble_eq_true rfl⟩) rfl rfl (Nat.le_of_ble_eq_true rfl) dX4_doRow_33 (fun H locs hG => ?_)
      rcases of_ite hf with ⟨c4, hf⟩ | ⟨c4, hf⟩
      · refine r_rvN c4 ?_
        refine lv_astoreN (lv' := [(4, .null), (0, .ref (B + th)), (1, .int x1), (2, .int x2), (3, .ref (B + x3))]) C.1 C.2.1 dX4_doRow_36 hl (by decide) rfl (fun ls hl => ?_)
        refine lv_aloadN C.1 C.2.1 dX4_doRow_38 (lv_at hl 0 rfl) ?_
        refine lv_ifnullN (tgt := 58) C.1 C.2.1 dX4_doRow_40 (by decide) ?_
        obtain rfl := Option.some.inj hf
        exact r_vret C hG dX4_doRow_58
      · refine r_rvR c4 ?_
        obtain ⟨c5, hf⟩ := of_grd hf
        refine lv_astore (lv' := [(4, .ref (B + v3)), (0, .ref (B + th)), (1, .int x1), (2, .int x2), (3, .ref (B + x3))]) C.1 C.2.1 dX4_doRow_36 hl (by decide) rfl (fun ls hl => ?_)
        refine lv_aload C.1 C.2.1 dX4_doRow_38 (lv_at hl 0 rfl) ?_
        refine lv_ifnull C.1 C.2.1 dX4_doRow_40 ?_
        refine lv_aload_n C.1 C.2.1 dX4_doRow_43 rfl (lv_at hl 4 rfl) ?_
        refine lv_aload C.1 C.2.1 dX4_doRow_44 (lv_at hl 0 rfl) ?_
        obtain ⟨v6, hv6, hf⟩ := of_bind hf
        refine r_callV1 C hG hl.1 (c0 := x3) (As := [.ref (B + v3)]) (kdx_lt h3 (by decide)) (entX_O6 h3) rfl (mt_X6_glueFault l h3 c5 hv6) (cwV 1 C.2.2.2.2.1 (gd_V tg_4_2 tg_3_182 tg_3_183 tg_1_5 tg_3_184) rfl rfl rfl cd_X6_glueFault ⟨Nat.le_of_ble_eq_true rfl, Nat.le_of_ble_eq_true rfl⟩) rfl rfl (Nat.le_of_ble_eq_true rfl) dX4_doRow_46 (fun H locs hG => ?_)
        rcases of_ite hf with ⟨c7, hf⟩ | ⟨c7, hf⟩
        · refine lv_if_ne (tgt := 58) C.1 C.2.1 dX4_doRow_49 (by decide) (fun q => absurd c7 q) (fun _ => ?_)
          refine lv_aload_n C.1 C.2.1 dX4_doRow_52 rfl (lv_at hl 4 rfl) ?_
          refine lv_aload C.1 C.2.1 dX4_doRow_53 (lv_at hl 0 rfl) ?_
          obtain ⟨w8, hw8, hf⟩ := of_bind hf
          refine r_callV0 C hG hl.1 (c0 := x3) (As := [.ref (B + v3)]) (kdx_lt h3 (by decide)) (entX_O6 h3) rfl (mt_X6_glueOn l h3 c5 hw8) (cwV 1 C.2.2.2.2.1 (gd_V tg_4_3 tg_3_190 tg_3_191 tg_1_5 tg_3_192) rfl rfl rfl cd_X6_glueOn ⟨Nat.le_of_ble_eq_true rfl, Nat.le_of_ble_eq_true rfl⟩) rfl rfl (Nat.le_of_ble_eq_true rfl) dX4_doRow_55 (fun H locs hG => ?_)
          obtain rfl := Option.some.inj hf
          exact r_vret C hG dX4_doRow_58
        · refine lv_if_ne (tgt := 58) C.1 C.2.1 dX4_doRow_49 (by decide) (fun _ => ?_) (fun q => absurd q c7)
          obtain rfl := Option.some.inj hf
          exact r_vret C hG dX4_doRow_58
set_option maxRecDepth 100000 in
set_option maxHeartbeats 4000000 in
theorem mt_X4_doRow (l : Launch) {G : GG} {A : Nat → Prop} {B : Nat} {X : va_W} {th : Nat} {x1 : Int32} {x2 : Int32} {x3 : Nat} {w : WX} {out : WX} (hth : KDx th = (4, 4)) (h3 : KDx x3 = (6, 3)) (hf : sh_X4_doRow th x1 x2 x3 w = some out) : MetW l yX4_doRow wc_X4_doRow rm_X4_doRow G A 153 B (entX G B w) X [.ref (B + th), .int x1, .int x2, .ref (B + x3)] none (entX G B out) := by
  refine Met.ofW (cc := cX4_doRow) (maxL := 5) (ret := none) (by decide) rfl ?_
  intro p e s m args below meth c s₁ B0 hml hv
  obtain ⟨rfl, hEv, hWd⟩ := hv
  have C : CX p s m _ meth c cX4_doRow 5 RX4 wc_X4_doRow none := ⟨B0.exec, B0.bytes, hml, findClass_of_methodNamed B0.named, atoms_spec (ws := wc_X4_doRow) B0.pre, B0.returns, B0.notSynchronized⟩
  have hl := lv_entry [.ref (B + th), .int x1, .int x2, .ref (B + x3)] (n := 5) (Nat.le_of_ble_eq_true rfl)
  rw [lg_entry_eq]
  generalize (lg_sl [.ref (B + th), .int x1, .int x2, .ref (B + x3)] ++ List.replicate (5 - (lg_sl [.ref (B + th), .int x1, .int x2, .ref (B + x3)]).length) Slot.unset).toArray = ls at hl ⊢
  have hl : lv_has ls 5 [(0, .ref (B + th)), (1, .int x1), (2, .int x2), (3, .ref (B + x3))] := hl
  exact kb_X4_doRow_0 C hth h3 ⟨hEv, hWd, va_S.rf⟩ hl hf
abbrev wc_X4_doPlan : List Cond := Cond.code yX4_doPlan cX4_doPlan 3 none :: TG
abbrev rm_X4_doPlan : Room := { frames := 6, cells := 0, slots := 0, locals := 189 }
theorem cd_X4_doPlan : yX4_doPlan.cls = RX4 ∧ yX4_doPlan.cls ≠ "java/lang/invoke/MethodHandle" ∧ yX4_doPlan.cls ≠ "java/lang/invoke/VarHandle" ∧ (parseMethodDescriptor yX4_doPlan.desc).map (fun d => d.parameters.length) = some 1 := by decide +kernel
theorem dX4_doPlan_0 : decode cX4_doPlan 0 = .ok (.iconst 0, 1) := by decide +kernel
theorem dX4_doPlan_1 : decode cX4_doPlan 1 = .ok (.istore_n 2, 1) := by decide +kernel
theorem dX4_doPlan_2 : decode cX4_doPlan 2 = .ok (.iload_n 2, 1) := by decide +kernel
theorem dX4_doPlan_3 : decode cX4_doPlan 3 = .ok (.aload_n 0, 1) := by decide +kernel
theorem dX4_doPlan_4 : decode cX4_doPlan 4 = .ok (.getfield 26, 3) := by decide +kernel
theorem dX4_doPlan_7 : decode cX4_doPlan 7 = .ok (.getfield 56, 3) := by decide +kernel
theorem dX4_doPlan_10 : decode cX4_doPlan 10 = .ok (.if_icmp .ge 32, 3) := by decide +kernel
theorem dX4_doPlan_13 : decode cX4_doPlan 13 = .ok (.aload_n 0, 1) := by decide +kernel
theorem dX4_doPlan_14 : decode cX4_doPlan 14 = .ok (.aload_n 0, 1) := by decide +kernel
theorem dX4_doPlan_15 : decode cX4_doPlan 15 = .ok (.getfield 26, 3) := by decide +kernel
theorem dX4_doPlan_18 : decode cX4_doPlan 18 = .ok (.getfield 57, 3) := by decide +kernel
theorem dX4_doPlan_21 : decode cX4_doPlan 21 = .ok (.iload_n 2, 1) := by decide +kernel
theorem dX4_doPlan_22 : decode cX4_doPlan 22 = .ok (.iaload, 1) := by decide +kernel
theorem dX4_doPlan_23 : decode cX4_doPlan 23 = .ok (.aload_n 0, 1) := by decide +kernel
theorem dX4_doPlan_24 : decode cX4_doPlan 24 = .ok (.getfield 26, 3) := by decide +kernel
theorem dX4_doPlan_27 : decode cX4_doPlan 27 = .ok (.getfield 61, 3) := by decide +kernel
theorem dX4_doPlan_30 : decode cX4_doPlan 30 = .ok (.iload_n 2, 1) := by decide +kernel
theorem dX4_doPlan_31 : decode cX4_doPlan 31 = .ok (.iaload, 1) := by decide +kernel
theorem dX4_doPlan_32 : decode cX4_doPlan 32 = .ok (.aload_n 1, 1) := by decide +kernel
theorem dX4_doPlan_33 : decode cX4_doPlan 33 = .ok (.invokevirtual 64, 3) := by decide +kernel
theorem dX4_doPlan_36 : decode cX4_doPlan 36 = .ok (.iinc 2 1, 3) := by decide +kernel
theorem dX4_doPlan_39 : decode cX4_doPlan 39 = .ok (.goto (-37), 3) := by decide +kernel
theorem dX4_doPlan_42 : decode cX4_doPlan 42 = .ok (.return_, 1) := by decide +kernel
set_option maxRecDepth 100000 in
set_option maxHeartbeats 4000000 in
theorem kb_X4_doPlan_2 {th : Nat} {x1 : Nat} {st : Int32 × WX} {r : (Int32 × WX) ⊕ ((WX))} {H : Heap} {locs : List Loc} {ls : Array Slot} (C : CX p s m args meth c cX4_doPlan 3 RX4 wc_X4_doPlan none) (hth : KDx th = (4, 4)) (h1 : KDx x1 = (6, 3)) (hG : Gd s G A 153 B (entX G B st.2) X H locs) (hl : lv_has ls 3 [(0, .ref (B + th)), (1, .ref (B + x1)), (2, .int st.1)]) (hf : sh_X4_doPlan_s2 th x1 st = some r)
    (kL : ∀ st' : Int32 × WX, r = Sum.inl st' → ∀ (H : Heap) (locs : List Loc) (ls : Array Slot), Gd s G A 153 B (entX G B st'.2) X H locs → lv_has ls 3 [(0, .ref (B + th)), (1, .ref (B + x1)), (2, .int st'.1)] → W p l e rm_X4_doPlan s m args below meth c H locs 0 0 Q (F0 m 2 ls []))
    (kX0 : ∀ y' : WX, r = Sum.inr y' → ∀ (H : Heap) (locs : List Loc) (ls : Array Slot), Gd s G A 153 B (entX G B y') X H locs → lv_has ls 3 [] → W p l e rm_X4_doPlan s m args below meth c H locs 0 0 Q (F0 m 42 ls [])) :
    W p l e rm_X4_doPlan s m args below meth c H locs 0 0 Q (F0 m 2 ls []) := by
  refine lv_iload_n C.1 C.2.1 dX4_doPlan_2 rfl (lv_at hl 2 rfl) ?_
  refine lv_aload_n C.1 C.2.1 dX4_doPlan_3 rfl (lv_at hl 0 rfl) ?_
  refine gf_X4_26 C hG hth dX4_doPlan_4 ?_
  refine gf_X4_56 C hG (kx_4_3 hth) dX4_doPlan_7 ?_
  rcases of_ite hf with ⟨c1, hf⟩ | ⟨c1, hf⟩
  · refine lv_icmp_ge (tgt := 42) C.1 C.2.1 dX4_doPlan_10 (by decide) (fun _ => ?_) (fun q => absurd c1 q)
    obtain rfl := Option.some.inj hf
    exact kX0 _ rfl _ _ _ hG (lv_sub hl [] rfl)
  · refine lv_icmp_ge (tgt := 42) C.1 C.2.1 dX4_doPlan_10 (by decide) (fun q => absurd q c1) (fun _ => ?_)
    refine lv_aload_n C.1 C.2.1 dX4_doPlan_13 rfl (lv_at hl 0 rfl) ?_
    refine lv_aload_n C.1 C.2.1 dX4_doPlan_14 rfl (lv_at hl 0 rfl) ?_
    refine gf_X4_26 C hG hth dX4_doPlan_15 ?_
    refine gf_X4_57 C hG (kx_4_3 hth) dX4_doPlan_18 ?_
    refine lv_iload_n C.1 C.2.1 dX4_doPlan_21 rfl (lv_at hl 2 rfl) ?_
    obtain ⟨v2, hv2, hf⟩ := of_bind hf
    obtain ⟨bv2, ev2⟩ := of_ldS hv2
    refine r_iald C hG (c0 := ((th + 3) + 1)) (kdx_lt (kx_3_0 (kx_4_3 hth)) (by decide)) (entX_I (kx_3_0 (kx_4_3 hth))) bv2 dX4_doPlan_22 ?_
    refine r_top ev2 ?_
    refine lv_aload_n C.1 C.2.1 dX4_doPlan_23 rfl (lv_at hl 0 rfl) ?_
    refine gf_X4_26 C hG hth dX4_doPlan_24 ?_
    refine gf_X4_61 C hG (kx_4_3 hth) dX4_doPlan_27 ?_
    refine lv_iload_n C.1 C.2.1 dX4_doPlan_30 rfl (lv_at hl 2 rfl) ?_
    obtain ⟨v3, hv3, hf⟩ := of_bind hf
    obtain ⟨bv3, ev3⟩ := of_ldS hv3
    refine r_iald C hG (c0 := ((th + 3) + 2)) (kdx_lt (kx_3_1 (kx_4_3 hth)) (by decide)) (entX_I (kx_3_1 (kx_4_3 hth))) bv3 dX4_doPlan_31 ?_
    refine r_top ev3 ?_
    refine lv_aload_n C.1 C.2.1 dX4_doPlan_32 rfl (lv_at hl 1 rfl) ?_
    obtain ⟨w4, hw4, hf⟩ := of_bind hf
    refine r_callV0 C hG hl.1 (c0 := th) (As := [.int v2, .int v3, .ref (B + x1)]) (kdx_lt hth (by decide)) (entX_O4 hth) rfl (mt_X4_doRow l hth h1 hw4) (cwV 3 C.2.2.2.2.1 (gd_V tg_3_235 tg_3_237 tgp_25 tg_1_2 tg_3_238) rfl rfl rfl cd_X4_doRow ⟨Nat.le_of_ble_eq_true rfl, Nat.le_of_ble_eq_true rfl⟩) rfl rfl (Nat.le_of_ble_eq_true rfl) dX4_doPlan_33 (fun H locs hG => ?_)
    obtain ⟨v5, ev5, hf⟩ := of_letv hf
    refine lv_iinc (v := v5) (lv' := [(2, .int v5), (0, .ref (B + th)), (1, .ref (B + x1))]) C.1 C.2.1 dX4_doPlan_36 hl (k := 2) rfl (by rw [ev5, show Int32.ofInt (1) = nI 1 from by decide]) (by decide) rfl (fun ls hl => ?_)
    refine lv_goto (tgt := 2) C.1 C.2.1 dX4_doPlan_39 (by decide) ?_
    obtain rfl := Option.some.inj hf
    exact kL _ rfl _ _ _ hG (lv_sub hl [1, 2, 0] rfl)
set_option maxRecDepth 100000 in
set_option maxHeartbeats 4000000 in
theorem kl_X4_doPlan_2 {th : Nat} {x1 : Nat} (C : CX p s m args meth c cX4_doPlan 3 RX4 wc_X4_doPlan none) (hth : KDx th = (4, 4)) (h1 : KDx x1 = (6, 3)) : ∀ (n : Nat) (st : Int32 × WX) (x : (WX)) (H : Heap) (locs : List Loc) (ls : Array Slot), Gd s G A 153 B (entX G B st.2) X H locs → lv_has ls 3 [(0, .ref (B + th)), (1, .ref (B + x1)), (2, .int st.1)] → lpw (sh_X4_doPlan_s2 th x1) n st = some x →
    (∀ y' : WX, x = y' → ∀ (H : Heap) (locs : List Loc) (ls : Array Slot), Gd s G A 153 B (entX G B y') X H locs → lv_has ls 3 [] → W p l e rm_X4_doPlan s m args below meth c H locs 0 0 Q (F0 m 42 ls [])) → W p l e rm_X4_doPlan s m args below meth c H locs 0 0 Q (F0 m 2 ls []) := by
  intro n
  induction n with
  | zero =>
    intro st x H locs ls hG hl hf
    cases hf
  | succ n ih =>
    intro st x H locs ls hG hl hf kX0
    obtain ⟨r, hr, hh⟩ := of_lpw hf
    refine kb_X4_doPlan_2 C hth h1 hG hl hr (fun st2 e1 H locs ls hG hl => ?_) (fun y2 e1 H locs ls hG hl => ?_)
    · rcases hh with ⟨s3, e2, hh⟩ | e2
      · rw [e2] at e1
        cases e1
        exact ih _ _ _ _ _ hG hl hh kX0
      · rw [e2] at e1
        cases e1
    · rcases hh with ⟨s3, e2, hh⟩ | e2
      · rw [e2] at e1
        cases e1
      · rw [e2] at e1
        cases e1
        exact kX0 _ rfl _ _ _ hG hl
set_option maxRecDepth 100000 in
set_option maxHeartbeats 4000000 in
theorem kb_X4_doPlan_0 {th : Nat} {x1 : Nat} {w : WX} {out : WX} {H : Heap} {locs : List Loc} {ls : Array Slot} (C : CX p s m args meth c cX4_doPlan 3 RX4 wc_X4_doPlan none) (hth : KDx th = (4, 4)) (h1 : KDx x1 = (6, 3)) (hG : Gd s G A 153 B (entX G B w) X H locs) (hl : lv_has ls 3 [(0, .ref (B + th)), (1, .ref (B + x1))]) (hf : sh_X4_doPlan th x1 w = some out) :
    W p l e rm_X4_doPlan s m args below meth c H locs 0 0 (MQ below (CPost G A 153 B (entX G B out) X none) args s 0 0 A) (F0 m 0 ls []) := by
  refine lv_iconst (v := nI 0) C.1 C.2.1 dX4_doPlan_0 (by decide) ?_
  refine lv_istore_n (lv' := [(2, .int (nI 0)), (0, .ref (B + th)), (1, .ref (B + x1))]) C.1 C.2.1 dX4_doPlan_1 rfl hl (by decide) rfl (fun ls hl => ?_)
  obtain ⟨ex1, hex1, hf⟩ := of_bind hf
  refine kl_X4_doPlan_2 C hth h1 FU (nI 0, w) ex1 _ _ _ hG (lv_sub hl [1, 2, 0] rfl) hex1 (fun y e0 H locs ls hG hl => ?_)
  subst e0
  obtain rfl := Option.some.inj hf
  exact r_vret C hG dX4_doPlan_42
set_option maxRecDepth 100000 in
set_option maxHeartbeats 4000000 in
theorem mt_X4_doPlan (l : Launch) {G : GG} {A : Nat → Prop} {B : Nat} {X : va_W} {th : Nat} {x1 : Nat} {w : WX} {out : WX} (hth : KDx th = (4, 4)) (h1 : KDx x1 = (6, 3)) (hf : sh_X4_doPlan th x1 w = some out) : MetW l yX4_doPlan wc_X4_doPlan rm_X4_doPlan G A 153 B (entX G B w) X [.ref (B + th), .ref (B + x1)] none (entX G B out) := by
  refine Met.ofW (cc := cX4_doPlan) (maxL := 3) (ret := none) (by decide) rfl ?_
  intro p e s m args below meth c s₁ B0 hml hv
  obtain ⟨rfl, hEv, hWd⟩ := hv
  have C : CX p s m _ meth c cX4_doPlan 3 RX4 wc_X4_doPlan none := ⟨B0.exec, B0.bytes, hml, findClass_of_methodNamed B0.named, atoms_spec (ws := wc_X4_doPlan) B0.pre, B0.returns, B0.notSynchronized⟩
  have hl := lv_entry [.ref (B + th), .ref (B + x1)] (n := 3) (Nat.le_of_ble_eq_true rfl)
  rw [lg_entry_eq]
  generalize (lg_sl [.ref (B + th), .ref (B + x1)] ++ List.replicate (3 - (lg_sl [.ref (B + th), .ref (B + x1)]).length) Slot.unset).toArray = ls at hl ⊢
  have hl : lv_has ls 3 [(0, .ref (B + th)), (1, .ref (B + x1))] := hl
  exact kb_X4_doPlan_0 C hth h1 ⟨hEv, hWd, va_S.rf⟩ hl hf
abbrev wc_X4_piecesOfAll : List Cond := Cond.code yX4_piecesOfAll cX4_piecesOfAll 3 (some .int) :: TG
abbrev rm_X4_piecesOfAll : Room := { frames := 2, cells := 0, slots := 0, locals := 100 }
theorem cd_X4_piecesOfAll : yX4_piecesOfAll.cls = RX4 ∧ yX4_piecesOfAll.cls ≠ "java/lang/invoke/MethodHandle" ∧ yX4_piecesOfAll.cls ≠ "java/lang/invoke/VarHandle" ∧ (parseMethodDescriptor yX4_piecesOfAll.desc).map (fun d => d.parameters.length) = some 0 := by decide +kernel
theorem dX4_piecesOfAll_0 : decode cX4_piecesOfAll 0 = .ok (.iconst 0, 1) := by decide +kernel
theorem dX4_piecesOfAll_1 : decode cX4_piecesOfAll 1 = .ok (.istore_n 1, 1) := by decide +kernel
theorem dX4_piecesOfAll_2 : decode cX4_piecesOfAll 2 = .ok (.iconst 0, 1) := by decide +kernel
theorem dX4_piecesOfAll_3 : decode cX4_piecesOfAll 3 = .ok (.istore_n 2, 1) := by decide +kernel
theorem dX4_piecesOfAll_4 : decode cX4_piecesOfAll 4 = .ok (.iload_n 2, 1) := by decide +kernel
theorem dX4_piecesOfAll_5 : decode cX4_piecesOfAll 5 = .ok (.iconst 4, 1) := by decide +kernel
theorem dX4_piecesOfAll_6 : decode cX4_piecesOfAll 6 = .ok (.if_icmp .ge 21, 3) := by decide +kernel
theorem dX4_piecesOfAll_9 : decode cX4_piecesOfAll 9 = .ok (.iload_n 1, 1) := by decide +kernel
theorem dX4_piecesOfAll_10 : decode cX4_piecesOfAll 10 = .ok (.aload_n 0, 1) := by decide +kernel
theorem dX4_piecesOfAll_11 : decode cX4_piecesOfAll 11 = .ok (.getfield 19, 3) := by decide +kernel
theorem dX4_piecesOfAll_14 : decode cX4_piecesOfAll 14 = .ok (.iload_n 2, 1) := by decide +kernel
theorem dX4_piecesOfAll_15 : decode cX4_piecesOfAll 15 = .ok (.aaload, 1) := by decide +kernel
theorem dX4_piecesOfAll_16 : decode cX4_piecesOfAll 16 = .ok (.getfield 72, 3) := by decide +kernel
theorem dX4_piecesOfAll_19 : decode cX4_piecesOfAll 19 = .ok (.iadd, 1) := by decide +kernel
theorem dX4_piecesOfAll_20 : decode cX4_piecesOfAll 20 = .ok (.istore_n 1, 1) := by decide +kernel
theorem dX4_piecesOfAll_21 : decode cX4_piecesOfAll 21 = .ok (.iinc 2 1, 3) := by decide +kernel
theorem dX4_piecesOfAll_24 : decode cX4_piecesOfAll 24 = .ok (.goto (-20), 3) := by decide +kernel
theorem dX4_piecesOfAll_27 : decode cX4_piecesOfAll 27 = .ok (.iload_n 1, 1) := by decide +kernel
theorem dX4_piecesOfAll_28 : decode cX4_piecesOfAll 28 = .ok (.ireturn, 1) := by decide +kernel
set_option maxRecDepth 100000 in
set_option maxHeartbeats 4000000 in
theorem kb_X4_piecesOfAll_4 {th : Nat} {w : WX} {st : Int32 × Int32} {r : (Int32 × Int32) ⊕ ((Int32))} {H : Heap} {locs : List Loc} {ls : Array Slot} (C : CX p s m args meth c cX4_piecesOfAll 3 RX4 wc_X4_piecesOfAll (some .int)) (hth : KDx th = (4, 4)) (hG : Gd s G A 153 B (entX G B w) X H locs) (hl : lv_has ls 3 [(0, .ref (B + th)), (1, .int st.1), (2, .int st.2)]) (hf : sh_X4_piecesOfAll_s4 th w st = some r)
    (kL : ∀ st' : Int32 × Int32, r = Sum.inl st' → ∀ (H : Heap) (locs : List Loc) (ls : Array Slot), Gd s G A 153 B (entX G B w) X H locs → lv_has ls 3 [(0, .ref (B + th)), (1, .int st'.1), (2, .int st'.2)] → W p l e rm_X4_piecesOfAll s m args below meth c H locs 0 0 Q (F0 m 4 ls []))
    (kX0 : ∀ y' : Int32, r = Sum.inr y' → ∀ (H : Heap) (locs : List Loc) (ls : Array Slot), Gd s G A 153 B (entX G B w) X H locs → lv_has ls 3 [(1, .int y')] → W p l e rm_X4_piecesOfAll s m args below meth c H locs 0 0 Q (F0 m 27 ls [])) :
    W p l e rm_X4_piecesOfAll s m args below meth c H locs 0 0 Q (F0 m 4 ls []) := by
  refine lv_iload_n C.1 C.2.1 dX4_piecesOfAll_4 rfl (lv_at hl 2 rfl) ?_
  refine lv_iconst (v := nI 4) C.1 C.2.1 dX4_piecesOfAll_5 (by decide) ?_
  rcases of_ite hf with ⟨c1, hf⟩ | ⟨c1, hf⟩
  · refine lv_icmp_ge (tgt := 27) C.1 C.2.1 dX4_piecesOfAll_6 (by decide) (fun _ => ?_) (fun q => absurd c1 q)
    obtain rfl := Option.some.inj hf
    exact kX0 _ rfl _ _ _ hG (lv_sub hl [1] rfl)
  · refine lv_icmp_ge (tgt := 27) C.1 C.2.1 dX4_piecesOfAll_6 (by decide) (fun q => absurd q c1) (fun _ => ?_)
    refine lv_iload_n C.1 C.2.1 dX4_piecesOfAll_9 rfl (lv_at hl 1 rfl) ?_
    refine lv_aload_n C.1 C.2.1 dX4_piecesOfAll_10 rfl (lv_at hl 0 rfl) ?_
    refine gf_X4_19 C hG hth dX4_piecesOfAll_11 ?_
    refine lv_iload_n C.1 C.2.1 dX4_piecesOfAll_14 rfl (lv_at hl 2 rfl) ?_
    obtain ⟨c2, hf⟩ := of_grd hf
    obtain ⟨c3, hf⟩ := of_grd hf
    refine r_aald C hG (c0 := (th + 2)) (t0 := 3) rfl (kdx_lt (kx_4_2 hth) (by decide)) (entX_S (kx_4_2 hth)) c2 (rfX_at c2) dX4_piecesOfAll_15 ?_
    refine gf_X4_72 C hG c3 dX4_piecesOfAll_16 ?_
    refine lv_iadd C.1 C.2.1 dX4_piecesOfAll_19 ?_
    obtain ⟨v4, ev4, hf⟩ := of_letv hf
    refine r_top ev4 ?_
    refine lv_istore_n (lv' := [(1, .int v4), (0, .ref (B + th)), (2, .int st.2)]) C.1 C.2.1 dX4_piecesOfAll_20 rfl hl (by decide) rfl (fun ls hl => ?_)
    obtain ⟨v5, ev5, hf⟩ := of_letv hf
    refine lv_iinc (v := v5) (lv' := [(2, .int v5), (1, .int v4), (0, .ref (B + th))]) C.1 C.2.1 dX4_piecesOfAll_21 hl (k := 2) rfl (by rw [ev5, show Int32.ofInt (1) = nI 1 from by decide]) (by decide) rfl (fun ls hl => ?_)
    refine lv_goto (tgt := 4) C.1 C.2.1 dX4_piecesOfAll_24 (by decide) ?_
    obtain rfl := Option.some.inj hf
    exact kL _ rfl _ _ _ hG (lv_sub hl [2, 1, 0] rfl)
set_option maxRecDepth 100000 in
set_option maxHeartbeats 4000000 in
theorem kl_X4_piecesOfAll_4 {th : Nat} {w : WX} (C : CX p s m args meth c cX4_piecesOfAll 3 RX4 wc_X4_piecesOfAll (some .int)) (hth : KDx th = (4, 4)) : ∀ (n : Nat) (st : Int32 × Int32) (x : (Int32)) (H : Heap) (locs : List Loc) (ls : Array Slot), Gd s G A 153 B (entX G B w) X H locs → lv_has ls 3 [(0, .ref (B + th)), (1, .int st.1), (2, .int st.2)] → lpw (sh_X4_piecesOfAll_s4 th w) n st = some x →
    (∀ y' : Int32, x = y' → ∀ (H : Heap) (locs : List Loc) (ls : Array Slot), Gd s G A 153 B (entX G B w) X H locs → lv_has ls 3 [(1, .int y')] → W p l e rm_X4_piecesOfAll s m args below meth c H locs 0 0 Q (F0 m 27 ls [])) → W p l e rm_X4_piecesOfAll s m args below meth c H locs 0 0 Q (F0 m 4 ls []) := by
  intro n
  induction n with
  | zero =>
    intro st x H locs ls hG hl hf
    cases hf
  | succ n ih =>
    intro st x H locs ls hG hl hf kX0
    obtain ⟨r, hr, hh⟩ := of_lpw hf
    refine kb_X4_piecesOfAll_4 C hth hG hl hr (fun st2 e1 H locs ls hG hl => ?_) (fun y2 e1 H locs ls hG hl => ?_)
    · rcases hh with ⟨s3, e2, hh⟩ | e2
      · rw [e2] at e1
        cases e1
        exact ih _ _ _ _ _ hG hl hh kX0
      · rw [e2] at e1
        cases e1
    · rcases hh with ⟨s3, e2, hh⟩ | e2
      · rw [e2] at e1
        cases e1
      · rw [e2] at e1
        cases e1
        exact kX0 _ rfl _ _ _ hG hl
set_option maxRecDepth 100000 in
set_option maxHeartbeats 4000000 in
theorem kb_X4_piecesOfAll_0 {th : Nat} {w : WX} {out : Int32} {H : Heap} {locs : List Loc} {ls : Array Slot} (C : CX p s m args meth c cX4_piecesOfAll 3 RX4 wc_X4_piecesOfAll (some .int)) (hth : KDx th = (4, 4)) (hG : Gd s G A 153 B (entX G B w) X H locs) (hl : lv_has ls 3 [(0, .ref (B + th))]) (hf : sh_X4_piecesOfAll th w = some out) :
    W p l e rm_X4_piecesOfAll s m args below meth c H locs 0 0 (MQ below (CPost G A 153 B (entX G B w) X (some (.int out))) args s 0 0 A) (F0 m 0 ls []) := by
  refine lv_iconst (v := nI 0) C.1 C.2.1 dX4_piecesOfAll_0 (by decide) ?_
  refine lv_istore_n (lv' := [(1, .int (nI 0)), (0, .ref (B + th))]) C.1 C.2.1 dX4_piecesOfAll_1 rfl hl (by decide) rfl (fun ls hl => ?_)
  refine lv_iconst (v := nI 0) C.1 C.2.1 dX4_piecesOfAll_2 (by decide) ?_
  refine lv_istore_n (lv' := [(2, .int (nI 0)), (1, .int (nI 0)), (0, .ref (B + th))]) C.1 C.2.1 dX4_piecesOfAll_3 rfl hl (by decide) rfl (fun ls hl => ?_)
  obtain ⟨ex1, hex1, hf⟩ := of_bind hf
  refine kl_X4_piecesOfAll_4 C hth FU (nI 0, nI 0) ex1 _ _ _ hG (lv_sub hl [2, 1, 0] rfl) hex1 (fun y e0 H locs ls hG hl => ?_)
  subst e0
  refine lv_iload_n C.1 C.2.1 dX4_piecesOfAll_27 rfl (lv_at hl 0 rfl) ?_
  obtain rfl := Option.some.inj hf
  exact r_iret C hG dX4_piecesOfAll_28
set_option maxRecDepth 100000 in
set_option maxHeartbeats 4000000 in
theorem mt_X4_piecesOfAll (l : Launch) {G : GG} {A : Nat → Prop} {B : Nat} {X : va_W} {th : Nat} {w : WX} {out : Int32} (hth : KDx th = (4, 4)) (hf : sh_X4_piecesOfAll th w = some out) : MetW l yX4_piecesOfAll wc_X4_piecesOfAll rm_X4_piecesOfAll G A 153 B (entX G B w) X [.ref (B + th)] (some (.int out)) (entX G B w) := by
  refine Met.ofW (cc := cX4_piecesOfAll) (maxL := 3) (ret := (some .int)) (by decide) rfl ?_
  intro p e s m args below meth c s₁ B0 hml hv
  obtain ⟨rfl, hEv, hWd⟩ := hv
  have C : CX p s m _ meth c cX4_piecesOfAll 3 RX4 wc_X4_piecesOfAll (some .int) := ⟨B0.exec, B0.bytes, hml, findClass_of_methodNamed B0.named, atoms_spec (ws := wc_X4_piecesOfAll) B0.pre, B0.returns, B0.notSynchronized⟩
  have hl := lv_entry [.ref (B + th)] (n := 3) (Nat.le_of_ble_eq_true rfl)
  rw [lg_entry_eq]
  generalize (lg_sl [.ref (B + th)] ++ List.replicate (3 - (lg_sl [.ref (B + th)]).length) Slot.unset).toArray = ls at hl ⊢
  have hl : lv_has ls 3 [(0, .ref (B + th))] := hl
  exact kb_X4_piecesOfAll_0 C hth ⟨hEv, hWd, va_S.rf⟩ hl hf
abbrev wc_X5_add : List Cond := Cond.code yX5_add cX5_add 4 none :: TG
abbrev rm_X5_add : Room := { frames := 3, cells := 0, slots := 0, locals := 122 }
theorem cd_X5_add : yX5_add.cls = RX5 ∧ yX5_add.cls ≠ "java/lang/invoke/MethodHandle" ∧ yX5_add.cls ≠ "java/lang/invoke/VarHandle" ∧ (parseMethodDescriptor yX5_add.desc).map (fun d => d.parameters.length) = some 3 := by decide +kernel
theorem dX5_add_0 : decode cX5_add 0 = .ok (.aload_n 0, 1) := by decide +kernel
theorem dX5_add_1 : decode cX5_add 1 = .ok (.getfield 15, 3) := by decide +kernel
theorem dX5_add_4 : decode cX5_add 4 = .ok (.iload_n 1, 1) := by decide +kernel
theorem dX5_add_5 : decode cX5_add 5 = .ok (.aload_n 0, 1) := by decide +kernel
theorem dX5_add_6 : decode cX5_add 6 = .ok (.getfield 15, 3) := by decide +kernel
theorem dX5_add_9 : decode cX5_add 9 = .ok (.iload_n 1, 1) := by decide +kernel
theorem dX5_add_10 : decode cX5_add 10 = .ok (.iaload, 1) := by decide +kernel
theorem dX5_add_11 : decode cX5_add 11 = .ok (.iload_n 2, 1) := by decide +kernel
theorem dX5_add_12 : decode cX5_add 12 = .ok (.iload_n 3, 1) := by decide +kernel
theorem dX5_add_13 : decode cX5_add 13 = .ok (.invokestatic 107, 3) := by decide +kernel
theorem dX5_add_16 : decode cX5_add 16 = .ok (.iastore, 1) := by decide +kernel
theorem dX5_add_17 : decode cX5_add 17 = .ok (.return_, 1) := by decide +kernel
set_option maxRecDepth 100000 in
set_option maxHeartbeats 4000000 in
theorem kb_X5_add_0 {th : Nat} {x1 : Int32} {x2 : Int32} {x3 : Int32} {w : WX} {out : WX} {H : Heap} {locs : List Loc} {ls : Array Slot} (C : CX p s m args meth c cX5_add 4 RX5 wc_X5_add none) (hth : KDx th = (5, 5)) (hG : Gd s G A 153 B (entX G B w) X H locs) (hl : lv_has ls 4 [(0, .ref (B + th)), (1, .int x1), (2, .int x2), (3, .int x3)]) (hf : sh_X5_add th x1 x2 x3 w = some out) :
    W p l e rm_X5_add s m args below meth c H locs 0 0 (MQ below (CPost G A 153 B (entX G B out) X none) args s 0 0 A) (F0 m 0 ls []) := by
  refine lv_aload_n C.1 C.2.1 dX5_add_0 rfl (lv_at hl 0 rfl) ?_
  refine gf_X5_15 C hG hth dX5_add_1 ?_
  refine lv_iload_n C.1 C.2.1 dX5_add_4 rfl (lv_at hl 1 rfl) ?_
  refine lv_aload_n C.1 C.2.1 dX5_add_5 rfl (lv_at hl 0 rfl) ?_
  refine gf_X5_15 C hG hth dX5_add_6 ?_
  refine lv_iload_n C.1 C.2.1 dX5_add_9 rfl (lv_at hl 1 rfl) ?_
  obtain ⟨v1, hv1, hf⟩ := of_bind hf
  obtain ⟨kv1, bv1, ev1⟩ := of_ldD hv1
  refine r_iald C hG (c0 := w.2 th 1) (kdx_lt (kd_eta kv1) (by decide)) (entX_I (kd_eta kv1)) bv1 dX5_add_10 ?_
  refine r_top ev1 ?_
  refine lv_iload_n C.1 C.2.1 dX5_add_11 rfl (lv_at hl 2 rfl) ?_
  refine lv_iload_n C.1 C.2.1 dX5_add_12 rfl (lv_at hl 3 rfl) ?_
  obtain ⟨v2, hv2, hf⟩ := of_bind hf
  refine r_callSN1 C hG hl.1 (As := [.int v1, .int x2, .int x3]) (mt_X8_plusTimes l  hv2) (va_cnB 3 C.2.2.2.2.1 (gd_all tg_2_105) rfl rfl rfl (hG.1.2.1 _ nn_61) (C.2.2.2.2.1 _ (List.mem_cons_of_mem _ tg_1_1)) cd_X8_plusTimes.2 ⟨Nat.le_of_ble_eq_true rfl, Nat.le_of_ble_eq_true rfl⟩) (C.2.2.2.2.1 _ (List.mem_cons_of_mem _ tg_2_104)) rfl rfl (Nat.le_of_ble_eq_true rfl) dX5_add_13 (fun H locs hG => ?_)
  obtain ⟨w3, hw3, hf⟩ := of_bind hf
  obtain ⟨kw3, bw3, ew3⟩ := of_stDX hw3
  refine r_iast C hG (c0 := w.2 th 1) (kdx_lt (kd_eta kw3) (by decide)) (entX_I (kd_eta kw3)) bw3 (E' := (entX G B w3)) (by rw [ew3]; exact upX_I (kd_eta kw3)) dX5_add_16 (fun H locs hG => ?_)
  obtain rfl := Option.some.inj hf
  exact r_vret C hG dX5_add_17
set_option maxRecDepth 100000 in
set_option maxHeartbeats 4000000 in
theorem mt_X5_add (l : Launch) {G : GG} {A : Nat → Prop} {B : Nat} {X : va_W} {th : Nat} {x1 : Int32} {x2 : Int32} {x3 : Int32} {w : WX} {out : WX} (hth : KDx th = (5, 5)) (hf : sh_X5_add th x1 x2 x3 w = some out) : MetW l yX5_add wc_X5_add rm_X5_add G A 153 B (entX G B w) X [.ref (B + th), .int x1, .int x2, .int x3] none (entX G B out) := by
  refine Met.ofW (cc := cX5_add) (maxL := 4) (ret := none) (by decide) rfl ?_
  intro p e s m args below meth c s₁ B0 hml hv
  obtain ⟨rfl, hEv, hWd⟩ := hv
  have C : CX p s m _ meth c cX5_add 4 RX5 wc_X5_add none := ⟨B0.exec, B0.bytes, hml, findClass_of_methodNamed B0.named, atoms_spec (ws := wc_X5_add) B0.pre, B0.returns, B0.notSynchronized⟩
  have hl := lv_entry [.ref (B + th), .int x1, .int x2, .int x3] (n := 4) (Nat.le_of_ble_eq_true rfl)
  rw [lg_entry_eq]
  generalize (lg_sl [.ref (B + th), .int x1, .int x2, .int x3] ++ List.replicate (4 - (lg_sl [.ref (B + th), .int x1, .int x2, .int x3]).length) Slot.unset).toArray = ls at hl ⊢
  have hl : lv_has ls 4 [(0, .ref (B + th)), (1, .int x1), (2, .int x2), (3, .int x3)] := hl
  exact kb_X5_add_0 C hth ⟨hEv, hWd, va_S.rf⟩ hl hf
abbrev wc_X5_pair : List Cond := Cond.code yX5_pair cX5_pair 5 (some .int) :: TG
abbrev rm_X5_pair : Room := { frames := 2, cells := 0, slots := 0, locals := 100 }
theorem cd_X5_pair : yX5_pair.cls = RX5 ∧ yX5_pair.cls ≠ "java/lang/invoke/MethodHandle" ∧ yX5_pair.cls ≠ "java/lang/invoke/VarHandle" ∧ (parseMethodDescriptor yX5_pair.desc).map (fun d => d.parameters.length) = some 4 := by decide +kernel
theorem dX5_pair_0 : decode cX5_pair 0 = .ok (.iload_n 1, 1) := by decide +kernel
theorem dX5_pair_1 : decode cX5_pair 1 = .ok (.iload_n 2, 1) := by decide +kernel
theorem dX5_pair_2 : decode cX5_pair 2 = .ok (.iload_n 3, 1) := by decide +kernel
theorem dX5_pair_3 : decode cX5_pair 3 = .ok (.aload_n 0, 1) := by decide +kernel
theorem dX5_pair_4 : decode cX5_pair 4 = .ok (.getfield 27, 3) := by decide +kernel
theorem dX5_pair_7 : decode cX5_pair 7 = .ok (.iload 4, 2) := by decide +kernel
theorem dX5_pair_9 : decode cX5_pair 9 = .ok (.imul, 1) := by decide +kernel
theorem dX5_pair_10 : decode cX5_pair 10 = .ok (.iadd, 1) := by decide +kernel
theorem dX5_pair_11 : decode cX5_pair 11 = .ok (.imul, 1) := by decide +kernel
theorem dX5_pair_12 : decode cX5_pair 12 = .ok (.iadd, 1) := by decide +kernel
theorem dX5_pair_13 : decode cX5_pair 13 = .ok (.ireturn, 1) := by decide +kernel
set_option maxRecDepth 100000 in
set_option maxHeartbeats 4000000 in
theorem kb_X5_pair_0 {th : Nat} {x1 : Int32} {x2 : Int32} {x3 : Int32} {x4 : Int32} {w : WX} {out : Int32} {H : Heap} {locs : List Loc} {ls : Array Slot} (C : CX p s m args meth c cX5_pair 5 RX5 wc_X5_pair (some .int)) (hth : KDx th = (5, 5)) (hG : Gd s G A 153 B (entX G B w) X H locs) (hl : lv_has ls 5 [(0, .ref (B + th)), (1, .int x1), (2, .int x2), (3, .int x3), (4, .int x4)]) (hf : sh_X5_pair th x1 x2 x3 x4 w = some out) :
    W p l e rm_X5_pair s m args below meth c H locs 0 0 (MQ below (CPost G A 153 B (entX G B w) X (some (.int out))) args s 0 0 A) (F0 m 0 ls []) := by
  refine lv_iload_n C.1 C.2.1 dX5_pair_0 rfl (lv_at hl 1 rfl) ?_
  refine lv_iload_n C.1 C.2.1 dX5_pair_1 rfl (lv_at hl 2 rfl) ?_
  refine lv_iload_n C.1 C.2.1 dX5_pair_2 rfl (lv_at hl 3 rfl) ?_
  refine lv_aload_n C.1 C.2.1 dX5_pair_3 rfl (lv_at hl 0 rfl) ?_
  refine gf_X5_27 C hG hth dX5_pair_4 ?_
  refine lv_iload C.1 C.2.1 dX5_pair_7 (lv_at hl 4 rfl) ?_
  refine lv_imul C.1 C.2.1 dX5_pair_9 ?_
  refine lv_iadd C.1 C.2.1 dX5_pair_10 ?_
  refine lv_imul C.1 C.2.1 dX5_pair_11 ?_
  refine lv_iadd C.1 C.2.1 dX5_pair_12 ?_
  obtain rfl := Option.some.inj hf
  exact r_iret C hG dX5_pair_13
set_option maxRecDepth 100000 in
set_option maxHeartbeats 4000000 in
theorem mt_X5_pair (l : Launch) {G : GG} {A : Nat → Prop} {B : Nat} {X : va_W} {th : Nat} {x1 : Int32} {x2 : Int32} {x3 : Int32} {x4 : Int32} {w : WX} {out : Int32} (hth : KDx th = (5, 5)) (hf : sh_X5_pair th x1 x2 x3 x4 w = some out) : MetW l yX5_pair wc_X5_pair rm_X5_pair G A 153 B (entX G B w) X [.ref (B + th), .int x1, .int x2, .int x3, .int x4] (some (.int out)) (entX G B w) := by
  refine Met.ofW (cc := cX5_pair) (maxL := 5) (ret := (some .int)) (by decide) rfl ?_
  intro p e s m args below meth c s₁ B0 hml hv
  obtain ⟨rfl, hEv, hWd⟩ := hv
  have C : CX p s m _ meth c cX5_pair 5 RX5 wc_X5_pair (some .int) := ⟨B0.exec, B0.bytes, hml, findClass_of_methodNamed B0.named, atoms_spec (ws := wc_X5_pair) B0.pre, B0.returns, B0.notSynchronized⟩
  have hl := lv_entry [.ref (B + th), .int x1, .int x2, .int x3, .int x4] (n := 5) (Nat.le_of_ble_eq_true rfl)
  rw [lg_entry_eq]
  generalize (lg_sl [.ref (B + th), .int x1, .int x2, .int x3, .int x4] ++ List.replicate (5 - (lg_sl [.ref (B + th), .int x1, .int x2, .int x3, .int x4]).length) Slot.unset).toArray = ls at hl ⊢
  have hl : lv_has ls 5 [(0, .ref (B + th)), (1, .int x1), (2, .int x2), (3, .int x3), (4, .int x4)] := hl
  exact kb_X5_pair_0 C hth ⟨hEv, hWd, va_S.rf⟩ hl hf
abbrev wc_X5_putExchanged : List Cond := Cond.code yX5_putExchanged cX5_putExchanged 7 none :: TG
abbrev rm_X5_putExchanged : Room := { frames := 4, cells := 0, slots := 0, locals := 145 }
theorem cd_X5_putExchanged : yX5_putExchanged.cls = RX5 ∧ yX5_putExchanged.cls ≠ "java/lang/invoke/MethodHandle" ∧ yX5_putExchanged.cls ≠ "java/lang/invoke/VarHandle" ∧ (parseMethodDescriptor yX5_putExchanged.desc).map (fun d => d.parameters.length) = some 1 := by decide +kernel
theorem dX5_putExchanged_0 : decode cX5_putExchanged 0 = .ok (.aload_n 0, 1) := by decide +kernel
theorem dX5_putExchanged_1 : decode cX5_putExchanged 1 = .ok (.getfield 18, 3) := by decide +kernel
theorem dX5_putExchanged_4 : decode cX5_putExchanged 4 = .ok (.aload_n 0, 1) := by decide +kernel
theorem dX5_putExchanged_5 : decode cX5_putExchanged 5 = .ok (.getfield 28, 3) := by decide +kernel
theorem dX5_putExchanged_8 : decode cX5_putExchanged 8 = .ok (.iconst 2, 1) := by decide +kernel
theorem dX5_putExchanged_9 : decode cX5_putExchanged 9 = .ok (.isub, 1) := by decide +kernel
theorem dX5_putExchanged_10 : decode cX5_putExchanged 10 = .ok (.iaload, 1) := by decide +kernel
theorem dX5_putExchanged_11 : decode cX5_putExchanged 11 = .ok (.istore_n 2, 1) := by decide +kernel
theorem dX5_putExchanged_12 : decode cX5_putExchanged 12 = .ok (.iconst 0, 1) := by decide +kernel
theorem dX5_putExchanged_13 : decode cX5_putExchanged 13 = .ok (.istore_n 3, 1) := by decide +kernel
theorem dX5_putExchanged_14 : decode cX5_putExchanged 14 = .ok (.iload_n 3, 1) := by decide +kernel
theorem dX5_putExchanged_15 : decode cX5_putExchanged 15 = .ok (.aload_n 0, 1) := by decide +kernel
theorem dX5_putExchanged_16 : decode cX5_putExchanged 16 = .ok (.getfield 27, 3) := by decide +kernel
theorem dX5_putExchanged_19 : decode cX5_putExchanged 19 = .ok (.if_icmp .ge 92, 3) := by decide +kernel
theorem dX5_putExchanged_22 : decode cX5_putExchanged 22 = .ok (.iconst 0, 1) := by decide +kernel
theorem dX5_putExchanged_23 : decode cX5_putExchanged 23 = .ok (.istore 4, 2) := by decide +kernel
theorem dX5_putExchanged_25 : decode cX5_putExchanged 25 = .ok (.iload 4, 2) := by decide +kernel
theorem dX5_putExchanged_27 : decode cX5_putExchanged 27 = .ok (.aload_n 0, 1) := by decide +kernel
theorem dX5_putExchanged_28 : decode cX5_putExchanged 28 = .ok (.getfield 27, 3) := by decide +kernel
theorem dX5_putExchanged_31 : decode cX5_putExchanged 31 = .ok (.if_icmp .ge 74, 3) := by decide +kernel
theorem dX5_putExchanged_34 : decode cX5_putExchanged 34 = .ok (.aload_n 1, 1) := by decide +kernel
theorem dX5_putExchanged_35 : decode cX5_putExchanged 35 = .ok (.iload_n 3, 1) := by decide +kernel
theorem dX5_putExchanged_36 : decode cX5_putExchanged 36 = .ok (.iload 4, 2) := by decide +kernel
theorem dX5_putExchanged_38 : decode cX5_putExchanged 38 = .ok (.invokevirtual 104, 3) := by decide +kernel
theorem dX5_putExchanged_41 : decode cX5_putExchanged 41 = .ok (.ifCond .eq 9, 3) := by decide +kernel
theorem dX5_putExchanged_44 : decode cX5_putExchanged 44 = .ok (.sipush 9972, 3) := by decide +kernel
theorem dX5_putExchanged_47 : decode cX5_putExchanged 47 = .ok (.goto 4, 3) := by decide +kernel
theorem dX5_putExchanged_50 : decode cX5_putExchanged 50 = .ok (.iconst 1, 1) := by decide +kernel
theorem dX5_putExchanged_51 : decode cX5_putExchanged 51 = .ok (.istore 5, 2) := by decide +kernel
theorem dX5_putExchanged_53 : decode cX5_putExchanged 53 = .ok (.iconst 0, 1) := by decide +kernel
theorem dX5_putExchanged_54 : decode cX5_putExchanged 54 = .ok (.istore 6, 2) := by decide +kernel
theorem dX5_putExchanged_56 : decode cX5_putExchanged 56 = .ok (.iload 6, 2) := by decide +kernel
theorem dX5_putExchanged_58 : decode cX5_putExchanged 58 = .ok (.iload_n 2, 1) := by decide +kernel
theorem dX5_putExchanged_59 : decode cX5_putExchanged 59 = .ok (.if_icmp .ge 40, 3) := by decide +kernel
theorem dX5_putExchanged_62 : decode cX5_putExchanged 62 = .ok (.aload_n 0, 1) := by decide +kernel
theorem dX5_putExchanged_63 : decode cX5_putExchanged 63 = .ok (.aload_n 0, 1) := by decide +kernel
theorem dX5_putExchanged_64 : decode cX5_putExchanged 64 = .ok (.iload 6, 2) := by decide +kernel
theorem dX5_putExchanged_66 : decode cX5_putExchanged 66 = .ok (.iload_n 2, 1) := by decide +kernel
theorem dX5_putExchanged_67 : decode cX5_putExchanged 67 = .ok (.iload 4, 2) := by decide +kernel
theorem dX5_putExchanged_69 : decode cX5_putExchanged 69 = .ok (.iload_n 3, 1) := by decide +kernel
theorem dX5_putExchanged_70 : decode cX5_putExchanged 70 = .ok (.invokevirtual 90, 3) := by decide +kernel
theorem dX5_putExchanged_73 : decode cX5_putExchanged 73 = .ok (.aload_n 0, 1) := by decide +kernel
theorem dX5_putExchanged_74 : decode cX5_putExchanged 74 = .ok (.getfield 9, 3) := by decide +kernel
theorem dX5_putExchanged_77 : decode cX5_putExchanged 77 = .ok (.aload_n 0, 1) := by decide +kernel
theorem dX5_putExchanged_78 : decode cX5_putExchanged 78 = .ok (.iload 6, 2) := by decide +kernel
theorem dX5_putExchanged_80 : decode cX5_putExchanged 80 = .ok (.iload_n 2, 1) := by decide +kernel
theorem dX5_putExchanged_81 : decode cX5_putExchanged 81 = .ok (.iload_n 3, 1) := by decide +kernel
theorem dX5_putExchanged_82 : decode cX5_putExchanged 82 = .ok (.iload 4, 2) := by decide +kernel
theorem dX5_putExchanged_84 : decode cX5_putExchanged 84 = .ok (.invokevirtual 90, 3) := by decide +kernel
theorem dX5_putExchanged_87 : decode cX5_putExchanged 87 = .ok (.iaload, 1) := by decide +kernel
theorem dX5_putExchanged_88 : decode cX5_putExchanged 88 = .ok (.iload 5, 2) := by decide +kernel
theorem dX5_putExchanged_90 : decode cX5_putExchanged 90 = .ok (.invokevirtual 79, 3) := by decide +kernel
theorem dX5_putExchanged_93 : decode cX5_putExchanged 93 = .ok (.iinc 6 1, 3) := by decide +kernel
theorem dX5_putExchanged_96 : decode cX5_putExchanged 96 = .ok (.goto (-40), 3) := by decide +kernel
theorem dX5_putExchanged_99 : decode cX5_putExchanged 99 = .ok (.iinc 4 1, 3) := by decide +kernel
theorem dX5_putExchanged_102 : decode cX5_putExchanged 102 = .ok (.goto (-77), 3) := by decide +kernel
theorem dX5_putExchanged_105 : decode cX5_putExchanged 105 = .ok (.iinc 3 1, 3) := by decide +kernel
theorem dX5_putExchanged_108 : decode cX5_putExchanged 108 = .ok (.goto (-94), 3) := by decide +kernel
theorem dX5_putExchanged_111 : decode cX5_putExchanged 111 = .ok (.return_, 1) := by decide +kernel
set_option maxRecDepth 100000 in
set_option maxHeartbeats 4000000 in
theorem kb_X5_putExchanged_56 {th : Nat} {x1 : Nat} {x2 : Int32} {x3 : Int32} {x4 : Int32} {x5 : Int32} {st : Int32 × WX} {r : (Int32 × WX) ⊕ ((WX))} {H : Heap} {locs : List Loc} {ls : Array Slot} (C : CX p s m args meth c cX5_putExchanged 7 RX5 wc_X5_putExchanged none) (hth : KDx th = (5, 5)) (h1 : KDx x1 = (0, 13)) (hG : Gd s G A 153 B (entX G B st.2) X H locs) (hl : lv_has ls 7 [(0, .ref (B + th)), (1, .ref (B + x1)), (2, .int x2), (3, .int x3), (4, .int x4), (5, .int x5), (6, .int st.1)]) (hf : sh_X5_putExchanged_s56 th x1 x2 x3 x4 x5 st = some r)
    (kL : ∀ st' : Int32 × WX, r = Sum.inl st' → ∀ (H : Heap) (locs : List Loc) (ls : Array Slot), Gd s G A 153 B (entX G B st'.2) X H locs → lv_has ls 7 [(0, .ref (B + th)), (1, .ref (B + x1)), (2, .int x2), (3, .int x3), (4, .int x4), (5, .int x5), (6, .int st'.1)] → W p l e rm_X5_putExchanged s m args below meth c H locs 0 0 Q (F0 m 56 ls []))
    (kX0 : ∀ y' : WX, r = Sum.inr y' → ∀ (H : Heap) (locs : List Loc) (ls : Array Slot), Gd s G A 153 B (entX G B y') X H locs → lv_has ls 7 [(0, .ref (B + th)), (1, .ref (B + x1)), (2, .int x2), (3, .int x3), (4, .int x4)] → W p l e rm_X5_putExchanged s m args below meth c H locs 0 0 Q (F0 m 99 ls [])) :
    W p l e rm_X5_putExchanged s m args below meth c H locs 0 0 Q (F0 m 56 ls []) := by
  refine lv_iload C.1 C.2.1 dX5_putExchanged_56 (lv_at hl 6 rfl) ?_
  refine lv_iload_n C.1 C.2.1 dX5_putExchanged_58 rfl (lv_at hl 2 rfl) ?_
  rcases of_ite hf with ⟨c1, hf⟩ | ⟨c1, hf⟩
  · refine lv_icmp_ge (tgt := 99) C.1 C.2.1 dX5_putExchanged_59 (by decide) (fun _ => ?_) (fun q => absurd c1 q)
    obtain rfl := Option.some.inj hf
    exact kX0 _ rfl _ _ _ hG (lv_sub hl [0, 1, 2, 3, 4] rfl)
  · refine lv_icmp_ge (tgt := 99) C.1 C.2.1 dX5_putExchanged_59 (by decide) (fun q => absurd q c1) (fun _ => ?_)
    refine lv_aload_n C.1 C.2.1 dX5_putExchanged_62 rfl (lv_at hl 0 rfl) ?_
    refine lv_aload_n C.1 C.2.1 dX5_putExchanged_63 rfl (lv_at hl 0 rfl) ?_
    refine lv_iload C.1 C.2.1 dX5_putExchanged_64 (lv_at hl 6 rfl) ?_
    refine lv_iload_n C.1 C.2.1 dX5_putExchanged_66 rfl (lv_at hl 2 rfl) ?_
    refine lv_iload C.1 C.2.1 dX5_putExchanged_67 (lv_at hl 4 rfl) ?_
    refine lv_iload_n C.1 C.2.1 dX5_putExchanged_69 rfl (lv_at hl 3 rfl) ?_
    obtain ⟨v2, hv2, hf⟩ := of_bind hf
    refine r_callV1 C hG hl.1 (c0 := th) (As := [.int st.1, .int x2, .int x4, .int x3]) (kdx_lt hth (by decide)) (entX_O5 hth) rfl (mt_X5_pair l hth hv2) (cwV 4 C.2.2.2.2.1 (gd_V tg_3_119 tg_3_121 tgp_19 tg_1_9 tg_3_122) rfl rfl rfl cd_X5_pair ⟨Nat.le_of_ble_eq_true rfl, Nat.le_of_ble_eq_true rfl⟩) rfl rfl (Nat.le_of_ble_eq_true rfl) dX5_putExchanged_70 (fun H locs hG => ?_)
    refine lv_aload_n C.1 C.2.1 dX5_putExchanged_73 rfl (lv_at hl 0 rfl) ?_
    refine gf_X5_9 C hG hth dX5_putExchanged_74 ?_
    refine lv_aload_n C.1 C.2.1 dX5_putExchanged_77 rfl (lv_at hl 0 rfl) ?_
    refine lv_iload C.1 C.2.1 dX5_putExchanged_78 (lv_at hl 6 rfl) ?_
    refine lv_iload_n C.1 C.2.1 dX5_putExchanged_80 rfl (lv_at hl 2 rfl) ?_
    refine lv_iload_n C.1 C.2.1 dX5_putExchanged_81 rfl (lv_at hl 3 rfl) ?_
    refine lv_iload C.1 C.2.1 dX5_putExchanged_82 (lv_at hl 4 rfl) ?_
    obtain ⟨v3, hv3, hf⟩ := of_bind hf
    refine r_callV1 C hG hl.1 (c0 := th) (As := [.int st.1, .int x2, .int x3, .int x4]) (kdx_lt hth (by decide)) (entX_O5 hth) rfl (mt_X5_pair l hth hv3) (cwV 4 C.2.2.2.2.1 (gd_V tg_3_119 tg_3_121 tgp_19 tg_1_9 tg_3_122) rfl rfl rfl cd_X5_pair ⟨Nat.le_of_ble_eq_true rfl, Nat.le_of_ble_eq_true rfl⟩) rfl rfl (Nat.le_of_ble_eq_true rfl) dX5_putExchanged_84 (fun H locs hG => ?_)
    obtain ⟨v4, hv4, hf⟩ := of_bind hf
    obtain ⟨kv4, bv4, ev4⟩ := of_ldD hv4
    refine r_iald C hG (c0 := st.2.2 th 0) (kdx_lt (kd_eta kv4) (by decide)) (entX_I (kd_eta kv4)) bv4 dX5_putExchanged_87 ?_
    refine r_top ev4 ?_
    refine lv_iload C.1 C.2.1 dX5_putExchanged_88 (lv_at hl 5 rfl) ?_
    obtain ⟨w5, hw5, hf⟩ := of_bind hf
    refine r_callV0 C hG hl.1 (c0 := th) (As := [.int v2, .int v4, .int x5]) (kdx_lt hth (by decide)) (entX_O5 hth) rfl (mt_X5_add l hth hw5) (cwV 3 C.2.2.2.2.1 (gd_V tg_3_109 tg_3_111 tgp_17 tg_1_9 tg_3_112) rfl rfl rfl cd_X5_add ⟨Nat.le_of_ble_eq_true rfl, Nat.le_of_ble_eq_true rfl⟩) rfl rfl (Nat.le_of_ble_eq_true rfl) dX5_putExchanged_90 (fun H locs hG => ?_)
    obtain ⟨v6, ev6, hf⟩ := of_letv hf
    refine lv_iinc (v := v6) (lv' := [(6, .int v6), (0, .ref (B + th)), (1, .ref (B + x1)), (2, .int x2), (3, .int x3), (4, .int x4), (5, .int x5)]) C.1 C.2.1 dX5_putExchanged_93 hl (k := 6) rfl (by rw [ev6, show Int32.ofInt (1) = nI 1 from by decide]) (by decide) rfl (fun ls hl => ?_)
    refine lv_goto (tgt := 56) C.1 C.2.1 dX5_putExchanged_96 (by decide) ?_
    obtain rfl := Option.some.inj hf
    exact kL _ rfl _ _ _ hG (lv_sub hl [1, 2, 3, 4, 5, 6, 0] rfl)
set_option maxRecDepth 100000 in
set_option maxHeartbeats 4000000 in
theorem kl_X5_putExchanged_56 {th : Nat} {x1 : Nat} {x2 : Int32} {x3 : Int32} {x4 : Int32} {x5 : Int32} (C : CX p s m args meth c cX5_putExchanged 7 RX5 wc_X5_putExchanged none) (hth : KDx th = (5, 5)) (h1 : KDx x1 = (0, 13)) : ∀ (n : Nat) (st : Int32 × WX) (x : (WX)) (H : Heap) (locs : List Loc) (ls : Array Slot), Gd s G A 153 B (entX G B st.2) X H locs → lv_has ls 7 [(0, .ref (B + th)), (1, .ref (B + x1)), (2, .int x2), (3, .int x3), (4, .int x4), (5, .int x5), (6, .int st.1)] → lpw (sh_X5_putExchanged_s56 th x1 x2 x3 x4 x5) n st = some x →
    (∀ y' : WX, x = y' → ∀ (H : Heap) (locs : List Loc) (ls : Array Slot), Gd s G A 153 B (entX G B y') X H locs → lv_has ls 7 [(0, .ref (B + th)), (1, .ref (B + x1)), (2, .int x2), (3, .int x3), (4, .int x4)] → W p l e rm_X5_putExchanged s m args below meth c H locs 0 0 Q (F0 m 99 ls [])) → W p l e rm_X5_putExchanged s m args below meth c H locs 0 0 Q (F0 m 56 ls []) := by
  intro n
  induction n with
  | zero =>
    intro st x H locs ls hG hl hf
    cases hf
  | succ n ih =>
    intro st x H locs ls hG hl hf kX0
    obtain ⟨r, hr, hh⟩ := of_lpw hf
    refine kb_X5_putExchanged_56 C hth h1 hG hl hr (fun st2 e1 H locs ls hG hl => ?_) (fun y2 e1 H locs ls hG hl => ?_)
    · rcases hh with ⟨s3, e2, hh⟩ | e2
      · rw [e2] at e1
        cases e1
        exact ih _ _ _ _ _ hG hl hh kX0
      · rw [e2] at e1
        cases e1
    · rcases hh with ⟨s3, e2, hh⟩ | e2
      · rw [e2] at e1
        cases e1
      · rw [e2] at e1
        cases e1
        exact kX0 _ rfl _ _ _ hG hl
set_option maxRecDepth 100000 in
set_option maxHeartbeats 4000000 in
theorem kb_X5_putExchanged_51 {th : Nat} {x1 : Nat} {x2 : Int32} {x3 : Int32} {x4 : Int32} {s0 : Int32} {w : WX} {r : (Int32 × WX) ⊕ ((WX))} {H : Heap} {locs : List Loc} {ls : Array Slot} (C : CX p s m args meth c cX5_putExchanged 7 RX5 wc_X5_putExchanged none) (hth : KDx th = (5, 5)) (h1 : KDx x1 = (0, 13)) (hG : Gd s G A 153 B (entX G B w) X H locs) (hl : lv_has ls 7 [(0, .ref (B + th)), (1, .ref (B + x1)), (2, .int x2), (3, .int x3), (4, .int x4)]) (hf : sh_X5_putExchanged_j51 th x1 x2 x3 x4 s0 w = some r)
    (kL : ∀ st' : Int32 × WX, r = Sum.inl st' → ∀ (H : Heap) (locs : List Loc) (ls : Array Slot), Gd s G A 153 B (entX G B st'.2) X H locs → lv_has ls 7 [(0, .ref (B + th)), (1, .ref (B + x1)), (2, .int x2), (3, .int x3), (4, .int st'.1)] → W p l e rm_X5_putExchanged s m args below meth c H locs 0 0 Q (F0 m 25 ls []))
    (kX0 : ∀ y' : WX, r = Sum.inr y' → ∀ (H : Heap) (locs : List Loc) (ls : Array Slot), Gd s G A 153 B (entX G B y') X H locs → lv_has ls 7 [(0, .ref (B + th)), (1, .ref (B + x1)), (2, .int x2), (3, .int x3)] → W p l e rm_X5_putExchanged s m args below meth c H locs 0 0 Q (F0 m 105 ls [])) :
    W p l e rm_X5_putExchanged s m args below meth c H locs 0 0 Q (F0 m 51 ls [.int s0]) := by
  refine lv_istore (lv' := [(5, .int s0), (0, .ref (B + th)), (1, .ref (B + x1)), (2, .int x2), (3, .int x3), (4, .int x4)]) C.1 C.2.1 dX5_putExchanged_51 hl (by decide) rfl (fun ls hl => ?_)
  refine lv_iconst (v := nI 0) C.1 C.2.1 dX5_putExchanged_53 (by decide) ?_
  refine lv_istore (lv' := [(6, .int (nI 0)), (5, .int s0), (0, .ref (B + th)), (1, .ref (B + x1)), (2, .int x2), (3, .int x3), (4, .int x4)]) C.1 C.2.1 dX5_putExchanged_54 hl (by decide) rfl (fun ls hl => ?_)
  obtain ⟨ex1, hex1, hf⟩ := of_bind hf
  refine kl_X5_putExchanged_56 C hth h1 FU (nI 0, w) ex1 _ _ _ hG (lv_sub hl [2, 3, 4, 5, 6, 1, 0] rfl) hex1 (fun y e0 H locs ls hG hl => ?_)
  subst e0
  obtain ⟨v2, ev2, hf⟩ := of_letv hf
  refine lv_iinc (v := v2) (lv' := [(4, .int v2), (0, .ref (B + th)), (1, .ref (B + x1)), (2, .int x2), (3, .int x3)]) C.1 C.2.1 dX5_putExchanged_99 hl (k := 4) rfl (by rw [ev2, show Int32.ofInt (1) = nI 1 from by decide]) (by decide) rfl (fun ls hl => ?_)
  refine lv_goto (tgt := 25) C.1 C.2.1 dX5_putExchanged_102 (by decide) ?_
  obtain rfl := Option.some.inj hf
  exact kL _ rfl _ _ _ hG (lv_sub hl [1, 2, 3, 4, 0] rfl)
set_option maxRecDepth 100000 in
set_option maxHeartbeats 4000000 in
theorem kb_X5_putExchanged_25 {th : Nat} {x1 : Nat} {x2 : Int32} {x3 : Int32} {st : Int32 × WX} {r : (Int32 × WX) ⊕ ((WX))} {H : Heap} {locs : List Loc} {ls : Array Slot} (C : CX p s m args meth c cX5_putExchanged 7 RX5 wc_X5_putExchanged none) (hth : KDx th = (5, 5)) (h1 : KDx x1 = (0, 13)) (hG : Gd s G A 153 B (entX G B st.2) X H locs) (hl : lv_has ls 7 [(0, .ref (B + th)), (1, .ref (B + x1)), (2, .int x2), (3, .int x3), (4, .int st.1)]) (hf : sh_X5_putExchanged_s25 th x1 x2 x3 st = some r)
    (kL : ∀ st' : Int32 × WX, r = Sum.inl st' → ∀ (H : Heap) (locs : List Loc) (ls : Array Slot), Gd s G A 153 B (entX G B st'.2) X H locs → lv_has ls 7 [(0, .ref (B + th)), (1, .ref (B + x1)), (2, .int x2), (3, .int x3), (4, .int st'.1)] → W p l e rm_X5_putExchanged s m args below meth c H locs 0 0 Q (F0 m 25 ls []))
    (kX0 : ∀ y' : WX, r = Sum.inr y' → ∀ (H : Heap) (locs : List Loc) (ls : Array Slot), Gd s G A 153 B (entX G B y') X H locs → lv_has ls 7 [(0, .ref (B + th)), (1, .ref (B + x1)), (2, .int x2), (3, .int x3)] → W p l e rm_X5_putExchanged s m args below meth c H locs 0 0 Q (F0 m 105 ls [])) :
    W p l e rm_X5_putExchanged s m args below meth c H locs 0 0 Q (F0 m 25 ls []) := by
  refine lv_iload C.1 C.2.1 dX5_putExchanged_25 (lv_at hl 4 rfl) ?_
  refine lv_aload_n C.1 C.2.1 dX5_putExchanged_27 rfl (lv_at hl 0 rfl) ?_
  refine gf_X5_27 C hG hth dX5_putExchanged_28 ?_
  rcases of_ite hf with ⟨c1, hf⟩ | ⟨c1, hf⟩
  · refine lv_icmp_ge (tgt := 105) C.1 C.2.1 dX5_putExchanged_31 (by decide) (fun _ => ?_) (fun q => absurd c1 q)
    obtain rfl := Option.some.inj hf
    exact kX0 _ rfl _ _ _ hG (lv_sub hl [0, 1, 2, 3] rfl)
  · refine lv_icmp_ge (tgt := 105) C.1 C.2.1 dX5_putExchanged_31 (by decide) (fun q => absurd q c1) (fun _ => ?_)
    refine lv_aload_n C.1 C.2.1 dX5_putExchanged_34 rfl (lv_at hl 1 rfl) ?_
    refine lv_iload_n C.1 C.2.1 dX5_putExchanged_35 rfl (lv_at hl 3 rfl) ?_
    refine lv_iload C.1 C.2.1 dX5_putExchanged_36 (lv_at hl 4 rfl) ?_
    obtain ⟨v2, hv2, hf⟩ := of_bind hf
    refine r_callV1 C hG hl.1 (c0 := x1) (As := [.int x3, .int st.1]) (kdx_lt h1 (by decide)) (entX_O0 h1) rfl (mt_X0_turnsSign l h1 hv2) (cwV 2 C.2.2.2.2.1 (gd_V tg_3_136 tg_3_137 tg_3_138 tg_1_4 tg_3_139) rfl rfl rfl cd_X0_turnsSign ⟨Nat.le_of_ble_eq_true rfl, Nat.le_of_ble_eq_true rfl⟩) rfl rfl (Nat.le_of_ble_eq_true rfl) dX5_putExchanged_38 (fun H locs hG => ?_)
    rcases of_ite hf with ⟨c3, hf⟩ | ⟨c3, hf⟩
    · refine lv_if_eq (tgt := 50) C.1 C.2.1 dX5_putExchanged_41 (by decide) (fun _ => ?_) (fun q => absurd c3 q)
      refine lv_iconst (v := nI 1) C.1 C.2.1 dX5_putExchanged_50 (by decide) ?_
      exact kb_X5_putExchanged_51 C hth h1 hG hl hf kL kX0
    · refine lv_if_eq (tgt := 50) C.1 C.2.1 dX5_putExchanged_41 (by decide) (fun q => absurd q c3) (fun _ => ?_)
      refine lv_sipush (v := nI 9972) C.1 C.2.1 dX5_putExchanged_44 (by decide) ?_
      refine lv_goto (tgt := 51) C.1 C.2.1 dX5_putExchanged_47 (by decide) ?_
      exact kb_X5_putExchanged_51 C hth h1 hG hl hf kL kX0
set_option maxRecDepth 100000 in
set_option maxHeartbeats 4000000 in
theorem kl_X5_putExchanged_25 {th : Nat} {x1 : Nat} {x2 : Int32} {x3 : Int32} (C : CX p s m args meth c cX5_putExchanged 7 RX5 wc_X5_putExchanged none) (hth : KDx th = (5, 5)) (h1 : KDx x1 = (0, 13)) : ∀ (n : Nat) (st : Int32 × WX) (x : (WX)) (H : Heap) (locs : List Loc) (ls : Array Slot), Gd s G A 153 B (entX G B st.2) X H locs → lv_has ls 7 [(0, .ref (B + th)), (1, .ref (B + x1)), (2, .int x2), (3, .int x3), (4, .int st.1)] → lpw (sh_X5_putExchanged_s25 th x1 x2 x3) n st = some x →
    (∀ y' : WX, x = y' → ∀ (H : Heap) (locs : List Loc) (ls : Array Slot), Gd s G A 153 B (entX G B y') X H locs → lv_has ls 7 [(0, .ref (B + th)), (1, .ref (B + x1)), (2, .int x2), (3, .int x3)] → W p l e rm_X5_putExchanged s m args below meth c H locs 0 0 Q (F0 m 105 ls [])) → W p l e rm_X5_putExchanged s m args below meth c H locs 0 0 Q (F0 m 25 ls []) := by
  intro n
  induction n with
  | zero =>
    intro st x H locs ls hG hl hf
    cases hf
  | succ n ih =>
    intro st x H locs ls hG hl hf kX0
    obtain ⟨r, hr, hh⟩ := of_lpw hf
    refine kb_X5_putExchanged_25 C hth h1 hG hl hr (fun st2 e1 H locs ls hG hl => ?_) (fun y2 e1 H locs ls hG hl => ?_)
    · rcases hh with ⟨s3, e2, hh⟩ | e2
      · rw [e2] at e1
        cases e1
        exact ih _ _ _ _ _ hG hl hh kX0
      · rw [e2] at e1
        cases e1
    · rcases hh with ⟨s3, e2, hh⟩ | e2
      · rw [e2] at e1
        cases e1
      · rw [e2] at e1
        cases e1
        exact kX0 _ rfl _ _ _ hG hl
set_option maxRecDepth 100000 in
set_option maxHeartbeats 4000000 in
theorem kb_X5_putExchanged_14 {th : Nat} {x1 : Nat} {x2 : Int32} {st : Int32 × WX} {r : (Int32 × WX) ⊕ ((WX))} {H : Heap} {locs : List Loc} {ls : Array Slot} (C : CX p s m args meth c cX5_putExchanged 7 RX5 wc_X5_putExchanged none) (hth : KDx th = (5, 5)) (h1 : KDx x1 = (0, 13)) (hG : Gd s G A 153 B (entX G B st.2) X H locs) (hl : lv_has ls 7 [(0, .ref (B + th)), (1, .ref (B + x1)), (2, .int x2), (3, .int st.1)]) (hf : sh_X5_putExchanged_s14 th x1 x2 st = some r)
    (kL : ∀ st' : Int32 × WX, r = Sum.inl st' → ∀ (H : Heap) (locs : List Loc) (ls : Array Slot), Gd s G A 153 B (entX G B st'.2) X H locs → lv_has ls 7 [(0, .ref (B + th)), (1, .ref (B + x1)), (2, .int x2), (3, .int st'.1)] → W p l e rm_X5_putExchanged s m args below meth c H locs 0 0 Q (F0 m 14 ls []))
    (kX0 : ∀ y' : WX, r = Sum.inr y' → ∀ (H : Heap) (locs : List Loc) (ls : Array Slot), Gd s G A 153 B (entX G B y') X H locs → lv_has ls 7 [] → W p l e rm_X5_putExchanged s m args below meth c H locs 0 0 Q (F0 m 111 ls [])) :
    W p l e rm_X5_putExchanged s m args below meth c H locs 0 0 Q (F0 m 14 ls []) := by
  refine lv_iload_n C.1 C.2.1 dX5_putExchanged_14 rfl (lv_at hl 3 rfl) ?_
  refine lv_aload_n C.1 C.2.1 dX5_putExchanged_15 rfl (lv_at hl 0 rfl) ?_
  refine gf_X5_27 C hG hth dX5_putExchanged_16 ?_
  rcases of_ite hf with ⟨c1, hf⟩ | ⟨c1, hf⟩
  · refine lv_icmp_ge (tgt := 111) C.1 C.2.1 dX5_putExchanged_19 (by decide) (fun _ => ?_) (fun q => absurd c1 q)
    obtain rfl := Option.some.inj hf
    exact kX0 _ rfl _ _ _ hG (lv_sub hl [] rfl)
  · refine lv_icmp_ge (tgt := 111) C.1 C.2.1 dX5_putExchanged_19 (by decide) (fun q => absurd q c1) (fun _ => ?_)
    refine lv_iconst (v := nI 0) C.1 C.2.1 dX5_putExchanged_22 (by decide) ?_
    refine lv_istore (lv' := [(4, .int (nI 0)), (0, .ref (B + th)), (1, .ref (B + x1)), (2, .int x2), (3, .int st.1)]) C.1 C.2.1 dX5_putExchanged_23 hl (by decide) rfl (fun ls hl => ?_)
    obtain ⟨ex2, hex2, hf⟩ := of_bind hf
    refine kl_X5_putExchanged_25 C hth h1 FU (nI 0, st.2) ex2 _ _ _ hG (lv_sub hl [1, 2, 3, 4, 0] rfl) hex2 (fun y e0 H locs ls hG hl => ?_)
    subst e0
    obtain ⟨v3, ev3, hf⟩ := of_letv hf
    refine lv_iinc (v := v3) (lv' := [(3, .int v3), (0, .ref (B + th)), (1, .ref (B + x1)), (2, .int x2)]) C.1 C.2.1 dX5_putExchanged_105 hl (k := 3) rfl (by rw [ev3, show Int32.ofInt (1) = nI 1 from by decide]) (by decide) rfl (fun ls hl => ?_)
    refine lv_goto (tgt := 14) C.1 C.2.1 dX5_putExchanged_108 (by decide) ?_
    obtain rfl := Option.some.inj hf
    exact kL _ rfl _ _ _ hG (lv_sub hl [1, 2, 3, 0] rfl)
set_option maxRecDepth 100000 in
set_option maxHeartbeats 4000000 in
theorem kl_X5_putExchanged_14 {th : Nat} {x1 : Nat} {x2 : Int32} (C : CX p s m args meth c cX5_putExchanged 7 RX5 wc_X5_putExchanged none) (hth : KDx th = (5, 5)) (h1 : KDx x1 = (0, 13)) : ∀ (n : Nat) (st : Int32 × WX) (x : (WX)) (H : Heap) (locs : List Loc) (ls : Array Slot), Gd s G A 153 B (entX G B st.2) X H locs → lv_has ls 7 [(0, .ref (B + th)), (1, .ref (B + x1)), (2, .int x2), (3, .int st.1)] → lpw (sh_X5_putExchanged_s14 th x1 x2) n st = some x →
    (∀ y' : WX, x = y' → ∀ (H : Heap) (locs : List Loc) (ls : Array Slot), Gd s G A 153 B (entX G B y') X H locs → lv_has ls 7 [] → W p l e rm_X5_putExchanged s m args below meth c H locs 0 0 Q (F0 m 111 ls [])) → W p l e rm_X5_putExchanged s m args below meth c H locs 0 0 Q (F0 m 14 ls []) := by
  intro n
  induction n with
  | zero =>
    intro st x H locs ls hG hl hf
    cases hf
  | succ n ih =>
    intro st x H locs ls hG hl hf kX0
    obtain ⟨r, hr, hh⟩ := of_lpw hf
    refine kb_X5_putExchanged_14 C hth h1 hG hl hr (fun st2 e1 H locs ls hG hl => ?_) (fun y2 e1 H locs ls hG hl => ?_)
    · rcases hh with ⟨s3, e2, hh⟩ | e2
      · rw [e2] at e1
        cases e1
        exact ih _ _ _ _ _ hG hl hh kX0
      · rw [e2] at e1
        cases e1
    · rcases hh with ⟨s3, e2, hh⟩ | e2
      · rw [e2] at e1
        cases e1
      · rw [e2] at e1
        cases e1
        exact kX0 _ rfl _ _ _ hG hl
set_option maxRecDepth 100000 in
set_option maxHeartbeats 4000000 in
theorem kb_X5_putExchanged_0 {th : Nat} {x1 : Nat} {w : WX} {out : WX} {H : Heap} {locs : List Loc} {ls : Array Slot} (C : CX p s m args meth c cX5_putExchanged 7 RX5 wc_X5_putExchanged none) (hth : KDx th = (5, 5)) (h1 : KDx x1 = (0, 13)) (hG : Gd s G A 153 B (entX G B w) X H locs) (hl : lv_has ls 7 [(0, .ref (B + th)), (1, .ref (B + x1))]) (hf : sh_X5_putExchanged th x1 w = some out) :
    W p l e rm_X5_putExchanged s m args below meth c H locs 0 0 (MQ below (CPost G A 153 B (entX G B out) X none) args s 0 0 A) (F0 m 0 ls []) := by
  refine lv_aload_n C.1 C.2.1 dX5_putExchanged_0 rfl (lv_at hl 0 rfl) ?_
  refine gf_X5_18 C hG hth dX5_putExchanged_1 ?_
  refine lv_aload_n C.1 C.2.1 dX5_putExchanged_4 rfl (lv_at hl 0 rfl) ?_
  refine gf_X5_28 C hG hth dX5_putExchanged_5 ?_
  refine lv_iconst (v := nI 2) C.1 C.2.1 dX5_putExchanged_8 (by decide) ?_
  refine lv_isub C.1 C.2.1 dX5_putExchanged_9 ?_
  obtain ⟨v1, hv1, hf⟩ := of_bind hf
  obtain ⟨bv1, ev1⟩ := of_ldS hv1
  refine r_iald C hG (c0 := (th + 3)) (kdx_lt (kx_5_2 hth) (by decide)) (entX_I (kx_5_2 hth)) bv1 dX5_putExchanged_10 ?_
  refine r_top ev1 ?_
  refine lv_istore_n (lv' := [(2, .int v1), (0, .ref (B + th)), (1, .ref (B + x1))]) C.1 C.2.1 dX5_putExchanged_11 rfl hl (by decide) rfl (fun ls hl => ?_)
  refine lv_iconst (v := nI 0) C.1 C.2.1 dX5_putExchanged_12 (by decide) ?_
  refine lv_istore_n (lv' := [(3, .int (nI 0)), (2, .int v1), (0, .ref (B + th)), (1, .ref (B + x1))]) C.1 C.2.1 dX5_putExchanged_13 rfl hl (by decide) rfl (fun ls hl => ?_)
  obtain ⟨ex2, hex2, hf⟩ := of_bind hf
  refine kl_X5_putExchanged_14 C hth h1 FU (nI 0, w) ex2 _ _ _ hG (lv_sub hl [2, 3, 1, 0] rfl) hex2 (fun y e0 H locs ls hG hl => ?_)
  subst e0
  obtain rfl := Option.some.inj hf
  exact r_vret C hG dX5_putExchanged_111
set_option maxRecDepth 100000 in
set_option maxHeartbeats 4000000 in
theorem mt_X5_putExchanged (l : Launch) {G : GG} {A : Nat → Prop} {B : Nat} {X : va_W} {th : Nat} {x1 : Nat} {w : WX} {out : WX} (hth : KDx th = (5, 5)) (h1 : KDx x1 = (0, 13)) (hf : sh_X5_putExchanged th x1 w = some out) : MetW l yX5_putExchanged wc_X5_putExchanged rm_X5_putExchanged G A 153 B (entX G B w) X [.ref (B + th), .ref (B + x1)] none (entX G B out) := by
  refine Met.ofW (cc := cX5_putExchanged) (maxL := 7) (ret := none) (by decide) rfl ?_
  intro p e s m args below meth c s₁ B0 hml hv
  obtain ⟨rfl, hEv, hWd⟩ := hv
  have C : CX p s m _ meth c cX5_putExchanged 7 RX5 wc_X5_putExchanged none := ⟨B0.exec, B0.bytes, hml, findClass_of_methodNamed B0.named, atoms_spec (ws := wc_X5_putExchanged) B0.pre, B0.returns, B0.notSynchronized⟩
  have hl := lv_entry [.ref (B + th), .ref (B + x1)] (n := 7) (Nat.le_of_ble_eq_true rfl)
  rw [lg_entry_eq]
  generalize (lg_sl [.ref (B + th), .ref (B + x1)] ++ List.replicate (7 - (lg_sl [.ref (B + th), .ref (B + x1)]).length) Slot.unset).toArray = ls at hl ⊢
  have hl : lv_has ls 7 [(0, .ref (B + th)), (1, .ref (B + x1))] := hl
  exact kb_X5_putExchanged_0 C hth h1 ⟨hEv, hWd, va_S.rf⟩ hl hf
abbrev wc_X5_putOne : List Cond := Cond.code yX5_putOne cX5_putOne 5 none :: TG
abbrev rm_X5_putOne : Room := { frames := 4, cells := 0, slots := 0, locals := 145 }
theorem cd_X5_putOne : yX5_putOne.cls = RX5 ∧ yX5_putOne.cls ≠ "java/lang/invoke/MethodHandle" ∧ yX5_putOne.cls ≠ "java/lang/invoke/VarHandle" ∧ (parseMethodDescriptor yX5_putOne.desc).map (fun d => d.parameters.length) = some 1 := by decide +kernel
theorem dX5_putOne_0 : decode cX5_putOne 0 = .ok (.aload_n 0, 1) := by decide +kernel
theorem dX5_putOne_1 : decode cX5_putOne 1 = .ok (.getfield 18, 3) := by decide +kernel
theorem dX5_putOne_4 : decode cX5_putOne 4 = .ok (.aload_n 0, 1) := by decide +kernel
theorem dX5_putOne_5 : decode cX5_putOne 5 = .ok (.getfield 28, 3) := by decide +kernel
theorem dX5_putOne_8 : decode cX5_putOne 8 = .ok (.iaload, 1) := by decide +kernel
theorem dX5_putOne_9 : decode cX5_putOne 9 = .ok (.istore_n 2, 1) := by decide +kernel
theorem dX5_putOne_10 : decode cX5_putOne 10 = .ok (.iconst 0, 1) := by decide +kernel
theorem dX5_putOne_11 : decode cX5_putOne 11 = .ok (.istore_n 3, 1) := by decide +kernel
theorem dX5_putOne_12 : decode cX5_putOne 12 = .ok (.iload_n 3, 1) := by decide +kernel
theorem dX5_putOne_13 : decode cX5_putOne 13 = .ok (.aload_n 0, 1) := by decide +kernel
theorem dX5_putOne_14 : decode cX5_putOne 14 = .ok (.getfield 27, 3) := by decide +kernel
theorem dX5_putOne_17 : decode cX5_putOne 17 = .ok (.if_icmp .ge 47, 3) := by decide +kernel
theorem dX5_putOne_20 : decode cX5_putOne 20 = .ok (.iconst 0, 1) := by decide +kernel
theorem dX5_putOne_21 : decode cX5_putOne 21 = .ok (.istore 4, 2) := by decide +kernel
theorem dX5_putOne_23 : decode cX5_putOne 23 = .ok (.iload 4, 2) := by decide +kernel
theorem dX5_putOne_25 : decode cX5_putOne 25 = .ok (.iload_n 2, 1) := by decide +kernel
theorem dX5_putOne_26 : decode cX5_putOne 26 = .ok (.if_icmp .ge 32, 3) := by decide +kernel
theorem dX5_putOne_29 : decode cX5_putOne 29 = .ok (.aload_n 0, 1) := by decide +kernel
theorem dX5_putOne_30 : decode cX5_putOne 30 = .ok (.iload 4, 2) := by decide +kernel
theorem dX5_putOne_32 : decode cX5_putOne 32 = .ok (.iload_n 2, 1) := by decide +kernel
theorem dX5_putOne_33 : decode cX5_putOne 33 = .ok (.iload_n 3, 1) := by decide +kernel
theorem dX5_putOne_34 : decode cX5_putOne 34 = .ok (.imul, 1) := by decide +kernel
theorem dX5_putOne_35 : decode cX5_putOne 35 = .ok (.iadd, 1) := by decide +kernel
theorem dX5_putOne_36 : decode cX5_putOne 36 = .ok (.aload_n 0, 1) := by decide +kernel
theorem dX5_putOne_37 : decode cX5_putOne 37 = .ok (.getfield 9, 3) := by decide +kernel
theorem dX5_putOne_40 : decode cX5_putOne 40 = .ok (.iload 4, 2) := by decide +kernel
theorem dX5_putOne_42 : decode cX5_putOne 42 = .ok (.iaload, 1) := by decide +kernel
theorem dX5_putOne_43 : decode cX5_putOne 43 = .ok (.aload_n 1, 1) := by decide +kernel
theorem dX5_putOne_44 : decode cX5_putOne 44 = .ok (.getfield 76, 3) := by decide +kernel
theorem dX5_putOne_47 : decode cX5_putOne 47 = .ok (.iload_n 3, 1) := by decide +kernel
theorem dX5_putOne_48 : decode cX5_putOne 48 = .ok (.iaload, 1) := by decide +kernel
theorem dX5_putOne_49 : decode cX5_putOne 49 = .ok (.invokevirtual 79, 3) := by decide +kernel
theorem dX5_putOne_52 : decode cX5_putOne 52 = .ok (.iinc 4 1, 3) := by decide +kernel
theorem dX5_putOne_55 : decode cX5_putOne 55 = .ok (.goto (-32), 3) := by decide +kernel
theorem dX5_putOne_58 : decode cX5_putOne 58 = .ok (.iinc 3 1, 3) := by decide +kernel
theorem dX5_putOne_61 : decode cX5_putOne 61 = .ok (.goto (-49), 3) := by decide +kernel
theorem dX5_putOne_64 : decode cX5_putOne 64 = .ok (.return_, 1) := by decide +kernel
set_option maxRecDepth 100000 in
set_option maxHeartbeats 4000000 in
theorem kb_X5_putOne_23 {th : Nat} {x1 : Nat} {x2 : Int32} {x3 : Int32} {st : Int32 × WX} {r : (Int32 × WX) ⊕ ((WX))} {H : Heap} {locs : List Loc} {ls : Array Slot} (C : CX p s m args meth c cX5_putOne 5 RX5 wc_X5_putOne none) (hth : KDx th = (5, 5)) (h1 : KDx x1 = (0, 13)) (hG : Gd s G A 153 B (entX G B st.2) X H locs) (hl : lv_has ls 5 [(0, .ref (B + th)), (1, .ref (B + x1)), (2, .int x2), (3, .int x3), (4, .int st.1)]) (hf : sh_X5_putOne_s23 th x1 x2 x3 st = some r)
    (kL : ∀ st' : Int32 × WX, r = Sum.inl st' → ∀ (H : Heap) (locs : List Loc) (ls : Array Slot), Gd s G A 153 B (entX G B st'.2) X H locs → lv_has ls 5 [(0, .ref (B + th)), (1, .ref (B + x1)), (2, .int x2), (3, .int x3), (4, .int st'.1)] → W p l e rm_X5_putOne s m args below meth c H locs 0 0 Q (F0 m 23 ls []))
    (kX0 : ∀ y' : WX, r = Sum.inr y' → ∀ (H : Heap) (locs : List Loc) (ls : Array Slot), Gd s G A 153 B (entX G B y') X H locs → lv_has ls 5 [(0, .ref (B + th)), (1, .ref (B + x1)), (2, .int x2), (3, .int x3)] → W p l e rm_X5_putOne s m args below meth c H locs 0 0 Q (F0 m 58 ls [])) :
    W p l e rm_X5_putOne s m args below meth c H locs 0 0 Q (F0 m 23 ls []) := by
  refine lv_iload C.1 C.2.1 dX5_putOne_23 (lv_at hl 4 rfl) ?_
  refine lv_iload_n C.1 C.2.1 dX5_putOne_25 rfl (lv_at hl 2 rfl) ?_
  rcases of_ite hf with ⟨c1, hf⟩ | ⟨c1, hf⟩
  · refine lv_icmp_ge (tgt := 58) C.1 C.2.1 dX5_putOne_26 (by decide) (fun _ => ?_) (fun q => absurd c1 q)
    obtain rfl := Option.some.inj hf
    exact kX0 _ rfl _ _ _ hG (lv_sub hl [0, 1, 2, 3] rfl)
  · refine lv_icmp_ge (tgt := 58) C.1 C.2.1 dX5_putOne_26 (by decide) (fun q => absurd q c1) (fun _ => ?_)
    refine lv_aload_n C.1 C.2.1 dX5_putOne_29 rfl (lv_at hl 0 rfl) ?_
    refine lv_iload C.1 C.2.1 dX5_putOne_30 (lv_at hl 4 rfl) ?_
    refine lv_iload_n C.1 C.2.1 dX5_putOne_32 rfl (lv_at hl 2 rfl) ?_
    refine lv_iload_n C.1 C.2.1 dX5_putOne_33 rfl (lv_at hl 3 rfl) ?_
    refine lv_imul C.1 C.2.1 dX5_putOne_34 ?_
    refine lv_iadd C.1 C.2.1 dX5_putOne_35 ?_
    refine lv_aload_n C.1 C.2.1 dX5_putOne_36 rfl (lv_at hl 0 rfl) ?_
    refine gf_X5_9 C hG hth dX5_putOne_37 ?_
    refine lv_iload C.1 C.2.1 dX5_putOne_40 (lv_at hl 4 rfl) ?_
    obtain ⟨v2, hv2, hf⟩ := of_bind hf
    obtain ⟨kv2, bv2, ev2⟩ := of_ldD hv2
    refine r_iald C hG (c0 := st.2.2 th 0) (kdx_lt (kd_eta kv2) (by decide)) (entX_I (kd_eta kv2)) bv2 dX5_putOne_42 ?_
    refine r_top ev2 ?_
    refine lv_aload_n C.1 C.2.1 dX5_putOne_43 rfl (lv_at hl 1 rfl) ?_
    refine gf_X5_76 C hG h1 dX5_putOne_44 ?_
    refine lv_iload_n C.1 C.2.1 dX5_putOne_47 rfl (lv_at hl 3 rfl) ?_
    obtain ⟨v3, hv3, hf⟩ := of_bind hf
    obtain ⟨bv3, ev3⟩ := of_ldS hv3
    refine r_iald C hG (c0 := (x1 + 5)) (kdx_lt (kx_0_8 h1) (by decide)) (entX_I (kx_0_8 h1)) bv3 dX5_putOne_48 ?_
    refine r_top ev3 ?_
    obtain ⟨w4, hw4, hf⟩ := of_bind hf
    refine r_callV0 C hG hl.1 (c0 := th) (As := [.int (st.1 + (x2 * x3)), .int v2, .int v3]) (kdx_lt hth (by decide)) (entX_O5 hth) rfl (mt_X5_add l hth hw4) (cwV 3 C.2.2.2.2.1 (gd_V tg_3_109 tg_3_111 tgp_17 tg_1_9 tg_3_112) rfl rfl rfl cd_X5_add ⟨Nat.le_of_ble_eq_true rfl, Nat.le_of_ble_eq_true rfl⟩) rfl rfl (Nat.le_of_ble_eq_true rfl) dX5_putOne_49 (fun H locs hG => ?_)
    obtain ⟨v5, ev5, hf⟩ := of_letv hf
    refine lv_iinc (v := v5) (lv' := [(4, .int v5), (0, .ref (B + th)), (1, .ref (B + x1)), (2, .int x2), (3, .int x3)]) C.1 C.2.1 dX5_putOne_52 hl (k := 4) rfl (by rw [ev5, show Int32.ofInt (1) = nI 1 from by decide]) (by decide) rfl (fun ls hl => ?_)
    refine lv_goto (tgt := 23) C.1 C.2.1 dX5_putOne_55 (by decide) ?_
    obtain rfl := Option.some.inj hf
    exact kL _ rfl _ _ _ hG (lv_sub hl [1, 2, 3, 4, 0] rfl)
set_option maxRecDepth 100000 in
set_option maxHeartbeats 4000000 in
theorem kl_X5_putOne_23 {th : Nat} {x1 : Nat} {x2 : Int32} {x3 : Int32} (C : CX p s m args meth c cX5_putOne 5 RX5 wc_X5_putOne none) (hth : KDx th = (5, 5)) (h1 : KDx x1 = (0, 13)) : ∀ (n : Nat) (st : Int32 × WX) (x : (WX)) (H : Heap) (locs : List Loc) (ls : Array Slot), Gd s G A 153 B (entX G B st.2) X H locs → lv_has ls 5 [(0, .ref (B + th)), (1, .ref (B + x1)), (2, .int x2), (3, .int x3), (4, .int st.1)] → lpw (sh_X5_putOne_s23 th x1 x2 x3) n st = some x →
    (∀ y' : WX, x = y' → ∀ (H : Heap) (locs : List Loc) (ls : Array Slot), Gd s G A 153 B (entX G B y') X H locs → lv_has ls 5 [(0, .ref (B + th)), (1, .ref (B + x1)), (2, .int x2), (3, .int x3)] → W p l e rm_X5_putOne s m args below meth c H locs 0 0 Q (F0 m 58 ls [])) → W p l e rm_X5_putOne s m args below meth c H locs 0 0 Q (F0 m 23 ls []) := by
  intro n
  induction n with
  | zero =>
    intro st x H locs ls hG hl hf
    cases hf
  | succ n ih =>
    intro st x H locs ls hG hl hf kX0
    obtain ⟨r, hr, hh⟩ := of_lpw hf
    refine kb_X5_putOne_23 C hth h1 hG hl hr (fun st2 e1 H locs ls hG hl => ?_) (fun y2 e1 H locs ls hG hl => ?_)
    · rcases hh with ⟨s3, e2, hh⟩ | e2
      · rw [e2] at e1
        cases e1
        exact ih _ _ _ _ _ hG hl hh kX0
      · rw [e2] at e1
        cases e1
    · rcases hh with ⟨s3, e2, hh⟩ | e2
      · rw [e2] at e1
        cases e1
      · rw [e2] at e1
        cases e1
        exact kX0 _ rfl _ _ _ hG hl
set_option maxRecDepth 100000 in
set_option maxHeartbeats 4000000 in
theorem kb_X5_putOne_12 {th : Nat} {x1 : Nat} {x2 : Int32} {st : Int32 × WX} {r : (Int32 × WX) ⊕ ((WX))} {H : Heap} {locs : List Loc} {ls : Array Slot} (C : CX p s m args meth c cX5_putOne 5 RX5 wc_X5_putOne none) (hth : KDx th = (5, 5)) (h1 : KDx x1 = (0, 13)) (hG : Gd s G A 153 B (entX G B st.2) X H locs) (hl : lv_has ls 5 [(0, .ref (B + th)), (1, .ref (B + x1)), (2, .int x2), (3, .int st.1)]) (hf : sh_X5_putOne_s12 th x1 x2 st = some r)
    (kL : ∀ st' : Int32 × WX, r = Sum.inl st' → ∀ (H : Heap) (locs : List Loc) (ls : Array Slot), Gd s G A 153 B (entX G B st'.2) X H locs → lv_has ls 5 [(0, .ref (B + th)), (1, .ref (B + x1)), (2, .int x2), (3, .int st'.1)] → W p l e rm_X5_putOne s m args below meth c H locs 0 0 Q (F0 m 12 ls []))
    (kX0 : ∀ y' : WX, r = Sum.inr y' → ∀ (H : Heap) (locs : List Loc) (ls : Array Slot), Gd s G A 153 B (entX G B y') X H locs → lv_has ls 5 [] → W p l e rm_X5_putOne s m args below meth c H locs 0 0 Q (F0 m 64 ls [])) :
    W p l e rm_X5_putOne s m args below meth c H locs 0 0 Q (F0 m 12 ls []) := by
  refine lv_iload_n C.1 C.2.1 dX5_putOne_12 rfl (lv_at hl 3 rfl) ?_
  refine lv_aload_n C.1 C.2.1 dX5_putOne_13 rfl (lv_at hl 0 rfl) ?_
  refine gf_X5_27 C hG hth dX5_putOne_14 ?_
  rcases of_ite hf with ⟨c1, hf⟩ | ⟨c1, hf⟩
  · refine lv_icmp_ge (tgt := 64) C.1 C.2.1 dX5_putOne_17 (by decide) (fun _ => ?_) (fun q => absurd c1 q)
    obtain rfl := Option.some.inj hf
    exact kX0 _ rfl _ _ _ hG (lv_sub hl [] rfl)
  · refine lv_icmp_ge (tgt := 64) C.1 C.2.1 dX5_putOne_17 (by decide) (fun q => absurd q c1) (fun _ => ?_)
    refine lv_iconst (v := nI 0) C.1 C.2.1 dX5_putOne_20 (by decide) ?_
    refine lv_istore (lv' := [(4, .int (nI 0)), (0, .ref (B + th)), (1, .ref (B + x1)), (2, .int x2), (3, .int st.1)]) C.1 C.2.1 dX5_putOne_21 hl (by decide) rfl (fun ls hl => ?_)
    obtain ⟨ex2, hex2, hf⟩ := of_bind hf
    refine kl_X5_putOne_23 C hth h1 FU (nI 0, st.2) ex2 _ _ _ hG (lv_sub hl [1, 2, 3, 4, 0] rfl) hex2 (fun y e0 H locs ls hG hl => ?_)
    subst e0
    obtain ⟨v3, ev3, hf⟩ := of_letv hf
    refine lv_iinc (v := v3) (lv' := [(3, .int v3), (0, .ref (B + th)), (1, .ref (B + x1)), (2, .int x2)]) C.1 C.2.1 dX5_putOne_58 hl (k := 3) rfl (by rw [ev3, show Int32.ofInt (1) = nI 1 from by decide]) (by decide) rfl (fun ls hl => ?_)
    refine lv_goto (tgt := 12) C.1 C.2.1 dX5_putOne_61 (by decide) ?_
    obtain rfl := Option.some.inj hf
    exact kL _ rfl _ _ _ hG (lv_sub hl [1, 2, 3, 0] rfl)
set_option maxRecDepth 100000 in
set_option maxHeartbeats 4000000 in
theorem kl_X5_putOne_12 {th : Nat} {x1 : Nat} {x2 : Int32} (C : CX p s m args meth c cX5_putOne 5 RX5 wc_X5_putOne none) (hth : KDx th = (5, 5)) (h1 : KDx x1 = (0, 13)) : ∀ (n : Nat) (st : Int32 × WX) (x : (WX)) (H : Heap) (locs : List Loc) (ls : Array Slot), Gd s G A 153 B (entX G B st.2) X H locs → lv_has ls 5 [(0, .ref (B + th)), (1, .ref (B + x1)), (2, .int x2), (3, .int st.1)] → lpw (sh_X5_putOne_s12 th x1 x2) n st = some x →
    (∀ y' : WX, x = y' → ∀ (H : Heap) (locs : List Loc) (ls : Array Slot), Gd s G A 153 B (entX G B y') X H locs → lv_has ls 5 [] → W p l e rm_X5_putOne s m args below meth c H locs 0 0 Q (F0 m 64 ls [])) → W p l e rm_X5_putOne s m args below meth c H locs 0 0 Q (F0 m 12 ls []) := by
  intro n
  induction n with
  | zero =>
    intro st x H locs ls hG hl hf
    cases hf
  | succ n ih =>
    intro st x H locs ls hG hl hf kX0
    obtain ⟨r, hr, hh⟩ := of_lpw hf
    refine kb_X5_putOne_12 C hth h1 hG hl hr (fun st2 e1 H locs ls hG hl => ?_) (fun y2 e1 H locs ls hG hl => ?_)
    · rcases hh with ⟨s3, e2, hh⟩ | e2
      · rw [e2] at e1
        cases e1
        exact ih _ _ _ _ _ hG hl hh kX0
      · rw [e2] at e1
        cases e1
    · rcases hh with ⟨s3, e2, hh⟩ | e2
      · rw [e2] at e1
        cases e1
      · rw [e2] at e1
        cases e1
        exact kX0 _ rfl _ _ _ hG hl
set_option maxRecDepth 100000 in
set_option maxHeartbeats 4000000 in
theorem kb_X5_putOne_0 {th : Nat} {x1 : Nat} {w : WX} {out : WX} {H : Heap} {locs : List Loc} {ls : Array Slot} (C : CX p s m args meth c cX5_putOne 5 RX5 wc_X5_putOne none) (hth : KDx th = (5, 5)) (h1 : KDx x1 = (0, 13)) (hG : Gd s G A 153 B (entX G B w) X H locs) (hl : lv_has ls 5 [(0, .ref (B + th)), (1, .ref (B + x1))]) (hf : sh_X5_putOne th x1 w = some out) :
    W p l e rm_X5_putOne s m args below meth c H locs 0 0 (MQ below (CPost G A 153 B (entX G B out) X none) args s 0 0 A) (F0 m 0 ls []) := by
  refine lv_aload_n C.1 C.2.1 dX5_putOne_0 rfl (lv_at hl 0 rfl) ?_
  refine gf_X5_18 C hG hth dX5_putOne_1 ?_
  refine lv_aload_n C.1 C.2.1 dX5_putOne_4 rfl (lv_at hl 0 rfl) ?_
  refine gf_X5_28 C hG hth dX5_putOne_5 ?_
  obtain ⟨v1, hv1, hf⟩ := of_bind hf
  obtain ⟨bv1, ev1⟩ := of_ldS hv1
  refine r_iald C hG (c0 := (th + 3)) (kdx_lt (kx_5_2 hth) (by decide)) (entX_I (kx_5_2 hth)) bv1 dX5_putOne_8 ?_
  refine r_top ev1 ?_
  refine lv_istore_n (lv' := [(2, .int v1), (0, .ref (B + th)), (1, .ref (B + x1))]) C.1 C.2.1 dX5_putOne_9 rfl hl (by decide) rfl (fun ls hl => ?_)
  refine lv_iconst (v := nI 0) C.1 C.2.1 dX5_putOne_10 (by decide) ?_
  refine lv_istore_n (lv' := [(3, .int (nI 0)), (2, .int v1), (0, .ref (B + th)), (1, .ref (B + x1))]) C.1 C.2.1 dX5_putOne_11 rfl hl (by decide) rfl (fun ls hl => ?_)
  obtain ⟨ex2, hex2, hf⟩ := of_bind hf
  refine kl_X5_putOne_12 C hth h1 FU (nI 0, w) ex2 _ _ _ hG (lv_sub hl [2, 3, 1, 0] rfl) hex2 (fun y e0 H locs ls hG hl => ?_)
  subst e0
  obtain rfl := Option.some.inj hf
  exact r_vret C hG dX5_putOne_64
set_option maxRecDepth 100000 in
set_option maxHeartbeats 4000000 in
theorem mt_X5_putOne (l : Launch) {G : GG} {A : Nat → Prop} {B : Nat} {X : va_W} {th : Nat} {x1 : Nat} {w : WX} {out : WX} (hth : KDx th = (5, 5)) (h1 : KDx x1 = (0, 13)) (hf : sh_X5_putOne th x1 w = some out) : MetW l yX5_putOne wc_X5_putOne rm_X5_putOne G A 153 B (entX G B w) X [.ref (B + th), .ref (B + x1)] none (entX G B out) := by
  refine Met.ofW (cc := cX5_putOne) (maxL := 5) (ret := none) (by decide) rfl ?_
  intro p e s m args below meth c s₁ B0 hml hv
  obtain ⟨rfl, hEv, hWd⟩ := hv
  have C : CX p s m _ meth c cX5_putOne 5 RX5 wc_X5_putOne none := ⟨B0.exec, B0.bytes, hml, findClass_of_methodNamed B0.named, atoms_spec (ws := wc_X5_putOne) B0.pre, B0.returns, B0.notSynchronized⟩
  have hl := lv_entry [.ref (B + th), .ref (B + x1)] (n := 5) (Nat.le_of_ble_eq_true rfl)
  rw [lg_entry_eq]
  generalize (lg_sl [.ref (B + th), .ref (B + x1)] ++ List.replicate (5 - (lg_sl [.ref (B + th), .ref (B + x1)]).length) Slot.unset).toArray = ls at hl ⊢
  have hl : lv_has ls 5 [(0, .ref (B + th)), (1, .ref (B + x1))] := hl
  exact kb_X5_putOne_0 C hth h1 ⟨hEv, hWd, va_S.rf⟩ hl hf
abbrev wc_X5_putProducts : List Cond := Cond.code yX5_putProducts cX5_putProducts 7 none :: TG
abbrev rm_X5_putProducts : Room := { frames := 4, cells := 0, slots := 0, locals := 145 }
theorem cd_X5_putProducts : yX5_putProducts.cls = RX5 ∧ yX5_putProducts.cls ≠ "java/lang/invoke/MethodHandle" ∧ yX5_putProducts.cls ≠ "java/lang/invoke/VarHandle" ∧ (parseMethodDescriptor yX5_putProducts.desc).map (fun d => d.parameters.length) = some 1 := by decide +kernel
theorem dX5_putProducts_0 : decode cX5_putProducts 0 = .ok (.aload_n 0, 1) := by decide +kernel
theorem dX5_putProducts_1 : decode cX5_putProducts 1 = .ok (.getfield 18, 3) := by decide +kernel
theorem dX5_putProducts_4 : decode cX5_putProducts 4 = .ok (.aload_n 0, 1) := by decide +kernel
theorem dX5_putProducts_5 : decode cX5_putProducts 5 = .ok (.getfield 28, 3) := by decide +kernel
theorem dX5_putProducts_8 : decode cX5_putProducts 8 = .ok (.iconst 2, 1) := by decide +kernel
theorem dX5_putProducts_9 : decode cX5_putProducts 9 = .ok (.isub, 1) := by decide +kernel
theorem dX5_putProducts_10 : decode cX5_putProducts 10 = .ok (.iaload, 1) := by decide +kernel
theorem dX5_putProducts_11 : decode cX5_putProducts 11 = .ok (.istore_n 2, 1) := by decide +kernel
theorem dX5_putProducts_12 : decode cX5_putProducts 12 = .ok (.iconst 0, 1) := by decide +kernel
theorem dX5_putProducts_13 : decode cX5_putProducts 13 = .ok (.istore_n 3, 1) := by decide +kernel
theorem dX5_putProducts_14 : decode cX5_putProducts 14 = .ok (.iload_n 3, 1) := by decide +kernel
theorem dX5_putProducts_15 : decode cX5_putProducts 15 = .ok (.aload_n 0, 1) := by decide +kernel
theorem dX5_putProducts_16 : decode cX5_putProducts 16 = .ok (.getfield 27, 3) := by decide +kernel
theorem dX5_putProducts_19 : decode cX5_putProducts 19 = .ok (.if_icmp .ge 89, 3) := by decide +kernel
theorem dX5_putProducts_22 : decode cX5_putProducts 22 = .ok (.iconst 0, 1) := by decide +kernel
theorem dX5_putProducts_23 : decode cX5_putProducts 23 = .ok (.istore 4, 2) := by decide +kernel
theorem dX5_putProducts_25 : decode cX5_putProducts 25 = .ok (.iload 4, 2) := by decide +kernel
theorem dX5_putProducts_27 : decode cX5_putProducts 27 = .ok (.aload_n 0, 1) := by decide +kernel
theorem dX5_putProducts_28 : decode cX5_putProducts 28 = .ok (.getfield 27, 3) := by decide +kernel
theorem dX5_putProducts_31 : decode cX5_putProducts 31 = .ok (.if_icmp .ge 71, 3) := by decide +kernel
theorem dX5_putProducts_34 : decode cX5_putProducts 34 = .ok (.aload_n 1, 1) := by decide +kernel
theorem dX5_putProducts_35 : decode cX5_putProducts 35 = .ok (.iload_n 3, 1) := by decide +kernel
theorem dX5_putProducts_36 : decode cX5_putProducts 36 = .ok (.iload 4, 2) := by decide +kernel
theorem dX5_putProducts_38 : decode cX5_putProducts 38 = .ok (.invokevirtual 83, 3) := by decide +kernel
theorem dX5_putProducts_41 : decode cX5_putProducts 41 = .ok (.istore 5, 2) := by decide +kernel
theorem dX5_putProducts_43 : decode cX5_putProducts 43 = .ok (.iconst 0, 1) := by decide +kernel
theorem dX5_putProducts_44 : decode cX5_putProducts 44 = .ok (.istore 6, 2) := by decide +kernel
theorem dX5_putProducts_46 : decode cX5_putProducts 46 = .ok (.iload 6, 2) := by decide +kernel
theorem dX5_putProducts_48 : decode cX5_putProducts 48 = .ok (.iload_n 2, 1) := by decide +kernel
theorem dX5_putProducts_49 : decode cX5_putProducts 49 = .ok (.if_icmp .ge 47, 3) := by decide +kernel
theorem dX5_putProducts_52 : decode cX5_putProducts 52 = .ok (.aload_n 0, 1) := by decide +kernel
theorem dX5_putProducts_53 : decode cX5_putProducts 53 = .ok (.iload 6, 2) := by decide +kernel
theorem dX5_putProducts_55 : decode cX5_putProducts 55 = .ok (.iload_n 2, 1) := by decide +kernel
theorem dX5_putProducts_56 : decode cX5_putProducts 56 = .ok (.aload_n 1, 1) := by decide +kernel
theorem dX5_putProducts_57 : decode cX5_putProducts 57 = .ok (.getfield 87, 3) := by decide +kernel
theorem dX5_putProducts_60 : decode cX5_putProducts 60 = .ok (.iload 5, 2) := by decide +kernel
theorem dX5_putProducts_62 : decode cX5_putProducts 62 = .ok (.iaload, 1) := by decide +kernel
theorem dX5_putProducts_63 : decode cX5_putProducts 63 = .ok (.imul, 1) := by decide +kernel
theorem dX5_putProducts_64 : decode cX5_putProducts 64 = .ok (.iadd, 1) := by decide +kernel
theorem dX5_putProducts_65 : decode cX5_putProducts 65 = .ok (.aload_n 0, 1) := by decide +kernel
theorem dX5_putProducts_66 : decode cX5_putProducts 66 = .ok (.getfield 9, 3) := by decide +kernel
theorem dX5_putProducts_69 : decode cX5_putProducts 69 = .ok (.aload_n 0, 1) := by decide +kernel
theorem dX5_putProducts_70 : decode cX5_putProducts 70 = .ok (.iload 6, 2) := by decide +kernel
theorem dX5_putProducts_72 : decode cX5_putProducts 72 = .ok (.iload_n 2, 1) := by decide +kernel
theorem dX5_putProducts_73 : decode cX5_putProducts 73 = .ok (.iload_n 3, 1) := by decide +kernel
theorem dX5_putProducts_74 : decode cX5_putProducts 74 = .ok (.iload 4, 2) := by decide +kernel
theorem dX5_putProducts_76 : decode cX5_putProducts 76 = .ok (.invokevirtual 90, 3) := by decide +kernel
theorem dX5_putProducts_79 : decode cX5_putProducts 79 = .ok (.iaload, 1) := by decide +kernel
theorem dX5_putProducts_80 : decode cX5_putProducts 80 = .ok (.aload_n 1, 1) := by decide +kernel
theorem dX5_putProducts_81 : decode cX5_putProducts 81 = .ok (.getfield 94, 3) := by decide +kernel
theorem dX5_putProducts_84 : decode cX5_putProducts 84 = .ok (.iload 5, 2) := by decide +kernel
theorem dX5_putProducts_86 : decode cX5_putProducts 86 = .ok (.iaload, 1) := by decide +kernel
theorem dX5_putProducts_87 : decode cX5_putProducts 87 = .ok (.invokevirtual 79, 3) := by decide +kernel
theorem dX5_putProducts_90 : decode cX5_putProducts 90 = .ok (.iinc 6 1, 3) := by decide +kernel
theorem dX5_putProducts_93 : decode cX5_putProducts 93 = .ok (.goto (-47), 3) := by decide +kernel
theorem dX5_putProducts_96 : decode cX5_putProducts 96 = .ok (.iinc 4 1, 3) := by decide +kernel
theorem dX5_putProducts_99 : decode cX5_putProducts 99 = .ok (.goto (-74), 3) := by decide +kernel
theorem dX5_putProducts_102 : decode cX5_putProducts 102 = .ok (.iinc 3 1, 3) := by decide +kernel
theorem dX5_putProducts_105 : decode cX5_putProducts 105 = .ok (.goto (-91), 3) := by decide +kernel
theorem dX5_putProducts_108 : decode cX5_putProducts 108 = .ok (.return_, 1) := by decide +kernel
set_option maxRecDepth 100000 in
set_option maxHeartbeats 4000000 in
theorem kb_X5_putProducts_46 {th : Nat} {x1 : Nat} {x2 : Int32} {x3 : Int32} {x4 : Int32} {x5 : Int32} {st : Int32 × WX} {r : (Int32 × WX) ⊕ ((WX))} {H : Heap} {locs : List Loc} {ls : Array Slot} (C : CX p s m args meth c cX5_putProducts 7 RX5 wc_X5_putProducts none) (hth : KDx th = (5, 5)) (h1 : KDx x1 = (0, 13)) (hG : Gd s G A 153 B (entX G B st.2) X H locs) (hl : lv_has ls 7 [(0, .ref (B + th)), (1, .ref (B + x1)), (2, .int x2), (3, .int x3), (4, .int x4), (5, .int x5), (6, .int st.1)]) (hf : sh_X5_putProducts_s46 th x1 x2 x3 x4 x5 st = some r)
    (kL : ∀ st' : Int32 × WX, r = Sum.inl st' → ∀ (H : Heap) (locs : List Loc) (ls : Array Slot), Gd s G A 153 B (entX G B st'.2) X H locs → lv_has ls 7 [(0, .ref (B + th)), (1, .ref (B + x1)), (2, .int x2), (3, .int x3), (4, .int x4), (5, .int x5), (6, .int st'.1)] → W p l e rm_X5_putProducts s m args below meth c H locs 0 0 Q (F0 m 46 ls []))
    (kX0 : ∀ y' : WX, r = Sum.inr y' → ∀ (H : Heap) (locs : List Loc) (ls : Array Slot), Gd s G A 153 B (entX G B y') X H locs → lv_has ls 7 [(0, .ref (B + th)), (1, .ref (B + x1)), (2, .int x2), (3, .int x3), (4, .int x4)] → W p l e rm_X5_putProducts s m args below meth c H locs 0 0 Q (F0 m 96 ls [])) :
    W p l e rm_X5_putProducts s m args below meth c H locs 0 0 Q (F0 m 46 ls []) := by
  refine lv_iload C.1 C.2.1 dX5_putProducts_46 (lv_at hl 6 rfl) ?_
  refine lv_iload_n C.1 C.2.1 dX5_putProducts_48 rfl (lv_at hl 2 rfl) ?_
  rcases of_ite hf with ⟨c1, hf⟩ | ⟨c1, hf⟩
  · refine lv_icmp_ge (tgt := 96) C.1 C.2.1 dX5_putProducts_49 (by decide) (fun _ => ?_) (fun q => absurd c1 q)
    obtain rfl := Option.some.inj hf
    exact kX0 _ rfl _ _ _ hG (lv_sub hl [0, 1, 2, 3, 4] rfl)
  · refine lv_icmp_ge (tgt := 96) C.1 C.2.1 dX5_putProducts_49 (by decide) (fun q => absurd q c1) (fun _ => ?_)
    refine lv_aload_n C.1 C.2.1 dX5_putProducts_52 rfl (lv_at hl 0 rfl) ?_
    refine lv_iload C.1 C.2.1 dX5_putProducts_53 (lv_at hl 6 rfl) ?_
    refine lv_iload_n C.1 C.2.1 dX5_putProducts_55 rfl (lv_at hl 2 rfl) ?_
    refine lv_aload_n C.1 C.2.1 dX5_putProducts_56 rfl (lv_at hl 1 rfl) ?_
    refine gf_X5_87 C hG h1 dX5_putProducts_57 ?_
    refine lv_iload C.1 C.2.1 dX5_putProducts_60 (lv_at hl 5 rfl) ?_
    obtain ⟨v2, hv2, hf⟩ := of_bind hf
    obtain ⟨bv2, ev2⟩ := of_ldS hv2
    refine r_iald C hG (c0 := (x1 + 1)) (kdx_lt (kx_0_4 h1) (by decide)) (entX_I (kx_0_4 h1)) bv2 dX5_putProducts_62 ?_
    refine r_top ev2 ?_
    refine lv_imul C.1 C.2.1 dX5_putProducts_63 ?_
    refine lv_iadd C.1 C.2.1 dX5_putProducts_64 ?_
    refine lv_aload_n C.1 C.2.1 dX5_putProducts_65 rfl (lv_at hl 0 rfl) ?_
    refine gf_X5_9 C hG hth dX5_putProducts_66 ?_
    refine lv_aload_n C.1 C.2.1 dX5_putProducts_69 rfl (lv_at hl 0 rfl) ?_
    refine lv_iload C.1 C.2.1 dX5_putProducts_70 (lv_at hl 6 rfl) ?_
    refine lv_iload_n C.1 C.2.1 dX5_putProducts_72 rfl (lv_at hl 2 rfl) ?_
    refine lv_iload_n C.1 C.2.1 dX5_putProducts_73 rfl (lv_at hl 3 rfl) ?_
    refine lv_iload C.1 C.2.1 dX5_putProducts_74 (lv_at hl 4 rfl) ?_
    obtain ⟨v3, hv3, hf⟩ := of_bind hf
    refine r_callV1 C hG hl.1 (c0 := th) (As := [.int st.1, .int x2, .int x3, .int x4]) (kdx_lt hth (by decide)) (entX_O5 hth) rfl (mt_X5_pair l hth hv3) (cwV 4 C.2.2.2.2.1 (gd_V tg_3_119 tg_3_121 tgp_19 tg_1_9 tg_3_122) rfl rfl rfl cd_X5_pair ⟨Nat.le_of_ble_eq_true rfl, Nat.le_of_ble_eq_true rfl⟩) rfl rfl (Nat.le_of_ble_eq_true rfl) dX5_putProducts_76 (fun H locs hG => ?_)
    obtain ⟨v4, hv4, hf⟩ := of_bind hf
    obtain ⟨kv4, bv4, ev4⟩ := of_ldD hv4
    refine r_iald C hG (c0 := st.2.2 th 0) (kdx_lt (kd_eta kv4) (by decide)) (entX_I (kd_eta kv4)) bv4 dX5_putProducts_79 ?_
    refine r_top ev4 ?_
    refine lv_aload_n C.1 C.2.1 dX5_putProducts_80 rfl (lv_at hl 1 rfl) ?_
    refine gf_X5_94 C hG h1 dX5_putProducts_81 ?_
    refine lv_iload C.1 C.2.1 dX5_putProducts_84 (lv_at hl 5 rfl) ?_
    obtain ⟨v5, hv5, hf⟩ := of_bind hf
    obtain ⟨bv5, ev5⟩ := of_ldS hv5
    refine r_iald C hG (c0 := (x1 + 2)) (kdx_lt (kx_0_5 h1) (by decide)) (entX_I (kx_0_5 h1)) bv5 dX5_putProducts_86 ?_
    refine r_top ev5 ?_
    obtain ⟨w6, hw6, hf⟩ := of_bind hf
    refine r_callV0 C hG hl.1 (c0 := th) (As := [.int (st.1 + (x2 * v2)), .int v4, .int v5]) (kdx_lt hth (by decide)) (entX_O5 hth) rfl (mt_X5_add l hth hw6) (cwV 3 C.2.2.2.2.1 (gd_V tg_3_109 tg_3_111 tgp_17 tg_1_9 tg_3_112) rfl rfl rfl cd_X5_add ⟨Nat.le_of_ble_eq_true rfl, Nat.le_of_ble_eq_true rfl⟩) rfl rfl (Nat.le_of_ble_eq_true rfl) dX5_putProducts_87 (fun H locs hG => ?_)
    obtain ⟨v7, ev7, hf⟩ := of_letv hf
    refine lv_iinc (v := v7) (lv' := [(6, .int v7), (0, .ref (B + th)), (1, .ref (B + x1)), (2, .int x2), (3, .int x3), (4, .int x4), (5, .int x5)]) C.1 C.2.1 dX5_putProducts_90 hl (k := 6) rfl (by rw [ev7, show Int32.ofInt (1) = nI 1 from by decide]) (by decide) rfl (fun ls hl => ?_)
    refine lv_goto (tgt := 46) C.1 C.2.1 dX5_putProducts_93 (by decide) ?_
    obtain rfl := Option.some.inj hf
    exact kL _ rfl _ _ _ hG (lv_sub hl [1, 2, 3, 4, 5, 6, 0] rfl)
set_option maxRecDepth 100000 in
set_option maxHeartbeats 4000000 in
theorem kl_X5_putProducts_46 {th : Nat} {x1 : Nat} {x2 : Int32} {x3 : Int32} {x4 : Int32} {x5 : Int32} (C : CX p s m args meth c cX5_putProducts 7 RX5 wc_X5_putProducts none) (hth : KDx th = (5, 5)) (h1 : KDx x1 = (0, 13)) : ∀ (n : Nat) (st : Int32 × WX) (x : (WX)) (H : Heap) (locs : List Loc) (ls : Array Slot), Gd s G A 153 B (entX G B st.2) X H locs → lv_has ls 7 [(0, .ref (B + th)), (1, .ref (B + x1)), (2, .int x2), (3, .int x3), (4, .int x4), (5, .int x5), (6, .int st.1)] → lpw (sh_X5_putProducts_s46 th x1 x2 x3 x4 x5) n st = some x →
    (∀ y' : WX, x = y' → ∀ (H : Heap) (locs : List Loc) (ls : Array Slot), Gd s G A 153 B (entX G B y') X H locs → lv_has ls 7 [(0, .ref (B + th)), (1, .ref (B + x1)), (2, .int x2), (3, .int x3), (4, .int x4)] → W p l e rm_X5_putProducts s m args below meth c H locs 0 0 Q (F0 m 96 ls [])) → W p l e rm_X5_putProducts s m args below meth c H locs 0 0 Q (F0 m 46 ls []) := by
  intro n
  induction n with
  | zero =>
    intro st x H locs ls hG hl hf
    cases hf
  | succ n ih =>
    intro st x H locs ls hG hl hf kX0
    obtain ⟨r, hr, hh⟩ := of_lpw hf
    refine kb_X5_putProducts_46 C hth h1 hG hl hr (fun st2 e1 H locs ls hG hl => ?_) (fun y2 e1 H locs ls hG hl => ?_)
    · rcases hh with ⟨s3, e2, hh⟩ | e2
      · rw [e2] at e1
        cases e1
        exact ih _ _ _ _ _ hG hl hh kX0
      · rw [e2] at e1
        cases e1
    · rcases hh with ⟨s3, e2, hh⟩ | e2
      · rw [e2] at e1
        cases e1
      · rw [e2] at e1
        cases e1
        exact kX0 _ rfl _ _ _ hG hl
set_option maxRecDepth 100000 in
set_option maxHeartbeats 4000000 in
theorem kb_X5_putProducts_25 {th : Nat} {x1 : Nat} {x2 : Int32} {x3 : Int32} {st : Int32 × WX} {r : (Int32 × WX) ⊕ ((WX))} {H : Heap} {locs : List Loc} {ls : Array Slot} (C : CX p s m args meth c cX5_putProducts 7 RX5 wc_X5_putProducts none) (hth : KDx th = (5, 5)) (h1 : KDx x1 = (0, 13)) (hG : Gd s G A 153 B (entX G B st.2) X H locs) (hl : lv_has ls 7 [(0, .ref (B + th)), (1, .ref (B + x1)), (2, .int x2), (3, .int x3), (4, .int st.1)]) (hf : sh_X5_putProducts_s25 th x1 x2 x3 st = some r)
    (kL : ∀ st' : Int32 × WX, r = Sum.inl st' → ∀ (H : Heap) (locs : List Loc) (ls : Array Slot), Gd s G A 153 B (entX G B st'.2) X H locs → lv_has ls 7 [(0, .ref (B + th)), (1, .ref (B + x1)), (2, .int x2), (3, .int x3), (4, .int st'.1)] → W p l e rm_X5_putProducts s m args below meth c H locs 0 0 Q (F0 m 25 ls []))
    (kX0 : ∀ y' : WX, r = Sum.inr y' → ∀ (H : Heap) (locs : List Loc) (ls : Array Slot), Gd s G A 153 B (entX G B y') X H locs → lv_has ls 7 [(0, .ref (B + th)), (1, .ref (B + x1)), (2, .int x2), (3, .int x3)] → W p l e rm_X5_putProducts s m args below meth c H locs 0 0 Q (F0 m 102 ls [])) :
    W p l e rm_X5_putProducts s m args below meth c H locs 0 0 Q (F0 m 25 ls []) := by
  refine lv_iload C.1 C.2.1 dX5_putProducts_25 (lv_at hl 4 rfl) ?_
  refine lv_aload_n C.1 C.2.1 dX5_putProducts_27 rfl (lv_at hl 0 rfl) ?_
  refine gf_X5_27 C hG hth dX5_putProducts_28 ?_
  rcases of_ite hf with ⟨c1, hf⟩ | ⟨c1, hf⟩
  · refine lv_icmp_ge (tgt := 102) C.1 C.2.1 dX5_putProducts_31 (by decide) (fun _ => ?_) (fun q => absurd c1 q)
    obtain rfl := Option.some.inj hf
    exact kX0 _ rfl _ _ _ hG (lv_sub hl [0, 1, 2, 3] rfl)
  · refine lv_icmp_ge (tgt := 102) C.1 C.2.1 dX5_putProducts_31 (by decide) (fun q => absurd q c1) (fun _ => ?_)
    refine lv_aload_n C.1 C.2.1 dX5_putProducts_34 rfl (lv_at hl 1 rfl) ?_
    refine lv_iload_n C.1 C.2.1 dX5_putProducts_35 rfl (lv_at hl 3 rfl) ?_
    refine lv_iload C.1 C.2.1 dX5_putProducts_36 (lv_at hl 4 rfl) ?_
    obtain ⟨v2, hv2, hf⟩ := of_bind hf
    refine r_callVN1 C hG hl.1 (c0 := x1) (As := [.int x3, .int st.1]) (kdx_lt h1 (by decide)) (entX_O0 h1) rfl (mt_X0_at l h1 hv2) (va_cnB 2 C.2.2.2.2.1 (gd_all tg_2_71) rfl rfl rfl (hG.1.2.1 _ nn_62) (C.2.2.2.2.1 _ (List.mem_cons_of_mem _ tg_1_4)) cd_X0_at.2 ⟨Nat.le_of_ble_eq_true rfl, Nat.le_of_ble_eq_true rfl⟩) (C.2.2.2.2.1 _ (List.mem_cons_of_mem _ tg_2_70)) (C.2.2.2.2.1 _ (List.mem_cons_of_mem _ tgp_1)) rfl rfl (Nat.le_of_ble_eq_true rfl) dX5_putProducts_38 (fun H locs hG => ?_)
    refine lv_istore (lv' := [(5, .int v2), (0, .ref (B + th)), (1, .ref (B + x1)), (2, .int x2), (3, .int x3), (4, .int st.1)]) C.1 C.2.1 dX5_putProducts_41 hl (by decide) rfl (fun ls hl => ?_)
    refine lv_iconst (v := nI 0) C.1 C.2.1 dX5_putProducts_43 (by decide) ?_
    refine lv_istore (lv' := [(6, .int (nI 0)), (5, .int v2), (0, .ref (B + th)), (1, .ref (B + x1)), (2, .int x2), (3, .int x3), (4, .int st.1)]) C.1 C.2.1 dX5_putProducts_44 hl (by decide) rfl (fun ls hl => ?_)
    obtain ⟨ex3, hex3, hf⟩ := of_bind hf
    refine kl_X5_putProducts_46 C hth h1 FU (nI 0, st.2) ex3 _ _ _ hG (lv_sub hl [2, 3, 4, 5, 6, 1, 0] rfl) hex3 (fun y e0 H locs ls hG hl => ?_)
    subst e0
    obtain ⟨v4, ev4, hf⟩ := of_letv hf
    refine lv_iinc (v := v4) (lv' := [(4, .int v4), (0, .ref (B + th)), (1, .ref (B + x1)), (2, .int x2), (3, .int x3)]) C.1 C.2.1 dX5_putProducts_96 hl (k := 4) rfl (by rw [ev4, show Int32.ofInt (1) = nI 1 from by decide]) (by decide) rfl (fun ls hl => ?_)
    refine lv_goto (tgt := 25) C.1 C.2.1 dX5_putProducts_99 (by decide) ?_
    obtain rfl := Option.some.inj hf
    exact kL _ rfl _ _ _ hG (lv_sub hl [1, 2, 3, 4, 0] rfl)
set_option maxRecDepth 100000 in
set_option maxHeartbeats 4000000 in
theorem kl_X5_putProducts_25 {th : Nat} {x1 : Nat} {x2 : Int32} {x3 : Int32} (C : CX p s m args meth c cX5_putProducts 7 RX5 wc_X5_putProducts none) (hth : KDx th = (5, 5)) (h1 : KDx x1 = (0, 13)) : ∀ (n : Nat) (st : Int32 × WX) (x : (WX)) (H : Heap) (locs : List Loc) (ls : Array Slot), Gd s G A 153 B (entX G B st.2) X H locs → lv_has ls 7 [(0, .ref (B + th)), (1, .ref (B + x1)), (2, .int x2), (3, .int x3), (4, .int st.1)] → lpw (sh_X5_putProducts_s25 th x1 x2 x3) n st = some x →
    (∀ y' : WX, x = y' → ∀ (H : Heap) (locs : List Loc) (ls : Array Slot), Gd s G A 153 B (entX G B y') X H locs → lv_has ls 7 [(0, .ref (B + th)), (1, .ref (B + x1)), (2, .int x2), (3, .int x3)] → W p l e rm_X5_putProducts s m args below meth c H locs 0 0 Q (F0 m 102 ls [])) → W p l e rm_X5_putProducts s m args below meth c H locs 0 0 Q (F0 m 25 ls []) := by
  intro n
  induction n with
  | zero =>
    intro st x H locs ls hG hl hf
    cases hf
  | succ n ih =>
    intro st x H locs ls hG hl hf kX0
    obtain ⟨r, hr, hh⟩ := of_lpw hf
    refine kb_X5_putProducts_25 C hth h1 hG hl hr (fun st2 e1 H locs ls hG hl => ?_) (fun y2 e1 H locs ls hG hl => ?_)
    · rcases hh with ⟨s3, e2, hh⟩ | e2
      · rw [e2] at e1
        cases e1
        exact ih _ _ _ _ _ hG hl hh kX0
      · rw [e2] at e1
        cases e1
    · rcases hh with ⟨s3, e2, hh⟩ | e2
      · rw [e2] at e1
        cases e1
      · rw [e2] at e1
        cases e1
        exact kX0 _ rfl _ _ _ hG hl
set_option maxRecDepth 100000 in
set_option maxHeartbeats 4000000 in
theorem kb_X5_putProducts_14 {th : Nat} {x1 : Nat} {x2 : Int32} {st : Int32 × WX} {r : (Int32 × WX) ⊕ ((WX))} {H : Heap} {locs : List Loc} {ls : Array Slot} (C : CX p s m args meth c cX5_putProducts 7 RX5 wc_X5_putProducts none) (hth : KDx th = (5, 5)) (h1 : KDx x1 = (0, 13)) (hG : Gd s G A 153 B (entX G B st.2) X H locs) (hl : lv_has ls 7 [(0, .ref (B + th)), (1, .ref (B + x1)), (2, .int x2), (3, .int st.1)]) (hf : sh_X5_putProducts_s14 th x1 x2 st = some r)
    (kL : ∀ st' : Int32 × WX, r = Sum.inl st' → ∀ (H : Heap) (locs : List Loc) (ls : Array Slot), Gd s G A 153 B (entX G B st'.2) X H locs → lv_has ls 7 [(0, .ref (B + th)), (1, .ref (B + x1)), (2, .int x2), (3, .int st'.1)] → W p l e rm_X5_putProducts s m args below meth c H locs 0 0 Q (F0 m 14 ls []))
    (kX0 : ∀ y' : WX, r = Sum.inr y' → ∀ (H : Heap) (locs : List Loc) (ls : Array Slot), Gd s G A 153 B (entX G B y') X H locs → lv_has ls 7 [] → W p l e rm_X5_putProducts s m args below meth c H locs 0 0 Q (F0 m 108 ls [])) :
    W p l e rm_X5_putProducts s m args below meth c H locs 0 0 Q (F0 m 14 ls []) := by
  refine lv_iload_n C.1 C.2.1 dX5_putProducts_14 rfl (lv_at hl 3 rfl) ?_
  refine lv_aload_n C.1 C.2.1 dX5_putProducts_15 rfl (lv_at hl 0 rfl) ?_
  refine gf_X5_27 C hG hth dX5_putProducts_16 ?_
  rcases of_ite hf with ⟨c1, hf⟩ | ⟨c1, hf⟩
  · refine lv_icmp_ge (tgt := 108) C.1 C.2.1 dX5_putProducts_19 (by decide) (fun _ => ?_) (fun q => absurd c1 q)
    obtain rfl := Option.some.inj hf
    exact kX0 _ rfl _ _ _ hG (lv_sub hl [] rfl)
  · refine lv_icmp_ge (tgt := 108) C.1 C.2.1 dX5_putProducts_19 (by decide) (fun q => absurd q c1) (fun _ => ?_)
    refine lv_iconst (v := nI 0) C.1 C.2.1 dX5_putProducts_22 (by decide) ?_
    refine lv_istore (lv' := [(4, .int (nI 0)), (0, .ref (B + th)), (1, .ref (B + x1)), (2, .int x2), (3, .int st.1)]) C.1 C.2.1 dX5_putProducts_23 hl (by decide) rfl (fun ls hl => ?_)
    obtain ⟨ex2, hex2, hf⟩ := of_bind hf
    refine kl_X5_putProducts_25 C hth h1 FU (nI 0, st.2) ex2 _ _ _ hG (lv_sub hl [1, 2, 3, 4, 0] rfl) hex2 (fun y e0 H locs ls hG hl => ?_)
    subst e0
    obtain ⟨v3, ev3, hf⟩ := of_letv hf
    refine lv_iinc (v := v3) (lv' := [(3, .int v3), (0, .ref (B + th)), (1, .ref (B + x1)), (2, .int x2)]) C.1 C.2.1 dX5_putProducts_102 hl (k := 3) rfl (by rw [ev3, show Int32.ofInt (1) = nI 1 from by decide]) (by decide) rfl (fun ls hl => ?_)
    refine lv_goto (tgt := 14) C.1 C.2.1 dX5_putProducts_105 (by decide) ?_
    obtain rfl := Option.some.inj hf
    exact kL _ rfl _ _ _ hG (lv_sub hl [1, 2, 3, 0] rfl)
set_option maxRecDepth 100000 in
set_option maxHeartbeats 4000000 in
theorem kl_X5_putProducts_14 {th : Nat} {x1 : Nat} {x2 : Int32} (C : CX p s m args meth c cX5_putProducts 7 RX5 wc_X5_putProducts none) (hth : KDx th = (5, 5)) (h1 : KDx x1 = (0, 13)) : ∀ (n : Nat) (st : Int32 × WX) (x : (WX)) (H : Heap) (locs : List Loc) (ls : Array Slot), Gd s G A 153 B (entX G B st.2) X H locs → lv_has ls 7 [(0, .ref (B + th)), (1, .ref (B + x1)), (2, .int x2), (3, .int st.1)] → lpw (sh_X5_putProducts_s14 th x1 x2) n st = some x →
    (∀ y' : WX, x = y' → ∀ (H : Heap) (locs : List Loc) (ls : Array Slot), Gd s G A 153 B (entX G B y') X H locs → lv_has ls 7 [] → W p l e rm_X5_putProducts s m args below meth c H locs 0 0 Q (F0 m 108 ls [])) → W p l e rm_X5_putProducts s m args below meth c H locs 0 0 Q (F0 m 14 ls []) := by
  intro n
  induction n with
  | zero =>
    intro st x H locs ls hG hl hf
    cases hf
  | succ n ih =>
    intro st x H locs ls hG hl hf kX0
    obtain ⟨r, hr, hh⟩ := of_lpw hf
    refine kb_X5_putProducts_14 C hth h1 hG hl hr (fun st2 e1 H locs ls hG hl => ?_) (fun y2 e1 H locs ls hG hl => ?_)
    · rcases hh with ⟨s3, e2, hh⟩ | e2
      · rw [e2] at e1
        cases e1
        exact ih _ _ _ _ _ hG hl hh kX0
      · rw [e2] at e1
        cases e1
    · rcases hh with ⟨s3, e2, hh⟩ | e2
      · rw [e2] at e1
        cases e1
      · rw [e2] at e1
        cases e1
        exact kX0 _ rfl _ _ _ hG hl
set_option maxRecDepth 100000 in
set_option maxHeartbeats 4000000 in
theorem kb_X5_putProducts_0 {th : Nat} {x1 : Nat} {w : WX} {out : WX} {H : Heap} {locs : List Loc} {ls : Array Slot} (C : CX p s m args meth c cX5_putProducts 7 RX5 wc_X5_putProducts none) (hth : KDx th = (5, 5)) (h1 : KDx x1 = (0, 13)) (hG : Gd s G A 153 B (entX G B w) X H locs) (hl : lv_has ls 7 [(0, .ref (B + th)), (1, .ref (B + x1))]) (hf : sh_X5_putProducts th x1 w = some out) :
    W p l e rm_X5_putProducts s m args below meth c H locs 0 0 (MQ below (CPost G A 153 B (entX G B out) X none) args s 0 0 A) (F0 m 0 ls []) := by
  refine lv_aload_n C.1 C.2.1 dX5_putProducts_0 rfl (lv_at hl 0 rfl) ?_
  refine gf_X5_18 C hG hth dX5_putProducts_1 ?_
  refine lv_aload_n C.1 C.2.1 dX5_putProducts_4 rfl (lv_at hl 0 rfl) ?_
  refine gf_X5_28 C hG hth dX5_putProducts_5 ?_
  refine lv_iconst (v := nI 2) C.1 C.2.1 dX5_putProducts_8 (by decide) ?_
  refine lv_isub C.1 C.2.1 dX5_putProducts_9 ?_
  obtain ⟨v1, hv1, hf⟩ := of_bind hf
  obtain ⟨bv1, ev1⟩ := of_ldS hv1
  refine r_iald C hG (c0 := (th + 3)) (kdx_lt (kx_5_2 hth) (by decide)) (entX_I (kx_5_2 hth)) bv1 dX5_putProducts_10 ?_
  refine r_top ev1 ?_
  refine lv_istore_n (lv' := [(2, .int v1), (0, .ref (B + th)), (1, .ref (B + x1))]) C.1 C.2.1 dX5_putProducts_11 rfl hl (by decide) rfl (fun ls hl => ?_)
  refine lv_iconst (v := nI 0) C.1 C.2.1 dX5_putProducts_12 (by decide) ?_
  refine lv_istore_n (lv' := [(3, .int (nI 0)), (2, .int v1), (0, .ref (B + th)), (1, .ref (B + x1))]) C.1 C.2.1 dX5_putProducts_13 rfl hl (by decide) rfl (fun ls hl => ?_)
  obtain ⟨ex2, hex2, hf⟩ := of_bind hf
  refine kl_X5_putProducts_14 C hth h1 FU (nI 0, w) ex2 _ _ _ hG (lv_sub hl [2, 3, 1, 0] rfl) hex2 (fun y e0 H locs ls hG hl => ?_)
  subst e0
  obtain rfl := Option.some.inj hf
  exact r_vret C hG dX5_putProducts_108
set_option maxRecDepth 100000 in
set_option maxHeartbeats 4000000 in
theorem mt_X5_putProducts (l : Launch) {G : GG} {A : Nat → Prop} {B : Nat} {X : va_W} {th : Nat} {x1 : Nat} {w : WX} {out : WX} (hth : KDx th = (5, 5)) (h1 : KDx x1 = (0, 13)) (hf : sh_X5_putProducts th x1 w = some out) : MetW l yX5_putProducts wc_X5_putProducts rm_X5_putProducts G A 153 B (entX G B w) X [.ref (B + th), .ref (B + x1)] none (entX G B out) := by
  refine Met.ofW (cc := cX5_putProducts) (maxL := 7) (ret := none) (by decide) rfl ?_
  intro p e s m args below meth c s₁ B0 hml hv
  obtain ⟨rfl, hEv, hWd⟩ := hv
  have C : CX p s m _ meth c cX5_putProducts 7 RX5 wc_X5_putProducts none := ⟨B0.exec, B0.bytes, hml, findClass_of_methodNamed B0.named, atoms_spec (ws := wc_X5_putProducts) B0.pre, B0.returns, B0.notSynchronized⟩
  have hl := lv_entry [.ref (B + th), .ref (B + x1)] (n := 7) (Nat.le_of_ble_eq_true rfl)
  rw [lg_entry_eq]
  generalize (lg_sl [.ref (B + th), .ref (B + x1)] ++ List.replicate (7 - (lg_sl [.ref (B + th), .ref (B + x1)]).length) Slot.unset).toArray = ls at hl ⊢
  have hl : lv_has ls 7 [(0, .ref (B + th)), (1, .ref (B + x1))] := hl
  exact kb_X5_putProducts_0 C hth h1 ⟨hEv, hWd, va_S.rf⟩ hl hf
abbrev wc_X5_putSplits : List Cond := Cond.code yX5_putSplits cX5_putSplits 8 none :: TG
abbrev rm_X5_putSplits : Room := { frames := 4, cells := 0, slots := 0, locals := 147 }
theorem cd_X5_putSplits : yX5_putSplits.cls = RX5 ∧ yX5_putSplits.cls ≠ "java/lang/invoke/MethodHandle" ∧ yX5_putSplits.cls ≠ "java/lang/invoke/VarHandle" ∧ (parseMethodDescriptor yX5_putSplits.desc).map (fun d => d.parameters.length) = some 1 := by decide +kernel
theorem dX5_putSplits_0 : decode cX5_putSplits 0 = .ok (.aload_n 0, 1) := by decide +kernel
theorem dX5_putSplits_1 : decode cX5_putSplits 1 = .ok (.getfield 18, 3) := by decide +kernel
theorem dX5_putSplits_4 : decode cX5_putSplits 4 = .ok (.aload_n 0, 1) := by decide +kernel
theorem dX5_putSplits_5 : decode cX5_putSplits 5 = .ok (.getfield 28, 3) := by decide +kernel
theorem dX5_putSplits_8 : decode cX5_putSplits 8 = .ok (.iconst 1, 1) := by decide +kernel
theorem dX5_putSplits_9 : decode cX5_putSplits 9 = .ok (.isub, 1) := by decide +kernel
theorem dX5_putSplits_10 : decode cX5_putSplits 10 = .ok (.iaload, 1) := by decide +kernel
theorem dX5_putSplits_11 : decode cX5_putSplits 11 = .ok (.istore_n 2, 1) := by decide +kernel
theorem dX5_putSplits_12 : decode cX5_putSplits 12 = .ok (.iconst 0, 1) := by decide +kernel
theorem dX5_putSplits_13 : decode cX5_putSplits 13 = .ok (.istore_n 3, 1) := by decide +kernel
theorem dX5_putSplits_14 : decode cX5_putSplits 14 = .ok (.iload_n 3, 1) := by decide +kernel
theorem dX5_putSplits_15 : decode cX5_putSplits 15 = .ok (.aload_n 0, 1) := by decide +kernel
theorem dX5_putSplits_16 : decode cX5_putSplits 16 = .ok (.getfield 27, 3) := by decide +kernel
theorem dX5_putSplits_19 : decode cX5_putSplits 19 = .ok (.if_icmp .ge 104, 3) := by decide +kernel
theorem dX5_putSplits_22 : decode cX5_putSplits 22 = .ok (.iconst 0, 1) := by decide +kernel
theorem dX5_putSplits_23 : decode cX5_putSplits 23 = .ok (.istore 4, 2) := by decide +kernel
theorem dX5_putSplits_25 : decode cX5_putSplits 25 = .ok (.iload 4, 2) := by decide +kernel
theorem dX5_putSplits_27 : decode cX5_putSplits 27 = .ok (.aload_n 0, 1) := by decide +kernel
theorem dX5_putSplits_28 : decode cX5_putSplits 28 = .ok (.getfield 27, 3) := by decide +kernel
theorem dX5_putSplits_31 : decode cX5_putSplits 31 = .ok (.if_icmp .ge 86, 3) := by decide +kernel
theorem dX5_putSplits_34 : decode cX5_putSplits 34 = .ok (.iconst 0, 1) := by decide +kernel
theorem dX5_putSplits_35 : decode cX5_putSplits 35 = .ok (.istore 5, 2) := by decide +kernel
theorem dX5_putSplits_37 : decode cX5_putSplits 37 = .ok (.iload 5, 2) := by decide +kernel
theorem dX5_putSplits_39 : decode cX5_putSplits 39 = .ok (.aload_n 0, 1) := by decide +kernel
theorem dX5_putSplits_40 : decode cX5_putSplits 40 = .ok (.getfield 27, 3) := by decide +kernel
theorem dX5_putSplits_43 : decode cX5_putSplits 43 = .ok (.if_icmp .ge 68, 3) := by decide +kernel
theorem dX5_putSplits_46 : decode cX5_putSplits 46 = .ok (.aload_n 1, 1) := by decide +kernel
theorem dX5_putSplits_47 : decode cX5_putSplits 47 = .ok (.iload_n 3, 1) := by decide +kernel
theorem dX5_putSplits_48 : decode cX5_putSplits 48 = .ok (.iload 4, 2) := by decide +kernel
theorem dX5_putSplits_50 : decode cX5_putSplits 50 = .ok (.iload 5, 2) := by decide +kernel
theorem dX5_putSplits_52 : decode cX5_putSplits 52 = .ok (.invokevirtual 97, 3) := by decide +kernel
theorem dX5_putSplits_55 : decode cX5_putSplits 55 = .ok (.istore 6, 2) := by decide +kernel
theorem dX5_putSplits_57 : decode cX5_putSplits 57 = .ok (.iconst 0, 1) := by decide +kernel
theorem dX5_putSplits_58 : decode cX5_putSplits 58 = .ok (.istore 7, 2) := by decide +kernel
theorem dX5_putSplits_60 : decode cX5_putSplits 60 = .ok (.iload 6, 2) := by decide +kernel
theorem dX5_putSplits_62 : decode cX5_putSplits 62 = .ok (.ifCond .eq 43, 3) := by decide +kernel
theorem dX5_putSplits_65 : decode cX5_putSplits 65 = .ok (.iload 7, 2) := by decide +kernel
theorem dX5_putSplits_67 : decode cX5_putSplits 67 = .ok (.iload_n 2, 1) := by decide +kernel
theorem dX5_putSplits_68 : decode cX5_putSplits 68 = .ok (.if_icmp .ge 37, 3) := by decide +kernel
theorem dX5_putSplits_71 : decode cX5_putSplits 71 = .ok (.aload_n 0, 1) := by decide +kernel
theorem dX5_putSplits_72 : decode cX5_putSplits 72 = .ok (.aload_n 0, 1) := by decide +kernel
theorem dX5_putSplits_73 : decode cX5_putSplits 73 = .ok (.iload 7, 2) := by decide +kernel
theorem dX5_putSplits_75 : decode cX5_putSplits 75 = .ok (.iload_n 2, 1) := by decide +kernel
theorem dX5_putSplits_76 : decode cX5_putSplits 76 = .ok (.iload 4, 2) := by decide +kernel
theorem dX5_putSplits_78 : decode cX5_putSplits 78 = .ok (.iload 5, 2) := by decide +kernel
theorem dX5_putSplits_80 : decode cX5_putSplits 80 = .ok (.invokevirtual 90, 3) := by decide +kernel
theorem dX5_putSplits_83 : decode cX5_putSplits 83 = .ok (.aload_n 0, 1) := by decide +kernel
theorem dX5_putSplits_84 : decode cX5_putSplits 84 = .ok (.getfield 9, 3) := by decide +kernel
theorem dX5_putSplits_87 : decode cX5_putSplits 87 = .ok (.iload 7, 2) := by decide +kernel
theorem dX5_putSplits_89 : decode cX5_putSplits 89 = .ok (.iload_n 2, 1) := by decide +kernel
theorem dX5_putSplits_90 : decode cX5_putSplits 90 = .ok (.iload_n 3, 1) := by decide +kernel
theorem dX5_putSplits_91 : decode cX5_putSplits 91 = .ok (.imul, 1) := by decide +kernel
theorem dX5_putSplits_92 : decode cX5_putSplits 92 = .ok (.iadd, 1) := by decide +kernel
theorem dX5_putSplits_93 : decode cX5_putSplits 93 = .ok (.iaload, 1) := by decide +kernel
theorem dX5_putSplits_94 : decode cX5_putSplits 94 = .ok (.iload 6, 2) := by decide +kernel
theorem dX5_putSplits_96 : decode cX5_putSplits 96 = .ok (.invokevirtual 79, 3) := by decide +kernel
theorem dX5_putSplits_99 : decode cX5_putSplits 99 = .ok (.iinc 7 1, 3) := by decide +kernel
theorem dX5_putSplits_102 : decode cX5_putSplits 102 = .ok (.goto (-42), 3) := by decide +kernel
theorem dX5_putSplits_105 : decode cX5_putSplits 105 = .ok (.iinc 5 1, 3) := by decide +kernel
theorem dX5_putSplits_108 : decode cX5_putSplits 108 = .ok (.goto (-71), 3) := by decide +kernel
theorem dX5_putSplits_111 : decode cX5_putSplits 111 = .ok (.iinc 4 1, 3) := by decide +kernel
theorem dX5_putSplits_114 : decode cX5_putSplits 114 = .ok (.goto (-89), 3) := by decide +kernel
theorem dX5_putSplits_117 : decode cX5_putSplits 117 = .ok (.iinc 3 1, 3) := by decide +kernel
theorem dX5_putSplits_120 : decode cX5_putSplits 120 = .ok (.goto (-106), 3) := by decide +kernel
theorem dX5_putSplits_123 : decode cX5_putSplits 123 = .ok (.return_, 1) := by decide +kernel
set_option maxRecDepth 100000 in
set_option maxHeartbeats 4000000 in
theorem kb_X5_putSplits_60 {th : Nat} {x1 : Nat} {x2 : Int32} {x3 : Int32} {x4 : Int32} {x5 : Int32} {x6 : Int32} {st : Int32 × WX} {r : (Int32 × WX) ⊕ ((WX))} {H : Heap} {locs : List Loc} {ls : Array Slot} (C : CX p s m args meth c cX5_putSplits 8 RX5 wc_X5_putSplits none) (hth : KDx th = (5, 5)) (h1 : KDx x1 = (0, 13)) (hG : Gd s G A 153 B (entX G B st.2) X H locs) (hl : lv_has ls 8 [(0, .ref (B + th)), (1, .ref (B + x1)), (2, .int x2), (3, .int x3), (4, .int x4), (5, .int x5), (6, .int x6), (7, .int st.1)]) (hf : sh_X5_putSplits_s60 th x1 x2 x3 x4 x5 x6 st = some r)
    (kL : ∀ st' : Int32 × WX, r = Sum.inl st' → ∀ (H : Heap) (locs : List Loc) (ls : Array Slot), Gd s G A 153 B (entX G B st'.2) X H locs → lv_has ls 8 [(0, .ref (B + th)), (1, .ref (B + x1)), (2, .int x2), (3, .int x3), (4, .int x4), (5, .int x5), (6, .int x6), (7, .int st'.1)] → W p l e rm_X5_putSplits s m args below meth c H locs 0 0 Q (F0 m 60 ls []))
    (kX0 : ∀ y' : WX, r = Sum.inr y' → ∀ (H : Heap) (locs : List Loc) (ls : Array Slot), Gd s G A 153 B (entX G B y') X H locs → lv_has ls 8 [(0, .ref (B + th)), (1, .ref (B + x1)), (2, .int x2), (3, .int x3), (4, .int x4), (5, .int x5)] → W p l e rm_X5_putSplits s m args below meth c H locs 0 0 Q (F0 m 105 ls [])) :
    W p l e rm_X5_putSplits s m args below meth c H locs 0 0 Q (F0 m 60 ls []) := by
  refine lv_iload C.1 C.2.1 dX5_putSplits_60 (lv_at hl 6 rfl) ?_
  rcases of_ite hf with ⟨c1, hf⟩ | ⟨c1, hf⟩
  · refine lv_if_eq (tgt := 105) C.1 C.2.1 dX5_putSplits_62 (by decide) (fun _ => ?_) (fun q => absurd c1 q)
    obtain rfl := Option.some.inj hf
    exact kX0 _ rfl _ _ _ hG (lv_sub hl [0, 1, 2, 3, 4, 5] rfl)
  · refine lv_if_eq (tgt := 105) C.1 C.2.1 dX5_putSplits_62 (by decide) (fun q => absurd q c1) (fun _ => ?_)
    refine lv_iload C.1 C.2.1 dX5_putSplits_65 (lv_at hl 7 rfl) ?_
    refine lv_iload_n C.1 C.2.1 dX5_putSplits_67 rfl (lv_at hl 2 rfl) ?_
    rcases of_ite hf with ⟨c2, hf⟩ | ⟨c2, hf⟩
    · refine lv_icmp_ge (tgt := 105) C.1 C.2.1 dX5_putSplits_68 (by decide) (fun _ => ?_) (fun q => absurd c2 q)
      obtain rfl := Option.some.inj hf
      exact kX0 _ rfl _ _ _ hG (lv_sub hl [0, 1, 2, 3, 4, 5] rfl)
    · refine lv_icmp_ge (tgt := 105) C.1 C.2.1 dX5_putSplits_68 (by decide) (fun q => absurd q c2) (fun _ => ?_)
      refine lv_aload_n C.1 C.2.1 dX5_putSplits_71 rfl (lv_at hl 0 rfl) ?_
      refine lv_aload_n C.1 C.2.1 dX5_putSplits_72 rfl (lv_at hl 0 rfl) ?_
      refine lv_iload C.1 C.2.1 dX5_putSplits_73 (lv_at hl 7 rfl) ?_
      refine lv_iload_n C.1 C.2.1 dX5_putSplits_75 rfl (lv_at hl 2 rfl) ?_
      refine lv_iload C.1 C.2.1 dX5_putSplits_76 (lv_at hl 4 rfl) ?_
      refine lv_iload C.1 C.2.1 dX5_putSplits_78 (lv_at hl 5 rfl) ?_
      obtain ⟨v3, hv3, hf⟩ := of_bind hf
      refine r_callV1 C hG hl.1 (c0 := th) (As := [.int st.1, .int x2, .int x4, .int x5]) (kdx_lt hth (by decide)) (entX_O5 hth) rfl (mt_X5_pair l hth hv3) (cwV 4 C.2.2.2.2.1 (gd_V tg_3_119 tg_3_121 tgp_19 tg_1_9 tg_3_122) rfl rfl rfl cd_X5_pair ⟨Nat.le_of_ble_eq_true rfl, Nat.le_of_ble_eq_true rfl⟩) rfl rfl (Nat.le_of_ble_eq_true rfl) dX5_putSplits_80 (fun H locs hG => ?_)
      refine lv_aload_n C.1 C.2.1 dX5_putSplits_83 rfl (lv_at hl 0 rfl) ?_
      refine gf_X5_9 C hG hth dX5_putSplits_84 ?_
      refine lv_iload C.1 C.2.1 dX5_putSplits_87 (lv_at hl 7 rfl) ?_
      refine lv_iload_n C.1 C.2.1 dX5_putSplits_89 rfl (lv_at hl 2 rfl) ?_
      refine lv_iload_n C.1 C.2.1 dX5_putSplits_90 rfl (lv_at hl 3 rfl) ?_
      refine lv_imul C.1 C.2.1 dX5_putSplits_91 ?_
      refine lv_iadd C.1 C.2.1 dX5_putSplits_92 ?_
      obtain ⟨v4, hv4, hf⟩ := of_bind hf
      obtain ⟨kv4, bv4, ev4⟩ := of_ldD hv4
      refine r_iald C hG (c0 := st.2.2 th 0) (kdx_lt (kd_eta kv4) (by decide)) (entX_I (kd_eta kv4)) bv4 dX5_putSplits_93 ?_
      refine r_top ev4 ?_
      refine lv_iload C.1 C.2.1 dX5_putSplits_94 (lv_at hl 6 rfl) ?_
      obtain ⟨w5, hw5, hf⟩ := of_bind hf
      refine r_callV0 C hG hl.1 (c0 := th) (As := [.int v3, .int v4, .int x6]) (kdx_lt hth (by decide)) (entX_O5 hth) rfl (mt_X5_add l hth hw5) (cwV 3 C.2.2.2.2.1 (gd_V tg_3_109 tg_3_111 tgp_17 tg_1_9 tg_3_112) rfl rfl rfl cd_X5_add ⟨Nat.le_of_ble_eq_true rfl, Nat.le_of_ble_eq_true rfl⟩) rfl rfl (Nat.le_of_ble_eq_true rfl) dX5_putSplits_96 (fun H locs hG => ?_)
      obtain ⟨v6, ev6, hf⟩ := of_letv hf
      refine lv_iinc (v := v6) (lv' := [(7, .int v6), (0, .ref (B + th)), (1, .ref (B + x1)), (2, .int x2), (3, .int x3), (4, .int x4), (5, .int x5), (6, .int x6)]) C.1 C.2.1 dX5_putSplits_99 hl (k := 7) rfl (by rw [ev6, show Int32.ofInt (1) = nI 1 from by decide]) (by decide) rfl (fun ls hl => ?_)
      refine lv_goto (tgt := 60) C.1 C.2.1 dX5_putSplits_102 (by decide) ?_
      obtain rfl := Option.some.inj hf
      exact kL _ rfl _ _ _ hG (lv_sub hl [1, 2, 3, 4, 5, 6, 7, 0] rfl)
set_option maxRecDepth 100000 in
set_option maxHeartbeats 4000000 in
theorem kl_X5_putSplits_60 {th : Nat} {x1 : Nat} {x2 : Int32} {x3 : Int32} {x4 : Int32} {x5 : Int32} {x6 : Int32} (C : CX p s m args meth c cX5_putSplits 8 RX5 wc_X5_putSplits none) (hth : KDx th = (5, 5)) (h1 : KDx x1 = (0, 13)) : ∀ (n : Nat) (st : Int32 × WX) (x : (WX)) (H : Heap) (locs : List Loc) (ls : Array Slot), Gd s G A 153 B (entX G B st.2) X H locs → lv_has ls 8 [(0, .ref (B + th)), (1, .ref (B + x1)), (2, .int x2), (3, .int x3), (4, .int x4), (5, .int x5), (6, .int x6), (7, .int st.1)] → lpw (sh_X5_putSplits_s60 th x1 x2 x3 x4 x5 x6) n st = some x →
    (∀ y' : WX, x = y' → ∀ (H : Heap) (locs : List Loc) (ls : Array Slot), Gd s G A 153 B (entX G B y') X H locs → lv_has ls 8 [(0, .ref (B + th)), (1, .ref (B + x1)), (2, .int x2), (3, .int x3), (4, .int x4), (5, .int x5)] → W p l e rm_X5_putSplits s m args below meth c H locs 0 0 Q (F0 m 105 ls [])) → W p l e rm_X5_putSplits s m args below meth c H locs 0 0 Q (F0 m 60 ls []) := by
  intro n
  induction n with
  | zero =>
    intro st x H locs ls hG hl hf
    cases hf
  | succ n ih =>
    intro st x H locs ls hG hl hf kX0
    obtain ⟨r, hr, hh⟩ := of_lpw hf
    refine kb_X5_putSplits_60 C hth h1 hG hl hr (fun st2 e1 H locs ls hG hl => ?_) (fun y2 e1 H locs ls hG hl => ?_)
    · rcases hh with ⟨s3, e2, hh⟩ | e2
      · rw [e2] at e1
        cases e1
        exact ih _ _ _ _ _ hG hl hh kX0
      · rw [e2] at e1
        cases e1
    · rcases hh with ⟨s3, e2, hh⟩ | e2
      · rw [e2] at e1
        cases e1
      · rw [e2] at e1
        cases e1
        exact kX0 _ rfl _ _ _ hG hl
set_option maxRecDepth 100000 in
set_option maxHeartbeats 4000000 in
theorem kb_X5_putSplits_37 {th : Nat} {x1 : Nat} {x2 : Int32} {x3 : Int32} {x4 : Int32} {st : Int32 × WX} {r : (Int32 × WX) ⊕ ((WX))} {H : Heap} {locs : List Loc} {ls : Array Slot} (C : CX p s m args meth c cX5_putSplits 8 RX5 wc_X5_putSplits none) (hth : KDx th = (5, 5)) (h1 : KDx x1 = (0, 13)) (hG : Gd s G A 153 B (entX G B st.2) X H locs) (hl : lv_has ls 8 [(0, .ref (B + th)), (1, .ref (B + x1)), (2, .int x2), (3, .int x3), (4, .int x4), (5, .int st.1)]) (hf : sh_X5_putSplits_s37 th x1 x2 x3 x4 st = some r)
    (kL : ∀ st' : Int32 × WX, r = Sum.inl st' → ∀ (H : Heap) (locs : List Loc) (ls : Array Slot), Gd s G A 153 B (entX G B st'.2) X H locs → lv_has ls 8 [(0, .ref (B + th)), (1, .ref (B + x1)), (2, .int x2), (3, .int x3), (4, .int x4), (5, .int st'.1)] → W p l e rm_X5_putSplits s m args below meth c H locs 0 0 Q (F0 m 37 ls []))
    (kX0 : ∀ y' : WX, r = Sum.inr y' → ∀ (H : Heap) (locs : List Loc) (ls : Array Slot), Gd s G A 153 B (entX G B y') X H locs → lv_has ls 8 [(0, .ref (B + th)), (1, .ref (B + x1)), (2, .int x2), (3, .int x3), (4, .int x4)] → W p l e rm_X5_putSplits s m args below meth c H locs 0 0 Q (F0 m 111 ls [])) :
    W p l e rm_X5_putSplits s m args below meth c H locs 0 0 Q (F0 m 37 ls []) := by
  refine lv_iload C.1 C.2.1 dX5_putSplits_37 (lv_at hl 5 rfl) ?_
  refine lv_aload_n C.1 C.2.1 dX5_putSplits_39 rfl (lv_at hl 0 rfl) ?_
  refine gf_X5_27 C hG hth dX5_putSplits_40 ?_
  rcases of_ite hf with ⟨c1, hf⟩ | ⟨c1, hf⟩
  · refine lv_icmp_ge (tgt := 111) C.1 C.2.1 dX5_putSplits_43 (by decide) (fun _ => ?_) (fun q => absurd c1 q)
    obtain rfl := Option.some.inj hf
    exact kX0 _ rfl _ _ _ hG (lv_sub hl [0, 1, 2, 3, 4] rfl)
  · refine lv_icmp_ge (tgt := 111) C.1 C.2.1 dX5_putSplits_43 (by decide) (fun q => absurd q c1) (fun _ => ?_)
    refine lv_aload_n C.1 C.2.1 dX5_putSplits_46 rfl (lv_at hl 1 rfl) ?_
    refine lv_iload_n C.1 C.2.1 dX5_putSplits_47 rfl (lv_at hl 3 rfl) ?_
    refine lv_iload C.1 C.2.1 dX5_putSplits_48 (lv_at hl 4 rfl) ?_
    refine lv_iload C.1 C.2.1 dX5_putSplits_50 (lv_at hl 5 rfl) ?_
    obtain ⟨v2, hv2, hf⟩ := of_bind hf
    refine r_callV1 C hG hl.1 (c0 := x1) (As := [.int x3, .int x4, .int st.1]) (kdx_lt h1 (by decide)) (entX_O0 h1) rfl (mt_X0_timesInSplit l h1 hv2) (cwV 3 C.2.2.2.2.1 (gd_V tg_3_127 tg_2_157 tg_2_158 tg_1_4 tg_2_159) rfl rfl rfl cd_X0_timesInSplit ⟨Nat.le_of_ble_eq_true rfl, Nat.le_of_ble_eq_true rfl⟩) rfl rfl (Nat.le_of_ble_eq_true rfl) dX5_putSplits_52 (fun H locs hG => ?_)
    refine lv_istore (lv' := [(6, .int v2), (0, .ref (B + th)), (1, .ref (B + x1)), (2, .int x2), (3, .int x3), (4, .int x4), (5, .int st.1)]) C.1 C.2.1 dX5_putSplits_55 hl (by decide) rfl (fun ls hl => ?_)
    refine lv_iconst (v := nI 0) C.1 C.2.1 dX5_putSplits_57 (by decide) ?_
    refine lv_istore (lv' := [(7, .int (nI 0)), (6, .int v2), (0, .ref (B + th)), (1, .ref (B + x1)), (2, .int x2), (3, .int x3), (4, .int x4), (5, .int st.1)]) C.1 C.2.1 dX5_putSplits_58 hl (by decide) rfl (fun ls hl => ?_)
    obtain ⟨ex3, hex3, hf⟩ := of_bind hf
    refine kl_X5_putSplits_60 C hth h1 FU (nI 0, st.2) ex3 _ _ _ hG (lv_sub hl [2, 3, 4, 5, 6, 7, 1, 0] rfl) hex3 (fun y e0 H locs ls hG hl => ?_)
    subst e0
    obtain ⟨v4, ev4, hf⟩ := of_letv hf
    refine lv_iinc (v := v4) (lv' := [(5, .int v4), (0, .ref (B + th)), (1, .ref (B + x1)), (2, .int x2), (3, .int x3), (4, .int x4)]) C.1 C.2.1 dX5_putSplits_105 hl (k := 5) rfl (by rw [ev4, show Int32.ofInt (1) = nI 1 from by decide]) (by decide) rfl (fun ls hl => ?_)
    refine lv_goto (tgt := 37) C.1 C.2.1 dX5_putSplits_108 (by decide) ?_
    obtain rfl := Option.some.inj hf
    exact kL _ rfl _ _ _ hG (lv_sub hl [1, 2, 3, 4, 5, 0] rfl)
set_option maxRecDepth 100000 in
set_option maxHeartbeats 4000000 in
theorem kl_X5_putSplits_37 {th : Nat} {x1 : Nat} {x2 : Int32} {x3 : Int32} {x4 : Int32} (C : CX p s m args meth c cX5_putSplits 8 RX5 wc_X5_putSplits none) (hth : KDx th = (5, 5)) (h1 : KDx x1 = (0, 13)) : ∀ (n : Nat) (st : Int32 × WX) (x : (WX)) (H : Heap) (locs : List Loc) (ls : Array Slot), Gd s G A 153 B (entX G B st.2) X H locs → lv_has ls 8 [(0, .ref (B + th)), (1, .ref (B + x1)), (2, .int x2), (3, .int x3), (4, .int x4), (5, .int st.1)] → lpw (sh_X5_putSplits_s37 th x1 x2 x3 x4) n st = some x →
    (∀ y' : WX, x = y' → ∀ (H : Heap) (locs : List Loc) (ls : Array Slot), Gd s G A 153 B (entX G B y') X H locs → lv_has ls 8 [(0, .ref (B + th)), (1, .ref (B + x1)), (2, .int x2), (3, .int x3), (4, .int x4)] → W p l e rm_X5_putSplits s m args below meth c H locs 0 0 Q (F0 m 111 ls [])) → W p l e rm_X5_putSplits s m args below meth c H locs 0 0 Q (F0 m 37 ls []) := by
  intro n
  induction n with
  | zero =>
    intro st x H locs ls hG hl hf
    cases hf
  | succ n ih =>
    intro st x H locs ls hG hl hf kX0
    obtain ⟨r, hr, hh⟩ := of_lpw hf
    refine kb_X5_putSplits_37 C hth h1 hG hl hr (fun st2 e1 H locs ls hG hl => ?_) (fun y2 e1 H locs ls hG hl => ?_)
    · rcases hh with ⟨s3, e2, hh⟩ | e2
      · rw [e2] at e1
        cases e1
        exact ih _ _ _ _ _ hG hl hh kX0
      · rw [e2] at e1
        cases e1
    · rcases hh with ⟨s3, e2, hh⟩ | e2
      · rw [e2] at e1
        cases e1
      · rw [e2] at e1
        cases e1
        exact kX0 _ rfl _ _ _ hG hl
set_option maxRecDepth 100000 in
set_option maxHeartbeats 4000000 in
theorem kb_X5_putSplits_25 {th : Nat} {x1 : Nat} {x2 : Int32} {x3 : Int32} {st : Int32 × WX} {r : (Int32 × WX) ⊕ ((WX))} {H : Heap} {locs : List Loc} {ls : Array Slot} (C : CX p s m args meth c cX5_putSplits 8 RX5 wc_X5_putSplits none) (hth : KDx th = (5, 5)) (h1 : KDx x1 = (0, 13)) (hG : Gd s G A 153 B (entX G B st.2) X H locs) (hl : lv_has ls 8 [(0, .ref (B + th)), (1, .ref (B + x1)), (2, .int x2), (3, .int x3), (4, .int st.1)]) (hf : sh_X5_putSplits_s25 th x1 x2 x3 st = some r)
    (kL : ∀ st' : Int32 × WX, r = Sum.inl st' → ∀ (H : Heap) (locs : List Loc) (ls : Array Slot), Gd s G A 153 B (entX G B st'.2) X H locs → lv_has ls 8 [(0, .ref (B + th)), (1, .ref (B + x1)), (2, .int x2), (3, .int x3), (4, .int st'.1)] → W p l e rm_X5_putSplits s m args below meth c H locs 0 0 Q (F0 m 25 ls []))
    (kX0 : ∀ y' : WX, r = Sum.inr y' → ∀ (H : Heap) (locs : List Loc) (ls : Array Slot), Gd s G A 153 B (entX G B y') X H locs → lv_has ls 8 [(0, .ref (B + th)), (1, .ref (B + x1)), (2, .int x2), (3, .int x3)] → W p l e rm_X5_putSplits s m args below meth c H locs 0 0 Q (F0 m 117 ls [])) :
    W p l e rm_X5_putSplits s m args below meth c H locs 0 0 Q (F0 m 25 ls []) := by
  refine lv_iload C.1 C.2.1 dX5_putSplits_25 (lv_at hl 4 rfl) ?_
  refine lv_aload_n C.1 C.2.1 dX5_putSplits_27 rfl (lv_at hl 0 rfl) ?_
  refine gf_X5_27 C hG hth dX5_putSplits_28 ?_
  rcases of_ite hf with ⟨c1, hf⟩ | ⟨c1, hf⟩
  · refine lv_icmp_ge (tgt := 117) C.1 C.2.1 dX5_putSplits_31 (by decide) (fun _ => ?_) (fun q => absurd c1 q)
    obtain rfl := Option.some.inj hf
    exact kX0 _ rfl _ _ _ hG (lv_sub hl [0, 1, 2, 3] rfl)
  · refine lv_icmp_ge (tgt := 117) C.1 C.2.1 dX5_putSplits_31 (by decide) (fun q => absurd q c1) (fun _ => ?_)
    refine lv_iconst (v := nI 0) C.1 C.2.1 dX5_putSplits_34 (by decide) ?_
    refine lv_istore (lv' := [(5, .int (nI 0)), (0, .ref (B + th)), (1, .ref (B + x1)), (2, .int x2), (3, .int x3), (4, .int st.1)]) C.1 C.2.1 dX5_putSplits_35 hl (by decide) rfl (fun ls hl => ?_)
    obtain ⟨ex2, hex2, hf⟩ := of_bind hf
    refine kl_X5_putSplits_37 C hth h1 FU (nI 0, st.2) ex2 _ _ _ hG (lv_sub hl [1, 2, 3, 4, 5, 0] rfl) hex2 (fun y e0 H locs ls hG hl => ?_)
    subst e0
    obtain ⟨v3, ev3, hf⟩ := of_letv hf
    refine lv_iinc (v := v3) (lv' := [(4, .int v3), (0, .ref (B + th)), (1, .ref (B + x1)), (2, .int x2), (3, .int x3)]) C.1 C.2.1 dX5_putSplits_111 hl (k := 4) rfl (by rw [ev3, show Int32.ofInt (1) = nI 1 from by decide]) (by decide) rfl (fun ls hl => ?_)
    refine lv_goto (tgt := 25) C.1 C.2.1 dX5_putSplits_114 (by decide) ?_
    obtain rfl := Option.some.inj hf
    exact kL _ rfl _ _ _ hG (lv_sub hl [1, 2, 3, 4, 0] rfl)
set_option maxRecDepth 100000 in
set_option maxHeartbeats 4000000 in
theorem kl_X5_putSplits_25 {th : Nat} {x1 : Nat} {x2 : Int32} {x3 : Int32} (C : CX p s m args meth c cX5_putSplits 8 RX5 wc_X5_putSplits none) (hth : KDx th = (5, 5)) (h1 : KDx x1 = (0, 13)) : ∀ (n : Nat) (st : Int32 × WX) (x : (WX)) (H : Heap) (locs : List Loc) (ls : Array Slot), Gd s G A 153 B (entX G B st.2) X H locs → lv_has ls 8 [(0, .ref (B + th)), (1, .ref (B + x1)), (2, .int x2), (3, .int x3), (4, .int st.1)] → lpw (sh_X5_putSplits_s25 th x1 x2 x3) n st = some x →
    (∀ y' : WX, x = y' → ∀ (H : Heap) (locs : List Loc) (ls : Array Slot), Gd s G A 153 B (entX G B y') X H locs → lv_has ls 8 [(0, .ref (B + th)), (1, .ref (B + x1)), (2, .int x2), (3, .int x3)] → W p l e rm_X5_putSplits s m args below meth c H locs 0 0 Q (F0 m 117 ls [])) → W p l e rm_X5_putSplits s m args below meth c H locs 0 0 Q (F0 m 25 ls []) := by
  intro n
  induction n with
  | zero =>
    intro st x H locs ls hG hl hf
    cases hf
  | succ n ih =>
    intro st x H locs ls hG hl hf kX0
    obtain ⟨r, hr, hh⟩ := of_lpw hf
    refine kb_X5_putSplits_25 C hth h1 hG hl hr (fun st2 e1 H locs ls hG hl => ?_) (fun y2 e1 H locs ls hG hl => ?_)
    · rcases hh with ⟨s3, e2, hh⟩ | e2
      · rw [e2] at e1
        cases e1
        exact ih _ _ _ _ _ hG hl hh kX0
      · rw [e2] at e1
        cases e1
    · rcases hh with ⟨s3, e2, hh⟩ | e2
      · rw [e2] at e1
        cases e1
      · rw [e2] at e1
        cases e1
        exact kX0 _ rfl _ _ _ hG hl
set_option maxRecDepth 100000 in
set_option maxHeartbeats 4000000 in
theorem kb_X5_putSplits_14 {th : Nat} {x1 : Nat} {x2 : Int32} {st : Int32 × WX} {r : (Int32 × WX) ⊕ ((WX))} {H : Heap} {locs : List Loc} {ls : Array Slot} (C : CX p s m args meth c cX5_putSplits 8 RX5 wc_X5_putSplits none) (hth : KDx th = (5, 5)) (h1 : KDx x1 = (0, 13)) (hG : Gd s G A 153 B (entX G B st.2) X H locs) (hl : lv_has ls 8 [(0, .ref (B + th)), (1, .ref (B + x1)), (2, .int x2), (3, .int st.1)]) (hf : sh_X5_putSplits_s14 th x1 x2 st = some r)
    (kL : ∀ st' : Int32 × WX, r = Sum.inl st' → ∀ (H : Heap) (locs : List Loc) (ls : Array Slot), Gd s G A 153 B (entX G B st'.2) X H locs → lv_has ls 8 [(0, .ref (B + th)), (1, .ref (B + x1)), (2, .int x2), (3, .int st'.1)] → W p l e rm_X5_putSplits s m args below meth c H locs 0 0 Q (F0 m 14 ls []))
    (kX0 : ∀ y' : WX, r = Sum.inr y' → ∀ (H : Heap) (locs : List Loc) (ls : Array Slot), Gd s G A 153 B (entX G B y') X H locs → lv_has ls 8 [] → W p l e rm_X5_putSplits s m args below meth c H locs 0 0 Q (F0 m 123 ls [])) :
    W p l e rm_X5_putSplits s m args below meth c H locs 0 0 Q (F0 m 14 ls []) := by
  refine lv_iload_n C.1 C.2.1 dX5_putSplits_14 rfl (lv_at hl 3 rfl) ?_
  refine lv_aload_n C.1 C.2.1 dX5_putSplits_15 rfl (lv_at hl 0 rfl) ?_
  refine gf_X5_27 C hG hth dX5_putSplits_16 ?_
  rcases of_ite hf with ⟨c1, hf⟩ | ⟨c1, hf⟩
  · refine lv_icmp_ge (tgt := 123) C.1 C.2.1 dX5_putSplits_19 (by decide) (fun _ => ?_) (fun q => absurd c1 q)
    obtain rfl := Option.some.inj hf
    exact kX0 _ rfl _ _ _ hG (lv_sub hl [] rfl)
  · refine lv_icmp_ge (tgt := 123) C.1 C.2.1 dX5_putSplits_19 (by decide) (fun q => absurd q c1) (fun _ => ?_)
    refine lv_iconst (v := nI 0) C.1 C.2.1 dX5_putSplits_22 (by decide) ?_
    refine lv_istore (lv' := [(4, .int (nI 0)), (0, .ref (B + th)), (1, .ref (B + x1)), (2, .int x2), (3, .int st.1)]) C.1 C.2.1 dX5_putSplits_23 hl (by decide) rfl (fun ls hl => ?_)
    obtain ⟨ex2, hex2, hf⟩ := of_bind hf
    refine kl_X5_putSplits_25 C hth h1 FU (nI 0, st.2) ex2 _ _ _ hG (lv_sub hl [1, 2, 3, 4, 0] rfl) hex2 (fun y e0 H locs ls hG hl => ?_)
    subst e0
    obtain ⟨v3, ev3, hf⟩ := of_letv hf
    refine lv_iinc (v := v3) (lv' := [(3, .int v3), (0, .ref (B + th)), (1, .ref (B + x1)), (2, .int x2)]) C.1 C.2.1 dX5_putSplits_117 hl (k := 3) rfl (by rw [ev3, show Int32.ofInt (1) = nI 1 from by decide]) (by decide) rfl (fun ls hl => ?_)
    refine lv_goto (tgt := 14) C.1 C.2.1 dX5_putSplits_120 (by decide) ?_
    obtain rfl := Option.some.inj hf
    exact kL _ rfl _ _ _ hG (lv_sub hl [1, 2, 3, 0] rfl)
set_option maxRecDepth 100000 in
set_option maxHeartbeats 4000000 in
theorem kl_X5_putSplits_14 {th : Nat} {x1 : Nat} {x2 : Int32} (C : CX p s m args meth c cX5_putSplits 8 RX5 wc_X5_putSplits none) (hth : KDx th = (5, 5)) (h1 : KDx x1 = (0, 13)) : ∀ (n : Nat) (st : Int32 × WX) (x : (WX)) (H : Heap) (locs : List Loc) (ls : Array Slot), Gd s G A 153 B (entX G B st.2) X H locs → lv_has ls 8 [(0, .ref (B + th)), (1, .ref (B + x1)), (2, .int x2), (3, .int st.1)] → lpw (sh_X5_putSplits_s14 th x1 x2) n st = some x →
    (∀ y' : WX, x = y' → ∀ (H : Heap) (locs : List Loc) (ls : Array Slot), Gd s G A 153 B (entX G B y') X H locs → lv_has ls 8 [] → W p l e rm_X5_putSplits s m args below meth c H locs 0 0 Q (F0 m 123 ls [])) → W p l e rm_X5_putSplits s m args below meth c H locs 0 0 Q (F0 m 14 ls []) := by
  intro n
  induction n with
  | zero =>
    intro st x H locs ls hG hl hf
    cases hf
  | succ n ih =>
    intro st x H locs ls hG hl hf kX0
    obtain ⟨r, hr, hh⟩ := of_lpw hf
    refine kb_X5_putSplits_14 C hth h1 hG hl hr (fun st2 e1 H locs ls hG hl => ?_) (fun y2 e1 H locs ls hG hl => ?_)
    · rcases hh with ⟨s3, e2, hh⟩ | e2
      · rw [e2] at e1
        cases e1
        exact ih _ _ _ _ _ hG hl hh kX0
      · rw [e2] at e1
        cases e1
    · rcases hh with ⟨s3, e2, hh⟩ | e2
      · rw [e2] at e1
        cases e1
      · rw [e2] at e1
        cases e1
        exact kX0 _ rfl _ _ _ hG hl
set_option maxRecDepth 100000 in
set_option maxHeartbeats 4000000 in
theorem kb_X5_putSplits_0 {th : Nat} {x1 : Nat} {w : WX} {out : WX} {H : Heap} {locs : List Loc} {ls : Array Slot} (C : CX p s m args meth c cX5_putSplits 8 RX5 wc_X5_putSplits none) (hth : KDx th = (5, 5)) (h1 : KDx x1 = (0, 13)) (hG : Gd s G A 153 B (entX G B w) X H locs) (hl : lv_has ls 8 [(0, .ref (B + th)), (1, .ref (B + x1))]) (hf : sh_X5_putSplits th x1 w = some out) :
    W p l e rm_X5_putSplits s m args below meth c H locs 0 0 (MQ below (CPost G A 153 B (entX G B out) X none) args s 0 0 A) (F0 m 0 ls []) := by
  refine lv_aload_n C.1 C.2.1 dX5_putSplits_0 rfl (lv_at hl 0 rfl) ?_
  refine gf_X5_18 C hG hth dX5_putSplits_1 ?_
  refine lv_aload_n C.1 C.2.1 dX5_putSplits_4 rfl (lv_at hl 0 rfl) ?_
  refine gf_X5_28 C hG hth dX5_putSplits_5 ?_
  refine lv_iconst (v := nI 1) C.1 C.2.1 dX5_putSplits_8 (by decide) ?_
  refine lv_isub C.1 C.2.1 dX5_putSplits_9 ?_
  obtain ⟨v1, hv1, hf⟩ := of_bind hf
  obtain ⟨bv1, ev1⟩ := of_ldS hv1
  refine r_iald C hG (c0 := (th + 3)) (kdx_lt (kx_5_2 hth) (by decide)) (entX_I (kx_5_2 hth)) bv1 dX5_putSplits_10 ?_
  refine r_top ev1 ?_
  refine lv_istore_n (lv' := [(2, .int v1), (0, .ref (B + th)), (1, .ref (B + x1))]) C.1 C.2.1 dX5_putSplits_11 rfl hl (by decide) rfl (fun ls hl => ?_)
  refine lv_iconst (v := nI 0) C.1 C.2.1 dX5_putSplits_12 (by decide) ?_
  refine lv_istore_n (lv' := [(3, .int (nI 0)), (2, .int v1), (0, .ref (B + th)), (1, .ref (B + x1))]) C.1 C.2.1 dX5_putSplits_13 rfl hl (by decide) rfl (fun ls hl => ?_)
  obtain ⟨ex2, hex2, hf⟩ := of_bind hf
  refine kl_X5_putSplits_14 C hth h1 FU (nI 0, w) ex2 _ _ _ hG (lv_sub hl [2, 3, 1, 0] rfl) hex2 (fun y e0 H locs ls hG hl => ?_)
  subst e0
  obtain rfl := Option.some.inj hf
  exact r_vret C hG dX5_putSplits_123
set_option maxRecDepth 100000 in
set_option maxHeartbeats 4000000 in
theorem mt_X5_putSplits (l : Launch) {G : GG} {A : Nat → Prop} {B : Nat} {X : va_W} {th : Nat} {x1 : Nat} {w : WX} {out : WX} (hth : KDx th = (5, 5)) (h1 : KDx x1 = (0, 13)) (hf : sh_X5_putSplits th x1 w = some out) : MetW l yX5_putSplits wc_X5_putSplits rm_X5_putSplits G A 153 B (entX G B w) X [.ref (B + th), .ref (B + x1)] none (entX G B out) := by
  refine Met.ofW (cc := cX5_putSplits) (maxL := 8) (ret := none) (by decide) rfl ?_
  intro p e s m args below meth c s₁ B0 hml hv
  obtain ⟨rfl, hEv, hWd⟩ := hv
  have C : CX p s m _ meth c cX5_putSplits 8 RX5 wc_X5_putSplits none := ⟨B0.exec, B0.bytes, hml, findClass_of_methodNamed B0.named, atoms_spec (ws := wc_X5_putSplits) B0.pre, B0.returns, B0.notSynchronized⟩
  have hl := lv_entry [.ref (B + th), .ref (B + x1)] (n := 8) (Nat.le_of_ble_eq_true rfl)
  rw [lg_entry_eq]
  generalize (lg_sl [.ref (B + th), .ref (B + x1)] ++ List.replicate (8 - (lg_sl [.ref (B + th), .ref (B + x1)]).length) Slot.unset).toArray = ls at hl ⊢
  have hl : lv_has ls 8 [(0, .ref (B + th)), (1, .ref (B + x1))] := hl
  exact kb_X5_putSplits_0 C hth h1 ⟨hEv, hWd, va_S.rf⟩ hl hf
abbrev wc_X5_putTimes : List Cond := Cond.code yX5_putTimes cX5_putTimes 9 none :: TG
abbrev rm_X5_putTimes : Room := { frames := 4, cells := 0, slots := 0, locals := 145 }
theorem cd_X5_putTimes : yX5_putTimes.cls = RX5 ∧ yX5_putTimes.cls ≠ "java/lang/invoke/MethodHandle" ∧ yX5_putTimes.cls ≠ "java/lang/invoke/VarHandle" ∧ (parseMethodDescriptor yX5_putTimes.desc).map (fun d => d.parameters.length) = some 2 := by decide +kernel
theorem dX5_putTimes_0 : decode cX5_putTimes 0 = .ok (.aload_n 0, 1) := by decide +kernel
theorem dX5_putTimes_1 : decode cX5_putTimes 1 = .ok (.getfield 18, 3) := by decide +kernel
theorem dX5_putTimes_4 : decode cX5_putTimes 4 = .ok (.aload_n 0, 1) := by decide +kernel
theorem dX5_putTimes_5 : decode cX5_putTimes 5 = .ok (.getfield 28, 3) := by decide +kernel
theorem dX5_putTimes_8 : decode cX5_putTimes 8 = .ok (.iconst 1, 1) := by decide +kernel
theorem dX5_putTimes_9 : decode cX5_putTimes 9 = .ok (.isub, 1) := by decide +kernel
theorem dX5_putTimes_10 : decode cX5_putTimes 10 = .ok (.iaload, 1) := by decide +kernel
theorem dX5_putTimes_11 : decode cX5_putTimes 11 = .ok (.istore_n 3, 1) := by decide +kernel
theorem dX5_putTimes_12 : decode cX5_putTimes 12 = .ok (.iconst 0, 1) := by decide +kernel
theorem dX5_putTimes_13 : decode cX5_putTimes 13 = .ok (.istore 4, 2) := by decide +kernel
theorem dX5_putTimes_15 : decode cX5_putTimes 15 = .ok (.iload 4, 2) := by decide +kernel
theorem dX5_putTimes_17 : decode cX5_putTimes 17 = .ok (.aload_n 0, 1) := by decide +kernel
theorem dX5_putTimes_18 : decode cX5_putTimes 18 = .ok (.getfield 27, 3) := by decide +kernel
theorem dX5_putTimes_21 : decode cX5_putTimes 21 = .ok (.if_icmp .ge 99, 3) := by decide +kernel
theorem dX5_putTimes_24 : decode cX5_putTimes 24 = .ok (.iconst 0, 1) := by decide +kernel
theorem dX5_putTimes_25 : decode cX5_putTimes 25 = .ok (.istore 5, 2) := by decide +kernel
theorem dX5_putTimes_27 : decode cX5_putTimes 27 = .ok (.iload 5, 2) := by decide +kernel
theorem dX5_putTimes_29 : decode cX5_putTimes 29 = .ok (.aload_n 0, 1) := by decide +kernel
theorem dX5_putTimes_30 : decode cX5_putTimes 30 = .ok (.getfield 27, 3) := by decide +kernel
theorem dX5_putTimes_33 : decode cX5_putTimes 33 = .ok (.if_icmp .ge 81, 3) := by decide +kernel
theorem dX5_putTimes_36 : decode cX5_putTimes 36 = .ok (.aload_n 1, 1) := by decide +kernel
theorem dX5_putTimes_37 : decode cX5_putTimes 37 = .ok (.iload 4, 2) := by decide +kernel
theorem dX5_putTimes_39 : decode cX5_putTimes 39 = .ok (.iload 5, 2) := by decide +kernel
theorem dX5_putTimes_41 : decode cX5_putTimes 41 = .ok (.invokevirtual 83, 3) := by decide +kernel
theorem dX5_putTimes_44 : decode cX5_putTimes 44 = .ok (.istore 6, 2) := by decide +kernel
theorem dX5_putTimes_46 : decode cX5_putTimes 46 = .ok (.iconst 0, 1) := by decide +kernel
theorem dX5_putTimes_47 : decode cX5_putTimes 47 = .ok (.aload_n 1, 1) := by decide +kernel
theorem dX5_putTimes_48 : decode cX5_putTimes 48 = .ok (.getfield 94, 3) := by decide +kernel
theorem dX5_putTimes_51 : decode cX5_putTimes 51 = .ok (.iload 6, 2) := by decide +kernel
theorem dX5_putTimes_53 : decode cX5_putTimes 53 = .ok (.iaload, 1) := by decide +kernel
theorem dX5_putTimes_54 : decode cX5_putTimes 54 = .ok (.aload_n 2, 1) := by decide +kernel
theorem dX5_putTimes_55 : decode cX5_putTimes 55 = .ok (.iload 5, 2) := by decide +kernel
theorem dX5_putTimes_57 : decode cX5_putTimes 57 = .ok (.iaload, 1) := by decide +kernel
theorem dX5_putTimes_58 : decode cX5_putTimes 58 = .ok (.invokestatic 107, 3) := by decide +kernel
theorem dX5_putTimes_61 : decode cX5_putTimes 61 = .ok (.istore 7, 2) := by decide +kernel
theorem dX5_putTimes_63 : decode cX5_putTimes 63 = .ok (.iconst 0, 1) := by decide +kernel
theorem dX5_putTimes_64 : decode cX5_putTimes 64 = .ok (.istore 8, 2) := by decide +kernel
theorem dX5_putTimes_66 : decode cX5_putTimes 66 = .ok (.iload 8, 2) := by decide +kernel
theorem dX5_putTimes_68 : decode cX5_putTimes 68 = .ok (.iload_n 3, 1) := by decide +kernel
theorem dX5_putTimes_69 : decode cX5_putTimes 69 = .ok (.if_icmp .ge 39, 3) := by decide +kernel
theorem dX5_putTimes_72 : decode cX5_putTimes 72 = .ok (.aload_n 0, 1) := by decide +kernel
theorem dX5_putTimes_73 : decode cX5_putTimes 73 = .ok (.iload 8, 2) := by decide +kernel
theorem dX5_putTimes_75 : decode cX5_putTimes 75 = .ok (.iload_n 3, 1) := by decide +kernel
theorem dX5_putTimes_76 : decode cX5_putTimes 76 = .ok (.aload_n 1, 1) := by decide +kernel
theorem dX5_putTimes_77 : decode cX5_putTimes 77 = .ok (.getfield 87, 3) := by decide +kernel
theorem dX5_putTimes_80 : decode cX5_putTimes 80 = .ok (.iload 6, 2) := by decide +kernel
theorem dX5_putTimes_82 : decode cX5_putTimes 82 = .ok (.iaload, 1) := by decide +kernel
theorem dX5_putTimes_83 : decode cX5_putTimes 83 = .ok (.imul, 1) := by decide +kernel
theorem dX5_putTimes_84 : decode cX5_putTimes 84 = .ok (.iadd, 1) := by decide +kernel
theorem dX5_putTimes_85 : decode cX5_putTimes 85 = .ok (.aload_n 0, 1) := by decide +kernel
theorem dX5_putTimes_86 : decode cX5_putTimes 86 = .ok (.getfield 9, 3) := by decide +kernel
theorem dX5_putTimes_89 : decode cX5_putTimes 89 = .ok (.iload 8, 2) := by decide +kernel
theorem dX5_putTimes_91 : decode cX5_putTimes 91 = .ok (.iload_n 3, 1) := by decide +kernel
theorem dX5_putTimes_92 : decode cX5_putTimes 92 = .ok (.iload 4, 2) := by decide +kernel
theorem dX5_putTimes_94 : decode cX5_putTimes 94 = .ok (.imul, 1) := by decide +kernel
theorem dX5_putTimes_95 : decode cX5_putTimes 95 = .ok (.iadd, 1) := by decide +kernel
theorem dX5_putTimes_96 : decode cX5_putTimes 96 = .ok (.iaload, 1) := by decide +kernel
theorem dX5_putTimes_97 : decode cX5_putTimes 97 = .ok (.iload 7, 2) := by decide +kernel
theorem dX5_putTimes_99 : decode cX5_putTimes 99 = .ok (.invokevirtual 79, 3) := by decide +kernel
theorem dX5_putTimes_102 : decode cX5_putTimes 102 = .ok (.iinc 8 1, 3) := by decide +kernel
theorem dX5_putTimes_105 : decode cX5_putTimes 105 = .ok (.goto (-39), 3) := by decide +kernel
theorem dX5_putTimes_108 : decode cX5_putTimes 108 = .ok (.iinc 5 1, 3) := by decide +kernel
theorem dX5_putTimes_111 : decode cX5_putTimes 111 = .ok (.goto (-84), 3) := by decide +kernel
theorem dX5_putTimes_114 : decode cX5_putTimes 114 = .ok (.iinc 4 1, 3) := by decide +kernel
theorem dX5_putTimes_117 : decode cX5_putTimes 117 = .ok (.goto (-102), 3) := by decide +kernel
theorem dX5_putTimes_120 : decode cX5_putTimes 120 = .ok (.return_, 1) := by decide +kernel
set_option maxRecDepth 100000 in
set_option maxHeartbeats 4000000 in
theorem kb_X5_putTimes_66 {th : Nat} {x1 : Nat} {x2 : Nat} {x3 : Int32} {x4 : Int32} {x5 : Int32} {x6 : Int32} {x7 : Int32} {st : Int32 × WX} {r : (Int32 × WX) ⊕ ((WX))} {H : Heap} {locs : List Loc} {ls : Array Slot} (C : CX p s m args meth c cX5_putTimes 9 RX5 wc_X5_putTimes none) (hth : KDx th = (5, 5)) (h1 : KDx x1 = (0, 13)) (h2 : (KDx x2).1 = 10) (hG : Gd s G A 153 B (entX G B st.2) X H locs) (hl : lv_has ls 9 [(0, .ref (B + th)), (1, .ref (B + x1)), (2, .ref (B + x2)), (3, .int x3), (4, .int x4), (5, .int x5), (6, .int x6), (7, .int x7), (8, .int st.1)]) (hf : sh_X5_putTimes_s66 th x1 x2 x3 x4 x5 x6 x7 st = some r)
    (kL : ∀ st' : Int32 × WX, r = Sum.inl st' → ∀ (H : Heap) (locs : List Loc) (ls : Array Slot), Gd s G A 153 B (entX G B st'.2) X H locs → lv_has ls 9 [(0, .ref (B + th)), (1, .ref (B + x1)), (2, .ref (B + x2)), (3, .int x3), (4, .int x4), (5, .int x5), (6, .int x6), (7, .int x7), (8, .int st'.1)] → W p l e rm_X5_putTimes s m args below meth c H locs 0 0 Q (F0 m 66 ls []))
    (kX0 : ∀ y' : WX, r = Sum.inr y' → ∀ (H : Heap) (locs : List Loc) (ls : Array Slot), Gd s G A 153 B (entX G B y') X H locs → lv_has ls 9 [(0, .ref (B + th)), (1, .ref (B + x1)), (2, .ref (B + x2)), (3, .int x3), (4, .int x4), (5, .int x5)] → W p l e rm_X5_putTimes s m args below meth c H locs 0 0 Q (F0 m 108 ls [])) :
    W p l e rm_X5_putTimes s m args below meth c H locs 0 0 Q (F0 m 66 ls []) := by
  refine lv_iload C.1 C.2.1 dX5_putTimes_66 (lv_at hl 8 rfl) ?_
  refine lv_iload_n C.1 C.2.1 dX5_putTimes_68 rfl (lv_at hl 3 rfl) ?_
  rcases of_ite hf with ⟨c1, hf⟩ | ⟨c1, hf⟩
  · refine lv_icmp_ge (tgt := 108) C.1 C.2.1 dX5_putTimes_69 (by decide) (fun _ => ?_) (fun q => absurd c1 q)
    obtain rfl := Option.some.inj hf
    exact kX0 _ rfl _ _ _ hG (lv_sub hl [0, 1, 2, 3, 4, 5] rfl)
  · refine lv_icmp_ge (tgt := 108) C.1 C.2.1 dX5_putTimes_69 (by decide) (fun q => absurd q c1) (fun _ => ?_)
    refine lv_aload_n C.1 C.2.1 dX5_putTimes_72 rfl (lv_at hl 0 rfl) ?_
    refine lv_iload C.1 C.2.1 dX5_putTimes_73 (lv_at hl 8 rfl) ?_
    refine lv_iload_n C.1 C.2.1 dX5_putTimes_75 rfl (lv_at hl 3 rfl) ?_
    refine lv_aload_n C.1 C.2.1 dX5_putTimes_76 rfl (lv_at hl 1 rfl) ?_
    refine gf_X5_87 C hG h1 dX5_putTimes_77 ?_
    refine lv_iload C.1 C.2.1 dX5_putTimes_80 (lv_at hl 6 rfl) ?_
    obtain ⟨v2, hv2, hf⟩ := of_bind hf
    obtain ⟨bv2, ev2⟩ := of_ldS hv2
    refine r_iald C hG (c0 := (x1 + 1)) (kdx_lt (kx_0_4 h1) (by decide)) (entX_I (kx_0_4 h1)) bv2 dX5_putTimes_82 ?_
    refine r_top ev2 ?_
    refine lv_imul C.1 C.2.1 dX5_putTimes_83 ?_
    refine lv_iadd C.1 C.2.1 dX5_putTimes_84 ?_
    refine lv_aload_n C.1 C.2.1 dX5_putTimes_85 rfl (lv_at hl 0 rfl) ?_
    refine gf_X5_9 C hG hth dX5_putTimes_86 ?_
    refine lv_iload C.1 C.2.1 dX5_putTimes_89 (lv_at hl 8 rfl) ?_
    refine lv_iload_n C.1 C.2.1 dX5_putTimes_91 rfl (lv_at hl 3 rfl) ?_
    refine lv_iload C.1 C.2.1 dX5_putTimes_92 (lv_at hl 4 rfl) ?_
    refine lv_imul C.1 C.2.1 dX5_putTimes_94 ?_
    refine lv_iadd C.1 C.2.1 dX5_putTimes_95 ?_
    obtain ⟨v3, hv3, hf⟩ := of_bind hf
    obtain ⟨kv3, bv3, ev3⟩ := of_ldD hv3
    refine r_iald C hG (c0 := st.2.2 th 0) (kdx_lt (kd_eta kv3) (by decide)) (entX_I (kd_eta kv3)) bv3 dX5_putTimes_96 ?_
    refine r_top ev3 ?_
    refine lv_iload C.1 C.2.1 dX5_putTimes_97 (lv_at hl 7 rfl) ?_
    obtain ⟨w4, hw4, hf⟩ := of_bind hf
    refine r_callV0 C hG hl.1 (c0 := th) (As := [.int (st.1 + (x3 * v2)), .int v3, .int x7]) (kdx_lt hth (by decide)) (entX_O5 hth) rfl (mt_X5_add l hth hw4) (cwV 3 C.2.2.2.2.1 (gd_V tg_3_109 tg_3_111 tgp_17 tg_1_9 tg_3_112) rfl rfl rfl cd_X5_add ⟨Nat.le_of_ble_eq_true rfl, Nat.le_of_ble_eq_true rfl⟩) rfl rfl (Nat.le_of_ble_eq_true rfl) dX5_putTimes_99 (fun H locs hG => ?_)
    obtain ⟨v5, ev5, hf⟩ := of_letv hf
    refine lv_iinc (v := v5) (lv' := [(8, .int v5), (0, .ref (B + th)), (1, .ref (B + x1)), (2, .ref (B + x2)), (3, .int x3), (4, .int x4), (5, .int x5), (6, .int x6), (7, .int x7)]) C.1 C.2.1 dX5_putTimes_102 hl (k := 8) rfl (by rw [ev5, show Int32.ofInt (1) = nI 1 from by decide]) (by decide) rfl (fun ls hl => ?_)
    refine lv_goto (tgt := 66) C.1 C.2.1 dX5_putTimes_105 (by decide) ?_
    obtain rfl := Option.some.inj hf
    exact kL _ rfl _ _ _ hG (lv_sub hl [1, 2, 3, 4, 5, 6, 7, 8, 0] rfl)
set_option maxRecDepth 100000 in
set_option maxHeartbeats 4000000 in
theorem kl_X5_putTimes_66 {th : Nat} {x1 : Nat} {x2 : Nat} {x3 : Int32} {x4 : Int32} {x5 : Int32} {x6 : Int32} {x7 : Int32} (C : CX p s m args meth c cX5_putTimes 9 RX5 wc_X5_putTimes none) (hth : KDx th = (5, 5)) (h1 : KDx x1 = (0, 13)) (h2 : (KDx x2).1 = 10) : ∀ (n : Nat) (st : Int32 × WX) (x : (WX)) (H : Heap) (locs : List Loc) (ls : Array Slot), Gd s G A 153 B (entX G B st.2) X H locs → lv_has ls 9 [(0, .ref (B + th)), (1, .ref (B + x1)), (2, .ref (B + x2)), (3, .int x3), (4, .int x4), (5, .int x5), (6, .int x6), (7, .int x7), (8, .int st.1)] → lpw (sh_X5_putTimes_s66 th x1 x2 x3 x4 x5 x6 x7) n st = some x →
    (∀ y' : WX, x = y' → ∀ (H : Heap) (locs : List Loc) (ls : Array Slot), Gd s G A 153 B (entX G B y') X H locs → lv_has ls 9 [(0, .ref (B + th)), (1, .ref (B + x1)), (2, .ref (B + x2)), (3, .int x3), (4, .int x4), (5, .int x5)] → W p l e rm_X5_putTimes s m args below meth c H locs 0 0 Q (F0 m 108 ls [])) → W p l e rm_X5_putTimes s m args below meth c H locs 0 0 Q (F0 m 66 ls []) := by
  intro n
  induction n with
  | zero =>
    intro st x H locs ls hG hl hf
    cases hf
  | succ n ih =>
    intro st x H locs ls hG hl hf kX0
    obtain ⟨r, hr, hh⟩ := of_lpw hf
    refine kb_X5_putTimes_66 C hth h1 h2 hG hl hr (fun st2 e1 H locs ls hG hl => ?_) (fun y2 e1 H locs ls hG hl => ?_)
    · rcases hh with ⟨s3, e2, hh⟩ | e2
      · rw [e2] at e1
        cases e1
        exact ih _ _ _ _ _ hG hl hh kX0
      · rw [e2] at e1
        cases e1
    · rcases hh with ⟨s3, e2, hh⟩ | e2
      · rw [e2] at e1
        cases e1
      · rw [e2] at e1
        cases e1
        exact kX0 _ rfl _ _ _ hG hl
set_option maxRecDepth 100000 in
set_option maxHeartbeats 4000000 in
theorem kb_X5_putTimes_27 {th : Nat} {x1 : Nat} {x2 : Nat} {x3 : Int32} {x4 : Int32} {st : Int32 × WX} {r : (Int32 × WX) ⊕ ((WX))} {H : Heap} {locs : List Loc} {ls : Array Slot} (C : CX p s m args meth c cX5_putTimes 9 RX5 wc_X5_putTimes none) (hth : KDx th = (5, 5)) (h1 : KDx x1 = (0, 13)) (h2 : (KDx x2).1 = 10) (hG : Gd s G A 153 B (entX G B st.2) X H locs) (hl : lv_has ls 9 [(0, .ref (B + th)), (1, .ref (B + x1)), (2, .ref (B + x2)), (3, .int x3), (4, .int x4), (5, .int st.1)]) (hf : sh_X5_putTimes_s27 th x1 x2 x3 x4 st = some r)
    (kL : ∀ st' : Int32 × WX, r = Sum.inl st' → ∀ (H : Heap) (locs : List Loc) (ls : Array Slot), Gd s G A 153 B (entX G B st'.2) X H locs → lv_has ls 9 [(0, .ref (B + th)), (1, .ref (B + x1)), (2, .ref (B + x2)), (3, .int x3), (4, .int x4), (5, .int st'.1)] → W p l e rm_X5_putTimes s m args below meth c H locs 0 0 Q (F0 m 27 ls []))
    (kX0 : ∀ y' : WX, r = Sum.inr y' → ∀ (H : Heap) (locs : List Loc) (ls : Array Slot), Gd s G A 153 B (entX G B y') X H locs → lv_has ls 9 [(0, .ref (B + th)), (1, .ref (B + x1)), (2, .ref (B + x2)), (3, .int x3), (4, .int x4)] → W p l e rm_X5_putTimes s m args below meth c H locs 0 0 Q (F0 m 114 ls [])) :
    W p l e rm_X5_putTimes s m args below meth c H locs 0 0 Q (F0 m 27 ls []) := by
  refine lv_iload C.1 C.2.1 dX5_putTimes_27 (lv_at hl 5 rfl) ?_
  refine lv_aload_n C.1 C.2.1 dX5_putTimes_29 rfl (lv_at hl 0 rfl) ?_
  refine gf_X5_27 C hG hth dX5_putTimes_30 ?_
  rcases of_ite hf with ⟨c1, hf⟩ | ⟨c1, hf⟩
  · refine lv_icmp_ge (tgt := 114) C.1 C.2.1 dX5_putTimes_33 (by decide) (fun _ => ?_) (fun q => absurd c1 q)
    obtain rfl := Option.some.inj hf
    exact kX0 _ rfl _ _ _ hG (lv_sub hl [0, 1, 2, 3, 4] rfl)
  · refine lv_icmp_ge (tgt := 114) C.1 C.2.1 dX5_putTimes_33 (by decide) (fun q => absurd q c1) (fun _ => ?_)
    refine lv_aload_n C.1 C.2.1 dX5_putTimes_36 rfl (lv_at hl 1 rfl) ?_
    refine lv_iload C.1 C.2.1 dX5_putTimes_37 (lv_at hl 4 rfl) ?_
    refine lv_iload C.1 C.2.1 dX5_putTimes_39 (lv_at hl 5 rfl) ?_
    obtain ⟨v2, hv2, hf⟩ := of_bind hf
    refine r_callVN1 C hG hl.1 (c0 := x1) (As := [.int x4, .int st.1]) (kdx_lt h1 (by decide)) (entX_O0 h1) rfl (mt_X0_at l h1 hv2) (va_cnB 2 C.2.2.2.2.1 (gd_all tg_2_71) rfl rfl rfl (hG.1.2.1 _ nn_62) (C.2.2.2.2.1 _ (List.mem_cons_of_mem _ tg_1_4)) cd_X0_at.2 ⟨Nat.le_of_ble_eq_true rfl, Nat.le_of_ble_eq_true rfl⟩) (C.2.2.2.2.1 _ (List.mem_cons_of_mem _ tg_2_70)) (C.2.2.2.2.1 _ (List.mem_cons_of_mem _ tgp_1)) rfl rfl (Nat.le_of_ble_eq_true rfl) dX5_putTimes_41 (fun H locs hG => ?_)
    refine lv_istore (lv' := [(6, .int v2), (0, .ref (B + th)), (1, .ref (B + x1)), (2, .ref (B + x2)), (3, .int x3), (4, .int x4), (5, .int st.1)]) C.1 C.2.1 dX5_putTimes_44 hl (by decide) rfl (fun ls hl => ?_)
    refine lv_iconst (v := nI 0) C.1 C.2.1 dX5_putTimes_46 (by decide) ?_
    refine lv_aload_n C.1 C.2.1 dX5_putTimes_47 rfl (lv_at hl 2 rfl) ?_
    refine gf_X5_94 C hG h1 dX5_putTimes_48 ?_
    refine lv_iload C.1 C.2.1 dX5_putTimes_51 (lv_at hl 0 rfl) ?_
    obtain ⟨v3, hv3, hf⟩ := of_bind hf
    obtain ⟨bv3, ev3⟩ := of_ldS hv3
    refine r_iald C hG (c0 := (x1 + 2)) (kdx_lt (kx_0_5 h1) (by decide)) (entX_I (kx_0_5 h1)) bv3 dX5_putTimes_53 ?_
    refine r_top ev3 ?_
    refine lv_aload_n C.1 C.2.1 dX5_putTimes_54 rfl (lv_at hl 3 rfl) ?_
    refine lv_iload C.1 C.2.1 dX5_putTimes_55 (lv_at hl 6 rfl) ?_
    obtain ⟨v4, hv4, hf⟩ := of_bind hf
    obtain ⟨kv4, bv4, ev4⟩ := of_ldD hv4
    refine r_iald C hG (c0 := x2) (kdx_lt (kd_eta kv4) (by decide)) (entX_I (kd_eta kv4)) bv4 dX5_putTimes_57 ?_
    refine r_top ev4 ?_
    obtain ⟨v5, hv5, hf⟩ := of_bind hf
    refine r_callSN1 C hG hl.1 (As := [.int (nI 0), .int v3, .int v4]) (mt_X8_plusTimes l  hv5) (va_cnB 3 C.2.2.2.2.1 (gd_all tg_2_105) rfl rfl rfl (hG.1.2.1 _ nn_61) (C.2.2.2.2.1 _ (List.mem_cons_of_mem _ tg_1_1)) cd_X8_plusTimes.2 ⟨Nat.le_of_ble_eq_true rfl, Nat.le_of_ble_eq_true rfl⟩) (C.2.2.2.2.1 _ (List.mem_cons_of_mem _ tg_2_104)) rfl rfl (Nat.le_of_ble_eq_true rfl) dX5_putTimes_58 (fun H locs hG => ?_)
    refine lv_istore (lv' := [(7, .int v5), (6, .int v2), (0, .ref (B + th)), (1, .ref (B + x1)), (2, .ref (B + x2)), (3, .int x3), (4, .int x4), (5, .int st.1)]) C.1 C.2.1 dX5_putTimes_61 hl (by decide) rfl (fun ls hl => ?_)
    refine lv_iconst (v := nI 0) C.1 C.2.1 dX5_putTimes_63 (by decide) ?_
    refine lv_istore (lv' := [(8, .int (nI 0)), (7, .int v5), (6, .int v2), (0, .ref (B + th)), (1, .ref (B + x1)), (2, .ref (B + x2)), (3, .int x3), (4, .int x4), (5, .int st.1)]) C.1 C.2.1 dX5_putTimes_64 hl (by decide) rfl (fun ls hl => ?_)
    obtain ⟨ex6, hex6, hf⟩ := of_bind hf
    refine kl_X5_putTimes_66 C hth h1 h2 FU (nI 0, st.2) ex6 _ _ _ hG (lv_sub hl [3, 4, 5, 6, 7, 8, 2, 1, 0] rfl) hex6 (fun y e0 H locs ls hG hl => ?_)
    subst e0
    obtain ⟨v7, ev7, hf⟩ := of_letv hf
    refine lv_iinc (v := v7) (lv' := [(5, .int v7), (0, .ref (B + th)), (1, .ref (B + x1)), (2, .ref (B + x2)), (3, .int x3), (4, .int x4)]) C.1 C.2.1 dX5_putTimes_108 hl (k := 5) rfl (by rw [ev7, show Int32.ofInt (1) = nI 1 from by decide]) (by decide) rfl (fun ls hl => ?_)
    refine lv_goto (tgt := 27) C.1 C.2.1 dX5_putTimes_111 (by decide) ?_
    obtain rfl := Option.some.inj hf
    exact kL _ rfl _ _ _ hG (lv_sub hl [1, 2, 3, 4, 5, 0] rfl)
set_option maxRecDepth 100000 in
set_option maxHeartbeats 4000000 in
theorem kl_X5_putTimes_27 {th : Nat} {x1 : Nat} {x2 : Nat} {x3 : Int32} {x4 : Int32} (C : CX p s m args meth c cX5_putTimes 9 RX5 wc_X5_putTimes none) (hth : KDx th = (5, 5)) (h1 : KDx x1 = (0, 13)) (h2 : (KDx x2).1 = 10) : ∀ (n : Nat) (st : Int32 × WX) (x : (WX)) (H : Heap) (locs : List Loc) (ls : Array Slot), Gd s G A 153 B (entX G B st.2) X H locs → lv_has ls 9 [(0, .ref (B + th)), (1, .ref (B + x1)), (2, .ref (B + x2)), (3, .int x3), (4, .int x4), (5, .int st.1)] → lpw (sh_X5_putTimes_s27 th x1 x2 x3 x4) n st = some x →
    (∀ y' : WX, x = y' → ∀ (H : Heap) (locs : List Loc) (ls : Array Slot), Gd s G A 153 B (entX G B y') X H locs → lv_has ls 9 [(0, .ref (B + th)), (1, .ref (B + x1)), (2, .ref (B + x2)), (3, .int x3), (4, .int x4)] → W p l e rm_X5_putTimes s m args below meth c H locs 0 0 Q (F0 m 114 ls [])) → W p l e rm_X5_putTimes s m args below meth c H locs 0 0 Q (F0 m 27 ls []) := by
  intro n
  induction n with
  | zero =>
    intro st x H locs ls hG hl hf
    cases hf
  | succ n ih =>
    intro st x H locs ls hG hl hf kX0
    obtain ⟨r, hr, hh⟩ := of_lpw hf
    refine kb_X5_putTimes_27 C hth h1 h2 hG hl hr (fun st2 e1 H locs ls hG hl => ?_) (fun y2 e1 H locs ls hG hl => ?_)
    · rcases hh with ⟨s3, e2, hh⟩ | e2
      · rw [e2] at e1
        cases e1
        exact ih _ _ _ _ _ hG hl hh kX0
      · rw [e2] at e1
        cases e1
    · rcases hh with ⟨s3, e2, hh⟩ | e2
      · rw [e2] at e1
        cases e1
      · rw [e2] at e1
        cases e1
        exact kX0 _ rfl _ _ _ hG hl
set_option maxRecDepth 100000 in
set_option maxHeartbeats 4000000 in
theorem kb_X5_putTimes_15 {th : Nat} {x1 : Nat} {x2 : Nat} {x3 : Int32} {st : Int32 × WX} {r : (Int32 × WX) ⊕ ((WX))} {H : Heap} {locs : List Loc} {ls : Array Slot} (C : CX p s m args meth c cX5_putTimes 9 RX5 wc_X5_putTimes none) (hth : KDx th = (5, 5)) (h1 : KDx x1 = (0, 13)) (h2 : (KDx x2).1 = 10) (hG : Gd s G A 153 B (entX G B st.2) X H locs) (hl : lv_has ls 9 [(0, .ref (B + th)), (1, .ref (B + x1)), (2, .ref (B + x2)), (3, .int x3), (4, .int st.1)]) (hf : sh_X5_putTimes_s15 th x1 x2 x3 st = some r)
    (kL : ∀ st' : Int32 × WX, r = Sum.inl st' → ∀ (H : Heap) (locs : List Loc) (ls : Array Slot), Gd s G A 153 B (entX G B st'.2) X H locs → lv_has ls 9 [(0, .ref (B + th)), (1, .ref (B + x1)), (2, .ref (B + x2)), (3, .int x3), (4, .int st'.1)] → W p l e rm_X5_putTimes s m args below meth c H locs 0 0 Q (F0 m 15 ls []))
    (kX0 : ∀ y' : WX, r = Sum.inr y' → ∀ (H : Heap) (locs : List Loc) (ls : Array Slot), Gd s G A 153 B (entX G B y') X H locs → lv_has ls 9 [] → W p l e rm_X5_putTimes s m args below meth c H locs 0 0 Q (F0 m 120 ls [])) :
    W p l e rm_X5_putTimes s m args below meth c H locs 0 0 Q (F0 m 15 ls []) := by
  refine lv_iload C.1 C.2.1 dX5_putTimes_15 (lv_at hl 4 rfl) ?_
  refine lv_aload_n C.1 C.2.1 dX5_putTimes_17 rfl (lv_at hl 0 rfl) ?_
  refine gf_X5_27 C hG hth dX5_putTimes_18 ?_
  rcases of_ite hf with ⟨c1, hf⟩ | ⟨c1, hf⟩
  · refine lv_icmp_ge (tgt := 120) C.1 C.2.1 dX5_putTimes_21 (by decide) (fun _ => ?_) (fun q => absurd c1 q)
    obtain rfl := Option.some.inj hf
    exact kX0 _ rfl _ _ _ hG (lv_sub hl [] rfl)
  · refine lv_icmp_ge (tgt := 120) C.1 C.2.1 dX5_putTimes_21 (by decide) (fun q => absurd q c1) (fun _ => ?_)
    refine lv_iconst (v := nI 0) C.1 C.2.1 dX5_putTimes_24 (by decide) ?_
    refine lv_istore (lv' := [(5, .int (nI 0)), (0, .ref (B + th)), (1, .ref (B + x1)), (2, .ref (B + x2)), (3, .int x3), (4, .int st.1)]) C.1 C.2.1 dX5_putTimes_25 hl (by decide) rfl (fun ls hl => ?_)
    obtain ⟨ex2, hex2, hf⟩ := of_bind hf
    refine kl_X5_putTimes_27 C hth h1 h2 FU (nI 0, st.2) ex2 _ _ _ hG (lv_sub hl [1, 2, 3, 4, 5, 0] rfl) hex2 (fun y e0 H locs ls hG hl => ?_)
    subst e0
    obtain ⟨v3, ev3, hf⟩ := of_letv hf
    refine lv_iinc (v := v3) (lv' := [(4, .int v3), (0, .ref (B + th)), (1, .ref (B + x1)), (2, .ref (B + x2)), (3, .int x3)]) C.1 C.2.1 dX5_putTimes_114 hl (k := 4) rfl (by rw [ev3, show Int32.ofInt (1) = nI 1 from by decide]) (by decide) rfl (fun ls hl => ?_)
    refine lv_goto (tgt := 15) C.1 C.2.1 dX5_putTimes_117 (by decide) ?_
    obtain rfl := Option.some.inj hf
    exact kL _ rfl _ _ _ hG (lv_sub hl [1, 2, 3, 4, 0] rfl)
set_option maxRecDepth 100000 in
set_option maxHeartbeats 4000000 in
theorem kl_X5_putTimes_15 {th : Nat} {x1 : Nat} {x2 : Nat} {x3 : Int32} (C : CX p s m args meth c cX5_putTimes 9 RX5 wc_X5_putTimes none) (hth : KDx th = (5, 5)) (h1 : KDx x1 = (0, 13)) (h2 : (KDx x2).1 = 10) : ∀ (n : Nat) (st : Int32 × WX) (x : (WX)) (H : Heap) (locs : List Loc) (ls : Array Slot), Gd s G A 153 B (entX G B st.2) X H locs → lv_has ls 9 [(0, .ref (B + th)), (1, .ref (B + x1)), (2, .ref (B + x2)), (3, .int x3), (4, .int st.1)] → lpw (sh_X5_putTimes_s15 th x1 x2 x3) n st = some x →
    (∀ y' : WX, x = y' → ∀ (H : Heap) (locs : List Loc) (ls : Array Slot), Gd s G A 153 B (entX G B y') X H locs → lv_has ls 9 [] → W p l e rm_X5_putTimes s m args below meth c H locs 0 0 Q (F0 m 120 ls [])) → W p l e rm_X5_putTimes s m args below meth c H locs 0 0 Q (F0 m 15 ls []) := by
  intro n
  induction n with
  | zero =>
    intro st x H locs ls hG hl hf
    cases hf
  | succ n ih =>
    intro st x H locs ls hG hl hf kX0
    obtain ⟨r, hr, hh⟩ := of_lpw hf
    refine kb_X5_putTimes_15 C hth h1 h2 hG hl hr (fun st2 e1 H locs ls hG hl => ?_) (fun y2 e1 H locs ls hG hl => ?_)
    · rcases hh with ⟨s3, e2, hh⟩ | e2
      · rw [e2] at e1
        cases e1
        exact ih _ _ _ _ _ hG hl hh kX0
      · rw [e2] at e1
        cases e1
    · rcases hh with ⟨s3, e2, hh⟩ | e2
      · rw [e2] at e1
        cases e1
      · rw [e2] at e1
        cases e1
        exact kX0 _ rfl _ _ _ hG hl
set_option maxRecDepth 100000 in
set_option maxHeartbeats 4000000 in
theorem kb_X5_putTimes_0 {th : Nat} {x1 : Nat} {x2 : Nat} {w : WX} {out : WX} {H : Heap} {locs : List Loc} {ls : Array Slot} (C : CX p s m args meth c cX5_putTimes 9 RX5 wc_X5_putTimes none) (hth : KDx th = (5, 5)) (h1 : KDx x1 = (0, 13)) (h2 : (KDx x2).1 = 10) (hG : Gd s G A 153 B (entX G B w) X H locs) (hl : lv_has ls 9 [(0, .ref (B + th)), (1, .ref (B + x1)), (2, .ref (B + x2))]) (hf : sh_X5_putTimes th x1 x2 w = some out) :
    W p l e rm_X5_putTimes s m args below meth c H locs 0 0 (MQ below (CPost G A 153 B (entX G B out) X none) args s 0 0 A) (F0 m 0 ls []) := by
  refine lv_aload_n C.1 C.2.1 dX5_putTimes_0 rfl (lv_at hl 0 rfl) ?_
  refine gf_X5_18 C hG hth dX5_putTimes_1 ?_
  refine lv_aload_n C.1 C.2.1 dX5_putTimes_4 rfl (lv_at hl 0 rfl) ?_
  refine gf_X5_28 C hG hth dX5_putTimes_5 ?_
  refine lv_iconst (v := nI 1) C.1 C.2.1 dX5_putTimes_8 (by decide) ?_
  refine lv_isub C.1 C.2.1 dX5_putTimes_9 ?_
  obtain ⟨v1, hv1, hf⟩ := of_bind hf
  obtain ⟨bv1, ev1⟩ := of_ldS hv1
  refine r_iald C hG (c0 := (th + 3)) (kdx_lt (kx_5_2 hth) (by decide)) (entX_I (kx_5_2 hth)) bv1 dX5_putTimes_10 ?_
  refine r_top ev1 ?_
  refine lv_istore_n (lv' := [(3, .int v1), (0, .ref (B + th)), (1, .ref (B + x1)), (2, .ref (B + x2))]) C.1 C.2.1 dX5_putTimes_11 rfl hl (by decide) rfl (fun ls hl => ?_)
  refine lv_iconst (v := nI 0) C.1 C.2.1 dX5_putTimes_12 (by decide) ?_
  refine lv_istore (lv' := [(4, .int (nI 0)), (3, .int v1), (0, .ref (B + th)), (1, .ref (B + x1)), (2, .ref (B + x2))]) C.1 C.2.1 dX5_putTimes_13 hl (by decide) rfl (fun ls hl => ?_)
  obtain ⟨ex2, hex2, hf⟩ := of_bind hf
  refine kl_X5_putTimes_15 C hth h1 h2 FU (nI 0, w) ex2 _ _ _ hG (lv_sub hl [2, 3, 4, 1, 0] rfl) hex2 (fun y e0 H locs ls hG hl => ?_)
  subst e0
  obtain rfl := Option.some.inj hf
  exact r_vret C hG dX5_putTimes_120
set_option maxRecDepth 100000 in
set_option maxHeartbeats 4000000 in
theorem mt_X5_putTimes (l : Launch) {G : GG} {A : Nat → Prop} {B : Nat} {X : va_W} {th : Nat} {x1 : Nat} {x2 : Nat} {w : WX} {out : WX} (hth : KDx th = (5, 5)) (h1 : KDx x1 = (0, 13)) (h2 : (KDx x2).1 = 10) (hf : sh_X5_putTimes th x1 x2 w = some out) : MetW l yX5_putTimes wc_X5_putTimes rm_X5_putTimes G A 153 B (entX G B w) X [.ref (B + th), .ref (B + x1), .ref (B + x2)] none (entX G B out) := by
  refine Met.ofW (cc := cX5_putTimes) (maxL := 9) (ret := none) (by decide) rfl ?_
  intro p e s m args below meth c s₁ B0 hml hv
  obtain ⟨rfl, hEv, hWd⟩ := hv
  have C : CX p s m _ meth c cX5_putTimes 9 RX5 wc_X5_putTimes none := ⟨B0.exec, B0.bytes, hml, findClass_of_methodNamed B0.named, atoms_spec (ws := wc_X5_putTimes) B0.pre, B0.returns, B0.notSynchronized⟩
  have hl := lv_entry [.ref (B + th), .ref (B + x1), .ref (B + x2)] (n := 9) (Nat.le_of_ble_eq_true rfl)
  rw [lg_entry_eq]
  generalize (lg_sl [.ref (B + th), .ref (B + x1), .ref (B + x2)] ++ List.replicate (9 - (lg_sl [.ref (B + th), .ref (B + x1), .ref (B + x2)]).length) Slot.unset).toArray = ls at hl ⊢
  have hl : lv_has ls 9 [(0, .ref (B + th)), (1, .ref (B + x1)), (2, .ref (B + x2))] := hl
  exact kb_X5_putTimes_0 C hth h1 h2 ⟨hEv, hWd, va_S.rf⟩ hl hf
abbrev wc_X5_putTraces : List Cond := Cond.code yX5_putTraces cX5_putTraces 5 none :: TG
abbrev rm_X5_putTraces : Room := { frames := 4, cells := 0, slots := 0, locals := 145 }
theorem cd_X5_putTraces : yX5_putTraces.cls = RX5 ∧ yX5_putTraces.cls ≠ "java/lang/invoke/MethodHandle" ∧ yX5_putTraces.cls ≠ "java/lang/invoke/VarHandle" ∧ (parseMethodDescriptor yX5_putTraces.desc).map (fun d => d.parameters.length) = some 1 := by decide +kernel
theorem dX5_putTraces_0 : decode cX5_putTraces 0 = .ok (.aload_n 0, 1) := by decide +kernel
theorem dX5_putTraces_1 : decode cX5_putTraces 1 = .ok (.getfield 18, 3) := by decide +kernel
theorem dX5_putTraces_4 : decode cX5_putTraces 4 = .ok (.aload_n 0, 1) := by decide +kernel
theorem dX5_putTraces_5 : decode cX5_putTraces 5 = .ok (.getfield 28, 3) := by decide +kernel
theorem dX5_putTraces_8 : decode cX5_putTraces 8 = .ok (.iconst 1, 1) := by decide +kernel
theorem dX5_putTraces_9 : decode cX5_putTraces 9 = .ok (.isub, 1) := by decide +kernel
theorem dX5_putTraces_10 : decode cX5_putTraces 10 = .ok (.iaload, 1) := by decide +kernel
theorem dX5_putTraces_11 : decode cX5_putTraces 11 = .ok (.istore_n 2, 1) := by decide +kernel
theorem dX5_putTraces_12 : decode cX5_putTraces 12 = .ok (.iconst 0, 1) := by decide +kernel
theorem dX5_putTraces_13 : decode cX5_putTraces 13 = .ok (.istore_n 3, 1) := by decide +kernel
theorem dX5_putTraces_14 : decode cX5_putTraces 14 = .ok (.iload_n 3, 1) := by decide +kernel
theorem dX5_putTraces_15 : decode cX5_putTraces 15 = .ok (.aload_n 0, 1) := by decide +kernel
theorem dX5_putTraces_16 : decode cX5_putTraces 16 = .ok (.getfield 27, 3) := by decide +kernel
theorem dX5_putTraces_19 : decode cX5_putTraces 19 = .ok (.if_icmp .ge 47, 3) := by decide +kernel
theorem dX5_putTraces_22 : decode cX5_putTraces 22 = .ok (.iconst 0, 1) := by decide +kernel
theorem dX5_putTraces_23 : decode cX5_putTraces 23 = .ok (.istore 4, 2) := by decide +kernel
theorem dX5_putTraces_25 : decode cX5_putTraces 25 = .ok (.iload 4, 2) := by decide +kernel
theorem dX5_putTraces_27 : decode cX5_putTraces 27 = .ok (.iload_n 2, 1) := by decide +kernel
theorem dX5_putTraces_28 : decode cX5_putTraces 28 = .ok (.if_icmp .ge 32, 3) := by decide +kernel
theorem dX5_putTraces_31 : decode cX5_putTraces 31 = .ok (.aload_n 0, 1) := by decide +kernel
theorem dX5_putTraces_32 : decode cX5_putTraces 32 = .ok (.iload 4, 2) := by decide +kernel
theorem dX5_putTraces_34 : decode cX5_putTraces 34 = .ok (.aload_n 0, 1) := by decide +kernel
theorem dX5_putTraces_35 : decode cX5_putTraces 35 = .ok (.getfield 9, 3) := by decide +kernel
theorem dX5_putTraces_38 : decode cX5_putTraces 38 = .ok (.iload 4, 2) := by decide +kernel
theorem dX5_putTraces_40 : decode cX5_putTraces 40 = .ok (.iload_n 2, 1) := by decide +kernel
theorem dX5_putTraces_41 : decode cX5_putTraces 41 = .ok (.iload_n 3, 1) := by decide +kernel
theorem dX5_putTraces_42 : decode cX5_putTraces 42 = .ok (.imul, 1) := by decide +kernel
theorem dX5_putTraces_43 : decode cX5_putTraces 43 = .ok (.iadd, 1) := by decide +kernel
theorem dX5_putTraces_44 : decode cX5_putTraces 44 = .ok (.iaload, 1) := by decide +kernel
theorem dX5_putTraces_45 : decode cX5_putTraces 45 = .ok (.aload_n 1, 1) := by decide +kernel
theorem dX5_putTraces_46 : decode cX5_putTraces 46 = .ok (.getfield 101, 3) := by decide +kernel
theorem dX5_putTraces_49 : decode cX5_putTraces 49 = .ok (.iload_n 3, 1) := by decide +kernel
theorem dX5_putTraces_50 : decode cX5_putTraces 50 = .ok (.iaload, 1) := by decide +kernel
theorem dX5_putTraces_51 : decode cX5_putTraces 51 = .ok (.invokevirtual 79, 3) := by decide +kernel
theorem dX5_putTraces_54 : decode cX5_putTraces 54 = .ok (.iinc 4 1, 3) := by decide +kernel
theorem dX5_putTraces_57 : decode cX5_putTraces 57 = .ok (.goto (-32), 3) := by decide +kernel
theorem dX5_putTraces_60 : decode cX5_putTraces 60 = .ok (.iinc 3 1, 3) := by decide +kernel
theorem dX5_putTraces_63 : decode cX5_putTraces 63 = .ok (.goto (-49), 3) := by decide +kernel
theorem dX5_putTraces_66 : decode cX5_putTraces 66 = .ok (.return_, 1) := by decide +kernel
set_option maxRecDepth 100000 in
set_option maxHeartbeats 4000000 in
theorem kb_X5_putTraces_25 {th : Nat} {x1 : Nat} {x2 : Int32} {x3 : Int32} {st : Int32 × WX} {r : (Int32 × WX) ⊕ ((WX))} {H : Heap} {locs : List Loc} {ls : Array Slot} (C : CX p s m args meth c cX5_putTraces 5 RX5 wc_X5_putTraces none) (hth : KDx th = (5, 5)) (h1 : KDx x1 = (0, 13)) (hG : Gd s G A 153 B (entX G B st.2) X H locs) (hl : lv_has ls 5 [(0, .ref (B + th)), (1, .ref (B + x1)), (2, .int x2), (3, .int x3), (4, .int st.1)]) (hf : sh_X5_putTraces_s25 th x1 x2 x3 st = some r)
    (kL : ∀ st' : Int32 × WX, r = Sum.inl st' → ∀ (H : Heap) (locs : List Loc) (ls : Array Slot), Gd s G A 153 B (entX G B st'.2) X H locs → lv_has ls 5 [(0, .ref (B + th)), (1, .ref (B + x1)), (2, .int x2), (3, .int x3), (4, .int st'.1)] → W p l e rm_X5_putTraces s m args below meth c H locs 0 0 Q (F0 m 25 ls []))
    (kX0 : ∀ y' : WX, r = Sum.inr y' → ∀ (H : Heap) (locs : List Loc) (ls : Array Slot), Gd s G A 153 B (entX G B y') X H locs → lv_has ls 5 [(0, .ref (B + th)), (1, .ref (B + x1)), (2, .int x2), (3, .int x3)] → W p l e rm_X5_putTraces s m args below meth c H locs 0 0 Q (F0 m 60 ls [])) :
    W p l e rm_X5_putTraces s m args below meth c H locs 0 0 Q (F0 m 25 ls []) := by
  refine lv_iload C.1 C.2.1 dX5_putTraces_25 (lv_at hl 4 rfl) ?_
  refine lv_iload_n C.1 C.2.1 dX5_putTraces_27 rfl (lv_at hl 2 rfl) ?_
  rcases of_ite hf with ⟨c1, hf⟩ | ⟨c1, hf⟩
  · refine lv_icmp_ge (tgt := 60) C.1 C.2.1 dX5_putTraces_28 (by decide) (fun _ => ?_) (fun q => absurd c1 q)
    obtain rfl := Option.some.inj hf
    exact kX0 _ rfl _ _ _ hG (lv_sub hl [0, 1, 2, 3] rfl)
  · refine lv_icmp_ge (tgt := 60) C.1 C.2.1 dX5_putTraces_28 (by decide) (fun q => absurd q c1) (fun _ => ?_)
    refine lv_aload_n C.1 C.2.1 dX5_putTraces_31 rfl (lv_at hl 0 rfl) ?_
    refine lv_iload C.1 C.2.1 dX5_putTraces_32 (lv_at hl 4 rfl) ?_
    refine lv_aload_n C.1 C.2.1 dX5_putTraces_34 rfl (lv_at hl 0 rfl) ?_
    refine gf_X5_9 C hG hth dX5_putTraces_35 ?_
    refine lv_iload C.1 C.2.1 dX5_putTraces_38 (lv_at hl 4 rfl) ?_
    refine lv_iload_n C.1 C.2.1 dX5_putTraces_40 rfl (lv_at hl 2 rfl) ?_
    refine lv_iload_n C.1 C.2.1 dX5_putTraces_41 rfl (lv_at hl 3 rfl) ?_
    refine lv_imul C.1 C.2.1 dX5_putTraces_42 ?_
    refine lv_iadd C.1 C.2.1 dX5_putTraces_43 ?_
    obtain ⟨v2, hv2, hf⟩ := of_bind hf
    obtain ⟨kv2, bv2, ev2⟩ := of_ldD hv2
    refine r_iald C hG (c0 := st.2.2 th 0) (kdx_lt (kd_eta kv2) (by decide)) (entX_I (kd_eta kv2)) bv2 dX5_putTraces_44 ?_
    refine r_top ev2 ?_
    refine lv_aload_n C.1 C.2.1 dX5_putTraces_45 rfl (lv_at hl 1 rfl) ?_
    refine gf_X5_101 C hG h1 dX5_putTraces_46 ?_
    refine lv_iload_n C.1 C.2.1 dX5_putTraces_49 rfl (lv_at hl 3 rfl) ?_
    obtain ⟨v3, hv3, hf⟩ := of_bind hf
    obtain ⟨bv3, ev3⟩ := of_ldS hv3
    refine r_iald C hG (c0 := (x1 + 4)) (kdx_lt (kx_0_7 h1) (by decide)) (entX_I (kx_0_7 h1)) bv3 dX5_putTraces_50 ?_
    refine r_top ev3 ?_
    obtain ⟨w4, hw4, hf⟩ := of_bind hf
    refine r_callV0 C hG hl.1 (c0 := th) (As := [.int st.1, .int v2, .int v3]) (kdx_lt hth (by decide)) (entX_O5 hth) rfl (mt_X5_add l hth hw4) (cwV 3 C.2.2.2.2.1 (gd_V tg_3_109 tg_3_111 tgp_17 tg_1_9 tg_3_112) rfl rfl rfl cd_X5_add ⟨Nat.le_of_ble_eq_true rfl, Nat.le_of_ble_eq_true rfl⟩) rfl rfl (Nat.le_of_ble_eq_true rfl) dX5_putTraces_51 (fun H locs hG => ?_)
    obtain ⟨v5, ev5, hf⟩ := of_letv hf
    refine lv_iinc (v := v5) (lv' := [(4, .int v5), (0, .ref (B + th)), (1, .ref (B + x1)), (2, .int x2), (3, .int x3)]) C.1 C.2.1 dX5_putTraces_54 hl (k := 4) rfl (by rw [ev5, show Int32.ofInt (1) = nI 1 from by decide]) (by decide) rfl (fun ls hl => ?_)
    refine lv_goto (tgt := 25) C.1 C.2.1 dX5_putTraces_57 (by decide) ?_
    obtain rfl := Option.some.inj hf
    exact kL _ rfl _ _ _ hG (lv_sub hl [1, 2, 3, 4, 0] rfl)
set_option maxRecDepth 100000 in
set_option maxHeartbeats 4000000 in
theorem kl_X5_putTraces_25 {th : Nat} {x1 : Nat} {x2 : Int32} {x3 : Int32} (C : CX p s m args meth c cX5_putTraces 5 RX5 wc_X5_putTraces none) (hth : KDx th = (5, 5)) (h1 : KDx x1 = (0, 13)) : ∀ (n : Nat) (st : Int32 × WX) (x : (WX)) (H : Heap) (locs : List Loc) (ls : Array Slot), Gd s G A 153 B (entX G B st.2) X H locs → lv_has ls 5 [(0, .ref (B + th)), (1, .ref (B + x1)), (2, .int x2), (3, .int x3), (4, .int st.1)] → lpw (sh_X5_putTraces_s25 th x1 x2 x3) n st = some x →
    (∀ y' : WX, x = y' → ∀ (H : Heap) (locs : List Loc) (ls : Array Slot), Gd s G A 153 B (entX G B y') X H locs → lv_has ls 5 [(0, .ref (B + th)), (1, .ref (B + x1)), (2, .int x2), (3, .int x3)] → W p l e rm_X5_putTraces s m args below meth c H locs 0 0 Q (F0 m 60 ls [])) → W p l e rm_X5_putTraces s m args below meth c H locs 0 0 Q (F0 m 25 ls []) := by
  intro n
  induction n with
  | zero =>
    intro st x H locs ls hG hl hf
    cases hf
  | succ n ih =>
    intro st x H locs ls hG hl hf kX0
    obtain ⟨r, hr, hh⟩ := of_lpw hf
    refine kb_X5_putTraces_25 C hth h1 hG hl hr (fun st2 e1 H locs ls hG hl => ?_) (fun y2 e1 H locs ls hG hl => ?_)
    · rcases hh with ⟨s3, e2, hh⟩ | e2
      · rw [e2] at e1
        cases e1
        exact ih _ _ _ _ _ hG hl hh kX0
      · rw [e2] at e1
        cases e1
    · rcases hh with ⟨s3, e2, hh⟩ | e2
      · rw [e2] at e1
        cases e1
      · rw [e2] at e1
        cases e1
        exact kX0 _ rfl _ _ _ hG hl
set_option maxRecDepth 100000 in
set_option maxHeartbeats 4000000 in
theorem kb_X5_putTraces_14 {th : Nat} {x1 : Nat} {x2 : Int32} {st : Int32 × WX} {r : (Int32 × WX) ⊕ ((WX))} {H : Heap} {locs : List Loc} {ls : Array Slot} (C : CX p s m args meth c cX5_putTraces 5 RX5 wc_X5_putTraces none) (hth : KDx th = (5, 5)) (h1 : KDx x1 = (0, 13)) (hG : Gd s G A 153 B (entX G B st.2) X H locs) (hl : lv_has ls 5 [(0, .ref (B + th)), (1, .ref (B + x1)), (2, .int x2), (3, .int st.1)]) (hf : sh_X5_putTraces_s14 th x1 x2 st = some r)
    (kL : ∀ st' : Int32 × WX, r = Sum.inl st' → ∀ (H : Heap) (locs : List Loc) (ls : Array Slot), Gd s G A 153 B (entX G B st'.2) X H locs → lv_has ls 5 [(0, .ref (B + th)), (1, .ref (B + x1)), (2, .int x2), (3, .int st'.1)] → W p l e rm_X5_putTraces s m args below meth c H locs 0 0 Q (F0 m 14 ls []))
    (kX0 : ∀ y' : WX, r = Sum.inr y' → ∀ (H : Heap) (locs : List Loc) (ls : Array Slot), Gd s G A 153 B (entX G B y') X H locs → lv_has ls 5 [] → W p l e rm_X5_putTraces s m args below meth c H locs 0 0 Q (F0 m 66 ls [])) :
    W p l e rm_X5_putTraces s m args below meth c H locs 0 0 Q (F0 m 14 ls []) := by
  refine lv_iload_n C.1 C.2.1 dX5_putTraces_14 rfl (lv_at hl 3 rfl) ?_
  refine lv_aload_n C.1 C.2.1 dX5_putTraces_15 rfl (lv_at hl 0 rfl) ?_
  refine gf_X5_27 C hG hth dX5_putTraces_16 ?_
  rcases of_ite hf with ⟨c1, hf⟩ | ⟨c1, hf⟩
  · refine lv_icmp_ge (tgt := 66) C.1 C.2.1 dX5_putTraces_19 (by decide) (fun _ => ?_) (fun q => absurd c1 q)
    obtain rfl := Option.some.inj hf
    exact kX0 _ rfl _ _ _ hG (lv_sub hl [] rfl)
  · refine lv_icmp_ge (tgt := 66) C.1 C.2.1 dX5_putTraces_19 (by decide) (fun q => absurd q c1) (fun _ => ?_)
    refine lv_iconst (v := nI 0) C.1 C.2.1 dX5_putTraces_22 (by decide) ?_
    refine lv_istore (lv' := [(4, .int (nI 0)), (0, .ref (B + th)), (1, .ref (B + x1)), (2, .int x2), (3, .int st.1)]) C.1 C.2.1 dX5_putTraces_23 hl (by decide) rfl (fun ls hl => ?_)
    obtain ⟨ex2, hex2, hf⟩ := of_bind hf
    refine kl_X5_putTraces_25 C hth h1 FU (nI 0, st.2) ex2 _ _ _ hG (lv_sub hl [1, 2, 3, 4, 0] rfl) hex2 (fun y e0 H locs ls hG hl => ?_)
    subst e0
    obtain ⟨v3, ev3, hf⟩ := of_letv hf
    refine lv_iinc (v := v3) (lv' := [(3, .int v3), (0, .ref (B + th)), (1, .ref (B + x1)), (2, .int x2)]) C.1 C.2.1 dX5_putTraces_60 hl (k := 3) rfl (by rw [ev3, show Int32.ofInt (1) = nI 1 from by decide]) (by decide) rfl (fun ls hl => ?_)
    refine lv_goto (tgt := 14) C.1 C.2.1 dX5_putTraces_63 (by decide) ?_
    obtain rfl := Option.some.inj hf
    exact kL _ rfl _ _ _ hG (lv_sub hl [1, 2, 3, 0] rfl)
set_option maxRecDepth 100000 in
set_option maxHeartbeats 4000000 in
theorem kl_X5_putTraces_14 {th : Nat} {x1 : Nat} {x2 : Int32} (C : CX p s m args meth c cX5_putTraces 5 RX5 wc_X5_putTraces none) (hth : KDx th = (5, 5)) (h1 : KDx x1 = (0, 13)) : ∀ (n : Nat) (st : Int32 × WX) (x : (WX)) (H : Heap) (locs : List Loc) (ls : Array Slot), Gd s G A 153 B (entX G B st.2) X H locs → lv_has ls 5 [(0, .ref (B + th)), (1, .ref (B + x1)), (2, .int x2), (3, .int st.1)] → lpw (sh_X5_putTraces_s14 th x1 x2) n st = some x →
    (∀ y' : WX, x = y' → ∀ (H : Heap) (locs : List Loc) (ls : Array Slot), Gd s G A 153 B (entX G B y') X H locs → lv_has ls 5 [] → W p l e rm_X5_putTraces s m args below meth c H locs 0 0 Q (F0 m 66 ls [])) → W p l e rm_X5_putTraces s m args below meth c H locs 0 0 Q (F0 m 14 ls []) := by
  intro n
  induction n with
  | zero =>
    intro st x H locs ls hG hl hf
    cases hf
  | succ n ih =>
    intro st x H locs ls hG hl hf kX0
    obtain ⟨r, hr, hh⟩ := of_lpw hf
    refine kb_X5_putTraces_14 C hth h1 hG hl hr (fun st2 e1 H locs ls hG hl => ?_) (fun y2 e1 H locs ls hG hl => ?_)
    · rcases hh with ⟨s3, e2, hh⟩ | e2
      · rw [e2] at e1
        cases e1
        exact ih _ _ _ _ _ hG hl hh kX0
      · rw [e2] at e1
        cases e1
    · rcases hh with ⟨s3, e2, hh⟩ | e2
      · rw [e2] at e1
        cases e1
      · rw [e2] at e1
        cases e1
        exact kX0 _ rfl _ _ _ hG hl
set_option maxRecDepth 100000 in
set_option maxHeartbeats 4000000 in
theorem kb_X5_putTraces_0 {th : Nat} {x1 : Nat} {w : WX} {out : WX} {H : Heap} {locs : List Loc} {ls : Array Slot} (C : CX p s m args meth c cX5_putTraces 5 RX5 wc_X5_putTraces none) (hth : KDx th = (5, 5)) (h1 : KDx x1 = (0, 13)) (hG : Gd s G A 153 B (entX G B w) X H locs) (hl : lv_has ls 5 [(0, .ref (B + th)), (1, .ref (B + x1))]) (hf : sh_X5_putTraces th x1 w = some out) :
    W p l e rm_X5_putTraces s m args below meth c H locs 0 0 (MQ below (CPost G A 153 B (entX G B out) X none) args s 0 0 A) (F0 m 0 ls []) := by
  refine lv_aload_n C.1 C.2.1 dX5_putTraces_0 rfl (lv_at hl 0 rfl) ?_
  refine gf_X5_18 C hG hth dX5_putTraces_1 ?_
  refine lv_aload_n C.1 C.2.1 dX5_putTraces_4 rfl (lv_at hl 0 rfl) ?_
  refine gf_X5_28 C hG hth dX5_putTraces_5 ?_
  refine lv_iconst (v := nI 1) C.1 C.2.1 dX5_putTraces_8 (by decide) ?_
  refine lv_isub C.1 C.2.1 dX5_putTraces_9 ?_
  obtain ⟨v1, hv1, hf⟩ := of_bind hf
  obtain ⟨bv1, ev1⟩ := of_ldS hv1
  refine r_iald C hG (c0 := (th + 3)) (kdx_lt (kx_5_2 hth) (by decide)) (entX_I (kx_5_2 hth)) bv1 dX5_putTraces_10 ?_
  refine r_top ev1 ?_
  refine lv_istore_n (lv' := [(2, .int v1), (0, .ref (B + th)), (1, .ref (B + x1))]) C.1 C.2.1 dX5_putTraces_11 rfl hl (by decide) rfl (fun ls hl => ?_)
  refine lv_iconst (v := nI 0) C.1 C.2.1 dX5_putTraces_12 (by decide) ?_
  refine lv_istore_n (lv' := [(3, .int (nI 0)), (2, .int v1), (0, .ref (B + th)), (1, .ref (B + x1))]) C.1 C.2.1 dX5_putTraces_13 rfl hl (by decide) rfl (fun ls hl => ?_)
  obtain ⟨ex2, hex2, hf⟩ := of_bind hf
  refine kl_X5_putTraces_14 C hth h1 FU (nI 0, w) ex2 _ _ _ hG (lv_sub hl [2, 3, 1, 0] rfl) hex2 (fun y e0 H locs ls hG hl => ?_)
  subst e0
  obtain rfl := Option.some.inj hf
  exact r_vret C hG dX5_putTraces_66
set_option maxRecDepth 100000 in
set_option maxHeartbeats 4000000 in
theorem mt_X5_putTraces (l : Launch) {G : GG} {A : Nat → Prop} {B : Nat} {X : va_W} {th : Nat} {x1 : Nat} {w : WX} {out : WX} (hth : KDx th = (5, 5)) (h1 : KDx x1 = (0, 13)) (hf : sh_X5_putTraces th x1 w = some out) : MetW l yX5_putTraces wc_X5_putTraces rm_X5_putTraces G A 153 B (entX G B w) X [.ref (B + th), .ref (B + x1)] none (entX G B out) := by
  refine Met.ofW (cc := cX5_putTraces) (maxL := 5) (ret := none) (by decide) rfl ?_
  intro p e s m args below meth c s₁ B0 hml hv
  obtain ⟨rfl, hEv, hWd⟩ := hv
  have C : CX p s m _ meth c cX5_putTraces 5 RX5 wc_X5_putTraces none := ⟨B0.exec, B0.bytes, hml, findClass_of_methodNamed B0.named, atoms_spec (ws := wc_X5_putTraces) B0.pre, B0.returns, B0.notSynchronized⟩
  have hl := lv_entry [.ref (B + th), .ref (B + x1)] (n := 5) (Nat.le_of_ble_eq_true rfl)
  rw [lg_entry_eq]
  generalize (lg_sl [.ref (B + th), .ref (B + x1)] ++ List.replicate (5 - (lg_sl [.ref (B + th), .ref (B + x1)]).length) Slot.unset).toArray = ls at hl ⊢
  have hl : lv_has ls 5 [(0, .ref (B + th)), (1, .ref (B + x1))] := hl
  exact kb_X5_putTraces_0 C hth h1 ⟨hEv, hWd, va_S.rf⟩ hl hf
abbrev wc_X5_step : List Cond := Cond.code yX5_step cX5_step 5 none :: TG
abbrev rm_X5_step : Room := { frames := 5, cells := 0, slots := 0, locals := 174 }
theorem cd_X5_step : yX5_step.cls = RX5 ∧ yX5_step.cls ≠ "java/lang/invoke/MethodHandle" ∧ yX5_step.cls ≠ "java/lang/invoke/VarHandle" ∧ (parseMethodDescriptor yX5_step.desc).map (fun d => d.parameters.length) = some 2 := by decide +kernel
theorem dX5_step_0 : decode cX5_step 0 = .ok (.iload_n 1, 1) := by decide +kernel
theorem dX5_step_1 : decode cX5_step 1 = .ok (.aload_n 0, 1) := by decide +kernel
theorem dX5_step_2 : decode cX5_step 2 = .ok (.getfield 28, 3) := by decide +kernel
theorem dX5_step_5 : decode cX5_step 5 = .ok (.invokestatic 43, 3) := by decide +kernel
theorem dX5_step_8 : decode cX5_step 8 = .ok (.ifCond .ne 4, 3) := by decide +kernel
theorem dX5_step_11 : decode cX5_step 11 = .ok (.return_, 1) := by decide +kernel
theorem dX5_step_12 : decode cX5_step 12 = .ok (.aload_n 0, 1) := by decide +kernel
theorem dX5_step_13 : decode cX5_step 13 = .ok (.getfield 18, 3) := by decide +kernel
theorem dX5_step_16 : decode cX5_step 16 = .ok (.aload_n 0, 1) := by decide +kernel
theorem dX5_step_17 : decode cX5_step 17 = .ok (.getfield 28, 3) := by decide +kernel
theorem dX5_step_20 : decode cX5_step 20 = .ok (.getstatic 47, 3) := by decide +kernel
theorem dX5_step_23 : decode cX5_step 23 = .ok (.iload_n 1, 1) := by decide +kernel
theorem dX5_step_24 : decode cX5_step 24 = .ok (.iaload, 1) := by decide +kernel
theorem dX5_step_25 : decode cX5_step 25 = .ok (.iadd, 1) := by decide +kernel
theorem dX5_step_26 : decode cX5_step 26 = .ok (.iaload, 1) := by decide +kernel
theorem dX5_step_27 : decode cX5_step 27 = .ok (.istore_n 3, 1) := by decide +kernel
theorem dX5_step_28 : decode cX5_step 28 = .ok (.iconst 0, 1) := by decide +kernel
theorem dX5_step_29 : decode cX5_step 29 = .ok (.istore 4, 2) := by decide +kernel
theorem dX5_step_31 : decode cX5_step 31 = .ok (.iload 4, 2) := by decide +kernel
theorem dX5_step_33 : decode cX5_step 33 = .ok (.iload_n 3, 1) := by decide +kernel
theorem dX5_step_34 : decode cX5_step 34 = .ok (.if_icmp .ge 17, 3) := by decide +kernel
theorem dX5_step_37 : decode cX5_step 37 = .ok (.aload_n 0, 1) := by decide +kernel
theorem dX5_step_38 : decode cX5_step 38 = .ok (.getfield 15, 3) := by decide +kernel
theorem dX5_step_41 : decode cX5_step 41 = .ok (.iload 4, 2) := by decide +kernel
theorem dX5_step_43 : decode cX5_step 43 = .ok (.iconst 0, 1) := by decide +kernel
theorem dX5_step_44 : decode cX5_step 44 = .ok (.iastore, 1) := by decide +kernel
theorem dX5_step_45 : decode cX5_step 45 = .ok (.iinc 4 1, 3) := by decide +kernel
theorem dX5_step_48 : decode cX5_step 48 = .ok (.goto (-17), 3) := by decide +kernel
theorem dX5_step_51 : decode cX5_step 51 = .ok (.iload_n 1, 1) := by decide +kernel
theorem dX5_step_52 : decode cX5_step 52 = .ok (.tableswitch 92 0 5 #[40, 48, 56, 64, 72, 80], 40) := by decide +kernel
theorem dX5_step_92 : decode cX5_step 92 = .ok (.aload_n 0, 1) := by decide +kernel
theorem dX5_step_93 : decode cX5_step 93 = .ok (.aload_n 2, 1) := by decide +kernel
theorem dX5_step_94 : decode cX5_step 94 = .ok (.invokevirtual 50, 3) := by decide +kernel
theorem dX5_step_97 : decode cX5_step 97 = .ok (.goto 56, 3) := by decide +kernel
theorem dX5_step_100 : decode cX5_step 100 = .ok (.aload_n 0, 1) := by decide +kernel
theorem dX5_step_101 : decode cX5_step 101 = .ok (.aload_n 2, 1) := by decide +kernel
theorem dX5_step_102 : decode cX5_step 102 = .ok (.invokevirtual 54, 3) := by decide +kernel
theorem dX5_step_105 : decode cX5_step 105 = .ok (.goto 48, 3) := by decide +kernel
theorem dX5_step_108 : decode cX5_step 108 = .ok (.aload_n 0, 1) := by decide +kernel
theorem dX5_step_109 : decode cX5_step 109 = .ok (.aload_n 2, 1) := by decide +kernel
theorem dX5_step_110 : decode cX5_step 110 = .ok (.invokevirtual 57, 3) := by decide +kernel
theorem dX5_step_113 : decode cX5_step 113 = .ok (.goto 40, 3) := by decide +kernel
theorem dX5_step_116 : decode cX5_step 116 = .ok (.aload_n 0, 1) := by decide +kernel
theorem dX5_step_117 : decode cX5_step 117 = .ok (.aload_n 2, 1) := by decide +kernel
theorem dX5_step_118 : decode cX5_step 118 = .ok (.invokevirtual 60, 3) := by decide +kernel
theorem dX5_step_121 : decode cX5_step 121 = .ok (.goto 32, 3) := by decide +kernel
theorem dX5_step_124 : decode cX5_step 124 = .ok (.aload_n 0, 1) := by decide +kernel
theorem dX5_step_125 : decode cX5_step 125 = .ok (.aload_n 2, 1) := by decide +kernel
theorem dX5_step_126 : decode cX5_step 126 = .ok (.invokevirtual 63, 3) := by decide +kernel
theorem dX5_step_129 : decode cX5_step 129 = .ok (.goto 24, 3) := by decide +kernel
theorem dX5_step_132 : decode cX5_step 132 = .ok (.aload_n 0, 1) := by decide +kernel
theorem dX5_step_133 : decode cX5_step 133 = .ok (.aload_n 2, 1) := by decide +kernel
theorem dX5_step_134 : decode cX5_step 134 = .ok (.aload_n 2, 1) := by decide +kernel
theorem dX5_step_135 : decode cX5_step 135 = .ok (.getfield 66, 3) := by decide +kernel
theorem dX5_step_138 : decode cX5_step 138 = .ok (.invokevirtual 69, 3) := by decide +kernel
theorem dX5_step_141 : decode cX5_step 141 = .ok (.goto 12, 3) := by decide +kernel
theorem dX5_step_144 : decode cX5_step 144 = .ok (.aload_n 0, 1) := by decide +kernel
theorem dX5_step_145 : decode cX5_step 145 = .ok (.aload_n 2, 1) := by decide +kernel
theorem dX5_step_146 : decode cX5_step 146 = .ok (.aload_n 2, 1) := by decide +kernel
theorem dX5_step_147 : decode cX5_step 147 = .ok (.getfield 73, 3) := by decide +kernel
theorem dX5_step_150 : decode cX5_step 150 = .ok (.invokevirtual 69, 3) := by decide +kernel
theorem dX5_step_153 : decode cX5_step 153 = .ok (.aload_n 0, 1) := by decide +kernel
theorem dX5_step_154 : decode cX5_step 154 = .ok (.dup, 1) := by decide +kernel
theorem dX5_step_155 : decode cX5_step 155 = .ok (.getfield 28, 3) := by decide +kernel
theorem dX5_step_158 : decode cX5_step 158 = .ok (.getstatic 47, 3) := by decide +kernel
theorem dX5_step_161 : decode cX5_step 161 = .ok (.iload_n 1, 1) := by decide +kernel
theorem dX5_step_162 : decode cX5_step 162 = .ok (.iaload, 1) := by decide +kernel
theorem dX5_step_163 : decode cX5_step 163 = .ok (.iadd, 1) := by decide +kernel
theorem dX5_step_164 : decode cX5_step 164 = .ok (.putfield 28, 3) := by decide +kernel
theorem dX5_step_167 : decode cX5_step 167 = .ok (.aload_n 0, 1) := by decide +kernel
theorem dX5_step_168 : decode cX5_step 168 = .ok (.getfield 9, 3) := by decide +kernel
theorem dX5_step_171 : decode cX5_step 171 = .ok (.astore 4, 2) := by decide +kernel
theorem dX5_step_173 : decode cX5_step 173 = .ok (.aload_n 0, 1) := by decide +kernel
theorem dX5_step_174 : decode cX5_step 174 = .ok (.aload_n 0, 1) := by decide +kernel
theorem dX5_step_175 : decode cX5_step 175 = .ok (.getfield 15, 3) := by decide +kernel
theorem dX5_step_178 : decode cX5_step 178 = .ok (.putfield 9, 3) := by decide +kernel
theorem dX5_step_181 : decode cX5_step 181 = .ok (.aload_n 0, 1) := by decide +kernel
theorem dX5_step_182 : decode cX5_step 182 = .ok (.aload 4, 2) := by decide +kernel
theorem dX5_step_184 : decode cX5_step 184 = .ok (.putfield 15, 3) := by decide +kernel
theorem dX5_step_187 : decode cX5_step 187 = .ok (.return_, 1) := by decide +kernel
set_option maxRecDepth 100000 in
set_option maxHeartbeats 4000000 in
theorem kb_X5_step_31 {th : Nat} {x1 : Int32} {x2 : Nat} {x3 : Int32} {st : Int32 × WX} {r : (Int32 × WX) ⊕ ((WX))} {H : Heap} {locs : List Loc} {ls : Array Slot} (C : CX p s m args meth c cX5_step 5 RX5 wc_X5_step none) (hth : KDx th = (5, 5)) (h2 : KDx x2 = (0, 13)) (hG : Gd s G A 153 B (entX G B st.2) X H locs) (hl : lv_has ls 5 [(0, .ref (B + th)), (1, .int x1), (2, .ref (B + x2)), (3, .int x3), (4, .int st.1)]) (hf : sh_X5_step_s31 th x1 x2 x3 st = some r)
    (kL : ∀ st' : Int32 × WX, r = Sum.inl st' → ∀ (H : Heap) (locs : List Loc) (ls : Array Slot), Gd s G A 153 B (entX G B st'.2) X H locs → lv_has ls 5 [(0, .ref (B + th)), (1, .int x1), (2, .ref (B + x2)), (3, .int x3), (4, .int st'.1)] → W p l e rm_X5_step s m args below meth c H locs 0 0 Q (F0 m 31 ls []))
    (kX0 : ∀ y' : WX, r = Sum.inr y' → ∀ (H : Heap) (locs : List Loc) (ls : Array Slot), Gd s G A 153 B (entX G B y') X H locs → lv_has ls 5 [(0, .ref (B + th)), (1, .int x1), (2, .ref (B + x2))] → W p l e rm_X5_step s m args below meth c H locs 0 0 Q (F0 m 51 ls [])) :
    W p l e rm_X5_step s m args below meth c H locs 0 0 Q (F0 m 31 ls []) := by
  refine lv_iload C.1 C.2.1 dX5_step_31 (lv_at hl 4 rfl) ?_
  refine lv_iload_n C.1 C.2.1 dX5_step_33 rfl (lv_at hl 3 rfl) ?_
  rcases of_ite hf with ⟨c1, hf⟩ | ⟨c1, hf⟩
  · refine lv_icmp_ge (tgt := 51) C.1 C.2.1 dX5_step_34 (by decide) (fun _ => ?_) (fun q => absurd c1 q)
    obtain rfl := Option.some.inj hf
    exact kX0 _ rfl _ _ _ hG (lv_sub hl [0, 1, 2] rfl)
  · refine lv_icmp_ge (tgt := 51) C.1 C.2.1 dX5_step_34 (by decide) (fun q => absurd q c1) (fun _ => ?_)
    refine lv_aload_n C.1 C.2.1 dX5_step_37 rfl (lv_at hl 0 rfl) ?_
    refine gf_X5_15 C hG hth dX5_step_38 ?_
    refine lv_iload C.1 C.2.1 dX5_step_41 (lv_at hl 4 rfl) ?_
    refine lv_iconst (v := nI 0) C.1 C.2.1 dX5_step_43 (by decide) ?_
    obtain ⟨w2, hw2, hf⟩ := of_bind hf
    obtain ⟨kw2, bw2, ew2⟩ := of_stDX hw2
    refine r_iast C hG (c0 := st.2.2 th 1) (kdx_lt (kd_eta kw2) (by decide)) (entX_I (kd_eta kw2)) bw2 (E' := (entX G B w2)) (by rw [ew2]; exact upX_I (kd_eta kw2)) dX5_step_44 (fun H locs hG => ?_)
    obtain ⟨v3, ev3, hf⟩ := of_letv hf
    refine lv_iinc (v := v3) (lv' := [(4, .int v3), (0, .ref (B + th)), (1, .int x1), (2, .ref (B + x2)), (3, .int x3)]) C.1 C.2.1 dX5_step_45 hl (k := 4) rfl (by rw [ev3, show Int32.ofInt (1) = nI 1 from by decide]) (by decide) rfl (fun ls hl => ?_)
    refine lv_goto (tgt := 31) C.1 C.2.1 dX5_step_48 (by decide) ?_
    obtain rfl := Option.some.inj hf
    exact kL _ rfl _ _ _ hG (lv_sub hl [1, 2, 3, 4, 0] rfl)
set_option maxRecDepth 100000 in
set_option maxHeartbeats 4000000 in
theorem kl_X5_step_31 {th : Nat} {x1 : Int32} {x2 : Nat} {x3 : Int32} (C : CX p s m args meth c cX5_step 5 RX5 wc_X5_step none) (hth : KDx th = (5, 5)) (h2 : KDx x2 = (0, 13)) : ∀ (n : Nat) (st : Int32 × WX) (x : (WX)) (H : Heap) (locs : List Loc) (ls : Array Slot), Gd s G A 153 B (entX G B st.2) X H locs → lv_has ls 5 [(0, .ref (B + th)), (1, .int x1), (2, .ref (B + x2)), (3, .int x3), (4, .int st.1)] → lpw (sh_X5_step_s31 th x1 x2 x3) n st = some x →
    (∀ y' : WX, x = y' → ∀ (H : Heap) (locs : List Loc) (ls : Array Slot), Gd s G A 153 B (entX G B y') X H locs → lv_has ls 5 [(0, .ref (B + th)), (1, .int x1), (2, .ref (B + x2))] → W p l e rm_X5_step s m args below meth c H locs 0 0 Q (F0 m 51 ls [])) → W p l e rm_X5_step s m args below meth c H locs 0 0 Q (F0 m 31 ls []) := by
  intro n
  induction n with
  | zero =>
    intro st x H locs ls hG hl hf
    cases hf
  | succ n ih =>
    intro st x H locs ls hG hl hf kX0
    obtain ⟨r, hr, hh⟩ := of_lpw hf
    refine kb_X5_step_31 C hth h2 hG hl hr (fun st2 e1 H locs ls hG hl => ?_) (fun y2 e1 H locs ls hG hl => ?_)
    · rcases hh with ⟨s3, e2, hh⟩ | e2
      · rw [e2] at e1
        cases e1
        exact ih _ _ _ _ _ hG hl hh kX0
      · rw [e2] at e1
        cases e1
    · rcases hh with ⟨s3, e2, hh⟩ | e2
      · rw [e2] at e1
        cases e1
      · rw [e2] at e1
        cases e1
        exact kX0 _ rfl _ _ _ hG hl
set_option maxRecDepth 100000 in
set_option maxHeartbeats 4000000 in
theorem kb_X5_step_153 {th : Nat} {x1 : Int32} {w : WX} {out : WX} {H : Heap} {locs : List Loc} {ls : Array Slot} (C : CX p s m args meth c cX5_step 5 RX5 wc_X5_step none) (hth : KDx th = (5, 5)) (hG : Gd s G A 153 B (entX G B w) X H locs) (hl : lv_has ls 5 [(0, .ref (B + th)), (1, .int x1)]) (hf : sh_X5_step_j153 th x1 w = some out) :
    W p l e rm_X5_step s m args below meth c H locs 0 0 (MQ below (CPost G A 153 B (entX G B out) X none) args s 0 0 A) (F0 m 153 ls []) := by
  refine lv_aload_n C.1 C.2.1 dX5_step_153 rfl (lv_at hl 0 rfl) ?_
  refine lv_dup C.1 C.2.1 dX5_step_154 rfl ?_
  refine gf_X5_28 C hG hth dX5_step_155 ?_
  refine r_getsN C hG hG.1.2.2.2.2.1 nn_60 dX5_step_158 ?_
  refine lv_iload_n C.1 C.2.1 dX5_step_161 rfl (lv_at hl 1 rfl) ?_
  obtain ⟨v1, hv1, hf⟩ := of_bind hf
  obtain ⟨bv1, ev1⟩ := of_tbl7 hv1
  refine r_ti C hG hG.1.2.2.2.2.1 bv1 dX5_step_162 ?_
  refine r_top ev1 ?_
  refine lv_iadd C.1 C.2.1 dX5_step_163 ?_
  obtain ⟨w2, ew2, hf⟩ := of_letv hf
  refine pf_X5_28 C hG hth dX5_step_164 (fun H locs hG => ?_)
  rw [← ew2] at hG
  refine lv_aload_n C.1 C.2.1 dX5_step_167 rfl (lv_at hl 0 rfl) ?_
  refine gf_X5_9 C hG hth dX5_step_168 ?_
  refine lv_astore (lv' := [(4, .ref (B + (w2.2 th 0))), (0, .ref (B + th)), (1, .int x1)]) C.1 C.2.1 dX5_step_171 hl (by decide) rfl (fun ls hl => ?_)
  refine lv_aload_n C.1 C.2.1 dX5_step_173 rfl (lv_at hl 1 rfl) ?_
  refine lv_aload_n C.1 C.2.1 dX5_step_174 rfl (lv_at hl 1 rfl) ?_
  refine gf_X5_15 C hG hth dX5_step_175 ?_
  obtain ⟨w3, ew3, hf⟩ := of_letv hf
  refine pf_X5_9 C hG hth dX5_step_178 (fun H locs hG => ?_)
  rw [← ew3] at hG
  refine lv_aload_n C.1 C.2.1 dX5_step_181 rfl (lv_at hl 1 rfl) ?_
  refine lv_aload C.1 C.2.1 dX5_step_182 (lv_at hl 0 rfl) ?_
  obtain ⟨w4, ew4, hf⟩ := of_letv hf
  refine pf_X5_15 C hG hth dX5_step_184 (fun H locs hG => ?_)
  rw [← ew4] at hG
  obtain rfl := Option.some.inj hf
  exact r_vret C hG dX5_step_187
set_option maxRecDepth 100000 in
set_option maxHeartbeats 4000000 in
theorem kb_X5_step_0 {th : Nat} {x1 : Int32} {x2 : Nat} {w : WX} {out : WX} {H : Heap} {locs : List Loc} {ls : Array Slot} (C : CX p s m args meth c cX5_step 5 RX5 wc_X5_step none) (hth : KDx th = (5, 5)) (h2 : KDx x2 = (0, 13)) (hG : Gd s G A 153 B (entX G B w) X H locs) (hl : lv_has ls 5 [(0, .ref (B + th)), (1, .int x1), (2, .ref (B + x2))]) (hf : sh_X5_step th x1 x2 w = some out) :
    W p l e rm_X5_step s m args below meth c H locs 0 0 (MQ below (CPost G A 153 B (entX G B out) X none) args s 0 0 A) (F0 m 0 ls []) := by
  refine lv_iload_n C.1 C.2.1 dX5_step_0 rfl (lv_at hl 1 rfl) ?_
  refine lv_aload_n C.1 C.2.1 dX5_step_1 rfl (lv_at hl 0 rfl) ?_
  refine gf_X5_28 C hG hth dX5_step_2 ?_
  obtain ⟨v1, hv1, hf⟩ := of_bind hf
  refine r_callSN1 C hG hl.1 (As := [.int x1, .int (w.1 th 3)]) (mt_X8_canStand l  hv1) (va_cnB 2 C.2.2.2.2.1 (gd_all tg_2_232) rfl rfl rfl (hG.1.2.1 _ nn_59) (C.2.2.2.2.1 _ (List.mem_cons_of_mem _ tg_1_1)) cd_X8_canStand.2 ⟨Nat.le_of_ble_eq_true rfl, Nat.le_of_ble_eq_true rfl⟩) (C.2.2.2.2.1 _ (List.mem_cons_of_mem _ tg_2_231)) rfl rfl (Nat.le_of_ble_eq_true rfl) dX5_step_5 (fun H locs hG => ?_)
  rcases of_ite hf with ⟨c2, hf⟩ | ⟨c2, hf⟩
  · refine lv_if_ne (tgt := 12) C.1 C.2.1 dX5_step_8 (by decide) (fun q => absurd c2 q) (fun _ => ?_)
    obtain rfl := Option.some.inj hf
    exact r_vret C hG dX5_step_11
  · refine lv_if_ne (tgt := 12) C.1 C.2.1 dX5_step_8 (by decide) (fun _ => ?_) (fun q => absurd q c2)
    refine lv_aload_n C.1 C.2.1 dX5_step_12 rfl (lv_at hl 0 rfl) ?_
    refine gf_X5_18 C hG hth dX5_step_13 ?_
    refine lv_aload_n C.1 C.2.1 dX5_step_16 rfl (lv_at hl 0 rfl) ?_
    refine gf_X5_28 C hG hth dX5_step_17 ?_
    refine r_getsN C hG hG.1.2.2.2.2.1 nn_60 dX5_step_20 ?_
    refine lv_iload_n C.1 C.2.1 dX5_step_23 rfl (lv_at hl 1 rfl) ?_
    obtain ⟨v3, hv3, hf⟩ := of_bind hf
    obtain ⟨bv3, ev3⟩ := of_tbl7 hv3
    refine r_ti C hG hG.1.2.2.2.2.1 bv3 dX5_step_24 ?_
    refine r_top ev3 ?_
    refine lv_iadd C.1 C.2.1 dX5_step_25 ?_
    obtain ⟨v4, hv4, hf⟩ := of_bind hf
    obtain ⟨bv4, ev4⟩ := of_ldS hv4
    refine r_iald C hG (c0 := (th + 3)) (kdx_lt (kx_5_2 hth) (by decide)) (entX_I (kx_5_2 hth)) bv4 dX5_step_26 ?_
    refine r_top ev4 ?_
    refine lv_istore_n (lv' := [(3, .int v4), (0, .ref (B + th)), (1, .int x1), (2, .ref (B + x2))]) C.1 C.2.1 dX5_step_27 rfl hl (by decide) rfl (fun ls hl => ?_)
    refine lv_iconst (v := nI 0) C.1 C.2.1 dX5_step_28 (by decide) ?_
    refine lv_istore (lv' := [(4, .int (nI 0)), (3, .int v4), (0, .ref (B + th)), (1, .int x1), (2, .ref (B + x2))]) C.1 C.2.1 dX5_step_29 hl (by decide) rfl (fun ls hl => ?_)
    obtain ⟨ex5, hex5, hf⟩ := of_bind hf
    refine kl_X5_step_31 C hth h2 FU (nI 0, w) ex5 _ _ _ hG (lv_sub hl [2, 3, 4, 1, 0] rfl) hex5 (fun y e0 H locs ls hG hl => ?_)
    subst e0
    refine lv_iload_n C.1 C.2.1 dX5_step_51 rfl (lv_at hl 1 rfl) ?_
    rcases of_ite hf with ⟨c6, hf⟩ | ⟨c6, hf⟩
    · refine lv_tableIn (tgt := 92) (off := 40) C.1 C.2.1 dX5_step_52 (by rw [c6]; decide) (by rw [c6]; decide) (by rw [c6]; rfl) (by decide) ?_
      refine lv_aload_n C.1 C.2.1 dX5_step_92 rfl (lv_at hl 0 rfl) ?_
      refine lv_aload_n C.1 C.2.1 dX5_step_93 rfl (lv_at hl 2 rfl) ?_
      obtain ⟨w7, hw7, hf⟩ := of_bind hf
      refine r_callV0 C hG hl.1 (c0 := th) (As := [.ref (B + x2)]) (kdx_lt hth (by decide)) (entX_O5 hth) rfl (mt_X5_putOne l hth h2 hw7) (cwV 1 C.2.2.2.2.1 (gd_V tg_3_105 tg_3_107 tgp_16 tg_1_9 tg_3_108) rfl rfl rfl cd_X5_putOne ⟨Nat.le_of_ble_eq_true rfl, Nat.le_of_ble_eq_true rfl⟩) rfl rfl (Nat.le_of_ble_eq_true rfl) dX5_step_94 (fun H locs hG => ?_)
      refine lv_goto (tgt := 153) C.1 C.2.1 dX5_step_97 (by decide) ?_
      exact kb_X5_step_153 C hth hG (lv_sub hl [0, 1] rfl) hf
    · skip
      rcases of_ite hf with ⟨c8, hf⟩ | ⟨c8, hf⟩
      · refine lv_tableIn (tgt := 100) (off := 48) C.1 C.2.1 dX5_step_52 (by rw [c8]; decide) (by rw [c8]; decide) (by rw [c8]; rfl) (by decide) ?_
        refine lv_aload_n C.1 C.2.1 dX5_step_100 rfl (lv_at hl 0 rfl) ?_
        refine lv_aload_n C.1 C.2.1 dX5_step_101 rfl (lv_at hl 2 rfl) ?_
        obtain ⟨w9, hw9, hf⟩ := of_bind hf
        refine r_callV0 C hG hl.1 (c0 := th) (As := [.ref (B + x2)]) (kdx_lt hth (by decide)) (entX_O5 hth) rfl (mt_X5_putProducts l hth h2 hw9) (cwV 1 C.2.2.2.2.1 (gd_V tg_3_114 tg_3_116 tgp_18 tg_1_9 tg_3_117) rfl rfl rfl cd_X5_putProducts ⟨Nat.le_of_ble_eq_true rfl, Nat.le_of_ble_eq_true rfl⟩) rfl rfl (Nat.le_of_ble_eq_true rfl) dX5_step_102 (fun H locs hG => ?_)
        refine lv_goto (tgt := 153) C.1 C.2.1 dX5_step_105 (by decide) ?_
        exact kb_X5_step_153 C hth hG (lv_sub hl [0, 1] rfl) hf
      · skip
        rcases of_ite hf with ⟨c10, hf⟩ | ⟨c10, hf⟩
        · refine lv_tableIn (tgt := 108) (off := 56) C.1 C.2.1 dX5_step_52 (by rw [c10]; decide) (by rw [c10]; decide) (by rw [c10]; rfl) (by decide) ?_
          refine lv_aload_n C.1 C.2.1 dX5_step_108 rfl (lv_at hl 0 rfl) ?_
          refine lv_aload_n C.1 C.2.1 dX5_step_109 rfl (lv_at hl 2 rfl) ?_
          obtain ⟨w11, hw11, hf⟩ := of_bind hf
          refine r_callV0 C hG hl.1 (c0 := th) (As := [.ref (B + x2)]) (kdx_lt hth (by decide)) (entX_O5 hth) rfl (mt_X5_putSplits l hth h2 hw11) (cwV 1 C.2.2.2.2.1 (gd_V tg_3_123 tg_3_125 tgp_20 tg_1_9 tg_3_126) rfl rfl rfl cd_X5_putSplits ⟨Nat.le_of_ble_eq_true rfl, Nat.le_of_ble_eq_true rfl⟩) rfl rfl (Nat.le_of_ble_eq_true rfl) dX5_step_110 (fun H locs hG => ?_)
          refine lv_goto (tgt := 153) C.1 C.2.1 dX5_step_113 (by decide) ?_
          exact kb_X5_step_153 C hth hG (lv_sub hl [0, 1] rfl) hf
        · skip
          rcases of_ite hf with ⟨c12, hf⟩ | ⟨c12, hf⟩
          · refine lv_tableIn (tgt := 116) (off := 64) C.1 C.2.1 dX5_step_52 (by rw [c12]; decide) (by rw [c12]; decide) (by rw [c12]; rfl) (by decide) ?_
            refine lv_aload_n C.1 C.2.1 dX5_step_116 rfl (lv_at hl 0 rfl) ?_
            refine lv_aload_n C.1 C.2.1 dX5_step_117 rfl (lv_at hl 2 rfl) ?_
            obtain ⟨w13, hw13, hf⟩ := of_bind hf
            refine r_callV0 C hG hl.1 (c0 := th) (As := [.ref (B + x2)]) (kdx_lt hth (by decide)) (entX_O5 hth) rfl (mt_X5_putTraces l hth h2 hw13) (cwV 1 C.2.2.2.2.1 (gd_V tg_3_128 tg_3_130 tgp_21 tg_1_9 tg_3_131) rfl rfl rfl cd_X5_putTraces ⟨Nat.le_of_ble_eq_true rfl, Nat.le_of_ble_eq_true rfl⟩) rfl rfl (Nat.le_of_ble_eq_true rfl) dX5_step_118 (fun H locs hG => ?_)
            refine lv_goto (tgt := 153) C.1 C.2.1 dX5_step_121 (by decide) ?_
            exact kb_X5_step_153 C hth hG (lv_sub hl [0, 1] rfl) hf
          · skip
            rcases of_ite hf with ⟨c14, hf⟩ | ⟨c14, hf⟩
            · refine lv_tableIn (tgt := 124) (off := 72) C.1 C.2.1 dX5_step_52 (by rw [c14]; decide) (by rw [c14]; decide) (by rw [c14]; rfl) (by decide) ?_
              refine lv_aload_n C.1 C.2.1 dX5_step_124 rfl (lv_at hl 0 rfl) ?_
              refine lv_aload_n C.1 C.2.1 dX5_step_125 rfl (lv_at hl 2 rfl) ?_
              obtain ⟨w15, hw15, hf⟩ := of_bind hf
              refine r_callV0 C hG hl.1 (c0 := th) (As := [.ref (B + x2)]) (kdx_lt hth (by decide)) (entX_O5 hth) rfl (mt_X5_putExchanged l hth h2 hw15) (cwV 1 C.2.2.2.2.1 (gd_V tg_3_132 tg_3_134 tgp_22 tg_1_9 tg_3_135) rfl rfl rfl cd_X5_putExchanged ⟨Nat.le_of_ble_eq_true rfl, Nat.le_of_ble_eq_true rfl⟩) rfl rfl (Nat.le_of_ble_eq_true rfl) dX5_step_126 (fun H locs hG => ?_)
              refine lv_goto (tgt := 153) C.1 C.2.1 dX5_step_129 (by decide) ?_
              exact kb_X5_step_153 C hth hG (lv_sub hl [0, 1] rfl) hf
            · skip
              rcases of_ite hf with ⟨c16, hf⟩ | ⟨c16, hf⟩
              · refine lv_tableIn (tgt := 132) (off := 80) C.1 C.2.1 dX5_step_52 (by rw [c16]; decide) (by rw [c16]; decide) (by rw [c16]; rfl) (by decide) ?_
                refine lv_aload_n C.1 C.2.1 dX5_step_132 rfl (lv_at hl 0 rfl) ?_
                refine lv_aload_n C.1 C.2.1 dX5_step_133 rfl (lv_at hl 2 rfl) ?_
                refine lv_aload_n C.1 C.2.1 dX5_step_134 rfl (lv_at hl 2 rfl) ?_
                refine gf_X5_66 C hG h2 dX5_step_135 ?_
                obtain ⟨w17, hw17, hf⟩ := of_bind hf
                refine r_callV0 C hG hl.1 (c0 := th) (As := [.ref (B + x2), .ref (B + (x2 + 6))]) (kdx_lt hth (by decide)) (entX_O5 hth) rfl (mt_X5_putTimes l hth h2 (congrArg Prod.fst (kx_0_9 h2)) hw17) (cwV 2 C.2.2.2.2.1 (gd_V tg_3_140 tg_3_142 tgp_23 tg_1_9 tg_3_143) rfl rfl rfl cd_X5_putTimes ⟨Nat.le_of_ble_eq_true rfl, Nat.le_of_ble_eq_true rfl⟩) rfl rfl (Nat.le_of_ble_eq_true rfl) dX5_step_138 (fun H locs hG => ?_)
                refine lv_goto (tgt := 153) C.1 C.2.1 dX5_step_141 (by decide) ?_
                exact kb_X5_step_153 C hth hG (lv_sub hl [0, 1] rfl) hf
              · skip
                refine lv_tableOut (tgt := 144) C.1 C.2.1 dX5_step_52 (sw_out (n := 6) (by decide) (lt_s (lt_s (lt_s (lt_s (lt_s (lt_s lt_0 c6) c8) c10) c12) c14) c16)) (by decide) ?_
                refine lv_aload_n C.1 C.2.1 dX5_step_144 rfl (lv_at hl 0 rfl) ?_
                refine lv_aload_n C.1 C.2.1 dX5_step_145 rfl (lv_at hl 2 rfl) ?_
                refine lv_aload_n C.1 C.2.1 dX5_step_146 rfl (lv_at hl 2 rfl) ?_
                refine gf_X5_73 C hG h2 dX5_step_147 ?_
                obtain ⟨w18, hw18, hf⟩ := of_bind hf
                refine r_callV0 C hG hl.1 (c0 := th) (As := [.ref (B + x2), .ref (B + (x2 + 7))]) (kdx_lt hth (by decide)) (entX_O5 hth) rfl (mt_X5_putTimes l hth h2 (congrArg Prod.fst (kx_0_10 h2)) hw18) (cwV 2 C.2.2.2.2.1 (gd_V tg_3_140 tg_3_142 tgp_23 tg_1_9 tg_3_143) rfl rfl rfl cd_X5_putTimes ⟨Nat.le_of_ble_eq_true rfl, Nat.le_of_ble_eq_true rfl⟩) rfl rfl (Nat.le_of_ble_eq_true rfl) dX5_step_150 (fun H locs hG => ?_)
                exact kb_X5_step_153 C hth hG (lv_sub hl [0, 1] rfl) hf
set_option maxRecDepth 100000 in
set_option maxHeartbeats 4000000 in
theorem mt_X5_step (l : Launch) {G : GG} {A : Nat → Prop} {B : Nat} {X : va_W} {th : Nat} {x1 : Int32} {x2 : Nat} {w : WX} {out : WX} (hth : KDx th = (5, 5)) (h2 : KDx x2 = (0, 13)) (hf : sh_X5_step th x1 x2 w = some out) : MetW l yX5_step wc_X5_step rm_X5_step G A 153 B (entX G B w) X [.ref (B + th), .int x1, .ref (B + x2)] none (entX G B out) := by
  refine Met.ofW (cc := cX5_step) (maxL := 5) (ret := none) (by decide) rfl ?_
  intro p e s m args below meth c s₁ B0 hml hv
  obtain ⟨rfl, hEv, hWd⟩ := hv
  have C : CX p s m _ meth c cX5_step 5 RX5 wc_X5_step none := ⟨B0.exec, B0.bytes, hml, findClass_of_methodNamed B0.named, atoms_spec (ws := wc_X5_step) B0.pre, B0.returns, B0.notSynchronized⟩
  have hl := lv_entry [.ref (B + th), .int x1, .ref (B + x2)] (n := 5) (Nat.le_of_ble_eq_true rfl)
  rw [lg_entry_eq]
  generalize (lg_sl [.ref (B + th), .int x1, .ref (B + x2)] ++ List.replicate (5 - (lg_sl [.ref (B + th), .int x1, .ref (B + x2)]).length) Slot.unset).toArray = ls at hl ⊢
  have hl : lv_has ls 5 [(0, .ref (B + th)), (1, .int x1), (2, .ref (B + x2))] := hl
  exact kb_X5_step_0 C hth h2 ⟨hEv, hWd, va_S.rf⟩ hl hf
end
